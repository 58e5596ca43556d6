def bdX0_init_0 : ByteArray := .mk #[42, 183, 0, 3, 42, 3, 181, 0, 9, 42, 2, 181, 0, 15, 42, 3, 181, 0, 18, 42, 3, 181, 0, 21, 42, 3]
theorem wdX0_init_0 : LocW cX0_init 0 bdX0_init_0 := loc_of (by decide +kernel)
theorem adX0_init_0 : De bdX0_init_0 0 (.aload_n 0) 1 ∧ De bdX0_init_0 1 (.invokespecial 3) 3 ∧ De bdX0_init_0 4 (.aload_n 0) 1 ∧ De bdX0_init_0 5 (.iconst 0) 1 ∧ De bdX0_init_0 6 (.putfield 9) 3 ∧ De bdX0_init_0 9 (.aload_n 0) 1 ∧ De bdX0_init_0 10 (.iconst (-1)) 1 ∧ De bdX0_init_0 11 (.putfield 15) 3 ∧ De bdX0_init_0 14 (.aload_n 0) 1 ∧ De bdX0_init_0 15 (.iconst 0) 1 ∧ De bdX0_init_0 16 (.putfield 18) 3 ∧ De bdX0_init_0 19 (.aload_n 0) 1 ∧ De bdX0_init_0 20 (.iconst 0) 1 ∧ De bdX0_init_0 21 (.putfield 21) 3 ∧ De bdX0_init_0 24 (.aload_n 0) 1 ∧ De bdX0_init_0 25 (.iconst 0) 1 := by decide +kernel
theorem dX0_init_0 : decode cX0_init 0 = .ok (.aload_n 0, 1) := dAt wdX0_init_0 adX0_init_0.1 rfl
theorem dX0_init_1 : decode cX0_init 1 = .ok (.invokespecial 3, 3) := dAt wdX0_init_0 adX0_init_0.2.1 rfl
theorem dX0_init_4 : decode cX0_init 4 = .ok (.aload_n 0, 1) := dAt wdX0_init_0 adX0_init_0.2.2.1 rfl
theorem dX0_init_5 : decode cX0_init 5 = .ok (.iconst 0, 1) := dAt wdX0_init_0 adX0_init_0.2.2.2.1 rfl
theorem dX0_init_6 : decode cX0_init 6 = .ok (.putfield 9, 3) := dAt wdX0_init_0 adX0_init_0.2.2.2.2.1 rfl
theorem dX0_init_9 : decode cX0_init 9 = .ok (.aload_n 0, 1) := dAt wdX0_init_0 adX0_init_0.2.2.2.2.2.1 rfl
theorem dX0_init_10 : decode cX0_init 10 = .ok (.iconst (-1), 1) := dAt wdX0_init_0 adX0_init_0.2.2.2.2.2.2.1 rfl
theorem dX0_init_11 : decode cX0_init 11 = .ok (.putfield 15, 3) := dAt wdX0_init_0 adX0_init_0.2.2.2.2.2.2.2.1 rfl
theorem dX0_init_14 : decode cX0_init 14 = .ok (.aload_n 0, 1) := dAt wdX0_init_0 adX0_init_0.2.2.2.2.2.2.2.2.1 rfl
theorem dX0_init_15 : decode cX0_init 15 = .ok (.iconst 0, 1) := dAt wdX0_init_0 adX0_init_0.2.2.2.2.2.2.2.2.2.1 rfl
theorem dX0_init_16 : decode cX0_init 16 = .ok (.putfield 18, 3) := dAt wdX0_init_0 adX0_init_0.2.2.2.2.2.2.2.2.2.2.1 rfl
theorem dX0_init_19 : decode cX0_init 19 = .ok (.aload_n 0, 1) := dAt wdX0_init_0 adX0_init_0.2.2.2.2.2.2.2.2.2.2.2.1 rfl
theorem dX0_init_20 : decode cX0_init 20 = .ok (.iconst 0, 1) := dAt wdX0_init_0 adX0_init_0.2.2.2.2.2.2.2.2.2.2.2.2.1 rfl
theorem dX0_init_21 : decode cX0_init 21 = .ok (.putfield 21, 3) := dAt wdX0_init_0 adX0_init_0.2.2.2.2.2.2.2.2.2.2.2.2.2.1 rfl
theorem dX0_init_24 : decode cX0_init 24 = .ok (.aload_n 0, 1) := dAt wdX0_init_0 adX0_init_0.2.2.2.2.2.2.2.2.2.2.2.2.2.2.1 rfl
theorem dX0_init_25 : decode cX0_init 25 = .ok (.iconst 0, 1) := dAt wdX0_init_0 adX0_init_0.2.2.2.2.2.2.2.2.2.2.2.2.2.2.2 rfl
def bdX0_init_26 : ByteArray := .mk #[181, 0, 24, 42, 3, 181, 0, 27, 42, 3, 181, 0, 30, 42, 3, 181, 0, 33, 42, 16, 41, 188, 10, 181, 0, 36, 42, 16, 41]
theorem wdX0_init_26 : LocW cX0_init 26 bdX0_init_26 := loc_of (by decide +kernel)
theorem adX0_init_26 : De bdX0_init_26 0 (.putfield 24) 3 ∧ De bdX0_init_26 3 (.aload_n 0) 1 ∧ De bdX0_init_26 4 (.iconst 0) 1 ∧ De bdX0_init_26 5 (.putfield 27) 3 ∧ De bdX0_init_26 8 (.aload_n 0) 1 ∧ De bdX0_init_26 9 (.iconst 0) 1 ∧ De bdX0_init_26 10 (.putfield 30) 3 ∧ De bdX0_init_26 13 (.aload_n 0) 1 ∧ De bdX0_init_26 14 (.iconst 0) 1 ∧ De bdX0_init_26 15 (.putfield 33) 3 ∧ De bdX0_init_26 18 (.aload_n 0) 1 ∧ De bdX0_init_26 19 (.bipush 41) 2 ∧ De bdX0_init_26 21 (.newarray .int) 2 ∧ De bdX0_init_26 23 (.putfield 36) 3 ∧ De bdX0_init_26 26 (.aload_n 0) 1 ∧ De bdX0_init_26 27 (.bipush 41) 2 := by decide +kernel
theorem dX0_init_26 : decode cX0_init 26 = .ok (.putfield 24, 3) := dAt wdX0_init_26 adX0_init_26.1 rfl
theorem dX0_init_29 : decode cX0_init 29 = .ok (.aload_n 0, 1) := dAt wdX0_init_26 adX0_init_26.2.1 rfl
theorem dX0_init_30 : decode cX0_init 30 = .ok (.iconst 0, 1) := dAt wdX0_init_26 adX0_init_26.2.2.1 rfl
theorem dX0_init_31 : decode cX0_init 31 = .ok (.putfield 27, 3) := dAt wdX0_init_26 adX0_init_26.2.2.2.1 rfl
theorem dX0_init_34 : decode cX0_init 34 = .ok (.aload_n 0, 1) := dAt wdX0_init_26 adX0_init_26.2.2.2.2.1 rfl
theorem dX0_init_35 : decode cX0_init 35 = .ok (.iconst 0, 1) := dAt wdX0_init_26 adX0_init_26.2.2.2.2.2.1 rfl
theorem dX0_init_36 : decode cX0_init 36 = .ok (.putfield 30, 3) := dAt wdX0_init_26 adX0_init_26.2.2.2.2.2.2.1 rfl
theorem dX0_init_39 : decode cX0_init 39 = .ok (.aload_n 0, 1) := dAt wdX0_init_26 adX0_init_26.2.2.2.2.2.2.2.1 rfl
theorem dX0_init_40 : decode cX0_init 40 = .ok (.iconst 0, 1) := dAt wdX0_init_26 adX0_init_26.2.2.2.2.2.2.2.2.1 rfl
theorem dX0_init_41 : decode cX0_init 41 = .ok (.putfield 33, 3) := dAt wdX0_init_26 adX0_init_26.2.2.2.2.2.2.2.2.2.1 rfl
theorem dX0_init_44 : decode cX0_init 44 = .ok (.aload_n 0, 1) := dAt wdX0_init_26 adX0_init_26.2.2.2.2.2.2.2.2.2.2.1 rfl
theorem dX0_init_45 : decode cX0_init 45 = .ok (.bipush 41, 2) := dAt wdX0_init_26 adX0_init_26.2.2.2.2.2.2.2.2.2.2.2.1 rfl
theorem dX0_init_47 : decode cX0_init 47 = .ok (.newarray .int, 2) := dAt wdX0_init_26 adX0_init_26.2.2.2.2.2.2.2.2.2.2.2.2.1 rfl
theorem dX0_init_49 : decode cX0_init 49 = .ok (.putfield 36, 3) := dAt wdX0_init_26 adX0_init_26.2.2.2.2.2.2.2.2.2.2.2.2.2.1 rfl
theorem dX0_init_52 : decode cX0_init 52 = .ok (.aload_n 0, 1) := dAt wdX0_init_26 adX0_init_26.2.2.2.2.2.2.2.2.2.2.2.2.2.2.1 rfl
theorem dX0_init_53 : decode cX0_init 53 = .ok (.bipush 41, 2) := dAt wdX0_init_26 adX0_init_26.2.2.2.2.2.2.2.2.2.2.2.2.2.2.2 rfl
def bdX0_init_55 : ByteArray := .mk #[188, 10, 181, 0, 40, 42, 16, 41, 188, 10, 181, 0, 43, 42, 16, 41, 188, 10, 181, 0, 46, 42, 16, 41, 188, 10, 181, 0, 49, 42, 16, 41]
theorem wdX0_init_55 : LocW cX0_init 55 bdX0_init_55 := loc_of (by decide +kernel)
theorem adX0_init_55 : De bdX0_init_55 0 (.newarray .int) 2 ∧ De bdX0_init_55 2 (.putfield 40) 3 ∧ De bdX0_init_55 5 (.aload_n 0) 1 ∧ De bdX0_init_55 6 (.bipush 41) 2 ∧ De bdX0_init_55 8 (.newarray .int) 2 ∧ De bdX0_init_55 10 (.putfield 43) 3 ∧ De bdX0_init_55 13 (.aload_n 0) 1 ∧ De bdX0_init_55 14 (.bipush 41) 2 ∧ De bdX0_init_55 16 (.newarray .int) 2 ∧ De bdX0_init_55 18 (.putfield 46) 3 ∧ De bdX0_init_55 21 (.aload_n 0) 1 ∧ De bdX0_init_55 22 (.bipush 41) 2 ∧ De bdX0_init_55 24 (.newarray .int) 2 ∧ De bdX0_init_55 26 (.putfield 49) 3 ∧ De bdX0_init_55 29 (.aload_n 0) 1 ∧ De bdX0_init_55 30 (.bipush 41) 2 := by decide +kernel
theorem dX0_init_55 : decode cX0_init 55 = .ok (.newarray .int, 2) := dAt wdX0_init_55 adX0_init_55.1 rfl
theorem dX0_init_57 : decode cX0_init 57 = .ok (.putfield 40, 3) := dAt wdX0_init_55 adX0_init_55.2.1 rfl
theorem dX0_init_60 : decode cX0_init 60 = .ok (.aload_n 0, 1) := dAt wdX0_init_55 adX0_init_55.2.2.1 rfl
theorem dX0_init_61 : decode cX0_init 61 = .ok (.bipush 41, 2) := dAt wdX0_init_55 adX0_init_55.2.2.2.1 rfl
theorem dX0_init_63 : decode cX0_init 63 = .ok (.newarray .int, 2) := dAt wdX0_init_55 adX0_init_55.2.2.2.2.1 rfl
theorem dX0_init_65 : decode cX0_init 65 = .ok (.putfield 43, 3) := dAt wdX0_init_55 adX0_init_55.2.2.2.2.2.1 rfl
theorem dX0_init_68 : decode cX0_init 68 = .ok (.aload_n 0, 1) := dAt wdX0_init_55 adX0_init_55.2.2.2.2.2.2.1 rfl
theorem dX0_init_69 : decode cX0_init 69 = .ok (.bipush 41, 2) := dAt wdX0_init_55 adX0_init_55.2.2.2.2.2.2.2.1 rfl
theorem dX0_init_71 : decode cX0_init 71 = .ok (.newarray .int, 2) := dAt wdX0_init_55 adX0_init_55.2.2.2.2.2.2.2.2.1 rfl
theorem dX0_init_73 : decode cX0_init 73 = .ok (.putfield 46, 3) := dAt wdX0_init_55 adX0_init_55.2.2.2.2.2.2.2.2.2.1 rfl
theorem dX0_init_76 : decode cX0_init 76 = .ok (.aload_n 0, 1) := dAt wdX0_init_55 adX0_init_55.2.2.2.2.2.2.2.2.2.2.1 rfl
theorem dX0_init_77 : decode cX0_init 77 = .ok (.bipush 41, 2) := dAt wdX0_init_55 adX0_init_55.2.2.2.2.2.2.2.2.2.2.2.1 rfl
theorem dX0_init_79 : decode cX0_init 79 = .ok (.newarray .int, 2) := dAt wdX0_init_55 adX0_init_55.2.2.2.2.2.2.2.2.2.2.2.2.1 rfl
theorem dX0_init_81 : decode cX0_init 81 = .ok (.putfield 49, 3) := dAt wdX0_init_55 adX0_init_55.2.2.2.2.2.2.2.2.2.2.2.2.2.1 rfl
theorem dX0_init_84 : decode cX0_init 84 = .ok (.aload_n 0, 1) := dAt wdX0_init_55 adX0_init_55.2.2.2.2.2.2.2.2.2.2.2.2.2.2.1 rfl
theorem dX0_init_85 : decode cX0_init 85 = .ok (.bipush 41, 2) := dAt wdX0_init_55 adX0_init_55.2.2.2.2.2.2.2.2.2.2.2.2.2.2.2 rfl
def bdX0_init_87 : ByteArray := .mk #[188, 4, 181, 0, 52, 177]
theorem wdX0_init_87 : LocW cX0_init 87 bdX0_init_87 := loc_of (by decide +kernel)
theorem adX0_init_87 : De bdX0_init_87 0 (.newarray .boolean) 2 ∧ De bdX0_init_87 2 (.putfield 52) 3 ∧ De bdX0_init_87 5 (.return_) 1 := by decide +kernel
theorem dX0_init_87 : decode cX0_init 87 = .ok (.newarray .boolean, 2) := dAt wdX0_init_87 adX0_init_87.1 rfl
theorem dX0_init_89 : decode cX0_init 89 = .ok (.putfield 52, 3) := dAt wdX0_init_87 adX0_init_87.2.1 rfl
theorem dX0_init_92 : decode cX0_init 92 = .ok (.return_, 1) := dAt wdX0_init_87 adX0_init_87.2.2 rfl
def bdX0_loadCopy_0 : ByteArray := .mk #[43, 180, 0, 56, 16, 27, 104, 62, 42, 43, 180, 0, 61, 181, 0, 30, 42, 44, 29, 16, 26, 96, 184, 0, 62, 181, 0, 33]
theorem wdX0_loadCopy_0 : LocW cX0_loadCopy 0 bdX0_loadCopy_0 := loc_of (by decide +kernel)
theorem adX0_loadCopy_0 : De bdX0_loadCopy_0 0 (.aload_n 1) 1 ∧ De bdX0_loadCopy_0 1 (.getfield 56) 3 ∧ De bdX0_loadCopy_0 4 (.bipush 27) 2 ∧ De bdX0_loadCopy_0 6 (.imul) 1 ∧ De bdX0_loadCopy_0 7 (.istore_n 3) 1 ∧ De bdX0_loadCopy_0 8 (.aload_n 0) 1 ∧ De bdX0_loadCopy_0 9 (.aload_n 1) 1 ∧ De bdX0_loadCopy_0 10 (.getfield 61) 3 ∧ De bdX0_loadCopy_0 13 (.putfield 30) 3 ∧ De bdX0_loadCopy_0 16 (.aload_n 0) 1 ∧ De bdX0_loadCopy_0 17 (.aload_n 2) 1 ∧ De bdX0_loadCopy_0 18 (.iload_n 3) 1 ∧ De bdX0_loadCopy_0 19 (.bipush 26) 2 ∧ De bdX0_loadCopy_0 21 (.iadd) 1 ∧ De bdX0_loadCopy_0 22 (.invokestatic 62) 3 ∧ De bdX0_loadCopy_0 25 (.putfield 33) 3 := by decide +kernel
theorem dX0_loadCopy_0 : decode cX0_loadCopy 0 = .ok (.aload_n 1, 1) := dAt wdX0_loadCopy_0 adX0_loadCopy_0.1 rfl
theorem dX0_loadCopy_1 : decode cX0_loadCopy 1 = .ok (.getfield 56, 3) := dAt wdX0_loadCopy_0 adX0_loadCopy_0.2.1 rfl
theorem dX0_loadCopy_4 : decode cX0_loadCopy 4 = .ok (.bipush 27, 2) := dAt wdX0_loadCopy_0 adX0_loadCopy_0.2.2.1 rfl
theorem dX0_loadCopy_6 : decode cX0_loadCopy 6 = .ok (.imul, 1) := dAt wdX0_loadCopy_0 adX0_loadCopy_0.2.2.2.1 rfl
theorem dX0_loadCopy_7 : decode cX0_loadCopy 7 = .ok (.istore_n 3, 1) := dAt wdX0_loadCopy_0 adX0_loadCopy_0.2.2.2.2.1 rfl
theorem dX0_loadCopy_8 : decode cX0_loadCopy 8 = .ok (.aload_n 0, 1) := dAt wdX0_loadCopy_0 adX0_loadCopy_0.2.2.2.2.2.1 rfl
theorem dX0_loadCopy_9 : decode cX0_loadCopy 9 = .ok (.aload_n 1, 1) := dAt wdX0_loadCopy_0 adX0_loadCopy_0.2.2.2.2.2.2.1 rfl
theorem dX0_loadCopy_10 : decode cX0_loadCopy 10 = .ok (.getfield 61, 3) := dAt wdX0_loadCopy_0 adX0_loadCopy_0.2.2.2.2.2.2.2.1 rfl
theorem dX0_loadCopy_13 : decode cX0_loadCopy 13 = .ok (.putfield 30, 3) := dAt wdX0_loadCopy_0 adX0_loadCopy_0.2.2.2.2.2.2.2.2.1 rfl
theorem dX0_loadCopy_16 : decode cX0_loadCopy 16 = .ok (.aload_n 0, 1) := dAt wdX0_loadCopy_0 adX0_loadCopy_0.2.2.2.2.2.2.2.2.2.1 rfl
theorem dX0_loadCopy_17 : decode cX0_loadCopy 17 = .ok (.aload_n 2, 1) := dAt wdX0_loadCopy_0 adX0_loadCopy_0.2.2.2.2.2.2.2.2.2.2.1 rfl
theorem dX0_loadCopy_18 : decode cX0_loadCopy 18 = .ok (.iload_n 3, 1) := dAt wdX0_loadCopy_0 adX0_loadCopy_0.2.2.2.2.2.2.2.2.2.2.2.1 rfl
theorem dX0_loadCopy_19 : decode cX0_loadCopy 19 = .ok (.bipush 26, 2) := dAt wdX0_loadCopy_0 adX0_loadCopy_0.2.2.2.2.2.2.2.2.2.2.2.2.1 rfl
theorem dX0_loadCopy_21 : decode cX0_loadCopy 21 = .ok (.iadd, 1) := dAt wdX0_loadCopy_0 adX0_loadCopy_0.2.2.2.2.2.2.2.2.2.2.2.2.2.1 rfl
theorem dX0_loadCopy_22 : decode cX0_loadCopy 22 = .ok (.invokestatic 62, 3) := dAt wdX0_loadCopy_0 adX0_loadCopy_0.2.2.2.2.2.2.2.2.2.2.2.2.2.2.1 rfl
theorem dX0_loadCopy_25 : decode cX0_loadCopy 25 = .ok (.putfield 33, 3) := dAt wdX0_loadCopy_0 adX0_loadCopy_0.2.2.2.2.2.2.2.2.2.2.2.2.2.2.2 rfl
def bdX0_loadCopy_28 : ByteArray := .mk #[3, 54, 4, 21, 4, 42, 180, 0, 30, 162, 0, 108, 42, 180, 0, 36, 21, 4, 46, 54, 5, 43, 180, 0, 66, 21, 4, 46, 54, 6]
theorem wdX0_loadCopy_28 : LocW cX0_loadCopy 28 bdX0_loadCopy_28 := loc_of (by decide +kernel)
theorem adX0_loadCopy_28 : De bdX0_loadCopy_28 0 (.iconst 0) 1 ∧ De bdX0_loadCopy_28 1 (.istore 4) 2 ∧ De bdX0_loadCopy_28 3 (.iload 4) 2 ∧ De bdX0_loadCopy_28 5 (.aload_n 0) 1 ∧ De bdX0_loadCopy_28 6 (.getfield 30) 3 ∧ De bdX0_loadCopy_28 9 (.if_icmp .ge 108) 3 ∧ De bdX0_loadCopy_28 12 (.aload_n 0) 1 ∧ De bdX0_loadCopy_28 13 (.getfield 36) 3 ∧ De bdX0_loadCopy_28 16 (.iload 4) 2 ∧ De bdX0_loadCopy_28 18 (.iaload) 1 ∧ De bdX0_loadCopy_28 19 (.istore 5) 2 ∧ De bdX0_loadCopy_28 21 (.aload_n 1) 1 ∧ De bdX0_loadCopy_28 22 (.getfield 66) 3 ∧ De bdX0_loadCopy_28 25 (.iload 4) 2 ∧ De bdX0_loadCopy_28 27 (.iaload) 1 ∧ De bdX0_loadCopy_28 28 (.istore 6) 2 := by decide +kernel
theorem dX0_loadCopy_28 : decode cX0_loadCopy 28 = .ok (.iconst 0, 1) := dAt wdX0_loadCopy_28 adX0_loadCopy_28.1 rfl
theorem dX0_loadCopy_29 : decode cX0_loadCopy 29 = .ok (.istore 4, 2) := dAt wdX0_loadCopy_28 adX0_loadCopy_28.2.1 rfl
theorem dX0_loadCopy_31 : decode cX0_loadCopy 31 = .ok (.iload 4, 2) := dAt wdX0_loadCopy_28 adX0_loadCopy_28.2.2.1 rfl
theorem dX0_loadCopy_33 : decode cX0_loadCopy 33 = .ok (.aload_n 0, 1) := dAt wdX0_loadCopy_28 adX0_loadCopy_28.2.2.2.1 rfl
theorem dX0_loadCopy_34 : decode cX0_loadCopy 34 = .ok (.getfield 30, 3) := dAt wdX0_loadCopy_28 adX0_loadCopy_28.2.2.2.2.1 rfl
theorem dX0_loadCopy_37 : decode cX0_loadCopy 37 = .ok (.if_icmp .ge 108, 3) := dAt wdX0_loadCopy_28 adX0_loadCopy_28.2.2.2.2.2.1 rfl
theorem dX0_loadCopy_40 : decode cX0_loadCopy 40 = .ok (.aload_n 0, 1) := dAt wdX0_loadCopy_28 adX0_loadCopy_28.2.2.2.2.2.2.1 rfl
theorem dX0_loadCopy_41 : decode cX0_loadCopy 41 = .ok (.getfield 36, 3) := dAt wdX0_loadCopy_28 adX0_loadCopy_28.2.2.2.2.2.2.2.1 rfl
theorem dX0_loadCopy_44 : decode cX0_loadCopy 44 = .ok (.iload 4, 2) := dAt wdX0_loadCopy_28 adX0_loadCopy_28.2.2.2.2.2.2.2.2.1 rfl
theorem dX0_loadCopy_46 : decode cX0_loadCopy 46 = .ok (.iaload, 1) := dAt wdX0_loadCopy_28 adX0_loadCopy_28.2.2.2.2.2.2.2.2.2.1 rfl
theorem dX0_loadCopy_47 : decode cX0_loadCopy 47 = .ok (.istore 5, 2) := dAt wdX0_loadCopy_28 adX0_loadCopy_28.2.2.2.2.2.2.2.2.2.2.1 rfl
theorem dX0_loadCopy_49 : decode cX0_loadCopy 49 = .ok (.aload_n 1, 1) := dAt wdX0_loadCopy_28 adX0_loadCopy_28.2.2.2.2.2.2.2.2.2.2.2.1 rfl
theorem dX0_loadCopy_50 : decode cX0_loadCopy 50 = .ok (.getfield 66, 3) := dAt wdX0_loadCopy_28 adX0_loadCopy_28.2.2.2.2.2.2.2.2.2.2.2.2.1 rfl
theorem dX0_loadCopy_53 : decode cX0_loadCopy 53 = .ok (.iload 4, 2) := dAt wdX0_loadCopy_28 adX0_loadCopy_28.2.2.2.2.2.2.2.2.2.2.2.2.2.1 rfl
theorem dX0_loadCopy_55 : decode cX0_loadCopy 55 = .ok (.iaload, 1) := dAt wdX0_loadCopy_28 adX0_loadCopy_28.2.2.2.2.2.2.2.2.2.2.2.2.2.2.1 rfl
theorem dX0_loadCopy_56 : decode cX0_loadCopy 56 = .ok (.istore 6, 2) := dAt wdX0_loadCopy_28 adX0_loadCopy_28.2.2.2.2.2.2.2.2.2.2.2.2.2.2.2 rfl
def bdX0_loadCopy_58 : ByteArray := .mk #[21, 6, 43, 180, 0, 66, 21, 4, 4, 96, 46, 162, 0, 27, 21, 5, 44, 29, 43, 180, 0, 69, 21, 6, 51, 96]
theorem wdX0_loadCopy_58 : LocW cX0_loadCopy 58 bdX0_loadCopy_58 := loc_of (by decide +kernel)
theorem adX0_loadCopy_58 : De bdX0_loadCopy_58 0 (.iload 6) 2 ∧ De bdX0_loadCopy_58 2 (.aload_n 1) 1 ∧ De bdX0_loadCopy_58 3 (.getfield 66) 3 ∧ De bdX0_loadCopy_58 6 (.iload 4) 2 ∧ De bdX0_loadCopy_58 8 (.iconst 1) 1 ∧ De bdX0_loadCopy_58 9 (.iadd) 1 ∧ De bdX0_loadCopy_58 10 (.iaload) 1 ∧ De bdX0_loadCopy_58 11 (.if_icmp .ge 27) 3 ∧ De bdX0_loadCopy_58 14 (.iload 5) 2 ∧ De bdX0_loadCopy_58 16 (.aload_n 2) 1 ∧ De bdX0_loadCopy_58 17 (.iload_n 3) 1 ∧ De bdX0_loadCopy_58 18 (.aload_n 1) 1 ∧ De bdX0_loadCopy_58 19 (.getfield 69) 3 ∧ De bdX0_loadCopy_58 22 (.iload 6) 2 ∧ De bdX0_loadCopy_58 24 (.baload) 1 ∧ De bdX0_loadCopy_58 25 (.iadd) 1 := by decide +kernel
theorem dX0_loadCopy_58 : decode cX0_loadCopy 58 = .ok (.iload 6, 2) := dAt wdX0_loadCopy_58 adX0_loadCopy_58.1 rfl
theorem dX0_loadCopy_60 : decode cX0_loadCopy 60 = .ok (.aload_n 1, 1) := dAt wdX0_loadCopy_58 adX0_loadCopy_58.2.1 rfl
theorem dX0_loadCopy_61 : decode cX0_loadCopy 61 = .ok (.getfield 66, 3) := dAt wdX0_loadCopy_58 adX0_loadCopy_58.2.2.1 rfl
theorem dX0_loadCopy_64 : decode cX0_loadCopy 64 = .ok (.iload 4, 2) := dAt wdX0_loadCopy_58 adX0_loadCopy_58.2.2.2.1 rfl
theorem dX0_loadCopy_66 : decode cX0_loadCopy 66 = .ok (.iconst 1, 1) := dAt wdX0_loadCopy_58 adX0_loadCopy_58.2.2.2.2.1 rfl
theorem dX0_loadCopy_67 : decode cX0_loadCopy 67 = .ok (.iadd, 1) := dAt wdX0_loadCopy_58 adX0_loadCopy_58.2.2.2.2.2.1 rfl
theorem dX0_loadCopy_68 : decode cX0_loadCopy 68 = .ok (.iaload, 1) := dAt wdX0_loadCopy_58 adX0_loadCopy_58.2.2.2.2.2.2.1 rfl
theorem dX0_loadCopy_69 : decode cX0_loadCopy 69 = .ok (.if_icmp .ge 27, 3) := dAt wdX0_loadCopy_58 adX0_loadCopy_58.2.2.2.2.2.2.2.1 rfl
theorem dX0_loadCopy_72 : decode cX0_loadCopy 72 = .ok (.iload 5, 2) := dAt wdX0_loadCopy_58 adX0_loadCopy_58.2.2.2.2.2.2.2.2.1 rfl
theorem dX0_loadCopy_74 : decode cX0_loadCopy 74 = .ok (.aload_n 2, 1) := dAt wdX0_loadCopy_58 adX0_loadCopy_58.2.2.2.2.2.2.2.2.2.1 rfl
theorem dX0_loadCopy_75 : decode cX0_loadCopy 75 = .ok (.iload_n 3, 1) := dAt wdX0_loadCopy_58 adX0_loadCopy_58.2.2.2.2.2.2.2.2.2.2.1 rfl
theorem dX0_loadCopy_76 : decode cX0_loadCopy 76 = .ok (.aload_n 1, 1) := dAt wdX0_loadCopy_58 adX0_loadCopy_58.2.2.2.2.2.2.2.2.2.2.2.1 rfl
theorem dX0_loadCopy_77 : decode cX0_loadCopy 77 = .ok (.getfield 69, 3) := dAt wdX0_loadCopy_58 adX0_loadCopy_58.2.2.2.2.2.2.2.2.2.2.2.2.1 rfl
theorem dX0_loadCopy_80 : decode cX0_loadCopy 80 = .ok (.iload 6, 2) := dAt wdX0_loadCopy_58 adX0_loadCopy_58.2.2.2.2.2.2.2.2.2.2.2.2.2.1 rfl
theorem dX0_loadCopy_82 : decode cX0_loadCopy 82 = .ok (.baload, 1) := dAt wdX0_loadCopy_58 adX0_loadCopy_58.2.2.2.2.2.2.2.2.2.2.2.2.2.2.1 rfl
theorem dX0_loadCopy_83 : decode cX0_loadCopy 83 = .ok (.iadd, 1) := dAt wdX0_loadCopy_58 adX0_loadCopy_58.2.2.2.2.2.2.2.2.2.2.2.2.2.2.2 rfl
def bdX0_loadCopy_84 : ByteArray := .mk #[184, 0, 62, 96, 54, 5, 132, 6, 1, 167, 255, 221, 42, 180, 0, 36, 21, 4, 4, 96, 21, 5, 79, 42, 180, 0, 40, 21, 4, 4]
theorem wdX0_loadCopy_84 : LocW cX0_loadCopy 84 bdX0_loadCopy_84 := loc_of (by decide +kernel)
theorem adX0_loadCopy_84 : De bdX0_loadCopy_84 0 (.invokestatic 62) 3 ∧ De bdX0_loadCopy_84 3 (.iadd) 1 ∧ De bdX0_loadCopy_84 4 (.istore 5) 2 ∧ De bdX0_loadCopy_84 6 (.iinc 6 1) 3 ∧ De bdX0_loadCopy_84 9 (.goto (-35)) 3 ∧ De bdX0_loadCopy_84 12 (.aload_n 0) 1 ∧ De bdX0_loadCopy_84 13 (.getfield 36) 3 ∧ De bdX0_loadCopy_84 16 (.iload 4) 2 ∧ De bdX0_loadCopy_84 18 (.iconst 1) 1 ∧ De bdX0_loadCopy_84 19 (.iadd) 1 ∧ De bdX0_loadCopy_84 20 (.iload 5) 2 ∧ De bdX0_loadCopy_84 22 (.iastore) 1 ∧ De bdX0_loadCopy_84 23 (.aload_n 0) 1 ∧ De bdX0_loadCopy_84 24 (.getfield 40) 3 ∧ De bdX0_loadCopy_84 27 (.iload 4) 2 ∧ De bdX0_loadCopy_84 29 (.iconst 1) 1 := by decide +kernel
theorem dX0_loadCopy_84 : decode cX0_loadCopy 84 = .ok (.invokestatic 62, 3) := dAt wdX0_loadCopy_84 adX0_loadCopy_84.1 rfl
theorem dX0_loadCopy_87 : decode cX0_loadCopy 87 = .ok (.iadd, 1) := dAt wdX0_loadCopy_84 adX0_loadCopy_84.2.1 rfl
theorem dX0_loadCopy_88 : decode cX0_loadCopy 88 = .ok (.istore 5, 2) := dAt wdX0_loadCopy_84 adX0_loadCopy_84.2.2.1 rfl
theorem dX0_loadCopy_90 : decode cX0_loadCopy 90 = .ok (.iinc 6 1, 3) := dAt wdX0_loadCopy_84 adX0_loadCopy_84.2.2.2.1 rfl
theorem dX0_loadCopy_93 : decode cX0_loadCopy 93 = .ok (.goto (-35), 3) := dAt wdX0_loadCopy_84 adX0_loadCopy_84.2.2.2.2.1 rfl
theorem dX0_loadCopy_96 : decode cX0_loadCopy 96 = .ok (.aload_n 0, 1) := dAt wdX0_loadCopy_84 adX0_loadCopy_84.2.2.2.2.2.1 rfl
theorem dX0_loadCopy_97 : decode cX0_loadCopy 97 = .ok (.getfield 36, 3) := dAt wdX0_loadCopy_84 adX0_loadCopy_84.2.2.2.2.2.2.1 rfl
theorem dX0_loadCopy_100 : decode cX0_loadCopy 100 = .ok (.iload 4, 2) := dAt wdX0_loadCopy_84 adX0_loadCopy_84.2.2.2.2.2.2.2.1 rfl
theorem dX0_loadCopy_102 : decode cX0_loadCopy 102 = .ok (.iconst 1, 1) := dAt wdX0_loadCopy_84 adX0_loadCopy_84.2.2.2.2.2.2.2.2.1 rfl
theorem dX0_loadCopy_103 : decode cX0_loadCopy 103 = .ok (.iadd, 1) := dAt wdX0_loadCopy_84 adX0_loadCopy_84.2.2.2.2.2.2.2.2.2.1 rfl
theorem dX0_loadCopy_104 : decode cX0_loadCopy 104 = .ok (.iload 5, 2) := dAt wdX0_loadCopy_84 adX0_loadCopy_84.2.2.2.2.2.2.2.2.2.2.1 rfl
theorem dX0_loadCopy_106 : decode cX0_loadCopy 106 = .ok (.iastore, 1) := dAt wdX0_loadCopy_84 adX0_loadCopy_84.2.2.2.2.2.2.2.2.2.2.2.1 rfl
theorem dX0_loadCopy_107 : decode cX0_loadCopy 107 = .ok (.aload_n 0, 1) := dAt wdX0_loadCopy_84 adX0_loadCopy_84.2.2.2.2.2.2.2.2.2.2.2.2.1 rfl
theorem dX0_loadCopy_108 : decode cX0_loadCopy 108 = .ok (.getfield 40, 3) := dAt wdX0_loadCopy_84 adX0_loadCopy_84.2.2.2.2.2.2.2.2.2.2.2.2.2.1 rfl
theorem dX0_loadCopy_111 : decode cX0_loadCopy 111 = .ok (.iload 4, 2) := dAt wdX0_loadCopy_84 adX0_loadCopy_84.2.2.2.2.2.2.2.2.2.2.2.2.2.2.1 rfl
theorem dX0_loadCopy_113 : decode cX0_loadCopy 113 = .ok (.iconst 1, 1) := dAt wdX0_loadCopy_84 adX0_loadCopy_84.2.2.2.2.2.2.2.2.2.2.2.2.2.2.2 rfl
def bdX0_loadCopy_114 : ByteArray := .mk #[96, 42, 180, 0, 40, 21, 4, 46, 43, 180, 0, 73, 21, 4, 51, 153, 0, 7, 4, 167, 0, 4, 3, 96, 79, 132, 4, 1]
theorem wdX0_loadCopy_114 : LocW cX0_loadCopy 114 bdX0_loadCopy_114 := loc_of (by decide +kernel)
theorem adX0_loadCopy_114 : De bdX0_loadCopy_114 0 (.iadd) 1 ∧ De bdX0_loadCopy_114 1 (.aload_n 0) 1 ∧ De bdX0_loadCopy_114 2 (.getfield 40) 3 ∧ De bdX0_loadCopy_114 5 (.iload 4) 2 ∧ De bdX0_loadCopy_114 7 (.iaload) 1 ∧ De bdX0_loadCopy_114 8 (.aload_n 1) 1 ∧ De bdX0_loadCopy_114 9 (.getfield 73) 3 ∧ De bdX0_loadCopy_114 12 (.iload 4) 2 ∧ De bdX0_loadCopy_114 14 (.baload) 1 ∧ De bdX0_loadCopy_114 15 (.ifCond .eq 7) 3 ∧ De bdX0_loadCopy_114 18 (.iconst 1) 1 ∧ De bdX0_loadCopy_114 19 (.goto 4) 3 ∧ De bdX0_loadCopy_114 22 (.iconst 0) 1 ∧ De bdX0_loadCopy_114 23 (.iadd) 1 ∧ De bdX0_loadCopy_114 24 (.iastore) 1 ∧ De bdX0_loadCopy_114 25 (.iinc 4 1) 3 := by decide +kernel
theorem dX0_loadCopy_114 : decode cX0_loadCopy 114 = .ok (.iadd, 1) := dAt wdX0_loadCopy_114 adX0_loadCopy_114.1 rfl
theorem dX0_loadCopy_115 : decode cX0_loadCopy 115 = .ok (.aload_n 0, 1) := dAt wdX0_loadCopy_114 adX0_loadCopy_114.2.1 rfl
theorem dX0_loadCopy_116 : decode cX0_loadCopy 116 = .ok (.getfield 40, 3) := dAt wdX0_loadCopy_114 adX0_loadCopy_114.2.2.1 rfl
theorem dX0_loadCopy_119 : decode cX0_loadCopy 119 = .ok (.iload 4, 2) := dAt wdX0_loadCopy_114 adX0_loadCopy_114.2.2.2.1 rfl
theorem dX0_loadCopy_121 : decode cX0_loadCopy 121 = .ok (.iaload, 1) := dAt wdX0_loadCopy_114 adX0_loadCopy_114.2.2.2.2.1 rfl
theorem dX0_loadCopy_122 : decode cX0_loadCopy 122 = .ok (.aload_n 1, 1) := dAt wdX0_loadCopy_114 adX0_loadCopy_114.2.2.2.2.2.1 rfl
theorem dX0_loadCopy_123 : decode cX0_loadCopy 123 = .ok (.getfield 73, 3) := dAt wdX0_loadCopy_114 adX0_loadCopy_114.2.2.2.2.2.2.1 rfl
theorem dX0_loadCopy_126 : decode cX0_loadCopy 126 = .ok (.iload 4, 2) := dAt wdX0_loadCopy_114 adX0_loadCopy_114.2.2.2.2.2.2.2.1 rfl
theorem dX0_loadCopy_128 : decode cX0_loadCopy 128 = .ok (.baload, 1) := dAt wdX0_loadCopy_114 adX0_loadCopy_114.2.2.2.2.2.2.2.2.1 rfl
theorem dX0_loadCopy_129 : decode cX0_loadCopy 129 = .ok (.ifCond .eq 7, 3) := dAt wdX0_loadCopy_114 adX0_loadCopy_114.2.2.2.2.2.2.2.2.2.1 rfl
theorem dX0_loadCopy_132 : decode cX0_loadCopy 132 = .ok (.iconst 1, 1) := dAt wdX0_loadCopy_114 adX0_loadCopy_114.2.2.2.2.2.2.2.2.2.2.1 rfl
theorem dX0_loadCopy_133 : decode cX0_loadCopy 133 = .ok (.goto 4, 3) := dAt wdX0_loadCopy_114 adX0_loadCopy_114.2.2.2.2.2.2.2.2.2.2.2.1 rfl
theorem dX0_loadCopy_136 : decode cX0_loadCopy 136 = .ok (.iconst 0, 1) := dAt wdX0_loadCopy_114 adX0_loadCopy_114.2.2.2.2.2.2.2.2.2.2.2.2.1 rfl
theorem dX0_loadCopy_137 : decode cX0_loadCopy 137 = .ok (.iadd, 1) := dAt wdX0_loadCopy_114 adX0_loadCopy_114.2.2.2.2.2.2.2.2.2.2.2.2.2.1 rfl
theorem dX0_loadCopy_138 : decode cX0_loadCopy 138 = .ok (.iastore, 1) := dAt wdX0_loadCopy_114 adX0_loadCopy_114.2.2.2.2.2.2.2.2.2.2.2.2.2.2.1 rfl
theorem dX0_loadCopy_139 : decode cX0_loadCopy 139 = .ok (.iinc 4 1, 3) := dAt wdX0_loadCopy_114 adX0_loadCopy_114.2.2.2.2.2.2.2.2.2.2.2.2.2.2.2 rfl
def bdX0_loadCopy_142 : ByteArray := .mk #[167, 255, 145, 177]
theorem wdX0_loadCopy_142 : LocW cX0_loadCopy 142 bdX0_loadCopy_142 := loc_of (by decide +kernel)
theorem adX0_loadCopy_142 : De bdX0_loadCopy_142 0 (.goto (-111)) 3 ∧ De bdX0_loadCopy_142 3 (.return_) 1 := by decide +kernel
theorem dX0_loadCopy_142 : decode cX0_loadCopy 142 = .ok (.goto (-111), 3) := dAt wdX0_loadCopy_142 adX0_loadCopy_142.1 rfl
theorem dX0_loadCopy_145 : decode cX0_loadCopy 145 = .ok (.return_, 1) := dAt wdX0_loadCopy_142 adX0_loadCopy_142.2 rfl
def bdX0_widthOf_0 : ByteArray := .mk #[27, 155, 0, 15, 27, 42, 190, 162, 0, 9, 42, 27, 46, 167, 0, 4, 3, 172]
theorem wdX0_widthOf_0 : LocW cX0_widthOf 0 bdX0_widthOf_0 := loc_of (by decide +kernel)
theorem adX0_widthOf_0 : De bdX0_widthOf_0 0 (.iload_n 1) 1 ∧ De bdX0_widthOf_0 1 (.ifCond .lt 15) 3 ∧ De bdX0_widthOf_0 4 (.iload_n 1) 1 ∧ De bdX0_widthOf_0 5 (.aload_n 0) 1 ∧ De bdX0_widthOf_0 6 (.arraylength) 1 ∧ De bdX0_widthOf_0 7 (.if_icmp .ge 9) 3 ∧ De bdX0_widthOf_0 10 (.aload_n 0) 1 ∧ De bdX0_widthOf_0 11 (.iload_n 1) 1 ∧ De bdX0_widthOf_0 12 (.iaload) 1 ∧ De bdX0_widthOf_0 13 (.goto 4) 3 ∧ De bdX0_widthOf_0 16 (.iconst 0) 1 ∧ De bdX0_widthOf_0 17 (.ireturn) 1 := by decide +kernel
theorem dX0_widthOf_0 : decode cX0_widthOf 0 = .ok (.iload_n 1, 1) := dAt wdX0_widthOf_0 adX0_widthOf_0.1 rfl
theorem dX0_widthOf_1 : decode cX0_widthOf 1 = .ok (.ifCond .lt 15, 3) := dAt wdX0_widthOf_0 adX0_widthOf_0.2.1 rfl
theorem dX0_widthOf_4 : decode cX0_widthOf 4 = .ok (.iload_n 1, 1) := dAt wdX0_widthOf_0 adX0_widthOf_0.2.2.1 rfl
theorem dX0_widthOf_5 : decode cX0_widthOf 5 = .ok (.aload_n 0, 1) := dAt wdX0_widthOf_0 adX0_widthOf_0.2.2.2.1 rfl
theorem dX0_widthOf_6 : decode cX0_widthOf 6 = .ok (.arraylength, 1) := dAt wdX0_widthOf_0 adX0_widthOf_0.2.2.2.2.1 rfl
theorem dX0_widthOf_7 : decode cX0_widthOf 7 = .ok (.if_icmp .ge 9, 3) := dAt wdX0_widthOf_0 adX0_widthOf_0.2.2.2.2.2.1 rfl
theorem dX0_widthOf_10 : decode cX0_widthOf 10 = .ok (.aload_n 0, 1) := dAt wdX0_widthOf_0 adX0_widthOf_0.2.2.2.2.2.2.1 rfl
theorem dX0_widthOf_11 : decode cX0_widthOf 11 = .ok (.iload_n 1, 1) := dAt wdX0_widthOf_0 adX0_widthOf_0.2.2.2.2.2.2.2.1 rfl
theorem dX0_widthOf_12 : decode cX0_widthOf 12 = .ok (.iaload, 1) := dAt wdX0_widthOf_0 adX0_widthOf_0.2.2.2.2.2.2.2.2.1 rfl
theorem dX0_widthOf_13 : decode cX0_widthOf 13 = .ok (.goto 4, 3) := dAt wdX0_widthOf_0 adX0_widthOf_0.2.2.2.2.2.2.2.2.2.1 rfl
theorem dX0_widthOf_16 : decode cX0_widthOf 16 = .ok (.iconst 0, 1) := dAt wdX0_widthOf_0 adX0_widthOf_0.2.2.2.2.2.2.2.2.2.2.1 rfl
theorem dX0_widthOf_17 : decode cX0_widthOf 17 = .ok (.ireturn, 1) := dAt wdX0_widthOf_0 adX0_widthOf_0.2.2.2.2.2.2.2.2.2.2.2 rfl
def bdX0_loadRules_0 : ByteArray := .mk #[42, 43, 3, 182, 0, 78, 181, 0, 15, 42, 42, 180, 0, 15, 2, 160, 0, 8, 16, 60, 167, 0, 12, 43, 180, 0, 82, 42, 180, 0, 15]
theorem wdX0_loadRules_0 : LocW cX0_loadRules 0 bdX0_loadRules_0 := loc_of (by decide +kernel)
theorem adX0_loadRules_0 : De bdX0_loadRules_0 0 (.aload_n 0) 1 ∧ De bdX0_loadRules_0 1 (.aload_n 1) 1 ∧ De bdX0_loadRules_0 2 (.iconst 0) 1 ∧ De bdX0_loadRules_0 3 (.invokevirtual 78) 3 ∧ De bdX0_loadRules_0 6 (.putfield 15) 3 ∧ De bdX0_loadRules_0 9 (.aload_n 0) 1 ∧ De bdX0_loadRules_0 10 (.aload_n 0) 1 ∧ De bdX0_loadRules_0 11 (.getfield 15) 3 ∧ De bdX0_loadRules_0 14 (.iconst (-1)) 1 ∧ De bdX0_loadRules_0 15 (.if_icmp .ne 8) 3 ∧ De bdX0_loadRules_0 18 (.bipush 60) 2 ∧ De bdX0_loadRules_0 20 (.goto 12) 3 ∧ De bdX0_loadRules_0 23 (.aload_n 1) 1 ∧ De bdX0_loadRules_0 24 (.getfield 82) 3 ∧ De bdX0_loadRules_0 27 (.aload_n 0) 1 ∧ De bdX0_loadRules_0 28 (.getfield 15) 3 := by decide +kernel
theorem dX0_loadRules_0 : decode cX0_loadRules 0 = .ok (.aload_n 0, 1) := dAt wdX0_loadRules_0 adX0_loadRules_0.1 rfl
theorem dX0_loadRules_1 : decode cX0_loadRules 1 = .ok (.aload_n 1, 1) := dAt wdX0_loadRules_0 adX0_loadRules_0.2.1 rfl
theorem dX0_loadRules_2 : decode cX0_loadRules 2 = .ok (.iconst 0, 1) := dAt wdX0_loadRules_0 adX0_loadRules_0.2.2.1 rfl
theorem dX0_loadRules_3 : decode cX0_loadRules 3 = .ok (.invokevirtual 78, 3) := dAt wdX0_loadRules_0 adX0_loadRules_0.2.2.2.1 rfl
theorem dX0_loadRules_6 : decode cX0_loadRules 6 = .ok (.putfield 15, 3) := dAt wdX0_loadRules_0 adX0_loadRules_0.2.2.2.2.1 rfl
theorem dX0_loadRules_9 : decode cX0_loadRules 9 = .ok (.aload_n 0, 1) := dAt wdX0_loadRules_0 adX0_loadRules_0.2.2.2.2.2.1 rfl
theorem dX0_loadRules_10 : decode cX0_loadRules 10 = .ok (.aload_n 0, 1) := dAt wdX0_loadRules_0 adX0_loadRules_0.2.2.2.2.2.2.1 rfl
theorem dX0_loadRules_11 : decode cX0_loadRules 11 = .ok (.getfield 15, 3) := dAt wdX0_loadRules_0 adX0_loadRules_0.2.2.2.2.2.2.2.1 rfl
theorem dX0_loadRules_14 : decode cX0_loadRules 14 = .ok (.iconst (-1), 1) := dAt wdX0_loadRules_0 adX0_loadRules_0.2.2.2.2.2.2.2.2.1 rfl
theorem dX0_loadRules_15 : decode cX0_loadRules 15 = .ok (.if_icmp .ne 8, 3) := dAt wdX0_loadRules_0 adX0_loadRules_0.2.2.2.2.2.2.2.2.2.1 rfl
theorem dX0_loadRules_18 : decode cX0_loadRules 18 = .ok (.bipush 60, 2) := dAt wdX0_loadRules_0 adX0_loadRules_0.2.2.2.2.2.2.2.2.2.2.1 rfl
theorem dX0_loadRules_20 : decode cX0_loadRules 20 = .ok (.goto 12, 3) := dAt wdX0_loadRules_0 adX0_loadRules_0.2.2.2.2.2.2.2.2.2.2.2.1 rfl
theorem dX0_loadRules_23 : decode cX0_loadRules 23 = .ok (.aload_n 1, 1) := dAt wdX0_loadRules_0 adX0_loadRules_0.2.2.2.2.2.2.2.2.2.2.2.2.1 rfl
theorem dX0_loadRules_24 : decode cX0_loadRules 24 = .ok (.getfield 82, 3) := dAt wdX0_loadRules_0 adX0_loadRules_0.2.2.2.2.2.2.2.2.2.2.2.2.2.1 rfl
theorem dX0_loadRules_27 : decode cX0_loadRules 27 = .ok (.aload_n 0, 1) := dAt wdX0_loadRules_0 adX0_loadRules_0.2.2.2.2.2.2.2.2.2.2.2.2.2.2.1 rfl
theorem dX0_loadRules_28 : decode cX0_loadRules 28 = .ok (.getfield 15, 3) := dAt wdX0_loadRules_0 adX0_loadRules_0.2.2.2.2.2.2.2.2.2.2.2.2.2.2.2 rfl
def bdX0_loadRules_31 : ByteArray := .mk #[46, 181, 0, 9, 43, 4, 182, 0, 78, 61, 42, 28, 2, 160, 0, 7, 5, 167, 0, 9, 43, 180, 0, 82, 28, 46]
theorem wdX0_loadRules_31 : LocW cX0_loadRules 31 bdX0_loadRules_31 := loc_of (by decide +kernel)
theorem adX0_loadRules_31 : De bdX0_loadRules_31 0 (.iaload) 1 ∧ De bdX0_loadRules_31 1 (.putfield 9) 3 ∧ De bdX0_loadRules_31 4 (.aload_n 1) 1 ∧ De bdX0_loadRules_31 5 (.iconst 1) 1 ∧ De bdX0_loadRules_31 6 (.invokevirtual 78) 3 ∧ De bdX0_loadRules_31 9 (.istore_n 2) 1 ∧ De bdX0_loadRules_31 10 (.aload_n 0) 1 ∧ De bdX0_loadRules_31 11 (.iload_n 2) 1 ∧ De bdX0_loadRules_31 12 (.iconst (-1)) 1 ∧ De bdX0_loadRules_31 13 (.if_icmp .ne 7) 3 ∧ De bdX0_loadRules_31 16 (.iconst 2) 1 ∧ De bdX0_loadRules_31 17 (.goto 9) 3 ∧ De bdX0_loadRules_31 20 (.aload_n 1) 1 ∧ De bdX0_loadRules_31 21 (.getfield 82) 3 ∧ De bdX0_loadRules_31 24 (.iload_n 2) 1 ∧ De bdX0_loadRules_31 25 (.iaload) 1 := by decide +kernel
theorem dX0_loadRules_31 : decode cX0_loadRules 31 = .ok (.iaload, 1) := dAt wdX0_loadRules_31 adX0_loadRules_31.1 rfl
theorem dX0_loadRules_32 : decode cX0_loadRules 32 = .ok (.putfield 9, 3) := dAt wdX0_loadRules_31 adX0_loadRules_31.2.1 rfl
theorem dX0_loadRules_35 : decode cX0_loadRules 35 = .ok (.aload_n 1, 1) := dAt wdX0_loadRules_31 adX0_loadRules_31.2.2.1 rfl
theorem dX0_loadRules_36 : decode cX0_loadRules 36 = .ok (.iconst 1, 1) := dAt wdX0_loadRules_31 adX0_loadRules_31.2.2.2.1 rfl
theorem dX0_loadRules_37 : decode cX0_loadRules 37 = .ok (.invokevirtual 78, 3) := dAt wdX0_loadRules_31 adX0_loadRules_31.2.2.2.2.1 rfl
theorem dX0_loadRules_40 : decode cX0_loadRules 40 = .ok (.istore_n 2, 1) := dAt wdX0_loadRules_31 adX0_loadRules_31.2.2.2.2.2.1 rfl
theorem dX0_loadRules_41 : decode cX0_loadRules 41 = .ok (.aload_n 0, 1) := dAt wdX0_loadRules_31 adX0_loadRules_31.2.2.2.2.2.2.1 rfl
theorem dX0_loadRules_42 : decode cX0_loadRules 42 = .ok (.iload_n 2, 1) := dAt wdX0_loadRules_31 adX0_loadRules_31.2.2.2.2.2.2.2.1 rfl
theorem dX0_loadRules_43 : decode cX0_loadRules 43 = .ok (.iconst (-1), 1) := dAt wdX0_loadRules_31 adX0_loadRules_31.2.2.2.2.2.2.2.2.1 rfl
theorem dX0_loadRules_44 : decode cX0_loadRules 44 = .ok (.if_icmp .ne 7, 3) := dAt wdX0_loadRules_31 adX0_loadRules_31.2.2.2.2.2.2.2.2.2.1 rfl
theorem dX0_loadRules_47 : decode cX0_loadRules 47 = .ok (.iconst 2, 1) := dAt wdX0_loadRules_31 adX0_loadRules_31.2.2.2.2.2.2.2.2.2.2.1 rfl
theorem dX0_loadRules_48 : decode cX0_loadRules 48 = .ok (.goto 9, 3) := dAt wdX0_loadRules_31 adX0_loadRules_31.2.2.2.2.2.2.2.2.2.2.2.1 rfl
theorem dX0_loadRules_51 : decode cX0_loadRules 51 = .ok (.aload_n 1, 1) := dAt wdX0_loadRules_31 adX0_loadRules_31.2.2.2.2.2.2.2.2.2.2.2.2.1 rfl
theorem dX0_loadRules_52 : decode cX0_loadRules 52 = .ok (.getfield 82, 3) := dAt wdX0_loadRules_31 adX0_loadRules_31.2.2.2.2.2.2.2.2.2.2.2.2.2.1 rfl
theorem dX0_loadRules_55 : decode cX0_loadRules 55 = .ok (.iload_n 2, 1) := dAt wdX0_loadRules_31 adX0_loadRules_31.2.2.2.2.2.2.2.2.2.2.2.2.2.2.1 rfl
theorem dX0_loadRules_56 : decode cX0_loadRules 56 = .ok (.iaload, 1) := dAt wdX0_loadRules_31 adX0_loadRules_31.2.2.2.2.2.2.2.2.2.2.2.2.2.2.2 rfl
def bdX0_loadRules_57 : ByteArray := .mk #[181, 0, 18, 42, 28, 2, 160, 0, 8, 16, 6, 167, 0, 9, 43, 180, 0, 85, 28, 46, 181, 0, 21, 43, 5, 182, 0, 78, 62]
theorem wdX0_loadRules_57 : LocW cX0_loadRules 57 bdX0_loadRules_57 := loc_of (by decide +kernel)
theorem adX0_loadRules_57 : De bdX0_loadRules_57 0 (.putfield 18) 3 ∧ De bdX0_loadRules_57 3 (.aload_n 0) 1 ∧ De bdX0_loadRules_57 4 (.iload_n 2) 1 ∧ De bdX0_loadRules_57 5 (.iconst (-1)) 1 ∧ De bdX0_loadRules_57 6 (.if_icmp .ne 8) 3 ∧ De bdX0_loadRules_57 9 (.bipush 6) 2 ∧ De bdX0_loadRules_57 11 (.goto 9) 3 ∧ De bdX0_loadRules_57 14 (.aload_n 1) 1 ∧ De bdX0_loadRules_57 15 (.getfield 85) 3 ∧ De bdX0_loadRules_57 18 (.iload_n 2) 1 ∧ De bdX0_loadRules_57 19 (.iaload) 1 ∧ De bdX0_loadRules_57 20 (.putfield 21) 3 ∧ De bdX0_loadRules_57 23 (.aload_n 1) 1 ∧ De bdX0_loadRules_57 24 (.iconst 2) 1 ∧ De bdX0_loadRules_57 25 (.invokevirtual 78) 3 ∧ De bdX0_loadRules_57 28 (.istore_n 3) 1 := by decide +kernel
theorem dX0_loadRules_57 : decode cX0_loadRules 57 = .ok (.putfield 18, 3) := dAt wdX0_loadRules_57 adX0_loadRules_57.1 rfl
theorem dX0_loadRules_60 : decode cX0_loadRules 60 = .ok (.aload_n 0, 1) := dAt wdX0_loadRules_57 adX0_loadRules_57.2.1 rfl
theorem dX0_loadRules_61 : decode cX0_loadRules 61 = .ok (.iload_n 2, 1) := dAt wdX0_loadRules_57 adX0_loadRules_57.2.2.1 rfl
theorem dX0_loadRules_62 : decode cX0_loadRules 62 = .ok (.iconst (-1), 1) := dAt wdX0_loadRules_57 adX0_loadRules_57.2.2.2.1 rfl
theorem dX0_loadRules_63 : decode cX0_loadRules 63 = .ok (.if_icmp .ne 8, 3) := dAt wdX0_loadRules_57 adX0_loadRules_57.2.2.2.2.1 rfl
theorem dX0_loadRules_66 : decode cX0_loadRules 66 = .ok (.bipush 6, 2) := dAt wdX0_loadRules_57 adX0_loadRules_57.2.2.2.2.2.1 rfl
theorem dX0_loadRules_68 : decode cX0_loadRules 68 = .ok (.goto 9, 3) := dAt wdX0_loadRules_57 adX0_loadRules_57.2.2.2.2.2.2.1 rfl
theorem dX0_loadRules_71 : decode cX0_loadRules 71 = .ok (.aload_n 1, 1) := dAt wdX0_loadRules_57 adX0_loadRules_57.2.2.2.2.2.2.2.1 rfl
theorem dX0_loadRules_72 : decode cX0_loadRules 72 = .ok (.getfield 85, 3) := dAt wdX0_loadRules_57 adX0_loadRules_57.2.2.2.2.2.2.2.2.1 rfl
theorem dX0_loadRules_75 : decode cX0_loadRules 75 = .ok (.iload_n 2, 1) := dAt wdX0_loadRules_57 adX0_loadRules_57.2.2.2.2.2.2.2.2.2.1 rfl
theorem dX0_loadRules_76 : decode cX0_loadRules 76 = .ok (.iaload, 1) := dAt wdX0_loadRules_57 adX0_loadRules_57.2.2.2.2.2.2.2.2.2.2.1 rfl
theorem dX0_loadRules_77 : decode cX0_loadRules 77 = .ok (.putfield 21, 3) := dAt wdX0_loadRules_57 adX0_loadRules_57.2.2.2.2.2.2.2.2.2.2.2.1 rfl
theorem dX0_loadRules_80 : decode cX0_loadRules 80 = .ok (.aload_n 1, 1) := dAt wdX0_loadRules_57 adX0_loadRules_57.2.2.2.2.2.2.2.2.2.2.2.2.1 rfl
theorem dX0_loadRules_81 : decode cX0_loadRules 81 = .ok (.iconst 2, 1) := dAt wdX0_loadRules_57 adX0_loadRules_57.2.2.2.2.2.2.2.2.2.2.2.2.2.1 rfl
theorem dX0_loadRules_82 : decode cX0_loadRules 82 = .ok (.invokevirtual 78, 3) := dAt wdX0_loadRules_57 adX0_loadRules_57.2.2.2.2.2.2.2.2.2.2.2.2.2.2.1 rfl
theorem dX0_loadRules_85 : decode cX0_loadRules 85 = .ok (.istore_n 3, 1) := dAt wdX0_loadRules_57 adX0_loadRules_57.2.2.2.2.2.2.2.2.2.2.2.2.2.2.2 rfl
def bdX0_loadRules_86 : ByteArray := .mk #[42, 29, 2, 160, 0, 8, 16, 25, 167, 0, 9, 43, 180, 0, 82, 29, 46, 181, 0, 24, 43, 6, 182, 0, 78, 54, 4, 42]
theorem wdX0_loadRules_86 : LocW cX0_loadRules 86 bdX0_loadRules_86 := loc_of (by decide +kernel)
theorem adX0_loadRules_86 : De bdX0_loadRules_86 0 (.aload_n 0) 1 ∧ De bdX0_loadRules_86 1 (.iload_n 3) 1 ∧ De bdX0_loadRules_86 2 (.iconst (-1)) 1 ∧ De bdX0_loadRules_86 3 (.if_icmp .ne 8) 3 ∧ De bdX0_loadRules_86 6 (.bipush 25) 2 ∧ De bdX0_loadRules_86 8 (.goto 9) 3 ∧ De bdX0_loadRules_86 11 (.aload_n 1) 1 ∧ De bdX0_loadRules_86 12 (.getfield 82) 3 ∧ De bdX0_loadRules_86 15 (.iload_n 3) 1 ∧ De bdX0_loadRules_86 16 (.iaload) 1 ∧ De bdX0_loadRules_86 17 (.putfield 24) 3 ∧ De bdX0_loadRules_86 20 (.aload_n 1) 1 ∧ De bdX0_loadRules_86 21 (.iconst 3) 1 ∧ De bdX0_loadRules_86 22 (.invokevirtual 78) 3 ∧ De bdX0_loadRules_86 25 (.istore 4) 2 ∧ De bdX0_loadRules_86 27 (.aload_n 0) 1 := by decide +kernel
theorem dX0_loadRules_86 : decode cX0_loadRules 86 = .ok (.aload_n 0, 1) := dAt wdX0_loadRules_86 adX0_loadRules_86.1 rfl
theorem dX0_loadRules_87 : decode cX0_loadRules 87 = .ok (.iload_n 3, 1) := dAt wdX0_loadRules_86 adX0_loadRules_86.2.1 rfl
theorem dX0_loadRules_88 : decode cX0_loadRules 88 = .ok (.iconst (-1), 1) := dAt wdX0_loadRules_86 adX0_loadRules_86.2.2.1 rfl
theorem dX0_loadRules_89 : decode cX0_loadRules 89 = .ok (.if_icmp .ne 8, 3) := dAt wdX0_loadRules_86 adX0_loadRules_86.2.2.2.1 rfl
theorem dX0_loadRules_92 : decode cX0_loadRules 92 = .ok (.bipush 25, 2) := dAt wdX0_loadRules_86 adX0_loadRules_86.2.2.2.2.1 rfl
theorem dX0_loadRules_94 : decode cX0_loadRules 94 = .ok (.goto 9, 3) := dAt wdX0_loadRules_86 adX0_loadRules_86.2.2.2.2.2.1 rfl
theorem dX0_loadRules_97 : decode cX0_loadRules 97 = .ok (.aload_n 1, 1) := dAt wdX0_loadRules_86 adX0_loadRules_86.2.2.2.2.2.2.1 rfl
theorem dX0_loadRules_98 : decode cX0_loadRules 98 = .ok (.getfield 82, 3) := dAt wdX0_loadRules_86 adX0_loadRules_86.2.2.2.2.2.2.2.1 rfl
theorem dX0_loadRules_101 : decode cX0_loadRules 101 = .ok (.iload_n 3, 1) := dAt wdX0_loadRules_86 adX0_loadRules_86.2.2.2.2.2.2.2.2.1 rfl
theorem dX0_loadRules_102 : decode cX0_loadRules 102 = .ok (.iaload, 1) := dAt wdX0_loadRules_86 adX0_loadRules_86.2.2.2.2.2.2.2.2.2.1 rfl
theorem dX0_loadRules_103 : decode cX0_loadRules 103 = .ok (.putfield 24, 3) := dAt wdX0_loadRules_86 adX0_loadRules_86.2.2.2.2.2.2.2.2.2.2.1 rfl
theorem dX0_loadRules_106 : decode cX0_loadRules 106 = .ok (.aload_n 1, 1) := dAt wdX0_loadRules_86 adX0_loadRules_86.2.2.2.2.2.2.2.2.2.2.2.1 rfl
theorem dX0_loadRules_107 : decode cX0_loadRules 107 = .ok (.iconst 3, 1) := dAt wdX0_loadRules_86 adX0_loadRules_86.2.2.2.2.2.2.2.2.2.2.2.2.1 rfl
theorem dX0_loadRules_108 : decode cX0_loadRules 108 = .ok (.invokevirtual 78, 3) := dAt wdX0_loadRules_86 adX0_loadRules_86.2.2.2.2.2.2.2.2.2.2.2.2.2.1 rfl
theorem dX0_loadRules_111 : decode cX0_loadRules 111 = .ok (.istore 4, 2) := dAt wdX0_loadRules_86 adX0_loadRules_86.2.2.2.2.2.2.2.2.2.2.2.2.2.2.1 rfl
theorem dX0_loadRules_113 : decode cX0_loadRules 113 = .ok (.aload_n 0, 1) := dAt wdX0_loadRules_86 adX0_loadRules_86.2.2.2.2.2.2.2.2.2.2.2.2.2.2.2 rfl
def bdX0_loadRules_114 : ByteArray := .mk #[21, 4, 2, 160, 0, 7, 3, 167, 0, 10, 43, 180, 0, 82, 21, 4, 46, 181, 0, 27, 177]
theorem wdX0_loadRules_114 : LocW cX0_loadRules 114 bdX0_loadRules_114 := loc_of (by decide +kernel)
theorem adX0_loadRules_114 : De bdX0_loadRules_114 0 (.iload 4) 2 ∧ De bdX0_loadRules_114 2 (.iconst (-1)) 1 ∧ De bdX0_loadRules_114 3 (.if_icmp .ne 7) 3 ∧ De bdX0_loadRules_114 6 (.iconst 0) 1 ∧ De bdX0_loadRules_114 7 (.goto 10) 3 ∧ De bdX0_loadRules_114 10 (.aload_n 1) 1 ∧ De bdX0_loadRules_114 11 (.getfield 82) 3 ∧ De bdX0_loadRules_114 14 (.iload 4) 2 ∧ De bdX0_loadRules_114 16 (.iaload) 1 ∧ De bdX0_loadRules_114 17 (.putfield 27) 3 ∧ De bdX0_loadRules_114 20 (.return_) 1 := by decide +kernel
theorem dX0_loadRules_114 : decode cX0_loadRules 114 = .ok (.iload 4, 2) := dAt wdX0_loadRules_114 adX0_loadRules_114.1 rfl
theorem dX0_loadRules_116 : decode cX0_loadRules 116 = .ok (.iconst (-1), 1) := dAt wdX0_loadRules_114 adX0_loadRules_114.2.1 rfl
theorem dX0_loadRules_117 : decode cX0_loadRules 117 = .ok (.if_icmp .ne 7, 3) := dAt wdX0_loadRules_114 adX0_loadRules_114.2.2.1 rfl
theorem dX0_loadRules_120 : decode cX0_loadRules 120 = .ok (.iconst 0, 1) := dAt wdX0_loadRules_114 adX0_loadRules_114.2.2.2.1 rfl
theorem dX0_loadRules_121 : decode cX0_loadRules 121 = .ok (.goto 10, 3) := dAt wdX0_loadRules_114 adX0_loadRules_114.2.2.2.2.1 rfl
theorem dX0_loadRules_124 : decode cX0_loadRules 124 = .ok (.aload_n 1, 1) := dAt wdX0_loadRules_114 adX0_loadRules_114.2.2.2.2.2.1 rfl
theorem dX0_loadRules_125 : decode cX0_loadRules 125 = .ok (.getfield 82, 3) := dAt wdX0_loadRules_114 adX0_loadRules_114.2.2.2.2.2.2.1 rfl
theorem dX0_loadRules_128 : decode cX0_loadRules 128 = .ok (.iload 4, 2) := dAt wdX0_loadRules_114 adX0_loadRules_114.2.2.2.2.2.2.2.1 rfl
theorem dX0_loadRules_130 : decode cX0_loadRules 130 = .ok (.iaload, 1) := dAt wdX0_loadRules_114 adX0_loadRules_114.2.2.2.2.2.2.2.2.1 rfl
theorem dX0_loadRules_131 : decode cX0_loadRules 131 = .ok (.putfield 27, 3) := dAt wdX0_loadRules_114 adX0_loadRules_114.2.2.2.2.2.2.2.2.2.1 rfl
theorem dX0_loadRules_134 : decode cX0_loadRules 134 = .ok (.return_, 1) := dAt wdX0_loadRules_114 adX0_loadRules_114.2.2.2.2.2.2.2.2.2.2 rfl
def bdX0_spare_0 : ByteArray := .mk #[42, 180, 0, 40, 28, 4, 96, 46, 42, 180, 0, 40, 28, 46, 160, 0, 10, 42, 180, 0, 33, 167, 0, 4, 3, 62]
theorem wdX0_spare_0 : LocW cX0_spare 0 bdX0_spare_0 := loc_of (by decide +kernel)
theorem adX0_spare_0 : De bdX0_spare_0 0 (.aload_n 0) 1 ∧ De bdX0_spare_0 1 (.getfield 40) 3 ∧ De bdX0_spare_0 4 (.iload_n 2) 1 ∧ De bdX0_spare_0 5 (.iconst 1) 1 ∧ De bdX0_spare_0 6 (.iadd) 1 ∧ De bdX0_spare_0 7 (.iaload) 1 ∧ De bdX0_spare_0 8 (.aload_n 0) 1 ∧ De bdX0_spare_0 9 (.getfield 40) 3 ∧ De bdX0_spare_0 12 (.iload_n 2) 1 ∧ De bdX0_spare_0 13 (.iaload) 1 ∧ De bdX0_spare_0 14 (.if_icmp .ne 10) 3 ∧ De bdX0_spare_0 17 (.aload_n 0) 1 ∧ De bdX0_spare_0 18 (.getfield 33) 3 ∧ De bdX0_spare_0 21 (.goto 4) 3 ∧ De bdX0_spare_0 24 (.iconst 0) 1 ∧ De bdX0_spare_0 25 (.istore_n 3) 1 := by decide +kernel
theorem dX0_spare_0 : decode cX0_spare 0 = .ok (.aload_n 0, 1) := dAt wdX0_spare_0 adX0_spare_0.1 rfl
theorem dX0_spare_1 : decode cX0_spare 1 = .ok (.getfield 40, 3) := dAt wdX0_spare_0 adX0_spare_0.2.1 rfl
theorem dX0_spare_4 : decode cX0_spare 4 = .ok (.iload_n 2, 1) := dAt wdX0_spare_0 adX0_spare_0.2.2.1 rfl
theorem dX0_spare_5 : decode cX0_spare 5 = .ok (.iconst 1, 1) := dAt wdX0_spare_0 adX0_spare_0.2.2.2.1 rfl
theorem dX0_spare_6 : decode cX0_spare 6 = .ok (.iadd, 1) := dAt wdX0_spare_0 adX0_spare_0.2.2.2.2.1 rfl
theorem dX0_spare_7 : decode cX0_spare 7 = .ok (.iaload, 1) := dAt wdX0_spare_0 adX0_spare_0.2.2.2.2.2.1 rfl
theorem dX0_spare_8 : decode cX0_spare 8 = .ok (.aload_n 0, 1) := dAt wdX0_spare_0 adX0_spare_0.2.2.2.2.2.2.1 rfl
theorem dX0_spare_9 : decode cX0_spare 9 = .ok (.getfield 40, 3) := dAt wdX0_spare_0 adX0_spare_0.2.2.2.2.2.2.2.1 rfl
theorem dX0_spare_12 : decode cX0_spare 12 = .ok (.iload_n 2, 1) := dAt wdX0_spare_0 adX0_spare_0.2.2.2.2.2.2.2.2.1 rfl
theorem dX0_spare_13 : decode cX0_spare 13 = .ok (.iaload, 1) := dAt wdX0_spare_0 adX0_spare_0.2.2.2.2.2.2.2.2.2.1 rfl
theorem dX0_spare_14 : decode cX0_spare 14 = .ok (.if_icmp .ne 10, 3) := dAt wdX0_spare_0 adX0_spare_0.2.2.2.2.2.2.2.2.2.2.1 rfl
theorem dX0_spare_17 : decode cX0_spare 17 = .ok (.aload_n 0, 1) := dAt wdX0_spare_0 adX0_spare_0.2.2.2.2.2.2.2.2.2.2.2.1 rfl
theorem dX0_spare_18 : decode cX0_spare 18 = .ok (.getfield 33, 3) := dAt wdX0_spare_0 adX0_spare_0.2.2.2.2.2.2.2.2.2.2.2.2.1 rfl
theorem dX0_spare_21 : decode cX0_spare 21 = .ok (.goto 4, 3) := dAt wdX0_spare_0 adX0_spare_0.2.2.2.2.2.2.2.2.2.2.2.2.2.1 rfl
theorem dX0_spare_24 : decode cX0_spare 24 = .ok (.iconst 0, 1) := dAt wdX0_spare_0 adX0_spare_0.2.2.2.2.2.2.2.2.2.2.2.2.2.2.1 rfl
theorem dX0_spare_25 : decode cX0_spare 25 = .ok (.istore_n 3, 1) := dAt wdX0_spare_0 adX0_spare_0.2.2.2.2.2.2.2.2.2.2.2.2.2.2.2 rfl
def bdX0_spare_26 : ByteArray := .mk #[42, 180, 0, 40, 28, 46, 42, 180, 0, 40, 27, 46, 100, 54, 4, 42, 180, 0, 9, 42, 180, 0, 36, 28, 4]
theorem wdX0_spare_26 : LocW cX0_spare 26 bdX0_spare_26 := loc_of (by decide +kernel)
theorem adX0_spare_26 : De bdX0_spare_26 0 (.aload_n 0) 1 ∧ De bdX0_spare_26 1 (.getfield 40) 3 ∧ De bdX0_spare_26 4 (.iload_n 2) 1 ∧ De bdX0_spare_26 5 (.iaload) 1 ∧ De bdX0_spare_26 6 (.aload_n 0) 1 ∧ De bdX0_spare_26 7 (.getfield 40) 3 ∧ De bdX0_spare_26 10 (.iload_n 1) 1 ∧ De bdX0_spare_26 11 (.iaload) 1 ∧ De bdX0_spare_26 12 (.isub) 1 ∧ De bdX0_spare_26 13 (.istore 4) 2 ∧ De bdX0_spare_26 15 (.aload_n 0) 1 ∧ De bdX0_spare_26 16 (.getfield 9) 3 ∧ De bdX0_spare_26 19 (.aload_n 0) 1 ∧ De bdX0_spare_26 20 (.getfield 36) 3 ∧ De bdX0_spare_26 23 (.iload_n 2) 1 ∧ De bdX0_spare_26 24 (.iconst 1) 1 := by decide +kernel
theorem dX0_spare_26 : decode cX0_spare 26 = .ok (.aload_n 0, 1) := dAt wdX0_spare_26 adX0_spare_26.1 rfl
theorem dX0_spare_27 : decode cX0_spare 27 = .ok (.getfield 40, 3) := dAt wdX0_spare_26 adX0_spare_26.2.1 rfl
theorem dX0_spare_30 : decode cX0_spare 30 = .ok (.iload_n 2, 1) := dAt wdX0_spare_26 adX0_spare_26.2.2.1 rfl
theorem dX0_spare_31 : decode cX0_spare 31 = .ok (.iaload, 1) := dAt wdX0_spare_26 adX0_spare_26.2.2.2.1 rfl
theorem dX0_spare_32 : decode cX0_spare 32 = .ok (.aload_n 0, 1) := dAt wdX0_spare_26 adX0_spare_26.2.2.2.2.1 rfl
theorem dX0_spare_33 : decode cX0_spare 33 = .ok (.getfield 40, 3) := dAt wdX0_spare_26 adX0_spare_26.2.2.2.2.2.1 rfl
theorem dX0_spare_36 : decode cX0_spare 36 = .ok (.iload_n 1, 1) := dAt wdX0_spare_26 adX0_spare_26.2.2.2.2.2.2.1 rfl
theorem dX0_spare_37 : decode cX0_spare 37 = .ok (.iaload, 1) := dAt wdX0_spare_26 adX0_spare_26.2.2.2.2.2.2.2.1 rfl
theorem dX0_spare_38 : decode cX0_spare 38 = .ok (.isub, 1) := dAt wdX0_spare_26 adX0_spare_26.2.2.2.2.2.2.2.2.1 rfl
theorem dX0_spare_39 : decode cX0_spare 39 = .ok (.istore 4, 2) := dAt wdX0_spare_26 adX0_spare_26.2.2.2.2.2.2.2.2.2.1 rfl
theorem dX0_spare_41 : decode cX0_spare 41 = .ok (.aload_n 0, 1) := dAt wdX0_spare_26 adX0_spare_26.2.2.2.2.2.2.2.2.2.2.1 rfl
theorem dX0_spare_42 : decode cX0_spare 42 = .ok (.getfield 9, 3) := dAt wdX0_spare_26 adX0_spare_26.2.2.2.2.2.2.2.2.2.2.2.1 rfl
theorem dX0_spare_45 : decode cX0_spare 45 = .ok (.aload_n 0, 1) := dAt wdX0_spare_26 adX0_spare_26.2.2.2.2.2.2.2.2.2.2.2.2.1 rfl
theorem dX0_spare_46 : decode cX0_spare 46 = .ok (.getfield 36, 3) := dAt wdX0_spare_26 adX0_spare_26.2.2.2.2.2.2.2.2.2.2.2.2.2.1 rfl
theorem dX0_spare_49 : decode cX0_spare 49 = .ok (.iload_n 2, 1) := dAt wdX0_spare_26 adX0_spare_26.2.2.2.2.2.2.2.2.2.2.2.2.2.2.1 rfl
theorem dX0_spare_50 : decode cX0_spare 50 = .ok (.iconst 1, 1) := dAt wdX0_spare_26 adX0_spare_26.2.2.2.2.2.2.2.2.2.2.2.2.2.2.2 rfl
def bdX0_spare_51 : ByteArray := .mk #[96, 46, 42, 180, 0, 36, 27, 46, 100, 29, 96, 21, 4, 42, 180, 0, 18, 104, 96, 100, 172]
theorem wdX0_spare_51 : LocW cX0_spare 51 bdX0_spare_51 := loc_of (by decide +kernel)
theorem adX0_spare_51 : De bdX0_spare_51 0 (.iadd) 1 ∧ De bdX0_spare_51 1 (.iaload) 1 ∧ De bdX0_spare_51 2 (.aload_n 0) 1 ∧ De bdX0_spare_51 3 (.getfield 36) 3 ∧ De bdX0_spare_51 6 (.iload_n 1) 1 ∧ De bdX0_spare_51 7 (.iaload) 1 ∧ De bdX0_spare_51 8 (.isub) 1 ∧ De bdX0_spare_51 9 (.iload_n 3) 1 ∧ De bdX0_spare_51 10 (.iadd) 1 ∧ De bdX0_spare_51 11 (.iload 4) 2 ∧ De bdX0_spare_51 13 (.aload_n 0) 1 ∧ De bdX0_spare_51 14 (.getfield 18) 3 ∧ De bdX0_spare_51 17 (.imul) 1 ∧ De bdX0_spare_51 18 (.iadd) 1 ∧ De bdX0_spare_51 19 (.isub) 1 ∧ De bdX0_spare_51 20 (.ireturn) 1 := by decide +kernel
theorem dX0_spare_51 : decode cX0_spare 51 = .ok (.iadd, 1) := dAt wdX0_spare_51 adX0_spare_51.1 rfl
theorem dX0_spare_52 : decode cX0_spare 52 = .ok (.iaload, 1) := dAt wdX0_spare_51 adX0_spare_51.2.1 rfl
theorem dX0_spare_53 : decode cX0_spare 53 = .ok (.aload_n 0, 1) := dAt wdX0_spare_51 adX0_spare_51.2.2.1 rfl
theorem dX0_spare_54 : decode cX0_spare 54 = .ok (.getfield 36, 3) := dAt wdX0_spare_51 adX0_spare_51.2.2.2.1 rfl
theorem dX0_spare_57 : decode cX0_spare 57 = .ok (.iload_n 1, 1) := dAt wdX0_spare_51 adX0_spare_51.2.2.2.2.1 rfl
theorem dX0_spare_58 : decode cX0_spare 58 = .ok (.iaload, 1) := dAt wdX0_spare_51 adX0_spare_51.2.2.2.2.2.1 rfl
theorem dX0_spare_59 : decode cX0_spare 59 = .ok (.isub, 1) := dAt wdX0_spare_51 adX0_spare_51.2.2.2.2.2.2.1 rfl
theorem dX0_spare_60 : decode cX0_spare 60 = .ok (.iload_n 3, 1) := dAt wdX0_spare_51 adX0_spare_51.2.2.2.2.2.2.2.1 rfl
theorem dX0_spare_61 : decode cX0_spare 61 = .ok (.iadd, 1) := dAt wdX0_spare_51 adX0_spare_51.2.2.2.2.2.2.2.2.1 rfl
theorem dX0_spare_62 : decode cX0_spare 62 = .ok (.iload 4, 2) := dAt wdX0_spare_51 adX0_spare_51.2.2.2.2.2.2.2.2.2.1 rfl
theorem dX0_spare_64 : decode cX0_spare 64 = .ok (.aload_n 0, 1) := dAt wdX0_spare_51 adX0_spare_51.2.2.2.2.2.2.2.2.2.2.1 rfl
theorem dX0_spare_65 : decode cX0_spare 65 = .ok (.getfield 18, 3) := dAt wdX0_spare_51 adX0_spare_51.2.2.2.2.2.2.2.2.2.2.2.1 rfl
theorem dX0_spare_68 : decode cX0_spare 68 = .ok (.imul, 1) := dAt wdX0_spare_51 adX0_spare_51.2.2.2.2.2.2.2.2.2.2.2.2.1 rfl
theorem dX0_spare_69 : decode cX0_spare 69 = .ok (.iadd, 1) := dAt wdX0_spare_51 adX0_spare_51.2.2.2.2.2.2.2.2.2.2.2.2.2.1 rfl
theorem dX0_spare_70 : decode cX0_spare 70 = .ok (.isub, 1) := dAt wdX0_spare_51 adX0_spare_51.2.2.2.2.2.2.2.2.2.2.2.2.2.2.1 rfl
theorem dX0_spare_71 : decode cX0_spare 71 = .ok (.ireturn, 1) := dAt wdX0_spare_51 adX0_spare_51.2.2.2.2.2.2.2.2.2.2.2.2.2.2.2 rfl
def bdX0_lineBadness_0 : ByteArray := .mk #[42, 27, 28, 182, 0, 88, 62, 29, 156, 0, 5, 2, 172, 28, 42, 180, 0, 30, 4, 100, 160, 0, 5, 3]
theorem wdX0_lineBadness_0 : LocW cX0_lineBadness 0 bdX0_lineBadness_0 := loc_of (by decide +kernel)
theorem adX0_lineBadness_0 : De bdX0_lineBadness_0 0 (.aload_n 0) 1 ∧ De bdX0_lineBadness_0 1 (.iload_n 1) 1 ∧ De bdX0_lineBadness_0 2 (.iload_n 2) 1 ∧ De bdX0_lineBadness_0 3 (.invokevirtual 88) 3 ∧ De bdX0_lineBadness_0 6 (.istore_n 3) 1 ∧ De bdX0_lineBadness_0 7 (.iload_n 3) 1 ∧ De bdX0_lineBadness_0 8 (.ifCond .ge 5) 3 ∧ De bdX0_lineBadness_0 11 (.iconst (-1)) 1 ∧ De bdX0_lineBadness_0 12 (.ireturn) 1 ∧ De bdX0_lineBadness_0 13 (.iload_n 2) 1 ∧ De bdX0_lineBadness_0 14 (.aload_n 0) 1 ∧ De bdX0_lineBadness_0 15 (.getfield 30) 3 ∧ De bdX0_lineBadness_0 18 (.iconst 1) 1 ∧ De bdX0_lineBadness_0 19 (.isub) 1 ∧ De bdX0_lineBadness_0 20 (.if_icmp .ne 5) 3 ∧ De bdX0_lineBadness_0 23 (.iconst 0) 1 := by decide +kernel
theorem dX0_lineBadness_0 : decode cX0_lineBadness 0 = .ok (.aload_n 0, 1) := dAt wdX0_lineBadness_0 adX0_lineBadness_0.1 rfl
theorem dX0_lineBadness_1 : decode cX0_lineBadness 1 = .ok (.iload_n 1, 1) := dAt wdX0_lineBadness_0 adX0_lineBadness_0.2.1 rfl
theorem dX0_lineBadness_2 : decode cX0_lineBadness 2 = .ok (.iload_n 2, 1) := dAt wdX0_lineBadness_0 adX0_lineBadness_0.2.2.1 rfl
theorem dX0_lineBadness_3 : decode cX0_lineBadness 3 = .ok (.invokevirtual 88, 3) := dAt wdX0_lineBadness_0 adX0_lineBadness_0.2.2.2.1 rfl
theorem dX0_lineBadness_6 : decode cX0_lineBadness 6 = .ok (.istore_n 3, 1) := dAt wdX0_lineBadness_0 adX0_lineBadness_0.2.2.2.2.1 rfl
theorem dX0_lineBadness_7 : decode cX0_lineBadness 7 = .ok (.iload_n 3, 1) := dAt wdX0_lineBadness_0 adX0_lineBadness_0.2.2.2.2.2.1 rfl
theorem dX0_lineBadness_8 : decode cX0_lineBadness 8 = .ok (.ifCond .ge 5, 3) := dAt wdX0_lineBadness_0 adX0_lineBadness_0.2.2.2.2.2.2.1 rfl
theorem dX0_lineBadness_11 : decode cX0_lineBadness 11 = .ok (.iconst (-1), 1) := dAt wdX0_lineBadness_0 adX0_lineBadness_0.2.2.2.2.2.2.2.1 rfl
theorem dX0_lineBadness_12 : decode cX0_lineBadness 12 = .ok (.ireturn, 1) := dAt wdX0_lineBadness_0 adX0_lineBadness_0.2.2.2.2.2.2.2.2.1 rfl
theorem dX0_lineBadness_13 : decode cX0_lineBadness 13 = .ok (.iload_n 2, 1) := dAt wdX0_lineBadness_0 adX0_lineBadness_0.2.2.2.2.2.2.2.2.2.1 rfl
theorem dX0_lineBadness_14 : decode cX0_lineBadness 14 = .ok (.aload_n 0, 1) := dAt wdX0_lineBadness_0 adX0_lineBadness_0.2.2.2.2.2.2.2.2.2.2.1 rfl
theorem dX0_lineBadness_15 : decode cX0_lineBadness 15 = .ok (.getfield 30, 3) := dAt wdX0_lineBadness_0 adX0_lineBadness_0.2.2.2.2.2.2.2.2.2.2.2.1 rfl
theorem dX0_lineBadness_18 : decode cX0_lineBadness 18 = .ok (.iconst 1, 1) := dAt wdX0_lineBadness_0 adX0_lineBadness_0.2.2.2.2.2.2.2.2.2.2.2.2.1 rfl
theorem dX0_lineBadness_19 : decode cX0_lineBadness 19 = .ok (.isub, 1) := dAt wdX0_lineBadness_0 adX0_lineBadness_0.2.2.2.2.2.2.2.2.2.2.2.2.2.1 rfl
theorem dX0_lineBadness_20 : decode cX0_lineBadness 20 = .ok (.if_icmp .ne 5, 3) := dAt wdX0_lineBadness_0 adX0_lineBadness_0.2.2.2.2.2.2.2.2.2.2.2.2.2.2.1 rfl
theorem dX0_lineBadness_23 : decode cX0_lineBadness 23 = .ok (.iconst 0, 1) := dAt wdX0_lineBadness_0 adX0_lineBadness_0.2.2.2.2.2.2.2.2.2.2.2.2.2.2.2 rfl
def bdX0_lineBadness_24 : ByteArray := .mk #[172, 42, 180, 0, 40, 28, 46, 42, 180, 0, 40, 27, 46, 100, 54, 4, 29, 21, 4, 42, 180, 0, 21, 42]
theorem wdX0_lineBadness_24 : LocW cX0_lineBadness 24 bdX0_lineBadness_24 := loc_of (by decide +kernel)
theorem adX0_lineBadness_24 : De bdX0_lineBadness_24 0 (.ireturn) 1 ∧ De bdX0_lineBadness_24 1 (.aload_n 0) 1 ∧ De bdX0_lineBadness_24 2 (.getfield 40) 3 ∧ De bdX0_lineBadness_24 5 (.iload_n 2) 1 ∧ De bdX0_lineBadness_24 6 (.iaload) 1 ∧ De bdX0_lineBadness_24 7 (.aload_n 0) 1 ∧ De bdX0_lineBadness_24 8 (.getfield 40) 3 ∧ De bdX0_lineBadness_24 11 (.iload_n 1) 1 ∧ De bdX0_lineBadness_24 12 (.iaload) 1 ∧ De bdX0_lineBadness_24 13 (.isub) 1 ∧ De bdX0_lineBadness_24 14 (.istore 4) 2 ∧ De bdX0_lineBadness_24 16 (.iload_n 3) 1 ∧ De bdX0_lineBadness_24 17 (.iload 4) 2 ∧ De bdX0_lineBadness_24 19 (.aload_n 0) 1 ∧ De bdX0_lineBadness_24 20 (.getfield 21) 3 ∧ De bdX0_lineBadness_24 23 (.aload_n 0) 1 := by decide +kernel
theorem dX0_lineBadness_24 : decode cX0_lineBadness 24 = .ok (.ireturn, 1) := dAt wdX0_lineBadness_24 adX0_lineBadness_24.1 rfl
theorem dX0_lineBadness_25 : decode cX0_lineBadness 25 = .ok (.aload_n 0, 1) := dAt wdX0_lineBadness_24 adX0_lineBadness_24.2.1 rfl
theorem dX0_lineBadness_26 : decode cX0_lineBadness 26 = .ok (.getfield 40, 3) := dAt wdX0_lineBadness_24 adX0_lineBadness_24.2.2.1 rfl
theorem dX0_lineBadness_29 : decode cX0_lineBadness 29 = .ok (.iload_n 2, 1) := dAt wdX0_lineBadness_24 adX0_lineBadness_24.2.2.2.1 rfl
theorem dX0_lineBadness_30 : decode cX0_lineBadness 30 = .ok (.iaload, 1) := dAt wdX0_lineBadness_24 adX0_lineBadness_24.2.2.2.2.1 rfl
theorem dX0_lineBadness_31 : decode cX0_lineBadness 31 = .ok (.aload_n 0, 1) := dAt wdX0_lineBadness_24 adX0_lineBadness_24.2.2.2.2.2.1 rfl
theorem dX0_lineBadness_32 : decode cX0_lineBadness 32 = .ok (.getfield 40, 3) := dAt wdX0_lineBadness_24 adX0_lineBadness_24.2.2.2.2.2.2.1 rfl
theorem dX0_lineBadness_35 : decode cX0_lineBadness 35 = .ok (.iload_n 1, 1) := dAt wdX0_lineBadness_24 adX0_lineBadness_24.2.2.2.2.2.2.2.1 rfl
theorem dX0_lineBadness_36 : decode cX0_lineBadness 36 = .ok (.iaload, 1) := dAt wdX0_lineBadness_24 adX0_lineBadness_24.2.2.2.2.2.2.2.2.1 rfl
theorem dX0_lineBadness_37 : decode cX0_lineBadness 37 = .ok (.isub, 1) := dAt wdX0_lineBadness_24 adX0_lineBadness_24.2.2.2.2.2.2.2.2.2.1 rfl
theorem dX0_lineBadness_38 : decode cX0_lineBadness 38 = .ok (.istore 4, 2) := dAt wdX0_lineBadness_24 adX0_lineBadness_24.2.2.2.2.2.2.2.2.2.2.1 rfl
theorem dX0_lineBadness_40 : decode cX0_lineBadness 40 = .ok (.iload_n 3, 1) := dAt wdX0_lineBadness_24 adX0_lineBadness_24.2.2.2.2.2.2.2.2.2.2.2.1 rfl
theorem dX0_lineBadness_41 : decode cX0_lineBadness 41 = .ok (.iload 4, 2) := dAt wdX0_lineBadness_24 adX0_lineBadness_24.2.2.2.2.2.2.2.2.2.2.2.2.1 rfl
theorem dX0_lineBadness_43 : decode cX0_lineBadness 43 = .ok (.aload_n 0, 1) := dAt wdX0_lineBadness_24 adX0_lineBadness_24.2.2.2.2.2.2.2.2.2.2.2.2.2.1 rfl
theorem dX0_lineBadness_44 : decode cX0_lineBadness 44 = .ok (.getfield 21, 3) := dAt wdX0_lineBadness_24 adX0_lineBadness_24.2.2.2.2.2.2.2.2.2.2.2.2.2.2.1 rfl
theorem dX0_lineBadness_47 : decode cX0_lineBadness 47 = .ok (.aload_n 0, 1) := dAt wdX0_lineBadness_24 adX0_lineBadness_24.2.2.2.2.2.2.2.2.2.2.2.2.2.2.2 rfl
def bdX0_lineBadness_48 : ByteArray := .mk #[180, 0, 18, 100, 104, 164, 0, 5, 2, 172, 42, 180, 0, 40, 28, 4, 96, 46, 42, 180, 0, 40, 28, 46]
theorem wdX0_lineBadness_48 : LocW cX0_lineBadness 48 bdX0_lineBadness_48 := loc_of (by decide +kernel)
theorem adX0_lineBadness_48 : De bdX0_lineBadness_48 0 (.getfield 18) 3 ∧ De bdX0_lineBadness_48 3 (.isub) 1 ∧ De bdX0_lineBadness_48 4 (.imul) 1 ∧ De bdX0_lineBadness_48 5 (.if_icmp .le 5) 3 ∧ De bdX0_lineBadness_48 8 (.iconst (-1)) 1 ∧ De bdX0_lineBadness_48 9 (.ireturn) 1 ∧ De bdX0_lineBadness_48 10 (.aload_n 0) 1 ∧ De bdX0_lineBadness_48 11 (.getfield 40) 3 ∧ De bdX0_lineBadness_48 14 (.iload_n 2) 1 ∧ De bdX0_lineBadness_48 15 (.iconst 1) 1 ∧ De bdX0_lineBadness_48 16 (.iadd) 1 ∧ De bdX0_lineBadness_48 17 (.iaload) 1 ∧ De bdX0_lineBadness_48 18 (.aload_n 0) 1 ∧ De bdX0_lineBadness_48 19 (.getfield 40) 3 ∧ De bdX0_lineBadness_48 22 (.iload_n 2) 1 ∧ De bdX0_lineBadness_48 23 (.iaload) 1 := by decide +kernel
theorem dX0_lineBadness_48 : decode cX0_lineBadness 48 = .ok (.getfield 18, 3) := dAt wdX0_lineBadness_48 adX0_lineBadness_48.1 rfl
theorem dX0_lineBadness_51 : decode cX0_lineBadness 51 = .ok (.isub, 1) := dAt wdX0_lineBadness_48 adX0_lineBadness_48.2.1 rfl
theorem dX0_lineBadness_52 : decode cX0_lineBadness 52 = .ok (.imul, 1) := dAt wdX0_lineBadness_48 adX0_lineBadness_48.2.2.1 rfl
theorem dX0_lineBadness_53 : decode cX0_lineBadness 53 = .ok (.if_icmp .le 5, 3) := dAt wdX0_lineBadness_48 adX0_lineBadness_48.2.2.2.1 rfl
theorem dX0_lineBadness_56 : decode cX0_lineBadness 56 = .ok (.iconst (-1), 1) := dAt wdX0_lineBadness_48 adX0_lineBadness_48.2.2.2.2.1 rfl
theorem dX0_lineBadness_57 : decode cX0_lineBadness 57 = .ok (.ireturn, 1) := dAt wdX0_lineBadness_48 adX0_lineBadness_48.2.2.2.2.2.1 rfl
theorem dX0_lineBadness_58 : decode cX0_lineBadness 58 = .ok (.aload_n 0, 1) := dAt wdX0_lineBadness_48 adX0_lineBadness_48.2.2.2.2.2.2.1 rfl
theorem dX0_lineBadness_59 : decode cX0_lineBadness 59 = .ok (.getfield 40, 3) := dAt wdX0_lineBadness_48 adX0_lineBadness_48.2.2.2.2.2.2.2.1 rfl
theorem dX0_lineBadness_62 : decode cX0_lineBadness 62 = .ok (.iload_n 2, 1) := dAt wdX0_lineBadness_48 adX0_lineBadness_48.2.2.2.2.2.2.2.2.1 rfl
theorem dX0_lineBadness_63 : decode cX0_lineBadness 63 = .ok (.iconst 1, 1) := dAt wdX0_lineBadness_48 adX0_lineBadness_48.2.2.2.2.2.2.2.2.2.1 rfl
theorem dX0_lineBadness_64 : decode cX0_lineBadness 64 = .ok (.iadd, 1) := dAt wdX0_lineBadness_48 adX0_lineBadness_48.2.2.2.2.2.2.2.2.2.2.1 rfl
theorem dX0_lineBadness_65 : decode cX0_lineBadness 65 = .ok (.iaload, 1) := dAt wdX0_lineBadness_48 adX0_lineBadness_48.2.2.2.2.2.2.2.2.2.2.2.1 rfl
theorem dX0_lineBadness_66 : decode cX0_lineBadness 66 = .ok (.aload_n 0, 1) := dAt wdX0_lineBadness_48 adX0_lineBadness_48.2.2.2.2.2.2.2.2.2.2.2.2.1 rfl
theorem dX0_lineBadness_67 : decode cX0_lineBadness 67 = .ok (.getfield 40, 3) := dAt wdX0_lineBadness_48 adX0_lineBadness_48.2.2.2.2.2.2.2.2.2.2.2.2.2.1 rfl
theorem dX0_lineBadness_70 : decode cX0_lineBadness 70 = .ok (.iload_n 2, 1) := dAt wdX0_lineBadness_48 adX0_lineBadness_48.2.2.2.2.2.2.2.2.2.2.2.2.2.2.1 rfl
theorem dX0_lineBadness_71 : decode cX0_lineBadness 71 = .ok (.iaload, 1) := dAt wdX0_lineBadness_48 adX0_lineBadness_48.2.2.2.2.2.2.2.2.2.2.2.2.2.2.2 rfl
def bdX0_lineBadness_72 : ByteArray := .mk #[160, 0, 7, 4, 167, 0, 4, 3, 54, 5, 29, 29, 104, 21, 5, 153, 0, 10, 42, 180, 0, 24, 167, 0, 4, 3, 96, 172]
theorem wdX0_lineBadness_72 : LocW cX0_lineBadness 72 bdX0_lineBadness_72 := loc_of (by decide +kernel)
theorem adX0_lineBadness_72 : De bdX0_lineBadness_72 0 (.if_icmp .ne 7) 3 ∧ De bdX0_lineBadness_72 3 (.iconst 1) 1 ∧ De bdX0_lineBadness_72 4 (.goto 4) 3 ∧ De bdX0_lineBadness_72 7 (.iconst 0) 1 ∧ De bdX0_lineBadness_72 8 (.istore 5) 2 ∧ De bdX0_lineBadness_72 10 (.iload_n 3) 1 ∧ De bdX0_lineBadness_72 11 (.iload_n 3) 1 ∧ De bdX0_lineBadness_72 12 (.imul) 1 ∧ De bdX0_lineBadness_72 13 (.iload 5) 2 ∧ De bdX0_lineBadness_72 15 (.ifCond .eq 10) 3 ∧ De bdX0_lineBadness_72 18 (.aload_n 0) 1 ∧ De bdX0_lineBadness_72 19 (.getfield 24) 3 ∧ De bdX0_lineBadness_72 22 (.goto 4) 3 ∧ De bdX0_lineBadness_72 25 (.iconst 0) 1 ∧ De bdX0_lineBadness_72 26 (.iadd) 1 ∧ De bdX0_lineBadness_72 27 (.ireturn) 1 := by decide +kernel
theorem dX0_lineBadness_72 : decode cX0_lineBadness 72 = .ok (.if_icmp .ne 7, 3) := dAt wdX0_lineBadness_72 adX0_lineBadness_72.1 rfl
theorem dX0_lineBadness_75 : decode cX0_lineBadness 75 = .ok (.iconst 1, 1) := dAt wdX0_lineBadness_72 adX0_lineBadness_72.2.1 rfl
theorem dX0_lineBadness_76 : decode cX0_lineBadness 76 = .ok (.goto 4, 3) := dAt wdX0_lineBadness_72 adX0_lineBadness_72.2.2.1 rfl
theorem dX0_lineBadness_79 : decode cX0_lineBadness 79 = .ok (.iconst 0, 1) := dAt wdX0_lineBadness_72 adX0_lineBadness_72.2.2.2.1 rfl
theorem dX0_lineBadness_80 : decode cX0_lineBadness 80 = .ok (.istore 5, 2) := dAt wdX0_lineBadness_72 adX0_lineBadness_72.2.2.2.2.1 rfl
theorem dX0_lineBadness_82 : decode cX0_lineBadness 82 = .ok (.iload_n 3, 1) := dAt wdX0_lineBadness_72 adX0_lineBadness_72.2.2.2.2.2.1 rfl
theorem dX0_lineBadness_83 : decode cX0_lineBadness 83 = .ok (.iload_n 3, 1) := dAt wdX0_lineBadness_72 adX0_lineBadness_72.2.2.2.2.2.2.1 rfl
theorem dX0_lineBadness_84 : decode cX0_lineBadness 84 = .ok (.imul, 1) := dAt wdX0_lineBadness_72 adX0_lineBadness_72.2.2.2.2.2.2.2.1 rfl
theorem dX0_lineBadness_85 : decode cX0_lineBadness 85 = .ok (.iload 5, 2) := dAt wdX0_lineBadness_72 adX0_lineBadness_72.2.2.2.2.2.2.2.2.1 rfl
theorem dX0_lineBadness_87 : decode cX0_lineBadness 87 = .ok (.ifCond .eq 10, 3) := dAt wdX0_lineBadness_72 adX0_lineBadness_72.2.2.2.2.2.2.2.2.2.1 rfl
theorem dX0_lineBadness_90 : decode cX0_lineBadness 90 = .ok (.aload_n 0, 1) := dAt wdX0_lineBadness_72 adX0_lineBadness_72.2.2.2.2.2.2.2.2.2.2.1 rfl
theorem dX0_lineBadness_91 : decode cX0_lineBadness 91 = .ok (.getfield 24, 3) := dAt wdX0_lineBadness_72 adX0_lineBadness_72.2.2.2.2.2.2.2.2.2.2.2.1 rfl
theorem dX0_lineBadness_94 : decode cX0_lineBadness 94 = .ok (.goto 4, 3) := dAt wdX0_lineBadness_72 adX0_lineBadness_72.2.2.2.2.2.2.2.2.2.2.2.2.1 rfl
theorem dX0_lineBadness_97 : decode cX0_lineBadness 97 = .ok (.iconst 0, 1) := dAt wdX0_lineBadness_72 adX0_lineBadness_72.2.2.2.2.2.2.2.2.2.2.2.2.2.1 rfl
theorem dX0_lineBadness_98 : decode cX0_lineBadness 98 = .ok (.iadd, 1) := dAt wdX0_lineBadness_72 adX0_lineBadness_72.2.2.2.2.2.2.2.2.2.2.2.2.2.2.1 rfl
theorem dX0_lineBadness_99 : decode cX0_lineBadness 99 = .ok (.ireturn, 1) := dAt wdX0_lineBadness_72 adX0_lineBadness_72.2.2.2.2.2.2.2.2.2.2.2.2.2.2.2 rfl
def bdX0_solve_0 : ByteArray := .mk #[42, 180, 0, 43, 42, 180, 0, 30, 3, 79, 42, 180, 0, 46, 42, 180, 0, 30, 3, 79, 42, 180, 0, 30, 4, 100]
theorem wdX0_solve_0 : LocW cX0_solve 0 bdX0_solve_0 := loc_of (by decide +kernel)
theorem adX0_solve_0 : De bdX0_solve_0 0 (.aload_n 0) 1 ∧ De bdX0_solve_0 1 (.getfield 43) 3 ∧ De bdX0_solve_0 4 (.aload_n 0) 1 ∧ De bdX0_solve_0 5 (.getfield 30) 3 ∧ De bdX0_solve_0 8 (.iconst 0) 1 ∧ De bdX0_solve_0 9 (.iastore) 1 ∧ De bdX0_solve_0 10 (.aload_n 0) 1 ∧ De bdX0_solve_0 11 (.getfield 46) 3 ∧ De bdX0_solve_0 14 (.aload_n 0) 1 ∧ De bdX0_solve_0 15 (.getfield 30) 3 ∧ De bdX0_solve_0 18 (.iconst 0) 1 ∧ De bdX0_solve_0 19 (.iastore) 1 ∧ De bdX0_solve_0 20 (.aload_n 0) 1 ∧ De bdX0_solve_0 21 (.getfield 30) 3 ∧ De bdX0_solve_0 24 (.iconst 1) 1 ∧ De bdX0_solve_0 25 (.isub) 1 := by decide +kernel
theorem dX0_solve_0 : decode cX0_solve 0 = .ok (.aload_n 0, 1) := dAt wdX0_solve_0 adX0_solve_0.1 rfl
theorem dX0_solve_1 : decode cX0_solve 1 = .ok (.getfield 43, 3) := dAt wdX0_solve_0 adX0_solve_0.2.1 rfl
theorem dX0_solve_4 : decode cX0_solve 4 = .ok (.aload_n 0, 1) := dAt wdX0_solve_0 adX0_solve_0.2.2.1 rfl
theorem dX0_solve_5 : decode cX0_solve 5 = .ok (.getfield 30, 3) := dAt wdX0_solve_0 adX0_solve_0.2.2.2.1 rfl
theorem dX0_solve_8 : decode cX0_solve 8 = .ok (.iconst 0, 1) := dAt wdX0_solve_0 adX0_solve_0.2.2.2.2.1 rfl
theorem dX0_solve_9 : decode cX0_solve 9 = .ok (.iastore, 1) := dAt wdX0_solve_0 adX0_solve_0.2.2.2.2.2.1 rfl
theorem dX0_solve_10 : decode cX0_solve 10 = .ok (.aload_n 0, 1) := dAt wdX0_solve_0 adX0_solve_0.2.2.2.2.2.2.1 rfl
theorem dX0_solve_11 : decode cX0_solve 11 = .ok (.getfield 46, 3) := dAt wdX0_solve_0 adX0_solve_0.2.2.2.2.2.2.2.1 rfl
theorem dX0_solve_14 : decode cX0_solve 14 = .ok (.aload_n 0, 1) := dAt wdX0_solve_0 adX0_solve_0.2.2.2.2.2.2.2.2.1 rfl
theorem dX0_solve_15 : decode cX0_solve 15 = .ok (.getfield 30, 3) := dAt wdX0_solve_0 adX0_solve_0.2.2.2.2.2.2.2.2.2.1 rfl
theorem dX0_solve_18 : decode cX0_solve 18 = .ok (.iconst 0, 1) := dAt wdX0_solve_0 adX0_solve_0.2.2.2.2.2.2.2.2.2.2.1 rfl
theorem dX0_solve_19 : decode cX0_solve 19 = .ok (.iastore, 1) := dAt wdX0_solve_0 adX0_solve_0.2.2.2.2.2.2.2.2.2.2.2.1 rfl
theorem dX0_solve_20 : decode cX0_solve 20 = .ok (.aload_n 0, 1) := dAt wdX0_solve_0 adX0_solve_0.2.2.2.2.2.2.2.2.2.2.2.2.1 rfl
theorem dX0_solve_21 : decode cX0_solve 21 = .ok (.getfield 30, 3) := dAt wdX0_solve_0 adX0_solve_0.2.2.2.2.2.2.2.2.2.2.2.2.2.1 rfl
theorem dX0_solve_24 : decode cX0_solve 24 = .ok (.iconst 1, 1) := dAt wdX0_solve_0 adX0_solve_0.2.2.2.2.2.2.2.2.2.2.2.2.2.2.1 rfl
theorem dX0_solve_25 : decode cX0_solve 25 = .ok (.isub, 1) := dAt wdX0_solve_0 adX0_solve_0.2.2.2.2.2.2.2.2.2.2.2.2.2.2.2 rfl
def bdX0_solve_26 : ByteArray := .mk #[61, 28, 27, 161, 0, 14, 42, 28, 182, 0, 92, 132, 2, 255, 167, 255, 243, 42, 180, 0, 46, 27, 46, 172]
theorem wdX0_solve_26 : LocW cX0_solve 26 bdX0_solve_26 := loc_of (by decide +kernel)
theorem adX0_solve_26 : De bdX0_solve_26 0 (.istore_n 2) 1 ∧ De bdX0_solve_26 1 (.iload_n 2) 1 ∧ De bdX0_solve_26 2 (.iload_n 1) 1 ∧ De bdX0_solve_26 3 (.if_icmp .lt 14) 3 ∧ De bdX0_solve_26 6 (.aload_n 0) 1 ∧ De bdX0_solve_26 7 (.iload_n 2) 1 ∧ De bdX0_solve_26 8 (.invokevirtual 92) 3 ∧ De bdX0_solve_26 11 (.iinc 2 (-1)) 3 ∧ De bdX0_solve_26 14 (.goto (-13)) 3 ∧ De bdX0_solve_26 17 (.aload_n 0) 1 ∧ De bdX0_solve_26 18 (.getfield 46) 3 ∧ De bdX0_solve_26 21 (.iload_n 1) 1 ∧ De bdX0_solve_26 22 (.iaload) 1 ∧ De bdX0_solve_26 23 (.ireturn) 1 := by decide +kernel
theorem dX0_solve_26 : decode cX0_solve 26 = .ok (.istore_n 2, 1) := dAt wdX0_solve_26 adX0_solve_26.1 rfl
theorem dX0_solve_27 : decode cX0_solve 27 = .ok (.iload_n 2, 1) := dAt wdX0_solve_26 adX0_solve_26.2.1 rfl
theorem dX0_solve_28 : decode cX0_solve 28 = .ok (.iload_n 1, 1) := dAt wdX0_solve_26 adX0_solve_26.2.2.1 rfl
theorem dX0_solve_29 : decode cX0_solve 29 = .ok (.if_icmp .lt 14, 3) := dAt wdX0_solve_26 adX0_solve_26.2.2.2.1 rfl
theorem dX0_solve_32 : decode cX0_solve 32 = .ok (.aload_n 0, 1) := dAt wdX0_solve_26 adX0_solve_26.2.2.2.2.1 rfl
theorem dX0_solve_33 : decode cX0_solve 33 = .ok (.iload_n 2, 1) := dAt wdX0_solve_26 adX0_solve_26.2.2.2.2.2.1 rfl
theorem dX0_solve_34 : decode cX0_solve 34 = .ok (.invokevirtual 92, 3) := dAt wdX0_solve_26 adX0_solve_26.2.2.2.2.2.2.1 rfl
theorem dX0_solve_37 : decode cX0_solve 37 = .ok (.iinc 2 (-1), 3) := dAt wdX0_solve_26 adX0_solve_26.2.2.2.2.2.2.2.1 rfl
theorem dX0_solve_40 : decode cX0_solve 40 = .ok (.goto (-13), 3) := dAt wdX0_solve_26 adX0_solve_26.2.2.2.2.2.2.2.2.1 rfl
theorem dX0_solve_43 : decode cX0_solve 43 = .ok (.aload_n 0, 1) := dAt wdX0_solve_26 adX0_solve_26.2.2.2.2.2.2.2.2.2.1 rfl
theorem dX0_solve_44 : decode cX0_solve 44 = .ok (.getfield 46, 3) := dAt wdX0_solve_26 adX0_solve_26.2.2.2.2.2.2.2.2.2.2.1 rfl
theorem dX0_solve_47 : decode cX0_solve 47 = .ok (.iload_n 1, 1) := dAt wdX0_solve_26 adX0_solve_26.2.2.2.2.2.2.2.2.2.2.2.1 rfl
theorem dX0_solve_48 : decode cX0_solve 48 = .ok (.iaload, 1) := dAt wdX0_solve_26 adX0_solve_26.2.2.2.2.2.2.2.2.2.2.2.2.1 rfl
theorem dX0_solve_49 : decode cX0_solve 49 = .ok (.ireturn, 1) := dAt wdX0_solve_26 adX0_solve_26.2.2.2.2.2.2.2.2.2.2.2.2.2 rfl
def bdX0_solveAt_0 : ByteArray := .mk #[42, 180, 0, 46, 27, 2, 79, 27, 61, 28, 42, 180, 0, 30, 162, 0, 138, 42, 27, 28, 182, 0, 96, 62]
theorem wdX0_solveAt_0 : LocW cX0_solveAt 0 bdX0_solveAt_0 := loc_of (by decide +kernel)
theorem adX0_solveAt_0 : De bdX0_solveAt_0 0 (.aload_n 0) 1 ∧ De bdX0_solveAt_0 1 (.getfield 46) 3 ∧ De bdX0_solveAt_0 4 (.iload_n 1) 1 ∧ De bdX0_solveAt_0 5 (.iconst (-1)) 1 ∧ De bdX0_solveAt_0 6 (.iastore) 1 ∧ De bdX0_solveAt_0 7 (.iload_n 1) 1 ∧ De bdX0_solveAt_0 8 (.istore_n 2) 1 ∧ De bdX0_solveAt_0 9 (.iload_n 2) 1 ∧ De bdX0_solveAt_0 10 (.aload_n 0) 1 ∧ De bdX0_solveAt_0 11 (.getfield 30) 3 ∧ De bdX0_solveAt_0 14 (.if_icmp .ge 138) 3 ∧ De bdX0_solveAt_0 17 (.aload_n 0) 1 ∧ De bdX0_solveAt_0 18 (.iload_n 1) 1 ∧ De bdX0_solveAt_0 19 (.iload_n 2) 1 ∧ De bdX0_solveAt_0 20 (.invokevirtual 96) 3 ∧ De bdX0_solveAt_0 23 (.istore_n 3) 1 := by decide +kernel
theorem dX0_solveAt_0 : decode cX0_solveAt 0 = .ok (.aload_n 0, 1) := dAt wdX0_solveAt_0 adX0_solveAt_0.1 rfl
theorem dX0_solveAt_1 : decode cX0_solveAt 1 = .ok (.getfield 46, 3) := dAt wdX0_solveAt_0 adX0_solveAt_0.2.1 rfl
theorem dX0_solveAt_4 : decode cX0_solveAt 4 = .ok (.iload_n 1, 1) := dAt wdX0_solveAt_0 adX0_solveAt_0.2.2.1 rfl
theorem dX0_solveAt_5 : decode cX0_solveAt 5 = .ok (.iconst (-1), 1) := dAt wdX0_solveAt_0 adX0_solveAt_0.2.2.2.1 rfl
theorem dX0_solveAt_6 : decode cX0_solveAt 6 = .ok (.iastore, 1) := dAt wdX0_solveAt_0 adX0_solveAt_0.2.2.2.2.1 rfl
theorem dX0_solveAt_7 : decode cX0_solveAt 7 = .ok (.iload_n 1, 1) := dAt wdX0_solveAt_0 adX0_solveAt_0.2.2.2.2.2.1 rfl
theorem dX0_solveAt_8 : decode cX0_solveAt 8 = .ok (.istore_n 2, 1) := dAt wdX0_solveAt_0 adX0_solveAt_0.2.2.2.2.2.2.1 rfl
theorem dX0_solveAt_9 : decode cX0_solveAt 9 = .ok (.iload_n 2, 1) := dAt wdX0_solveAt_0 adX0_solveAt_0.2.2.2.2.2.2.2.1 rfl
theorem dX0_solveAt_10 : decode cX0_solveAt 10 = .ok (.aload_n 0, 1) := dAt wdX0_solveAt_0 adX0_solveAt_0.2.2.2.2.2.2.2.2.1 rfl
theorem dX0_solveAt_11 : decode cX0_solveAt 11 = .ok (.getfield 30, 3) := dAt wdX0_solveAt_0 adX0_solveAt_0.2.2.2.2.2.2.2.2.2.1 rfl
theorem dX0_solveAt_14 : decode cX0_solveAt 14 = .ok (.if_icmp .ge 138, 3) := dAt wdX0_solveAt_0 adX0_solveAt_0.2.2.2.2.2.2.2.2.2.2.1 rfl
theorem dX0_solveAt_17 : decode cX0_solveAt 17 = .ok (.aload_n 0, 1) := dAt wdX0_solveAt_0 adX0_solveAt_0.2.2.2.2.2.2.2.2.2.2.2.1 rfl
theorem dX0_solveAt_18 : decode cX0_solveAt 18 = .ok (.iload_n 1, 1) := dAt wdX0_solveAt_0 adX0_solveAt_0.2.2.2.2.2.2.2.2.2.2.2.2.1 rfl
theorem dX0_solveAt_19 : decode cX0_solveAt 19 = .ok (.iload_n 2, 1) := dAt wdX0_solveAt_0 adX0_solveAt_0.2.2.2.2.2.2.2.2.2.2.2.2.2.1 rfl
theorem dX0_solveAt_20 : decode cX0_solveAt 20 = .ok (.invokevirtual 96, 3) := dAt wdX0_solveAt_0 adX0_solveAt_0.2.2.2.2.2.2.2.2.2.2.2.2.2.2.1 rfl
theorem dX0_solveAt_23 : decode cX0_solveAt 23 = .ok (.istore_n 3, 1) := dAt wdX0_solveAt_0 adX0_solveAt_0.2.2.2.2.2.2.2.2.2.2.2.2.2.2.2 rfl
def bdX0_solveAt_24 : ByteArray := .mk #[29, 2, 159, 0, 120, 42, 180, 0, 46, 28, 4, 96, 46, 2, 160, 0, 6, 167, 0, 105, 29, 42, 180, 0, 43, 28]
theorem wdX0_solveAt_24 : LocW cX0_solveAt 24 bdX0_solveAt_24 := loc_of (by decide +kernel)
theorem adX0_solveAt_24 : De bdX0_solveAt_24 0 (.iload_n 3) 1 ∧ De bdX0_solveAt_24 1 (.iconst (-1)) 1 ∧ De bdX0_solveAt_24 2 (.if_icmp .eq 120) 3 ∧ De bdX0_solveAt_24 5 (.aload_n 0) 1 ∧ De bdX0_solveAt_24 6 (.getfield 46) 3 ∧ De bdX0_solveAt_24 9 (.iload_n 2) 1 ∧ De bdX0_solveAt_24 10 (.iconst 1) 1 ∧ De bdX0_solveAt_24 11 (.iadd) 1 ∧ De bdX0_solveAt_24 12 (.iaload) 1 ∧ De bdX0_solveAt_24 13 (.iconst (-1)) 1 ∧ De bdX0_solveAt_24 14 (.if_icmp .ne 6) 3 ∧ De bdX0_solveAt_24 17 (.goto 105) 3 ∧ De bdX0_solveAt_24 20 (.iload_n 3) 1 ∧ De bdX0_solveAt_24 21 (.aload_n 0) 1 ∧ De bdX0_solveAt_24 22 (.getfield 43) 3 ∧ De bdX0_solveAt_24 25 (.iload_n 2) 1 := by decide +kernel
theorem dX0_solveAt_24 : decode cX0_solveAt 24 = .ok (.iload_n 3, 1) := dAt wdX0_solveAt_24 adX0_solveAt_24.1 rfl
theorem dX0_solveAt_25 : decode cX0_solveAt 25 = .ok (.iconst (-1), 1) := dAt wdX0_solveAt_24 adX0_solveAt_24.2.1 rfl
theorem dX0_solveAt_26 : decode cX0_solveAt 26 = .ok (.if_icmp .eq 120, 3) := dAt wdX0_solveAt_24 adX0_solveAt_24.2.2.1 rfl
theorem dX0_solveAt_29 : decode cX0_solveAt 29 = .ok (.aload_n 0, 1) := dAt wdX0_solveAt_24 adX0_solveAt_24.2.2.2.1 rfl
theorem dX0_solveAt_30 : decode cX0_solveAt 30 = .ok (.getfield 46, 3) := dAt wdX0_solveAt_24 adX0_solveAt_24.2.2.2.2.1 rfl
theorem dX0_solveAt_33 : decode cX0_solveAt 33 = .ok (.iload_n 2, 1) := dAt wdX0_solveAt_24 adX0_solveAt_24.2.2.2.2.2.1 rfl
theorem dX0_solveAt_34 : decode cX0_solveAt 34 = .ok (.iconst 1, 1) := dAt wdX0_solveAt_24 adX0_solveAt_24.2.2.2.2.2.2.1 rfl
theorem dX0_solveAt_35 : decode cX0_solveAt 35 = .ok (.iadd, 1) := dAt wdX0_solveAt_24 adX0_solveAt_24.2.2.2.2.2.2.2.1 rfl
theorem dX0_solveAt_36 : decode cX0_solveAt 36 = .ok (.iaload, 1) := dAt wdX0_solveAt_24 adX0_solveAt_24.2.2.2.2.2.2.2.2.1 rfl
theorem dX0_solveAt_37 : decode cX0_solveAt 37 = .ok (.iconst (-1), 1) := dAt wdX0_solveAt_24 adX0_solveAt_24.2.2.2.2.2.2.2.2.2.1 rfl
theorem dX0_solveAt_38 : decode cX0_solveAt 38 = .ok (.if_icmp .ne 6, 3) := dAt wdX0_solveAt_24 adX0_solveAt_24.2.2.2.2.2.2.2.2.2.2.1 rfl
theorem dX0_solveAt_41 : decode cX0_solveAt 41 = .ok (.goto 105, 3) := dAt wdX0_solveAt_24 adX0_solveAt_24.2.2.2.2.2.2.2.2.2.2.2.1 rfl
theorem dX0_solveAt_44 : decode cX0_solveAt 44 = .ok (.iload_n 3, 1) := dAt wdX0_solveAt_24 adX0_solveAt_24.2.2.2.2.2.2.2.2.2.2.2.2.1 rfl
theorem dX0_solveAt_45 : decode cX0_solveAt 45 = .ok (.aload_n 0, 1) := dAt wdX0_solveAt_24 adX0_solveAt_24.2.2.2.2.2.2.2.2.2.2.2.2.2.1 rfl
theorem dX0_solveAt_46 : decode cX0_solveAt 46 = .ok (.getfield 43, 3) := dAt wdX0_solveAt_24 adX0_solveAt_24.2.2.2.2.2.2.2.2.2.2.2.2.2.2.1 rfl
theorem dX0_solveAt_49 : decode cX0_solveAt 49 = .ok (.iload_n 2, 1) := dAt wdX0_solveAt_24 adX0_solveAt_24.2.2.2.2.2.2.2.2.2.2.2.2.2.2.2 rfl
def bdX0_solveAt_50 : ByteArray := .mk #[4, 96, 46, 96, 54, 4, 4, 42, 180, 0, 46, 28, 4, 96, 46, 96, 54, 5, 42, 180, 0, 46]
theorem wdX0_solveAt_50 : LocW cX0_solveAt 50 bdX0_solveAt_50 := loc_of (by decide +kernel)
theorem adX0_solveAt_50 : De bdX0_solveAt_50 0 (.iconst 1) 1 ∧ De bdX0_solveAt_50 1 (.iadd) 1 ∧ De bdX0_solveAt_50 2 (.iaload) 1 ∧ De bdX0_solveAt_50 3 (.iadd) 1 ∧ De bdX0_solveAt_50 4 (.istore 4) 2 ∧ De bdX0_solveAt_50 6 (.iconst 1) 1 ∧ De bdX0_solveAt_50 7 (.aload_n 0) 1 ∧ De bdX0_solveAt_50 8 (.getfield 46) 3 ∧ De bdX0_solveAt_50 11 (.iload_n 2) 1 ∧ De bdX0_solveAt_50 12 (.iconst 1) 1 ∧ De bdX0_solveAt_50 13 (.iadd) 1 ∧ De bdX0_solveAt_50 14 (.iaload) 1 ∧ De bdX0_solveAt_50 15 (.iadd) 1 ∧ De bdX0_solveAt_50 16 (.istore 5) 2 ∧ De bdX0_solveAt_50 18 (.aload_n 0) 1 ∧ De bdX0_solveAt_50 19 (.getfield 46) 3 := by decide +kernel
theorem dX0_solveAt_50 : decode cX0_solveAt 50 = .ok (.iconst 1, 1) := dAt wdX0_solveAt_50 adX0_solveAt_50.1 rfl
theorem dX0_solveAt_51 : decode cX0_solveAt 51 = .ok (.iadd, 1) := dAt wdX0_solveAt_50 adX0_solveAt_50.2.1 rfl
theorem dX0_solveAt_52 : decode cX0_solveAt 52 = .ok (.iaload, 1) := dAt wdX0_solveAt_50 adX0_solveAt_50.2.2.1 rfl
theorem dX0_solveAt_53 : decode cX0_solveAt 53 = .ok (.iadd, 1) := dAt wdX0_solveAt_50 adX0_solveAt_50.2.2.2.1 rfl
theorem dX0_solveAt_54 : decode cX0_solveAt 54 = .ok (.istore 4, 2) := dAt wdX0_solveAt_50 adX0_solveAt_50.2.2.2.2.1 rfl
theorem dX0_solveAt_56 : decode cX0_solveAt 56 = .ok (.iconst 1, 1) := dAt wdX0_solveAt_50 adX0_solveAt_50.2.2.2.2.2.1 rfl
theorem dX0_solveAt_57 : decode cX0_solveAt 57 = .ok (.aload_n 0, 1) := dAt wdX0_solveAt_50 adX0_solveAt_50.2.2.2.2.2.2.1 rfl
theorem dX0_solveAt_58 : decode cX0_solveAt 58 = .ok (.getfield 46, 3) := dAt wdX0_solveAt_50 adX0_solveAt_50.2.2.2.2.2.2.2.1 rfl
theorem dX0_solveAt_61 : decode cX0_solveAt 61 = .ok (.iload_n 2, 1) := dAt wdX0_solveAt_50 adX0_solveAt_50.2.2.2.2.2.2.2.2.1 rfl
theorem dX0_solveAt_62 : decode cX0_solveAt 62 = .ok (.iconst 1, 1) := dAt wdX0_solveAt_50 adX0_solveAt_50.2.2.2.2.2.2.2.2.2.1 rfl
theorem dX0_solveAt_63 : decode cX0_solveAt 63 = .ok (.iadd, 1) := dAt wdX0_solveAt_50 adX0_solveAt_50.2.2.2.2.2.2.2.2.2.2.1 rfl
theorem dX0_solveAt_64 : decode cX0_solveAt 64 = .ok (.iaload, 1) := dAt wdX0_solveAt_50 adX0_solveAt_50.2.2.2.2.2.2.2.2.2.2.2.1 rfl
theorem dX0_solveAt_65 : decode cX0_solveAt 65 = .ok (.iadd, 1) := dAt wdX0_solveAt_50 adX0_solveAt_50.2.2.2.2.2.2.2.2.2.2.2.2.1 rfl
theorem dX0_solveAt_66 : decode cX0_solveAt 66 = .ok (.istore 5, 2) := dAt wdX0_solveAt_50 adX0_solveAt_50.2.2.2.2.2.2.2.2.2.2.2.2.2.1 rfl
theorem dX0_solveAt_68 : decode cX0_solveAt 68 = .ok (.aload_n 0, 1) := dAt wdX0_solveAt_50 adX0_solveAt_50.2.2.2.2.2.2.2.2.2.2.2.2.2.2.1 rfl
theorem dX0_solveAt_69 : decode cX0_solveAt 69 = .ok (.getfield 46, 3) := dAt wdX0_solveAt_50 adX0_solveAt_50.2.2.2.2.2.2.2.2.2.2.2.2.2.2.2 rfl
def bdX0_solveAt_72 : ByteArray := .mk #[27, 46, 2, 159, 0, 36, 21, 4, 42, 180, 0, 43, 27, 46, 161, 0, 25, 21, 4, 42, 180, 0, 43, 27, 46, 160, 0, 18]
theorem wdX0_solveAt_72 : LocW cX0_solveAt 72 bdX0_solveAt_72 := loc_of (by decide +kernel)
theorem adX0_solveAt_72 : De bdX0_solveAt_72 0 (.iload_n 1) 1 ∧ De bdX0_solveAt_72 1 (.iaload) 1 ∧ De bdX0_solveAt_72 2 (.iconst (-1)) 1 ∧ De bdX0_solveAt_72 3 (.if_icmp .eq 36) 3 ∧ De bdX0_solveAt_72 6 (.iload 4) 2 ∧ De bdX0_solveAt_72 8 (.aload_n 0) 1 ∧ De bdX0_solveAt_72 9 (.getfield 43) 3 ∧ De bdX0_solveAt_72 12 (.iload_n 1) 1 ∧ De bdX0_solveAt_72 13 (.iaload) 1 ∧ De bdX0_solveAt_72 14 (.if_icmp .lt 25) 3 ∧ De bdX0_solveAt_72 17 (.iload 4) 2 ∧ De bdX0_solveAt_72 19 (.aload_n 0) 1 ∧ De bdX0_solveAt_72 20 (.getfield 43) 3 ∧ De bdX0_solveAt_72 23 (.iload_n 1) 1 ∧ De bdX0_solveAt_72 24 (.iaload) 1 ∧ De bdX0_solveAt_72 25 (.if_icmp .ne 18) 3 := by decide +kernel
theorem dX0_solveAt_72 : decode cX0_solveAt 72 = .ok (.iload_n 1, 1) := dAt wdX0_solveAt_72 adX0_solveAt_72.1 rfl
theorem dX0_solveAt_73 : decode cX0_solveAt 73 = .ok (.iaload, 1) := dAt wdX0_solveAt_72 adX0_solveAt_72.2.1 rfl
theorem dX0_solveAt_74 : decode cX0_solveAt 74 = .ok (.iconst (-1), 1) := dAt wdX0_solveAt_72 adX0_solveAt_72.2.2.1 rfl
theorem dX0_solveAt_75 : decode cX0_solveAt 75 = .ok (.if_icmp .eq 36, 3) := dAt wdX0_solveAt_72 adX0_solveAt_72.2.2.2.1 rfl
theorem dX0_solveAt_78 : decode cX0_solveAt 78 = .ok (.iload 4, 2) := dAt wdX0_solveAt_72 adX0_solveAt_72.2.2.2.2.1 rfl
theorem dX0_solveAt_80 : decode cX0_solveAt 80 = .ok (.aload_n 0, 1) := dAt wdX0_solveAt_72 adX0_solveAt_72.2.2.2.2.2.1 rfl
theorem dX0_solveAt_81 : decode cX0_solveAt 81 = .ok (.getfield 43, 3) := dAt wdX0_solveAt_72 adX0_solveAt_72.2.2.2.2.2.2.1 rfl
theorem dX0_solveAt_84 : decode cX0_solveAt 84 = .ok (.iload_n 1, 1) := dAt wdX0_solveAt_72 adX0_solveAt_72.2.2.2.2.2.2.2.1 rfl
theorem dX0_solveAt_85 : decode cX0_solveAt 85 = .ok (.iaload, 1) := dAt wdX0_solveAt_72 adX0_solveAt_72.2.2.2.2.2.2.2.2.1 rfl
theorem dX0_solveAt_86 : decode cX0_solveAt 86 = .ok (.if_icmp .lt 25, 3) := dAt wdX0_solveAt_72 adX0_solveAt_72.2.2.2.2.2.2.2.2.2.1 rfl
theorem dX0_solveAt_89 : decode cX0_solveAt 89 = .ok (.iload 4, 2) := dAt wdX0_solveAt_72 adX0_solveAt_72.2.2.2.2.2.2.2.2.2.2.1 rfl
theorem dX0_solveAt_91 : decode cX0_solveAt 91 = .ok (.aload_n 0, 1) := dAt wdX0_solveAt_72 adX0_solveAt_72.2.2.2.2.2.2.2.2.2.2.2.1 rfl
theorem dX0_solveAt_92 : decode cX0_solveAt 92 = .ok (.getfield 43, 3) := dAt wdX0_solveAt_72 adX0_solveAt_72.2.2.2.2.2.2.2.2.2.2.2.2.1 rfl
theorem dX0_solveAt_95 : decode cX0_solveAt 95 = .ok (.iload_n 1, 1) := dAt wdX0_solveAt_72 adX0_solveAt_72.2.2.2.2.2.2.2.2.2.2.2.2.2.1 rfl
theorem dX0_solveAt_96 : decode cX0_solveAt 96 = .ok (.iaload, 1) := dAt wdX0_solveAt_72 adX0_solveAt_72.2.2.2.2.2.2.2.2.2.2.2.2.2.2.1 rfl
theorem dX0_solveAt_97 : decode cX0_solveAt 97 = .ok (.if_icmp .ne 18, 3) := dAt wdX0_solveAt_72 adX0_solveAt_72.2.2.2.2.2.2.2.2.2.2.2.2.2.2.2 rfl
def bdX0_solveAt_100 : ByteArray := .mk #[21, 5, 42, 180, 0, 46, 27, 46, 163, 0, 7, 4, 167, 0, 4, 3, 54, 6, 21, 6, 153, 0, 26, 42, 180, 0, 43, 27, 21, 4]
theorem wdX0_solveAt_100 : LocW cX0_solveAt 100 bdX0_solveAt_100 := loc_of (by decide +kernel)
theorem adX0_solveAt_100 : De bdX0_solveAt_100 0 (.iload 5) 2 ∧ De bdX0_solveAt_100 2 (.aload_n 0) 1 ∧ De bdX0_solveAt_100 3 (.getfield 46) 3 ∧ De bdX0_solveAt_100 6 (.iload_n 1) 1 ∧ De bdX0_solveAt_100 7 (.iaload) 1 ∧ De bdX0_solveAt_100 8 (.if_icmp .gt 7) 3 ∧ De bdX0_solveAt_100 11 (.iconst 1) 1 ∧ De bdX0_solveAt_100 12 (.goto 4) 3 ∧ De bdX0_solveAt_100 15 (.iconst 0) 1 ∧ De bdX0_solveAt_100 16 (.istore 6) 2 ∧ De bdX0_solveAt_100 18 (.iload 6) 2 ∧ De bdX0_solveAt_100 20 (.ifCond .eq 26) 3 ∧ De bdX0_solveAt_100 23 (.aload_n 0) 1 ∧ De bdX0_solveAt_100 24 (.getfield 43) 3 ∧ De bdX0_solveAt_100 27 (.iload_n 1) 1 ∧ De bdX0_solveAt_100 28 (.iload 4) 2 := by decide +kernel
theorem dX0_solveAt_100 : decode cX0_solveAt 100 = .ok (.iload 5, 2) := dAt wdX0_solveAt_100 adX0_solveAt_100.1 rfl
theorem dX0_solveAt_102 : decode cX0_solveAt 102 = .ok (.aload_n 0, 1) := dAt wdX0_solveAt_100 adX0_solveAt_100.2.1 rfl
theorem dX0_solveAt_103 : decode cX0_solveAt 103 = .ok (.getfield 46, 3) := dAt wdX0_solveAt_100 adX0_solveAt_100.2.2.1 rfl
theorem dX0_solveAt_106 : decode cX0_solveAt 106 = .ok (.iload_n 1, 1) := dAt wdX0_solveAt_100 adX0_solveAt_100.2.2.2.1 rfl
theorem dX0_solveAt_107 : decode cX0_solveAt 107 = .ok (.iaload, 1) := dAt wdX0_solveAt_100 adX0_solveAt_100.2.2.2.2.1 rfl
theorem dX0_solveAt_108 : decode cX0_solveAt 108 = .ok (.if_icmp .gt 7, 3) := dAt wdX0_solveAt_100 adX0_solveAt_100.2.2.2.2.2.1 rfl
theorem dX0_solveAt_111 : decode cX0_solveAt 111 = .ok (.iconst 1, 1) := dAt wdX0_solveAt_100 adX0_solveAt_100.2.2.2.2.2.2.1 rfl
theorem dX0_solveAt_112 : decode cX0_solveAt 112 = .ok (.goto 4, 3) := dAt wdX0_solveAt_100 adX0_solveAt_100.2.2.2.2.2.2.2.1 rfl
theorem dX0_solveAt_115 : decode cX0_solveAt 115 = .ok (.iconst 0, 1) := dAt wdX0_solveAt_100 adX0_solveAt_100.2.2.2.2.2.2.2.2.1 rfl
theorem dX0_solveAt_116 : decode cX0_solveAt 116 = .ok (.istore 6, 2) := dAt wdX0_solveAt_100 adX0_solveAt_100.2.2.2.2.2.2.2.2.2.1 rfl
theorem dX0_solveAt_118 : decode cX0_solveAt 118 = .ok (.iload 6, 2) := dAt wdX0_solveAt_100 adX0_solveAt_100.2.2.2.2.2.2.2.2.2.2.1 rfl
theorem dX0_solveAt_120 : decode cX0_solveAt 120 = .ok (.ifCond .eq 26, 3) := dAt wdX0_solveAt_100 adX0_solveAt_100.2.2.2.2.2.2.2.2.2.2.2.1 rfl
theorem dX0_solveAt_123 : decode cX0_solveAt 123 = .ok (.aload_n 0, 1) := dAt wdX0_solveAt_100 adX0_solveAt_100.2.2.2.2.2.2.2.2.2.2.2.2.1 rfl
theorem dX0_solveAt_124 : decode cX0_solveAt 124 = .ok (.getfield 43, 3) := dAt wdX0_solveAt_100 adX0_solveAt_100.2.2.2.2.2.2.2.2.2.2.2.2.2.1 rfl
theorem dX0_solveAt_127 : decode cX0_solveAt 127 = .ok (.iload_n 1, 1) := dAt wdX0_solveAt_100 adX0_solveAt_100.2.2.2.2.2.2.2.2.2.2.2.2.2.2.1 rfl
theorem dX0_solveAt_128 : decode cX0_solveAt 128 = .ok (.iload 4, 2) := dAt wdX0_solveAt_100 adX0_solveAt_100.2.2.2.2.2.2.2.2.2.2.2.2.2.2.2 rfl
def bdX0_solveAt_130 : ByteArray := .mk #[79, 42, 180, 0, 46, 27, 21, 5, 79, 42, 180, 0, 49, 27, 28, 79, 132, 2, 1, 167, 255, 116, 177]
theorem wdX0_solveAt_130 : LocW cX0_solveAt 130 bdX0_solveAt_130 := loc_of (by decide +kernel)
theorem adX0_solveAt_130 : De bdX0_solveAt_130 0 (.iastore) 1 ∧ De bdX0_solveAt_130 1 (.aload_n 0) 1 ∧ De bdX0_solveAt_130 2 (.getfield 46) 3 ∧ De bdX0_solveAt_130 5 (.iload_n 1) 1 ∧ De bdX0_solveAt_130 6 (.iload 5) 2 ∧ De bdX0_solveAt_130 8 (.iastore) 1 ∧ De bdX0_solveAt_130 9 (.aload_n 0) 1 ∧ De bdX0_solveAt_130 10 (.getfield 49) 3 ∧ De bdX0_solveAt_130 13 (.iload_n 1) 1 ∧ De bdX0_solveAt_130 14 (.iload_n 2) 1 ∧ De bdX0_solveAt_130 15 (.iastore) 1 ∧ De bdX0_solveAt_130 16 (.iinc 2 1) 3 ∧ De bdX0_solveAt_130 19 (.goto (-140)) 3 ∧ De bdX0_solveAt_130 22 (.return_) 1 := by decide +kernel
theorem dX0_solveAt_130 : decode cX0_solveAt 130 = .ok (.iastore, 1) := dAt wdX0_solveAt_130 adX0_solveAt_130.1 rfl
theorem dX0_solveAt_131 : decode cX0_solveAt 131 = .ok (.aload_n 0, 1) := dAt wdX0_solveAt_130 adX0_solveAt_130.2.1 rfl
theorem dX0_solveAt_132 : decode cX0_solveAt 132 = .ok (.getfield 46, 3) := dAt wdX0_solveAt_130 adX0_solveAt_130.2.2.1 rfl
theorem dX0_solveAt_135 : decode cX0_solveAt 135 = .ok (.iload_n 1, 1) := dAt wdX0_solveAt_130 adX0_solveAt_130.2.2.2.1 rfl
theorem dX0_solveAt_136 : decode cX0_solveAt 136 = .ok (.iload 5, 2) := dAt wdX0_solveAt_130 adX0_solveAt_130.2.2.2.2.1 rfl
theorem dX0_solveAt_138 : decode cX0_solveAt 138 = .ok (.iastore, 1) := dAt wdX0_solveAt_130 adX0_solveAt_130.2.2.2.2.2.1 rfl
theorem dX0_solveAt_139 : decode cX0_solveAt 139 = .ok (.aload_n 0, 1) := dAt wdX0_solveAt_130 adX0_solveAt_130.2.2.2.2.2.2.1 rfl
theorem dX0_solveAt_140 : decode cX0_solveAt 140 = .ok (.getfield 49, 3) := dAt wdX0_solveAt_130 adX0_solveAt_130.2.2.2.2.2.2.2.1 rfl
theorem dX0_solveAt_143 : decode cX0_solveAt 143 = .ok (.iload_n 1, 1) := dAt wdX0_solveAt_130 adX0_solveAt_130.2.2.2.2.2.2.2.2.1 rfl
theorem dX0_solveAt_144 : decode cX0_solveAt 144 = .ok (.iload_n 2, 1) := dAt wdX0_solveAt_130 adX0_solveAt_130.2.2.2.2.2.2.2.2.2.1 rfl
theorem dX0_solveAt_145 : decode cX0_solveAt 145 = .ok (.iastore, 1) := dAt wdX0_solveAt_130 adX0_solveAt_130.2.2.2.2.2.2.2.2.2.2.1 rfl
theorem dX0_solveAt_146 : decode cX0_solveAt 146 = .ok (.iinc 2 1, 3) := dAt wdX0_solveAt_130 adX0_solveAt_130.2.2.2.2.2.2.2.2.2.2.2.1 rfl
theorem dX0_solveAt_149 : decode cX0_solveAt 149 = .ok (.goto (-140), 3) := dAt wdX0_solveAt_130 adX0_solveAt_130.2.2.2.2.2.2.2.2.2.2.2.2.1 rfl
theorem dX0_solveAt_152 : decode cX0_solveAt 152 = .ok (.return_, 1) := dAt wdX0_solveAt_130 adX0_solveAt_130.2.2.2.2.2.2.2.2.2.2.2.2.2 rfl
def bdX0_badnessFrom_0 : ByteArray := .mk #[42, 180, 0, 43, 27, 46, 172]
theorem wdX0_badnessFrom_0 : LocW cX0_badnessFrom 0 bdX0_badnessFrom_0 := loc_of (by decide +kernel)
theorem adX0_badnessFrom_0 : De bdX0_badnessFrom_0 0 (.aload_n 0) 1 ∧ De bdX0_badnessFrom_0 1 (.getfield 43) 3 ∧ De bdX0_badnessFrom_0 4 (.iload_n 1) 1 ∧ De bdX0_badnessFrom_0 5 (.iaload) 1 ∧ De bdX0_badnessFrom_0 6 (.ireturn) 1 := by decide +kernel
theorem dX0_badnessFrom_0 : decode cX0_badnessFrom 0 = .ok (.aload_n 0, 1) := dAt wdX0_badnessFrom_0 adX0_badnessFrom_0.1 rfl
theorem dX0_badnessFrom_1 : decode cX0_badnessFrom 1 = .ok (.getfield 43, 3) := dAt wdX0_badnessFrom_0 adX0_badnessFrom_0.2.1 rfl
theorem dX0_badnessFrom_4 : decode cX0_badnessFrom 4 = .ok (.iload_n 1, 1) := dAt wdX0_badnessFrom_0 adX0_badnessFrom_0.2.2.1 rfl
theorem dX0_badnessFrom_5 : decode cX0_badnessFrom 5 = .ok (.iaload, 1) := dAt wdX0_badnessFrom_0 adX0_badnessFrom_0.2.2.2.1 rfl
theorem dX0_badnessFrom_6 : decode cX0_badnessFrom 6 = .ok (.ireturn, 1) := dAt wdX0_badnessFrom_0 adX0_badnessFrom_0.2.2.2.2 rfl
def bdX0_endOfLine_0 : ByteArray := .mk #[3, 61, 3, 62, 29, 42, 180, 0, 46, 3, 46, 162, 0, 30, 29, 27, 160, 0, 10, 42, 180, 0, 49, 28]
theorem wdX0_endOfLine_0 : LocW cX0_endOfLine 0 bdX0_endOfLine_0 := loc_of (by decide +kernel)
theorem adX0_endOfLine_0 : De bdX0_endOfLine_0 0 (.iconst 0) 1 ∧ De bdX0_endOfLine_0 1 (.istore_n 2) 1 ∧ De bdX0_endOfLine_0 2 (.iconst 0) 1 ∧ De bdX0_endOfLine_0 3 (.istore_n 3) 1 ∧ De bdX0_endOfLine_0 4 (.iload_n 3) 1 ∧ De bdX0_endOfLine_0 5 (.aload_n 0) 1 ∧ De bdX0_endOfLine_0 6 (.getfield 46) 3 ∧ De bdX0_endOfLine_0 9 (.iconst 0) 1 ∧ De bdX0_endOfLine_0 10 (.iaload) 1 ∧ De bdX0_endOfLine_0 11 (.if_icmp .ge 30) 3 ∧ De bdX0_endOfLine_0 14 (.iload_n 3) 1 ∧ De bdX0_endOfLine_0 15 (.iload_n 1) 1 ∧ De bdX0_endOfLine_0 16 (.if_icmp .ne 10) 3 ∧ De bdX0_endOfLine_0 19 (.aload_n 0) 1 ∧ De bdX0_endOfLine_0 20 (.getfield 49) 3 ∧ De bdX0_endOfLine_0 23 (.iload_n 2) 1 := by decide +kernel
theorem dX0_endOfLine_0 : decode cX0_endOfLine 0 = .ok (.iconst 0, 1) := dAt wdX0_endOfLine_0 adX0_endOfLine_0.1 rfl
theorem dX0_endOfLine_1 : decode cX0_endOfLine 1 = .ok (.istore_n 2, 1) := dAt wdX0_endOfLine_0 adX0_endOfLine_0.2.1 rfl
theorem dX0_endOfLine_2 : decode cX0_endOfLine 2 = .ok (.iconst 0, 1) := dAt wdX0_endOfLine_0 adX0_endOfLine_0.2.2.1 rfl
theorem dX0_endOfLine_3 : decode cX0_endOfLine 3 = .ok (.istore_n 3, 1) := dAt wdX0_endOfLine_0 adX0_endOfLine_0.2.2.2.1 rfl
theorem dX0_endOfLine_4 : decode cX0_endOfLine 4 = .ok (.iload_n 3, 1) := dAt wdX0_endOfLine_0 adX0_endOfLine_0.2.2.2.2.1 rfl
theorem dX0_endOfLine_5 : decode cX0_endOfLine 5 = .ok (.aload_n 0, 1) := dAt wdX0_endOfLine_0 adX0_endOfLine_0.2.2.2.2.2.1 rfl
theorem dX0_endOfLine_6 : decode cX0_endOfLine 6 = .ok (.getfield 46, 3) := dAt wdX0_endOfLine_0 adX0_endOfLine_0.2.2.2.2.2.2.1 rfl
theorem dX0_endOfLine_9 : decode cX0_endOfLine 9 = .ok (.iconst 0, 1) := dAt wdX0_endOfLine_0 adX0_endOfLine_0.2.2.2.2.2.2.2.1 rfl
theorem dX0_endOfLine_10 : decode cX0_endOfLine 10 = .ok (.iaload, 1) := dAt wdX0_endOfLine_0 adX0_endOfLine_0.2.2.2.2.2.2.2.2.1 rfl
theorem dX0_endOfLine_11 : decode cX0_endOfLine 11 = .ok (.if_icmp .ge 30, 3) := dAt wdX0_endOfLine_0 adX0_endOfLine_0.2.2.2.2.2.2.2.2.2.1 rfl
theorem dX0_endOfLine_14 : decode cX0_endOfLine 14 = .ok (.iload_n 3, 1) := dAt wdX0_endOfLine_0 adX0_endOfLine_0.2.2.2.2.2.2.2.2.2.2.1 rfl
theorem dX0_endOfLine_15 : decode cX0_endOfLine 15 = .ok (.iload_n 1, 1) := dAt wdX0_endOfLine_0 adX0_endOfLine_0.2.2.2.2.2.2.2.2.2.2.2.1 rfl
theorem dX0_endOfLine_16 : decode cX0_endOfLine 16 = .ok (.if_icmp .ne 10, 3) := dAt wdX0_endOfLine_0 adX0_endOfLine_0.2.2.2.2.2.2.2.2.2.2.2.2.1 rfl
theorem dX0_endOfLine_19 : decode cX0_endOfLine 19 = .ok (.aload_n 0, 1) := dAt wdX0_endOfLine_0 adX0_endOfLine_0.2.2.2.2.2.2.2.2.2.2.2.2.2.1 rfl
theorem dX0_endOfLine_20 : decode cX0_endOfLine 20 = .ok (.getfield 49, 3) := dAt wdX0_endOfLine_0 adX0_endOfLine_0.2.2.2.2.2.2.2.2.2.2.2.2.2.2.1 rfl
theorem dX0_endOfLine_23 : decode cX0_endOfLine 23 = .ok (.iload_n 2, 1) := dAt wdX0_endOfLine_0 adX0_endOfLine_0.2.2.2.2.2.2.2.2.2.2.2.2.2.2.2 rfl
def bdX0_endOfLine_24 : ByteArray := .mk #[46, 172, 42, 180, 0, 49, 28, 46, 4, 96, 61, 132, 3, 1, 167, 255, 222, 2, 172]
theorem wdX0_endOfLine_24 : LocW cX0_endOfLine 24 bdX0_endOfLine_24 := loc_of (by decide +kernel)
theorem adX0_endOfLine_24 : De bdX0_endOfLine_24 0 (.iaload) 1 ∧ De bdX0_endOfLine_24 1 (.ireturn) 1 ∧ De bdX0_endOfLine_24 2 (.aload_n 0) 1 ∧ De bdX0_endOfLine_24 3 (.getfield 49) 3 ∧ De bdX0_endOfLine_24 6 (.iload_n 2) 1 ∧ De bdX0_endOfLine_24 7 (.iaload) 1 ∧ De bdX0_endOfLine_24 8 (.iconst 1) 1 ∧ De bdX0_endOfLine_24 9 (.iadd) 1 ∧ De bdX0_endOfLine_24 10 (.istore_n 2) 1 ∧ De bdX0_endOfLine_24 11 (.iinc 3 1) 3 ∧ De bdX0_endOfLine_24 14 (.goto (-34)) 3 ∧ De bdX0_endOfLine_24 17 (.iconst (-1)) 1 ∧ De bdX0_endOfLine_24 18 (.ireturn) 1 := by decide +kernel
theorem dX0_endOfLine_24 : decode cX0_endOfLine 24 = .ok (.iaload, 1) := dAt wdX0_endOfLine_24 adX0_endOfLine_24.1 rfl
theorem dX0_endOfLine_25 : decode cX0_endOfLine 25 = .ok (.ireturn, 1) := dAt wdX0_endOfLine_24 adX0_endOfLine_24.2.1 rfl
theorem dX0_endOfLine_26 : decode cX0_endOfLine 26 = .ok (.aload_n 0, 1) := dAt wdX0_endOfLine_24 adX0_endOfLine_24.2.2.1 rfl
theorem dX0_endOfLine_27 : decode cX0_endOfLine 27 = .ok (.getfield 49, 3) := dAt wdX0_endOfLine_24 adX0_endOfLine_24.2.2.2.1 rfl
theorem dX0_endOfLine_30 : decode cX0_endOfLine 30 = .ok (.iload_n 2, 1) := dAt wdX0_endOfLine_24 adX0_endOfLine_24.2.2.2.2.1 rfl
theorem dX0_endOfLine_31 : decode cX0_endOfLine 31 = .ok (.iaload, 1) := dAt wdX0_endOfLine_24 adX0_endOfLine_24.2.2.2.2.2.1 rfl
theorem dX0_endOfLine_32 : decode cX0_endOfLine 32 = .ok (.iconst 1, 1) := dAt wdX0_endOfLine_24 adX0_endOfLine_24.2.2.2.2.2.2.1 rfl
theorem dX0_endOfLine_33 : decode cX0_endOfLine 33 = .ok (.iadd, 1) := dAt wdX0_endOfLine_24 adX0_endOfLine_24.2.2.2.2.2.2.2.1 rfl
theorem dX0_endOfLine_34 : decode cX0_endOfLine 34 = .ok (.istore_n 2, 1) := dAt wdX0_endOfLine_24 adX0_endOfLine_24.2.2.2.2.2.2.2.2.1 rfl
theorem dX0_endOfLine_35 : decode cX0_endOfLine 35 = .ok (.iinc 3 1, 3) := dAt wdX0_endOfLine_24 adX0_endOfLine_24.2.2.2.2.2.2.2.2.2.1 rfl
theorem dX0_endOfLine_38 : decode cX0_endOfLine 38 = .ok (.goto (-34), 3) := dAt wdX0_endOfLine_24 adX0_endOfLine_24.2.2.2.2.2.2.2.2.2.2.1 rfl
theorem dX0_endOfLine_41 : decode cX0_endOfLine 41 = .ok (.iconst (-1), 1) := dAt wdX0_endOfLine_24 adX0_endOfLine_24.2.2.2.2.2.2.2.2.2.2.2.1 rfl
theorem dX0_endOfLine_42 : decode cX0_endOfLine 42 = .ok (.ireturn, 1) := dAt wdX0_endOfLine_24 adX0_endOfLine_24.2.2.2.2.2.2.2.2.2.2.2.2 rfl
def bdX0_putLines_0 : ByteArray := .mk #[28, 54, 4, 29, 54, 5, 21, 5, 42, 180, 0, 30, 162, 0, 49, 21, 4, 16, 40, 162, 0, 42, 43, 180, 0, 99, 21, 4, 42, 180, 0, 49]
theorem wdX0_putLines_0 : LocW cX0_putLines 0 bdX0_putLines_0 := loc_of (by decide +kernel)
theorem adX0_putLines_0 : De bdX0_putLines_0 0 (.iload_n 2) 1 ∧ De bdX0_putLines_0 1 (.istore 4) 2 ∧ De bdX0_putLines_0 3 (.iload_n 3) 1 ∧ De bdX0_putLines_0 4 (.istore 5) 2 ∧ De bdX0_putLines_0 6 (.iload 5) 2 ∧ De bdX0_putLines_0 8 (.aload_n 0) 1 ∧ De bdX0_putLines_0 9 (.getfield 30) 3 ∧ De bdX0_putLines_0 12 (.if_icmp .ge 49) 3 ∧ De bdX0_putLines_0 15 (.iload 4) 2 ∧ De bdX0_putLines_0 17 (.bipush 40) 2 ∧ De bdX0_putLines_0 19 (.if_icmp .ge 42) 3 ∧ De bdX0_putLines_0 22 (.aload_n 1) 1 ∧ De bdX0_putLines_0 23 (.getfield 99) 3 ∧ De bdX0_putLines_0 26 (.iload 4) 2 ∧ De bdX0_putLines_0 28 (.aload_n 0) 1 ∧ De bdX0_putLines_0 29 (.getfield 49) 3 := by decide +kernel
theorem dX0_putLines_0 : decode cX0_putLines 0 = .ok (.iload_n 2, 1) := dAt wdX0_putLines_0 adX0_putLines_0.1 rfl
theorem dX0_putLines_1 : decode cX0_putLines 1 = .ok (.istore 4, 2) := dAt wdX0_putLines_0 adX0_putLines_0.2.1 rfl
theorem dX0_putLines_3 : decode cX0_putLines 3 = .ok (.iload_n 3, 1) := dAt wdX0_putLines_0 adX0_putLines_0.2.2.1 rfl
theorem dX0_putLines_4 : decode cX0_putLines 4 = .ok (.istore 5, 2) := dAt wdX0_putLines_0 adX0_putLines_0.2.2.2.1 rfl
theorem dX0_putLines_6 : decode cX0_putLines 6 = .ok (.iload 5, 2) := dAt wdX0_putLines_0 adX0_putLines_0.2.2.2.2.1 rfl
theorem dX0_putLines_8 : decode cX0_putLines 8 = .ok (.aload_n 0, 1) := dAt wdX0_putLines_0 adX0_putLines_0.2.2.2.2.2.1 rfl
theorem dX0_putLines_9 : decode cX0_putLines 9 = .ok (.getfield 30, 3) := dAt wdX0_putLines_0 adX0_putLines_0.2.2.2.2.2.2.1 rfl
theorem dX0_putLines_12 : decode cX0_putLines 12 = .ok (.if_icmp .ge 49, 3) := dAt wdX0_putLines_0 adX0_putLines_0.2.2.2.2.2.2.2.1 rfl
theorem dX0_putLines_15 : decode cX0_putLines 15 = .ok (.iload 4, 2) := dAt wdX0_putLines_0 adX0_putLines_0.2.2.2.2.2.2.2.2.1 rfl
theorem dX0_putLines_17 : decode cX0_putLines 17 = .ok (.bipush 40, 2) := dAt wdX0_putLines_0 adX0_putLines_0.2.2.2.2.2.2.2.2.2.1 rfl
theorem dX0_putLines_19 : decode cX0_putLines 19 = .ok (.if_icmp .ge 42, 3) := dAt wdX0_putLines_0 adX0_putLines_0.2.2.2.2.2.2.2.2.2.2.1 rfl
theorem dX0_putLines_22 : decode cX0_putLines 22 = .ok (.aload_n 1, 1) := dAt wdX0_putLines_0 adX0_putLines_0.2.2.2.2.2.2.2.2.2.2.2.1 rfl
theorem dX0_putLines_23 : decode cX0_putLines 23 = .ok (.getfield 99, 3) := dAt wdX0_putLines_0 adX0_putLines_0.2.2.2.2.2.2.2.2.2.2.2.2.1 rfl
theorem dX0_putLines_26 : decode cX0_putLines 26 = .ok (.iload 4, 2) := dAt wdX0_putLines_0 adX0_putLines_0.2.2.2.2.2.2.2.2.2.2.2.2.2.1 rfl
theorem dX0_putLines_28 : decode cX0_putLines 28 = .ok (.aload_n 0, 1) := dAt wdX0_putLines_0 adX0_putLines_0.2.2.2.2.2.2.2.2.2.2.2.2.2.2.1 rfl
theorem dX0_putLines_29 : decode cX0_putLines 29 = .ok (.getfield 49, 3) := dAt wdX0_putLines_0 adX0_putLines_0.2.2.2.2.2.2.2.2.2.2.2.2.2.2.2 rfl
def bdX0_putLines_32 : ByteArray := .mk #[21, 5, 46, 79, 43, 180, 0, 100, 21, 4, 2, 79, 132, 4, 1, 42, 180, 0, 49, 21, 5, 46, 4, 96, 54, 5]
theorem wdX0_putLines_32 : LocW cX0_putLines 32 bdX0_putLines_32 := loc_of (by decide +kernel)
theorem adX0_putLines_32 : De bdX0_putLines_32 0 (.iload 5) 2 ∧ De bdX0_putLines_32 2 (.iaload) 1 ∧ De bdX0_putLines_32 3 (.iastore) 1 ∧ De bdX0_putLines_32 4 (.aload_n 1) 1 ∧ De bdX0_putLines_32 5 (.getfield 100) 3 ∧ De bdX0_putLines_32 8 (.iload 4) 2 ∧ De bdX0_putLines_32 10 (.iconst (-1)) 1 ∧ De bdX0_putLines_32 11 (.iastore) 1 ∧ De bdX0_putLines_32 12 (.iinc 4 1) 3 ∧ De bdX0_putLines_32 15 (.aload_n 0) 1 ∧ De bdX0_putLines_32 16 (.getfield 49) 3 ∧ De bdX0_putLines_32 19 (.iload 5) 2 ∧ De bdX0_putLines_32 21 (.iaload) 1 ∧ De bdX0_putLines_32 22 (.iconst 1) 1 ∧ De bdX0_putLines_32 23 (.iadd) 1 ∧ De bdX0_putLines_32 24 (.istore 5) 2 := by decide +kernel
theorem dX0_putLines_32 : decode cX0_putLines 32 = .ok (.iload 5, 2) := dAt wdX0_putLines_32 adX0_putLines_32.1 rfl
theorem dX0_putLines_34 : decode cX0_putLines 34 = .ok (.iaload, 1) := dAt wdX0_putLines_32 adX0_putLines_32.2.1 rfl
theorem dX0_putLines_35 : decode cX0_putLines 35 = .ok (.iastore, 1) := dAt wdX0_putLines_32 adX0_putLines_32.2.2.1 rfl
theorem dX0_putLines_36 : decode cX0_putLines 36 = .ok (.aload_n 1, 1) := dAt wdX0_putLines_32 adX0_putLines_32.2.2.2.1 rfl
theorem dX0_putLines_37 : decode cX0_putLines 37 = .ok (.getfield 100, 3) := dAt wdX0_putLines_32 adX0_putLines_32.2.2.2.2.1 rfl
theorem dX0_putLines_40 : decode cX0_putLines 40 = .ok (.iload 4, 2) := dAt wdX0_putLines_32 adX0_putLines_32.2.2.2.2.2.1 rfl
theorem dX0_putLines_42 : decode cX0_putLines 42 = .ok (.iconst (-1), 1) := dAt wdX0_putLines_32 adX0_putLines_32.2.2.2.2.2.2.1 rfl
theorem dX0_putLines_43 : decode cX0_putLines 43 = .ok (.iastore, 1) := dAt wdX0_putLines_32 adX0_putLines_32.2.2.2.2.2.2.2.1 rfl
theorem dX0_putLines_44 : decode cX0_putLines 44 = .ok (.iinc 4 1, 3) := dAt wdX0_putLines_32 adX0_putLines_32.2.2.2.2.2.2.2.2.1 rfl
theorem dX0_putLines_47 : decode cX0_putLines 47 = .ok (.aload_n 0, 1) := dAt wdX0_putLines_32 adX0_putLines_32.2.2.2.2.2.2.2.2.2.1 rfl
theorem dX0_putLines_48 : decode cX0_putLines 48 = .ok (.getfield 49, 3) := dAt wdX0_putLines_32 adX0_putLines_32.2.2.2.2.2.2.2.2.2.2.1 rfl
theorem dX0_putLines_51 : decode cX0_putLines 51 = .ok (.iload 5, 2) := dAt wdX0_putLines_32 adX0_putLines_32.2.2.2.2.2.2.2.2.2.2.2.1 rfl
theorem dX0_putLines_53 : decode cX0_putLines 53 = .ok (.iaload, 1) := dAt wdX0_putLines_32 adX0_putLines_32.2.2.2.2.2.2.2.2.2.2.2.2.1 rfl
theorem dX0_putLines_54 : decode cX0_putLines 54 = .ok (.iconst 1, 1) := dAt wdX0_putLines_32 adX0_putLines_32.2.2.2.2.2.2.2.2.2.2.2.2.2.1 rfl
theorem dX0_putLines_55 : decode cX0_putLines 55 = .ok (.iadd, 1) := dAt wdX0_putLines_32 adX0_putLines_32.2.2.2.2.2.2.2.2.2.2.2.2.2.2.1 rfl
theorem dX0_putLines_56 : decode cX0_putLines 56 = .ok (.istore 5, 2) := dAt wdX0_putLines_32 adX0_putLines_32.2.2.2.2.2.2.2.2.2.2.2.2.2.2.2 rfl
def bdX0_putLines_58 : ByteArray := .mk #[167, 255, 204, 43, 21, 4, 181, 0, 103, 177]
theorem wdX0_putLines_58 : LocW cX0_putLines 58 bdX0_putLines_58 := loc_of (by decide +kernel)
theorem adX0_putLines_58 : De bdX0_putLines_58 0 (.goto (-52)) 3 ∧ De bdX0_putLines_58 3 (.aload_n 1) 1 ∧ De bdX0_putLines_58 4 (.iload 4) 2 ∧ De bdX0_putLines_58 6 (.putfield 103) 3 ∧ De bdX0_putLines_58 9 (.return_) 1 := by decide +kernel
theorem dX0_putLines_58 : decode cX0_putLines 58 = .ok (.goto (-52), 3) := dAt wdX0_putLines_58 adX0_putLines_58.1 rfl
theorem dX0_putLines_61 : decode cX0_putLines 61 = .ok (.aload_n 1, 1) := dAt wdX0_putLines_58 adX0_putLines_58.2.1 rfl
theorem dX0_putLines_62 : decode cX0_putLines 62 = .ok (.iload 4, 2) := dAt wdX0_putLines_58 adX0_putLines_58.2.2.1 rfl
theorem dX0_putLines_64 : decode cX0_putLines 64 = .ok (.putfield 103, 3) := dAt wdX0_putLines_58 adX0_putLines_58.2.2.2.1 rfl
theorem dX0_putLines_67 : decode cX0_putLines 67 = .ok (.return_, 1) := dAt wdX0_putLines_58 adX0_putLines_58.2.2.2.2 rfl
def bdX0_reach_0 : ByteArray := .mk #[3, 60, 3, 61, 28, 42, 180, 0, 30, 163, 0, 24, 42, 180, 0, 52, 28, 28, 154, 0, 7, 4, 167, 0, 4, 3]
theorem wdX0_reach_0 : LocW cX0_reach 0 bdX0_reach_0 := loc_of (by decide +kernel)
theorem adX0_reach_0 : De bdX0_reach_0 0 (.iconst 0) 1 ∧ De bdX0_reach_0 1 (.istore_n 1) 1 ∧ De bdX0_reach_0 2 (.iconst 0) 1 ∧ De bdX0_reach_0 3 (.istore_n 2) 1 ∧ De bdX0_reach_0 4 (.iload_n 2) 1 ∧ De bdX0_reach_0 5 (.aload_n 0) 1 ∧ De bdX0_reach_0 6 (.getfield 30) 3 ∧ De bdX0_reach_0 9 (.if_icmp .gt 24) 3 ∧ De bdX0_reach_0 12 (.aload_n 0) 1 ∧ De bdX0_reach_0 13 (.getfield 52) 3 ∧ De bdX0_reach_0 16 (.iload_n 2) 1 ∧ De bdX0_reach_0 17 (.iload_n 2) 1 ∧ De bdX0_reach_0 18 (.ifCond .ne 7) 3 ∧ De bdX0_reach_0 21 (.iconst 1) 1 ∧ De bdX0_reach_0 22 (.goto 4) 3 ∧ De bdX0_reach_0 25 (.iconst 0) 1 := by decide +kernel
theorem dX0_reach_0 : decode cX0_reach 0 = .ok (.iconst 0, 1) := dAt wdX0_reach_0 adX0_reach_0.1 rfl
theorem dX0_reach_1 : decode cX0_reach 1 = .ok (.istore_n 1, 1) := dAt wdX0_reach_0 adX0_reach_0.2.1 rfl
theorem dX0_reach_2 : decode cX0_reach 2 = .ok (.iconst 0, 1) := dAt wdX0_reach_0 adX0_reach_0.2.2.1 rfl
theorem dX0_reach_3 : decode cX0_reach 3 = .ok (.istore_n 2, 1) := dAt wdX0_reach_0 adX0_reach_0.2.2.2.1 rfl
theorem dX0_reach_4 : decode cX0_reach 4 = .ok (.iload_n 2, 1) := dAt wdX0_reach_0 adX0_reach_0.2.2.2.2.1 rfl
theorem dX0_reach_5 : decode cX0_reach 5 = .ok (.aload_n 0, 1) := dAt wdX0_reach_0 adX0_reach_0.2.2.2.2.2.1 rfl
theorem dX0_reach_6 : decode cX0_reach 6 = .ok (.getfield 30, 3) := dAt wdX0_reach_0 adX0_reach_0.2.2.2.2.2.2.1 rfl
theorem dX0_reach_9 : decode cX0_reach 9 = .ok (.if_icmp .gt 24, 3) := dAt wdX0_reach_0 adX0_reach_0.2.2.2.2.2.2.2.1 rfl
theorem dX0_reach_12 : decode cX0_reach 12 = .ok (.aload_n 0, 1) := dAt wdX0_reach_0 adX0_reach_0.2.2.2.2.2.2.2.2.1 rfl
theorem dX0_reach_13 : decode cX0_reach 13 = .ok (.getfield 52, 3) := dAt wdX0_reach_0 adX0_reach_0.2.2.2.2.2.2.2.2.2.1 rfl
theorem dX0_reach_16 : decode cX0_reach 16 = .ok (.iload_n 2, 1) := dAt wdX0_reach_0 adX0_reach_0.2.2.2.2.2.2.2.2.2.2.1 rfl
theorem dX0_reach_17 : decode cX0_reach 17 = .ok (.iload_n 2, 1) := dAt wdX0_reach_0 adX0_reach_0.2.2.2.2.2.2.2.2.2.2.2.1 rfl
theorem dX0_reach_18 : decode cX0_reach 18 = .ok (.ifCond .ne 7, 3) := dAt wdX0_reach_0 adX0_reach_0.2.2.2.2.2.2.2.2.2.2.2.2.1 rfl
theorem dX0_reach_21 : decode cX0_reach 21 = .ok (.iconst 1, 1) := dAt wdX0_reach_0 adX0_reach_0.2.2.2.2.2.2.2.2.2.2.2.2.2.1 rfl
theorem dX0_reach_22 : decode cX0_reach 22 = .ok (.goto 4, 3) := dAt wdX0_reach_0 adX0_reach_0.2.2.2.2.2.2.2.2.2.2.2.2.2.2.1 rfl
theorem dX0_reach_25 : decode cX0_reach 25 = .ok (.iconst 0, 1) := dAt wdX0_reach_0 adX0_reach_0.2.2.2.2.2.2.2.2.2.2.2.2.2.2.2 rfl
def bdX0_reach_26 : ByteArray := .mk #[84, 132, 2, 1, 167, 255, 230, 3, 61, 28, 42, 180, 0, 30, 162, 0, 61, 28, 62, 42, 180, 0, 52, 28, 51, 153, 0, 44]
theorem wdX0_reach_26 : LocW cX0_reach 26 bdX0_reach_26 := loc_of (by decide +kernel)
theorem adX0_reach_26 : De bdX0_reach_26 0 (.bastore) 1 ∧ De bdX0_reach_26 1 (.iinc 2 1) 3 ∧ De bdX0_reach_26 4 (.goto (-26)) 3 ∧ De bdX0_reach_26 7 (.iconst 0) 1 ∧ De bdX0_reach_26 8 (.istore_n 2) 1 ∧ De bdX0_reach_26 9 (.iload_n 2) 1 ∧ De bdX0_reach_26 10 (.aload_n 0) 1 ∧ De bdX0_reach_26 11 (.getfield 30) 3 ∧ De bdX0_reach_26 14 (.if_icmp .ge 61) 3 ∧ De bdX0_reach_26 17 (.iload_n 2) 1 ∧ De bdX0_reach_26 18 (.istore_n 3) 1 ∧ De bdX0_reach_26 19 (.aload_n 0) 1 ∧ De bdX0_reach_26 20 (.getfield 52) 3 ∧ De bdX0_reach_26 23 (.iload_n 2) 1 ∧ De bdX0_reach_26 24 (.baload) 1 ∧ De bdX0_reach_26 25 (.ifCond .eq 44) 3 := by decide +kernel
theorem dX0_reach_26 : decode cX0_reach 26 = .ok (.bastore, 1) := dAt wdX0_reach_26 adX0_reach_26.1 rfl
theorem dX0_reach_27 : decode cX0_reach 27 = .ok (.iinc 2 1, 3) := dAt wdX0_reach_26 adX0_reach_26.2.1 rfl
theorem dX0_reach_30 : decode cX0_reach 30 = .ok (.goto (-26), 3) := dAt wdX0_reach_26 adX0_reach_26.2.2.1 rfl
theorem dX0_reach_33 : decode cX0_reach 33 = .ok (.iconst 0, 1) := dAt wdX0_reach_26 adX0_reach_26.2.2.2.1 rfl
theorem dX0_reach_34 : decode cX0_reach 34 = .ok (.istore_n 2, 1) := dAt wdX0_reach_26 adX0_reach_26.2.2.2.2.1 rfl
theorem dX0_reach_35 : decode cX0_reach 35 = .ok (.iload_n 2, 1) := dAt wdX0_reach_26 adX0_reach_26.2.2.2.2.2.1 rfl
theorem dX0_reach_36 : decode cX0_reach 36 = .ok (.aload_n 0, 1) := dAt wdX0_reach_26 adX0_reach_26.2.2.2.2.2.2.1 rfl
theorem dX0_reach_37 : decode cX0_reach 37 = .ok (.getfield 30, 3) := dAt wdX0_reach_26 adX0_reach_26.2.2.2.2.2.2.2.1 rfl
theorem dX0_reach_40 : decode cX0_reach 40 = .ok (.if_icmp .ge 61, 3) := dAt wdX0_reach_26 adX0_reach_26.2.2.2.2.2.2.2.2.1 rfl
theorem dX0_reach_43 : decode cX0_reach 43 = .ok (.iload_n 2, 1) := dAt wdX0_reach_26 adX0_reach_26.2.2.2.2.2.2.2.2.2.1 rfl
theorem dX0_reach_44 : decode cX0_reach 44 = .ok (.istore_n 3, 1) := dAt wdX0_reach_26 adX0_reach_26.2.2.2.2.2.2.2.2.2.2.1 rfl
theorem dX0_reach_45 : decode cX0_reach 45 = .ok (.aload_n 0, 1) := dAt wdX0_reach_26 adX0_reach_26.2.2.2.2.2.2.2.2.2.2.2.1 rfl
theorem dX0_reach_46 : decode cX0_reach 46 = .ok (.getfield 52, 3) := dAt wdX0_reach_26 adX0_reach_26.2.2.2.2.2.2.2.2.2.2.2.2.1 rfl
theorem dX0_reach_49 : decode cX0_reach 49 = .ok (.iload_n 2, 1) := dAt wdX0_reach_26 adX0_reach_26.2.2.2.2.2.2.2.2.2.2.2.2.2.1 rfl
theorem dX0_reach_50 : decode cX0_reach 50 = .ok (.baload, 1) := dAt wdX0_reach_26 adX0_reach_26.2.2.2.2.2.2.2.2.2.2.2.2.2.2.1 rfl
theorem dX0_reach_51 : decode cX0_reach 51 = .ok (.ifCond .eq 44, 3) := dAt wdX0_reach_26 adX0_reach_26.2.2.2.2.2.2.2.2.2.2.2.2.2.2.2 rfl
def bdX0_reach_54 : ByteArray := .mk #[29, 42, 180, 0, 30, 162, 0, 36, 42, 28, 29, 182, 0, 96, 2, 159, 0, 20, 42, 180, 0, 52, 29, 4, 96, 4]
theorem wdX0_reach_54 : LocW cX0_reach 54 bdX0_reach_54 := loc_of (by decide +kernel)
theorem adX0_reach_54 : De bdX0_reach_54 0 (.iload_n 3) 1 ∧ De bdX0_reach_54 1 (.aload_n 0) 1 ∧ De bdX0_reach_54 2 (.getfield 30) 3 ∧ De bdX0_reach_54 5 (.if_icmp .ge 36) 3 ∧ De bdX0_reach_54 8 (.aload_n 0) 1 ∧ De bdX0_reach_54 9 (.iload_n 2) 1 ∧ De bdX0_reach_54 10 (.iload_n 3) 1 ∧ De bdX0_reach_54 11 (.invokevirtual 96) 3 ∧ De bdX0_reach_54 14 (.iconst (-1)) 1 ∧ De bdX0_reach_54 15 (.if_icmp .eq 20) 3 ∧ De bdX0_reach_54 18 (.aload_n 0) 1 ∧ De bdX0_reach_54 19 (.getfield 52) 3 ∧ De bdX0_reach_54 22 (.iload_n 3) 1 ∧ De bdX0_reach_54 23 (.iconst 1) 1 ∧ De bdX0_reach_54 24 (.iadd) 1 ∧ De bdX0_reach_54 25 (.iconst 1) 1 := by decide +kernel
theorem dX0_reach_54 : decode cX0_reach 54 = .ok (.iload_n 3, 1) := dAt wdX0_reach_54 adX0_reach_54.1 rfl
theorem dX0_reach_55 : decode cX0_reach 55 = .ok (.aload_n 0, 1) := dAt wdX0_reach_54 adX0_reach_54.2.1 rfl
theorem dX0_reach_56 : decode cX0_reach 56 = .ok (.getfield 30, 3) := dAt wdX0_reach_54 adX0_reach_54.2.2.1 rfl
theorem dX0_reach_59 : decode cX0_reach 59 = .ok (.if_icmp .ge 36, 3) := dAt wdX0_reach_54 adX0_reach_54.2.2.2.1 rfl
theorem dX0_reach_62 : decode cX0_reach 62 = .ok (.aload_n 0, 1) := dAt wdX0_reach_54 adX0_reach_54.2.2.2.2.1 rfl
theorem dX0_reach_63 : decode cX0_reach 63 = .ok (.iload_n 2, 1) := dAt wdX0_reach_54 adX0_reach_54.2.2.2.2.2.1 rfl
theorem dX0_reach_64 : decode cX0_reach 64 = .ok (.iload_n 3, 1) := dAt wdX0_reach_54 adX0_reach_54.2.2.2.2.2.2.1 rfl
theorem dX0_reach_65 : decode cX0_reach 65 = .ok (.invokevirtual 96, 3) := dAt wdX0_reach_54 adX0_reach_54.2.2.2.2.2.2.2.1 rfl
theorem dX0_reach_68 : decode cX0_reach 68 = .ok (.iconst (-1), 1) := dAt wdX0_reach_54 adX0_reach_54.2.2.2.2.2.2.2.2.1 rfl
theorem dX0_reach_69 : decode cX0_reach 69 = .ok (.if_icmp .eq 20, 3) := dAt wdX0_reach_54 adX0_reach_54.2.2.2.2.2.2.2.2.2.1 rfl
theorem dX0_reach_72 : decode cX0_reach 72 = .ok (.aload_n 0, 1) := dAt wdX0_reach_54 adX0_reach_54.2.2.2.2.2.2.2.2.2.2.1 rfl
theorem dX0_reach_73 : decode cX0_reach 73 = .ok (.getfield 52, 3) := dAt wdX0_reach_54 adX0_reach_54.2.2.2.2.2.2.2.2.2.2.2.1 rfl
theorem dX0_reach_76 : decode cX0_reach 76 = .ok (.iload_n 3, 1) := dAt wdX0_reach_54 adX0_reach_54.2.2.2.2.2.2.2.2.2.2.2.2.1 rfl
theorem dX0_reach_77 : decode cX0_reach 77 = .ok (.iconst 1, 1) := dAt wdX0_reach_54 adX0_reach_54.2.2.2.2.2.2.2.2.2.2.2.2.2.1 rfl
theorem dX0_reach_78 : decode cX0_reach 78 = .ok (.iadd, 1) := dAt wdX0_reach_54 adX0_reach_54.2.2.2.2.2.2.2.2.2.2.2.2.2.2.1 rfl
theorem dX0_reach_79 : decode cX0_reach 79 = .ok (.iconst 1, 1) := dAt wdX0_reach_54 adX0_reach_54.2.2.2.2.2.2.2.2.2.2.2.2.2.2.2 rfl
def bdX0_reach_80 : ByteArray := .mk #[84, 27, 29, 4, 96, 184, 0, 105, 60, 132, 3, 1, 167, 255, 209, 132, 2, 1, 167, 255, 193, 27, 172]
theorem wdX0_reach_80 : LocW cX0_reach 80 bdX0_reach_80 := loc_of (by decide +kernel)
theorem adX0_reach_80 : De bdX0_reach_80 0 (.bastore) 1 ∧ De bdX0_reach_80 1 (.iload_n 1) 1 ∧ De bdX0_reach_80 2 (.iload_n 3) 1 ∧ De bdX0_reach_80 3 (.iconst 1) 1 ∧ De bdX0_reach_80 4 (.iadd) 1 ∧ De bdX0_reach_80 5 (.invokestatic 105) 3 ∧ De bdX0_reach_80 8 (.istore_n 1) 1 ∧ De bdX0_reach_80 9 (.iinc 3 1) 3 ∧ De bdX0_reach_80 12 (.goto (-47)) 3 ∧ De bdX0_reach_80 15 (.iinc 2 1) 3 ∧ De bdX0_reach_80 18 (.goto (-63)) 3 ∧ De bdX0_reach_80 21 (.iload_n 1) 1 ∧ De bdX0_reach_80 22 (.ireturn) 1 := by decide +kernel
theorem dX0_reach_80 : decode cX0_reach 80 = .ok (.bastore, 1) := dAt wdX0_reach_80 adX0_reach_80.1 rfl
theorem dX0_reach_81 : decode cX0_reach 81 = .ok (.iload_n 1, 1) := dAt wdX0_reach_80 adX0_reach_80.2.1 rfl
theorem dX0_reach_82 : decode cX0_reach 82 = .ok (.iload_n 3, 1) := dAt wdX0_reach_80 adX0_reach_80.2.2.1 rfl
theorem dX0_reach_83 : decode cX0_reach 83 = .ok (.iconst 1, 1) := dAt wdX0_reach_80 adX0_reach_80.2.2.2.1 rfl
theorem dX0_reach_84 : decode cX0_reach 84 = .ok (.iadd, 1) := dAt wdX0_reach_80 adX0_reach_80.2.2.2.2.1 rfl
theorem dX0_reach_85 : decode cX0_reach 85 = .ok (.invokestatic 105, 3) := dAt wdX0_reach_80 adX0_reach_80.2.2.2.2.2.1 rfl
theorem dX0_reach_88 : decode cX0_reach 88 = .ok (.istore_n 1, 1) := dAt wdX0_reach_80 adX0_reach_80.2.2.2.2.2.2.1 rfl
theorem dX0_reach_89 : decode cX0_reach 89 = .ok (.iinc 3 1, 3) := dAt wdX0_reach_80 adX0_reach_80.2.2.2.2.2.2.2.1 rfl
theorem dX0_reach_92 : decode cX0_reach 92 = .ok (.goto (-47), 3) := dAt wdX0_reach_80 adX0_reach_80.2.2.2.2.2.2.2.2.1 rfl
theorem dX0_reach_95 : decode cX0_reach 95 = .ok (.iinc 2 1, 3) := dAt wdX0_reach_80 adX0_reach_80.2.2.2.2.2.2.2.2.2.1 rfl
theorem dX0_reach_98 : decode cX0_reach 98 = .ok (.goto (-63), 3) := dAt wdX0_reach_80 adX0_reach_80.2.2.2.2.2.2.2.2.2.2.1 rfl
theorem dX0_reach_101 : decode cX0_reach 101 = .ok (.iload_n 1, 1) := dAt wdX0_reach_80 adX0_reach_80.2.2.2.2.2.2.2.2.2.2.2.1 rfl
theorem dX0_reach_102 : decode cX0_reach 102 = .ok (.ireturn, 1) := dAt wdX0_reach_80 adX0_reach_80.2.2.2.2.2.2.2.2.2.2.2.2 rfl
def bdX0_byHand_0 : ByteArray := .mk #[3, 61, 3, 62, 3, 54, 4, 28, 42, 180, 0, 30, 162, 0, 56, 29, 16, 40, 162, 0, 50, 42, 28, 182, 0, 110]
theorem wdX0_byHand_0 : LocW cX0_byHand 0 bdX0_byHand_0 := loc_of (by decide +kernel)
theorem adX0_byHand_0 : De bdX0_byHand_0 0 (.iconst 0) 1 ∧ De bdX0_byHand_0 1 (.istore_n 2) 1 ∧ De bdX0_byHand_0 2 (.iconst 0) 1 ∧ De bdX0_byHand_0 3 (.istore_n 3) 1 ∧ De bdX0_byHand_0 4 (.iconst 0) 1 ∧ De bdX0_byHand_0 5 (.istore 4) 2 ∧ De bdX0_byHand_0 7 (.iload_n 2) 1 ∧ De bdX0_byHand_0 8 (.aload_n 0) 1 ∧ De bdX0_byHand_0 9 (.getfield 30) 3 ∧ De bdX0_byHand_0 12 (.if_icmp .ge 56) 3 ∧ De bdX0_byHand_0 15 (.iload_n 3) 1 ∧ De bdX0_byHand_0 16 (.bipush 40) 2 ∧ De bdX0_byHand_0 18 (.if_icmp .ge 50) 3 ∧ De bdX0_byHand_0 21 (.aload_n 0) 1 ∧ De bdX0_byHand_0 22 (.iload_n 2) 1 ∧ De bdX0_byHand_0 23 (.invokevirtual 110) 3 := by decide +kernel
theorem dX0_byHand_0 : decode cX0_byHand 0 = .ok (.iconst 0, 1) := dAt wdX0_byHand_0 adX0_byHand_0.1 rfl
theorem dX0_byHand_1 : decode cX0_byHand 1 = .ok (.istore_n 2, 1) := dAt wdX0_byHand_0 adX0_byHand_0.2.1 rfl
theorem dX0_byHand_2 : decode cX0_byHand 2 = .ok (.iconst 0, 1) := dAt wdX0_byHand_0 adX0_byHand_0.2.2.1 rfl
theorem dX0_byHand_3 : decode cX0_byHand 3 = .ok (.istore_n 3, 1) := dAt wdX0_byHand_0 adX0_byHand_0.2.2.2.1 rfl
theorem dX0_byHand_4 : decode cX0_byHand 4 = .ok (.iconst 0, 1) := dAt wdX0_byHand_0 adX0_byHand_0.2.2.2.2.1 rfl
theorem dX0_byHand_5 : decode cX0_byHand 5 = .ok (.istore 4, 2) := dAt wdX0_byHand_0 adX0_byHand_0.2.2.2.2.2.1 rfl
theorem dX0_byHand_7 : decode cX0_byHand 7 = .ok (.iload_n 2, 1) := dAt wdX0_byHand_0 adX0_byHand_0.2.2.2.2.2.2.1 rfl
theorem dX0_byHand_8 : decode cX0_byHand 8 = .ok (.aload_n 0, 1) := dAt wdX0_byHand_0 adX0_byHand_0.2.2.2.2.2.2.2.1 rfl
theorem dX0_byHand_9 : decode cX0_byHand 9 = .ok (.getfield 30, 3) := dAt wdX0_byHand_0 adX0_byHand_0.2.2.2.2.2.2.2.2.1 rfl
theorem dX0_byHand_12 : decode cX0_byHand 12 = .ok (.if_icmp .ge 56, 3) := dAt wdX0_byHand_0 adX0_byHand_0.2.2.2.2.2.2.2.2.2.1 rfl
theorem dX0_byHand_15 : decode cX0_byHand 15 = .ok (.iload_n 3, 1) := dAt wdX0_byHand_0 adX0_byHand_0.2.2.2.2.2.2.2.2.2.2.1 rfl
theorem dX0_byHand_16 : decode cX0_byHand 16 = .ok (.bipush 40, 2) := dAt wdX0_byHand_0 adX0_byHand_0.2.2.2.2.2.2.2.2.2.2.2.1 rfl
theorem dX0_byHand_18 : decode cX0_byHand 18 = .ok (.if_icmp .ge 50, 3) := dAt wdX0_byHand_0 adX0_byHand_0.2.2.2.2.2.2.2.2.2.2.2.2.1 rfl
theorem dX0_byHand_21 : decode cX0_byHand 21 = .ok (.aload_n 0, 1) := dAt wdX0_byHand_0 adX0_byHand_0.2.2.2.2.2.2.2.2.2.2.2.2.2.1 rfl
theorem dX0_byHand_22 : decode cX0_byHand 22 = .ok (.iload_n 2, 1) := dAt wdX0_byHand_0 adX0_byHand_0.2.2.2.2.2.2.2.2.2.2.2.2.2.2.1 rfl
theorem dX0_byHand_23 : decode cX0_byHand 23 = .ok (.invokevirtual 110, 3) := dAt wdX0_byHand_0 adX0_byHand_0.2.2.2.2.2.2.2.2.2.2.2.2.2.2.2 rfl
def bdX0_byHand_26 : ByteArray := .mk #[54, 5, 21, 5, 2, 160, 0, 5, 2, 172, 132, 3, 1, 21, 4, 42, 28, 21, 5, 182, 0, 96, 2, 160, 0, 7, 4, 167, 0, 4]
theorem wdX0_byHand_26 : LocW cX0_byHand 26 bdX0_byHand_26 := loc_of (by decide +kernel)
theorem adX0_byHand_26 : De bdX0_byHand_26 0 (.istore 5) 2 ∧ De bdX0_byHand_26 2 (.iload 5) 2 ∧ De bdX0_byHand_26 4 (.iconst (-1)) 1 ∧ De bdX0_byHand_26 5 (.if_icmp .ne 5) 3 ∧ De bdX0_byHand_26 8 (.iconst (-1)) 1 ∧ De bdX0_byHand_26 9 (.ireturn) 1 ∧ De bdX0_byHand_26 10 (.iinc 3 1) 3 ∧ De bdX0_byHand_26 13 (.iload 4) 2 ∧ De bdX0_byHand_26 15 (.aload_n 0) 1 ∧ De bdX0_byHand_26 16 (.iload_n 2) 1 ∧ De bdX0_byHand_26 17 (.iload 5) 2 ∧ De bdX0_byHand_26 19 (.invokevirtual 96) 3 ∧ De bdX0_byHand_26 22 (.iconst (-1)) 1 ∧ De bdX0_byHand_26 23 (.if_icmp .ne 7) 3 ∧ De bdX0_byHand_26 26 (.iconst 1) 1 ∧ De bdX0_byHand_26 27 (.goto 4) 3 := by decide +kernel
theorem dX0_byHand_26 : decode cX0_byHand 26 = .ok (.istore 5, 2) := dAt wdX0_byHand_26 adX0_byHand_26.1 rfl
theorem dX0_byHand_28 : decode cX0_byHand 28 = .ok (.iload 5, 2) := dAt wdX0_byHand_26 adX0_byHand_26.2.1 rfl
theorem dX0_byHand_30 : decode cX0_byHand 30 = .ok (.iconst (-1), 1) := dAt wdX0_byHand_26 adX0_byHand_26.2.2.1 rfl
theorem dX0_byHand_31 : decode cX0_byHand 31 = .ok (.if_icmp .ne 5, 3) := dAt wdX0_byHand_26 adX0_byHand_26.2.2.2.1 rfl
theorem dX0_byHand_34 : decode cX0_byHand 34 = .ok (.iconst (-1), 1) := dAt wdX0_byHand_26 adX0_byHand_26.2.2.2.2.1 rfl
theorem dX0_byHand_35 : decode cX0_byHand 35 = .ok (.ireturn, 1) := dAt wdX0_byHand_26 adX0_byHand_26.2.2.2.2.2.1 rfl
theorem dX0_byHand_36 : decode cX0_byHand 36 = .ok (.iinc 3 1, 3) := dAt wdX0_byHand_26 adX0_byHand_26.2.2.2.2.2.2.1 rfl
theorem dX0_byHand_39 : decode cX0_byHand 39 = .ok (.iload 4, 2) := dAt wdX0_byHand_26 adX0_byHand_26.2.2.2.2.2.2.2.1 rfl
theorem dX0_byHand_41 : decode cX0_byHand 41 = .ok (.aload_n 0, 1) := dAt wdX0_byHand_26 adX0_byHand_26.2.2.2.2.2.2.2.2.1 rfl
theorem dX0_byHand_42 : decode cX0_byHand 42 = .ok (.iload_n 2, 1) := dAt wdX0_byHand_26 adX0_byHand_26.2.2.2.2.2.2.2.2.2.1 rfl
theorem dX0_byHand_43 : decode cX0_byHand 43 = .ok (.iload 5, 2) := dAt wdX0_byHand_26 adX0_byHand_26.2.2.2.2.2.2.2.2.2.2.1 rfl
theorem dX0_byHand_45 : decode cX0_byHand 45 = .ok (.invokevirtual 96, 3) := dAt wdX0_byHand_26 adX0_byHand_26.2.2.2.2.2.2.2.2.2.2.2.1 rfl
theorem dX0_byHand_48 : decode cX0_byHand 48 = .ok (.iconst (-1), 1) := dAt wdX0_byHand_26 adX0_byHand_26.2.2.2.2.2.2.2.2.2.2.2.2.1 rfl
theorem dX0_byHand_49 : decode cX0_byHand 49 = .ok (.if_icmp .ne 7, 3) := dAt wdX0_byHand_26 adX0_byHand_26.2.2.2.2.2.2.2.2.2.2.2.2.2.1 rfl
theorem dX0_byHand_52 : decode cX0_byHand 52 = .ok (.iconst 1, 1) := dAt wdX0_byHand_26 adX0_byHand_26.2.2.2.2.2.2.2.2.2.2.2.2.2.2.1 rfl
theorem dX0_byHand_53 : decode cX0_byHand 53 = .ok (.goto 4, 3) := dAt wdX0_byHand_26 adX0_byHand_26.2.2.2.2.2.2.2.2.2.2.2.2.2.2.2 rfl
def bdX0_byHand_56 : ByteArray := .mk #[3, 96, 54, 4, 21, 5, 4, 96, 61, 167, 255, 198, 27, 153, 0, 8, 21, 4, 167, 0, 4, 29, 172]
theorem wdX0_byHand_56 : LocW cX0_byHand 56 bdX0_byHand_56 := loc_of (by decide +kernel)
theorem adX0_byHand_56 : De bdX0_byHand_56 0 (.iconst 0) 1 ∧ De bdX0_byHand_56 1 (.iadd) 1 ∧ De bdX0_byHand_56 2 (.istore 4) 2 ∧ De bdX0_byHand_56 4 (.iload 5) 2 ∧ De bdX0_byHand_56 6 (.iconst 1) 1 ∧ De bdX0_byHand_56 7 (.iadd) 1 ∧ De bdX0_byHand_56 8 (.istore_n 2) 1 ∧ De bdX0_byHand_56 9 (.goto (-58)) 3 ∧ De bdX0_byHand_56 12 (.iload_n 1) 1 ∧ De bdX0_byHand_56 13 (.ifCond .eq 8) 3 ∧ De bdX0_byHand_56 16 (.iload 4) 2 ∧ De bdX0_byHand_56 18 (.goto 4) 3 ∧ De bdX0_byHand_56 21 (.iload_n 3) 1 ∧ De bdX0_byHand_56 22 (.ireturn) 1 := by decide +kernel
theorem dX0_byHand_56 : decode cX0_byHand 56 = .ok (.iconst 0, 1) := dAt wdX0_byHand_56 adX0_byHand_56.1 rfl
theorem dX0_byHand_57 : decode cX0_byHand 57 = .ok (.iadd, 1) := dAt wdX0_byHand_56 adX0_byHand_56.2.1 rfl
theorem dX0_byHand_58 : decode cX0_byHand 58 = .ok (.istore 4, 2) := dAt wdX0_byHand_56 adX0_byHand_56.2.2.1 rfl
theorem dX0_byHand_60 : decode cX0_byHand 60 = .ok (.iload 5, 2) := dAt wdX0_byHand_56 adX0_byHand_56.2.2.2.1 rfl
theorem dX0_byHand_62 : decode cX0_byHand 62 = .ok (.iconst 1, 1) := dAt wdX0_byHand_56 adX0_byHand_56.2.2.2.2.1 rfl
theorem dX0_byHand_63 : decode cX0_byHand 63 = .ok (.iadd, 1) := dAt wdX0_byHand_56 adX0_byHand_56.2.2.2.2.2.1 rfl
theorem dX0_byHand_64 : decode cX0_byHand 64 = .ok (.istore_n 2, 1) := dAt wdX0_byHand_56 adX0_byHand_56.2.2.2.2.2.2.1 rfl
theorem dX0_byHand_65 : decode cX0_byHand 65 = .ok (.goto (-58), 3) := dAt wdX0_byHand_56 adX0_byHand_56.2.2.2.2.2.2.2.1 rfl
theorem dX0_byHand_68 : decode cX0_byHand 68 = .ok (.iload_n 1, 1) := dAt wdX0_byHand_56 adX0_byHand_56.2.2.2.2.2.2.2.2.1 rfl
theorem dX0_byHand_69 : decode cX0_byHand 69 = .ok (.ifCond .eq 8, 3) := dAt wdX0_byHand_56 adX0_byHand_56.2.2.2.2.2.2.2.2.2.1 rfl
theorem dX0_byHand_72 : decode cX0_byHand 72 = .ok (.iload 4, 2) := dAt wdX0_byHand_56 adX0_byHand_56.2.2.2.2.2.2.2.2.2.2.1 rfl
theorem dX0_byHand_74 : decode cX0_byHand 74 = .ok (.goto 4, 3) := dAt wdX0_byHand_56 adX0_byHand_56.2.2.2.2.2.2.2.2.2.2.2.1 rfl
theorem dX0_byHand_77 : decode cX0_byHand 77 = .ok (.iload_n 3, 1) := dAt wdX0_byHand_56 adX0_byHand_56.2.2.2.2.2.2.2.2.2.2.2.2.1 rfl
theorem dX0_byHand_78 : decode cX0_byHand 78 = .ok (.ireturn, 1) := dAt wdX0_byHand_56 adX0_byHand_56.2.2.2.2.2.2.2.2.2.2.2.2.2 rfl
def bdX0_longestFrom_0 : ByteArray := .mk #[2, 61, 27, 62, 29, 42, 180, 0, 30, 162, 0, 20, 42, 27, 29, 182, 0, 88, 155, 0, 5, 29, 61, 132, 3, 1]
theorem wdX0_longestFrom_0 : LocW cX0_longestFrom 0 bdX0_longestFrom_0 := loc_of (by decide +kernel)
theorem adX0_longestFrom_0 : De bdX0_longestFrom_0 0 (.iconst (-1)) 1 ∧ De bdX0_longestFrom_0 1 (.istore_n 2) 1 ∧ De bdX0_longestFrom_0 2 (.iload_n 1) 1 ∧ De bdX0_longestFrom_0 3 (.istore_n 3) 1 ∧ De bdX0_longestFrom_0 4 (.iload_n 3) 1 ∧ De bdX0_longestFrom_0 5 (.aload_n 0) 1 ∧ De bdX0_longestFrom_0 6 (.getfield 30) 3 ∧ De bdX0_longestFrom_0 9 (.if_icmp .ge 20) 3 ∧ De bdX0_longestFrom_0 12 (.aload_n 0) 1 ∧ De bdX0_longestFrom_0 13 (.iload_n 1) 1 ∧ De bdX0_longestFrom_0 14 (.iload_n 3) 1 ∧ De bdX0_longestFrom_0 15 (.invokevirtual 88) 3 ∧ De bdX0_longestFrom_0 18 (.ifCond .lt 5) 3 ∧ De bdX0_longestFrom_0 21 (.iload_n 3) 1 ∧ De bdX0_longestFrom_0 22 (.istore_n 2) 1 ∧ De bdX0_longestFrom_0 23 (.iinc 3 1) 3 := by decide +kernel
theorem dX0_longestFrom_0 : decode cX0_longestFrom 0 = .ok (.iconst (-1), 1) := dAt wdX0_longestFrom_0 adX0_longestFrom_0.1 rfl
theorem dX0_longestFrom_1 : decode cX0_longestFrom 1 = .ok (.istore_n 2, 1) := dAt wdX0_longestFrom_0 adX0_longestFrom_0.2.1 rfl
theorem dX0_longestFrom_2 : decode cX0_longestFrom 2 = .ok (.iload_n 1, 1) := dAt wdX0_longestFrom_0 adX0_longestFrom_0.2.2.1 rfl
theorem dX0_longestFrom_3 : decode cX0_longestFrom 3 = .ok (.istore_n 3, 1) := dAt wdX0_longestFrom_0 adX0_longestFrom_0.2.2.2.1 rfl
theorem dX0_longestFrom_4 : decode cX0_longestFrom 4 = .ok (.iload_n 3, 1) := dAt wdX0_longestFrom_0 adX0_longestFrom_0.2.2.2.2.1 rfl
theorem dX0_longestFrom_5 : decode cX0_longestFrom 5 = .ok (.aload_n 0, 1) := dAt wdX0_longestFrom_0 adX0_longestFrom_0.2.2.2.2.2.1 rfl
theorem dX0_longestFrom_6 : decode cX0_longestFrom 6 = .ok (.getfield 30, 3) := dAt wdX0_longestFrom_0 adX0_longestFrom_0.2.2.2.2.2.2.1 rfl
theorem dX0_longestFrom_9 : decode cX0_longestFrom 9 = .ok (.if_icmp .ge 20, 3) := dAt wdX0_longestFrom_0 adX0_longestFrom_0.2.2.2.2.2.2.2.1 rfl
theorem dX0_longestFrom_12 : decode cX0_longestFrom 12 = .ok (.aload_n 0, 1) := dAt wdX0_longestFrom_0 adX0_longestFrom_0.2.2.2.2.2.2.2.2.1 rfl
theorem dX0_longestFrom_13 : decode cX0_longestFrom 13 = .ok (.iload_n 1, 1) := dAt wdX0_longestFrom_0 adX0_longestFrom_0.2.2.2.2.2.2.2.2.2.1 rfl
theorem dX0_longestFrom_14 : decode cX0_longestFrom 14 = .ok (.iload_n 3, 1) := dAt wdX0_longestFrom_0 adX0_longestFrom_0.2.2.2.2.2.2.2.2.2.2.1 rfl
theorem dX0_longestFrom_15 : decode cX0_longestFrom 15 = .ok (.invokevirtual 88, 3) := dAt wdX0_longestFrom_0 adX0_longestFrom_0.2.2.2.2.2.2.2.2.2.2.2.1 rfl
theorem dX0_longestFrom_18 : decode cX0_longestFrom 18 = .ok (.ifCond .lt 5, 3) := dAt wdX0_longestFrom_0 adX0_longestFrom_0.2.2.2.2.2.2.2.2.2.2.2.2.1 rfl
theorem dX0_longestFrom_21 : decode cX0_longestFrom 21 = .ok (.iload_n 3, 1) := dAt wdX0_longestFrom_0 adX0_longestFrom_0.2.2.2.2.2.2.2.2.2.2.2.2.2.1 rfl
theorem dX0_longestFrom_22 : decode cX0_longestFrom 22 = .ok (.istore_n 2, 1) := dAt wdX0_longestFrom_0 adX0_longestFrom_0.2.2.2.2.2.2.2.2.2.2.2.2.2.2.1 rfl
theorem dX0_longestFrom_23 : decode cX0_longestFrom 23 = .ok (.iinc 3 1, 3) := dAt wdX0_longestFrom_0 adX0_longestFrom_0.2.2.2.2.2.2.2.2.2.2.2.2.2.2.2 rfl
def bdX0_longestFrom_26 : ByteArray := .mk #[167, 255, 234, 28, 172]
theorem wdX0_longestFrom_26 : LocW cX0_longestFrom 26 bdX0_longestFrom_26 := loc_of (by decide +kernel)
theorem adX0_longestFrom_26 : De bdX0_longestFrom_26 0 (.goto (-22)) 3 ∧ De bdX0_longestFrom_26 3 (.iload_n 2) 1 ∧ De bdX0_longestFrom_26 4 (.ireturn) 1 := by decide +kernel
theorem dX0_longestFrom_26 : decode cX0_longestFrom 26 = .ok (.goto (-22), 3) := dAt wdX0_longestFrom_26 adX0_longestFrom_26.1 rfl
theorem dX0_longestFrom_29 : decode cX0_longestFrom 29 = .ok (.iload_n 2, 1) := dAt wdX0_longestFrom_26 adX0_longestFrom_26.2.1 rfl
theorem dX0_longestFrom_30 : decode cX0_longestFrom 30 = .ok (.ireturn, 1) := dAt wdX0_longestFrom_26 adX0_longestFrom_26.2.2 rfl
def bdX1_firstWrong_0 : ByteArray := .mk #[4, 54, 5, 3, 54, 6, 21, 4, 54, 7, 3, 54, 8, 3, 54, 9, 3, 54, 10, 21, 10, 27, 162, 0, 151, 21, 10]
theorem wdX1_firstWrong_0 : LocW cX1_firstWrong 0 bdX1_firstWrong_0 := loc_of (by decide +kernel)
theorem adX1_firstWrong_0 : De bdX1_firstWrong_0 0 (.iconst 1) 1 ∧ De bdX1_firstWrong_0 1 (.istore 5) 2 ∧ De bdX1_firstWrong_0 3 (.iconst 0) 1 ∧ De bdX1_firstWrong_0 4 (.istore 6) 2 ∧ De bdX1_firstWrong_0 6 (.iload 4) 2 ∧ De bdX1_firstWrong_0 8 (.istore 7) 2 ∧ De bdX1_firstWrong_0 10 (.iconst 0) 1 ∧ De bdX1_firstWrong_0 11 (.istore 8) 2 ∧ De bdX1_firstWrong_0 13 (.iconst 0) 1 ∧ De bdX1_firstWrong_0 14 (.istore 9) 2 ∧ De bdX1_firstWrong_0 16 (.iconst 0) 1 ∧ De bdX1_firstWrong_0 17 (.istore 10) 2 ∧ De bdX1_firstWrong_0 19 (.iload 10) 2 ∧ De bdX1_firstWrong_0 21 (.iload_n 1) 1 ∧ De bdX1_firstWrong_0 22 (.if_icmp .ge 151) 3 ∧ De bdX1_firstWrong_0 25 (.iload 10) 2 := by decide +kernel
theorem dX1_firstWrong_0 : decode cX1_firstWrong 0 = .ok (.iconst 1, 1) := dAt wdX1_firstWrong_0 adX1_firstWrong_0.1 rfl
theorem dX1_firstWrong_1 : decode cX1_firstWrong 1 = .ok (.istore 5, 2) := dAt wdX1_firstWrong_0 adX1_firstWrong_0.2.1 rfl
theorem dX1_firstWrong_3 : decode cX1_firstWrong 3 = .ok (.iconst 0, 1) := dAt wdX1_firstWrong_0 adX1_firstWrong_0.2.2.1 rfl
theorem dX1_firstWrong_4 : decode cX1_firstWrong 4 = .ok (.istore 6, 2) := dAt wdX1_firstWrong_0 adX1_firstWrong_0.2.2.2.1 rfl
theorem dX1_firstWrong_6 : decode cX1_firstWrong 6 = .ok (.iload 4, 2) := dAt wdX1_firstWrong_0 adX1_firstWrong_0.2.2.2.2.1 rfl
theorem dX1_firstWrong_8 : decode cX1_firstWrong 8 = .ok (.istore 7, 2) := dAt wdX1_firstWrong_0 adX1_firstWrong_0.2.2.2.2.2.1 rfl
theorem dX1_firstWrong_10 : decode cX1_firstWrong 10 = .ok (.iconst 0, 1) := dAt wdX1_firstWrong_0 adX1_firstWrong_0.2.2.2.2.2.2.1 rfl
theorem dX1_firstWrong_11 : decode cX1_firstWrong 11 = .ok (.istore 8, 2) := dAt wdX1_firstWrong_0 adX1_firstWrong_0.2.2.2.2.2.2.2.1 rfl
theorem dX1_firstWrong_13 : decode cX1_firstWrong 13 = .ok (.iconst 0, 1) := dAt wdX1_firstWrong_0 adX1_firstWrong_0.2.2.2.2.2.2.2.2.1 rfl
theorem dX1_firstWrong_14 : decode cX1_firstWrong 14 = .ok (.istore 9, 2) := dAt wdX1_firstWrong_0 adX1_firstWrong_0.2.2.2.2.2.2.2.2.2.1 rfl
theorem dX1_firstWrong_16 : decode cX1_firstWrong 16 = .ok (.iconst 0, 1) := dAt wdX1_firstWrong_0 adX1_firstWrong_0.2.2.2.2.2.2.2.2.2.2.1 rfl
theorem dX1_firstWrong_17 : decode cX1_firstWrong 17 = .ok (.istore 10, 2) := dAt wdX1_firstWrong_0 adX1_firstWrong_0.2.2.2.2.2.2.2.2.2.2.2.1 rfl
theorem dX1_firstWrong_19 : decode cX1_firstWrong 19 = .ok (.iload 10, 2) := dAt wdX1_firstWrong_0 adX1_firstWrong_0.2.2.2.2.2.2.2.2.2.2.2.2.1 rfl
theorem dX1_firstWrong_21 : decode cX1_firstWrong 21 = .ok (.iload_n 1, 1) := dAt wdX1_firstWrong_0 adX1_firstWrong_0.2.2.2.2.2.2.2.2.2.2.2.2.2.1 rfl
theorem dX1_firstWrong_22 : decode cX1_firstWrong 22 = .ok (.if_icmp .ge 151, 3) := dAt wdX1_firstWrong_0 adX1_firstWrong_0.2.2.2.2.2.2.2.2.2.2.2.2.2.2.1 rfl
theorem dX1_firstWrong_25 : decode cX1_firstWrong 25 = .ok (.iload 10, 2) := dAt wdX1_firstWrong_0 adX1_firstWrong_0.2.2.2.2.2.2.2.2.2.2.2.2.2.2.2 rfl
def bdX1_firstWrong_27 : ByteArray := .mk #[42, 190, 162, 0, 144, 42, 21, 10, 51, 54, 11, 21, 11, 184, 0, 9, 153, 0, 55, 21, 8, 154, 0, 21, 21, 6, 21, 9, 153, 0, 7, 3]
theorem wdX1_firstWrong_27 : LocW cX1_firstWrong 27 bdX1_firstWrong_27 := loc_of (by decide +kernel)
theorem adX1_firstWrong_27 : De bdX1_firstWrong_27 0 (.aload_n 0) 1 ∧ De bdX1_firstWrong_27 1 (.arraylength) 1 ∧ De bdX1_firstWrong_27 2 (.if_icmp .ge 144) 3 ∧ De bdX1_firstWrong_27 5 (.aload_n 0) 1 ∧ De bdX1_firstWrong_27 6 (.iload 10) 2 ∧ De bdX1_firstWrong_27 8 (.baload) 1 ∧ De bdX1_firstWrong_27 9 (.istore 11) 2 ∧ De bdX1_firstWrong_27 11 (.iload 11) 2 ∧ De bdX1_firstWrong_27 13 (.invokestatic 9) 3 ∧ De bdX1_firstWrong_27 16 (.ifCond .eq 55) 3 ∧ De bdX1_firstWrong_27 19 (.iload 8) 2 ∧ De bdX1_firstWrong_27 21 (.ifCond .ne 21) 3 ∧ De bdX1_firstWrong_27 24 (.iload 6) 2 ∧ De bdX1_firstWrong_27 26 (.iload 9) 2 ∧ De bdX1_firstWrong_27 28 (.ifCond .eq 7) 3 ∧ De bdX1_firstWrong_27 31 (.iconst 0) 1 := by decide +kernel
theorem dX1_firstWrong_27 : decode cX1_firstWrong 27 = .ok (.aload_n 0, 1) := dAt wdX1_firstWrong_27 adX1_firstWrong_27.1 rfl
theorem dX1_firstWrong_28 : decode cX1_firstWrong 28 = .ok (.arraylength, 1) := dAt wdX1_firstWrong_27 adX1_firstWrong_27.2.1 rfl
theorem dX1_firstWrong_29 : decode cX1_firstWrong 29 = .ok (.if_icmp .ge 144, 3) := dAt wdX1_firstWrong_27 adX1_firstWrong_27.2.2.1 rfl
theorem dX1_firstWrong_32 : decode cX1_firstWrong 32 = .ok (.aload_n 0, 1) := dAt wdX1_firstWrong_27 adX1_firstWrong_27.2.2.2.1 rfl
theorem dX1_firstWrong_33 : decode cX1_firstWrong 33 = .ok (.iload 10, 2) := dAt wdX1_firstWrong_27 adX1_firstWrong_27.2.2.2.2.1 rfl
theorem dX1_firstWrong_35 : decode cX1_firstWrong 35 = .ok (.baload, 1) := dAt wdX1_firstWrong_27 adX1_firstWrong_27.2.2.2.2.2.1 rfl
theorem dX1_firstWrong_36 : decode cX1_firstWrong 36 = .ok (.istore 11, 2) := dAt wdX1_firstWrong_27 adX1_firstWrong_27.2.2.2.2.2.2.1 rfl
theorem dX1_firstWrong_38 : decode cX1_firstWrong 38 = .ok (.iload 11, 2) := dAt wdX1_firstWrong_27 adX1_firstWrong_27.2.2.2.2.2.2.2.1 rfl
theorem dX1_firstWrong_40 : decode cX1_firstWrong 40 = .ok (.invokestatic 9, 3) := dAt wdX1_firstWrong_27 adX1_firstWrong_27.2.2.2.2.2.2.2.2.1 rfl
theorem dX1_firstWrong_43 : decode cX1_firstWrong 43 = .ok (.ifCond .eq 55, 3) := dAt wdX1_firstWrong_27 adX1_firstWrong_27.2.2.2.2.2.2.2.2.2.1 rfl
theorem dX1_firstWrong_46 : decode cX1_firstWrong 46 = .ok (.iload 8, 2) := dAt wdX1_firstWrong_27 adX1_firstWrong_27.2.2.2.2.2.2.2.2.2.2.1 rfl
theorem dX1_firstWrong_48 : decode cX1_firstWrong 48 = .ok (.ifCond .ne 21, 3) := dAt wdX1_firstWrong_27 adX1_firstWrong_27.2.2.2.2.2.2.2.2.2.2.2.1 rfl
theorem dX1_firstWrong_51 : decode cX1_firstWrong 51 = .ok (.iload 6, 2) := dAt wdX1_firstWrong_27 adX1_firstWrong_27.2.2.2.2.2.2.2.2.2.2.2.2.1 rfl
theorem dX1_firstWrong_53 : decode cX1_firstWrong 53 = .ok (.iload 9, 2) := dAt wdX1_firstWrong_27 adX1_firstWrong_27.2.2.2.2.2.2.2.2.2.2.2.2.2.1 rfl
theorem dX1_firstWrong_55 : decode cX1_firstWrong 55 = .ok (.ifCond .eq 7, 3) := dAt wdX1_firstWrong_27 adX1_firstWrong_27.2.2.2.2.2.2.2.2.2.2.2.2.2.2.1 rfl
theorem dX1_firstWrong_58 : decode cX1_firstWrong 58 = .ok (.iconst 0, 1) := dAt wdX1_firstWrong_27 adX1_firstWrong_27.2.2.2.2.2.2.2.2.2.2.2.2.2.2.2 rfl
def bdX1_firstWrong_59 : ByteArray := .mk #[167, 0, 4, 4, 96, 54, 6, 132, 7, 1, 132, 8, 1, 3, 54, 9, 21, 6, 29, 163, 0, 17, 21, 7, 16, 40, 163, 0, 10, 21, 8, 16, 12]
theorem wdX1_firstWrong_59 : LocW cX1_firstWrong 59 bdX1_firstWrong_59 := loc_of (by decide +kernel)
theorem adX1_firstWrong_59 : De bdX1_firstWrong_59 0 (.goto 4) 3 ∧ De bdX1_firstWrong_59 3 (.iconst 1) 1 ∧ De bdX1_firstWrong_59 4 (.iadd) 1 ∧ De bdX1_firstWrong_59 5 (.istore 6) 2 ∧ De bdX1_firstWrong_59 7 (.iinc 7 1) 3 ∧ De bdX1_firstWrong_59 10 (.iinc 8 1) 3 ∧ De bdX1_firstWrong_59 13 (.iconst 0) 1 ∧ De bdX1_firstWrong_59 14 (.istore 9) 2 ∧ De bdX1_firstWrong_59 16 (.iload 6) 2 ∧ De bdX1_firstWrong_59 18 (.iload_n 3) 1 ∧ De bdX1_firstWrong_59 19 (.if_icmp .gt 17) 3 ∧ De bdX1_firstWrong_59 22 (.iload 7) 2 ∧ De bdX1_firstWrong_59 24 (.bipush 40) 2 ∧ De bdX1_firstWrong_59 26 (.if_icmp .gt 10) 3 ∧ De bdX1_firstWrong_59 29 (.iload 8) 2 ∧ De bdX1_firstWrong_59 31 (.bipush 12) 2 := by decide +kernel
theorem dX1_firstWrong_59 : decode cX1_firstWrong 59 = .ok (.goto 4, 3) := dAt wdX1_firstWrong_59 adX1_firstWrong_59.1 rfl
theorem dX1_firstWrong_62 : decode cX1_firstWrong 62 = .ok (.iconst 1, 1) := dAt wdX1_firstWrong_59 adX1_firstWrong_59.2.1 rfl
theorem dX1_firstWrong_63 : decode cX1_firstWrong 63 = .ok (.iadd, 1) := dAt wdX1_firstWrong_59 adX1_firstWrong_59.2.2.1 rfl
theorem dX1_firstWrong_64 : decode cX1_firstWrong 64 = .ok (.istore 6, 2) := dAt wdX1_firstWrong_59 adX1_firstWrong_59.2.2.2.1 rfl
theorem dX1_firstWrong_66 : decode cX1_firstWrong 66 = .ok (.iinc 7 1, 3) := dAt wdX1_firstWrong_59 adX1_firstWrong_59.2.2.2.2.1 rfl
theorem dX1_firstWrong_69 : decode cX1_firstWrong 69 = .ok (.iinc 8 1, 3) := dAt wdX1_firstWrong_59 adX1_firstWrong_59.2.2.2.2.2.1 rfl
theorem dX1_firstWrong_72 : decode cX1_firstWrong 72 = .ok (.iconst 0, 1) := dAt wdX1_firstWrong_59 adX1_firstWrong_59.2.2.2.2.2.2.1 rfl
theorem dX1_firstWrong_73 : decode cX1_firstWrong 73 = .ok (.istore 9, 2) := dAt wdX1_firstWrong_59 adX1_firstWrong_59.2.2.2.2.2.2.2.1 rfl
theorem dX1_firstWrong_75 : decode cX1_firstWrong 75 = .ok (.iload 6, 2) := dAt wdX1_firstWrong_59 adX1_firstWrong_59.2.2.2.2.2.2.2.2.1 rfl
theorem dX1_firstWrong_77 : decode cX1_firstWrong 77 = .ok (.iload_n 3, 1) := dAt wdX1_firstWrong_59 adX1_firstWrong_59.2.2.2.2.2.2.2.2.2.1 rfl
theorem dX1_firstWrong_78 : decode cX1_firstWrong 78 = .ok (.if_icmp .gt 17, 3) := dAt wdX1_firstWrong_59 adX1_firstWrong_59.2.2.2.2.2.2.2.2.2.2.1 rfl
theorem dX1_firstWrong_81 : decode cX1_firstWrong 81 = .ok (.iload 7, 2) := dAt wdX1_firstWrong_59 adX1_firstWrong_59.2.2.2.2.2.2.2.2.2.2.2.1 rfl
theorem dX1_firstWrong_83 : decode cX1_firstWrong 83 = .ok (.bipush 40, 2) := dAt wdX1_firstWrong_59 adX1_firstWrong_59.2.2.2.2.2.2.2.2.2.2.2.2.1 rfl
theorem dX1_firstWrong_85 : decode cX1_firstWrong 85 = .ok (.if_icmp .gt 10, 3) := dAt wdX1_firstWrong_59 adX1_firstWrong_59.2.2.2.2.2.2.2.2.2.2.2.2.2.1 rfl
theorem dX1_firstWrong_88 : decode cX1_firstWrong 88 = .ok (.iload 8, 2) := dAt wdX1_firstWrong_59 adX1_firstWrong_59.2.2.2.2.2.2.2.2.2.2.2.2.2.2.1 rfl
theorem dX1_firstWrong_90 : decode cX1_firstWrong 90 = .ok (.bipush 12, 2) := dAt wdX1_firstWrong_59 adX1_firstWrong_59.2.2.2.2.2.2.2.2.2.2.2.2.2.2.2 rfl
def bdX1_firstWrong_92 : ByteArray := .mk #[164, 0, 75, 21, 10, 172, 21, 9, 153, 0, 6, 21, 10, 172, 21, 11, 16, 45, 160, 0, 14, 21, 8, 158, 0, 9, 4, 54, 9, 167, 0, 43, 21, 11]
theorem wdX1_firstWrong_92 : LocW cX1_firstWrong 92 bdX1_firstWrong_92 := loc_of (by decide +kernel)
theorem adX1_firstWrong_92 : De bdX1_firstWrong_92 0 (.if_icmp .le 75) 3 ∧ De bdX1_firstWrong_92 3 (.iload 10) 2 ∧ De bdX1_firstWrong_92 5 (.ireturn) 1 ∧ De bdX1_firstWrong_92 6 (.iload 9) 2 ∧ De bdX1_firstWrong_92 8 (.ifCond .eq 6) 3 ∧ De bdX1_firstWrong_92 11 (.iload 10) 2 ∧ De bdX1_firstWrong_92 13 (.ireturn) 1 ∧ De bdX1_firstWrong_92 14 (.iload 11) 2 ∧ De bdX1_firstWrong_92 16 (.bipush 45) 2 ∧ De bdX1_firstWrong_92 18 (.if_icmp .ne 14) 3 ∧ De bdX1_firstWrong_92 21 (.iload 8) 2 ∧ De bdX1_firstWrong_92 23 (.ifCond .le 9) 3 ∧ De bdX1_firstWrong_92 26 (.iconst 1) 1 ∧ De bdX1_firstWrong_92 27 (.istore 9) 2 ∧ De bdX1_firstWrong_92 29 (.goto 43) 3 ∧ De bdX1_firstWrong_92 32 (.iload 11) 2 := by decide +kernel
theorem dX1_firstWrong_92 : decode cX1_firstWrong 92 = .ok (.if_icmp .le 75, 3) := dAt wdX1_firstWrong_92 adX1_firstWrong_92.1 rfl
theorem dX1_firstWrong_95 : decode cX1_firstWrong 95 = .ok (.iload 10, 2) := dAt wdX1_firstWrong_92 adX1_firstWrong_92.2.1 rfl
theorem dX1_firstWrong_97 : decode cX1_firstWrong 97 = .ok (.ireturn, 1) := dAt wdX1_firstWrong_92 adX1_firstWrong_92.2.2.1 rfl
theorem dX1_firstWrong_98 : decode cX1_firstWrong 98 = .ok (.iload 9, 2) := dAt wdX1_firstWrong_92 adX1_firstWrong_92.2.2.2.1 rfl
theorem dX1_firstWrong_100 : decode cX1_firstWrong 100 = .ok (.ifCond .eq 6, 3) := dAt wdX1_firstWrong_92 adX1_firstWrong_92.2.2.2.2.1 rfl
theorem dX1_firstWrong_103 : decode cX1_firstWrong 103 = .ok (.iload 10, 2) := dAt wdX1_firstWrong_92 adX1_firstWrong_92.2.2.2.2.2.1 rfl
theorem dX1_firstWrong_105 : decode cX1_firstWrong 105 = .ok (.ireturn, 1) := dAt wdX1_firstWrong_92 adX1_firstWrong_92.2.2.2.2.2.2.1 rfl
theorem dX1_firstWrong_106 : decode cX1_firstWrong 106 = .ok (.iload 11, 2) := dAt wdX1_firstWrong_92 adX1_firstWrong_92.2.2.2.2.2.2.2.1 rfl
theorem dX1_firstWrong_108 : decode cX1_firstWrong 108 = .ok (.bipush 45, 2) := dAt wdX1_firstWrong_92 adX1_firstWrong_92.2.2.2.2.2.2.2.2.1 rfl
theorem dX1_firstWrong_110 : decode cX1_firstWrong 110 = .ok (.if_icmp .ne 14, 3) := dAt wdX1_firstWrong_92 adX1_firstWrong_92.2.2.2.2.2.2.2.2.2.1 rfl
theorem dX1_firstWrong_113 : decode cX1_firstWrong 113 = .ok (.iload 8, 2) := dAt wdX1_firstWrong_92 adX1_firstWrong_92.2.2.2.2.2.2.2.2.2.2.1 rfl
theorem dX1_firstWrong_115 : decode cX1_firstWrong 115 = .ok (.ifCond .le 9, 3) := dAt wdX1_firstWrong_92 adX1_firstWrong_92.2.2.2.2.2.2.2.2.2.2.2.1 rfl
theorem dX1_firstWrong_118 : decode cX1_firstWrong 118 = .ok (.iconst 1, 1) := dAt wdX1_firstWrong_92 adX1_firstWrong_92.2.2.2.2.2.2.2.2.2.2.2.2.1 rfl
theorem dX1_firstWrong_119 : decode cX1_firstWrong 119 = .ok (.istore 9, 2) := dAt wdX1_firstWrong_92 adX1_firstWrong_92.2.2.2.2.2.2.2.2.2.2.2.2.2.1 rfl
theorem dX1_firstWrong_121 : decode cX1_firstWrong 121 = .ok (.goto 43, 3) := dAt wdX1_firstWrong_92 adX1_firstWrong_92.2.2.2.2.2.2.2.2.2.2.2.2.2.2.1 rfl
theorem dX1_firstWrong_124 : decode cX1_firstWrong 124 = .ok (.iload 11, 2) := dAt wdX1_firstWrong_92 adX1_firstWrong_92.2.2.2.2.2.2.2.2.2.2.2.2.2.2.2 rfl
def bdX1_firstWrong_126 : ByteArray := .mk #[16, 47, 160, 0, 26, 21, 6, 158, 0, 21, 21, 5, 28, 162, 0, 15, 132, 5, 1, 3, 54, 6, 3, 54, 7, 167, 0, 13, 21, 11, 16, 32, 159, 0, 6]
theorem wdX1_firstWrong_126 : LocW cX1_firstWrong 126 bdX1_firstWrong_126 := loc_of (by decide +kernel)
theorem adX1_firstWrong_126 : De bdX1_firstWrong_126 0 (.bipush 47) 2 ∧ De bdX1_firstWrong_126 2 (.if_icmp .ne 26) 3 ∧ De bdX1_firstWrong_126 5 (.iload 6) 2 ∧ De bdX1_firstWrong_126 7 (.ifCond .le 21) 3 ∧ De bdX1_firstWrong_126 10 (.iload 5) 2 ∧ De bdX1_firstWrong_126 12 (.iload_n 2) 1 ∧ De bdX1_firstWrong_126 13 (.if_icmp .ge 15) 3 ∧ De bdX1_firstWrong_126 16 (.iinc 5 1) 3 ∧ De bdX1_firstWrong_126 19 (.iconst 0) 1 ∧ De bdX1_firstWrong_126 20 (.istore 6) 2 ∧ De bdX1_firstWrong_126 22 (.iconst 0) 1 ∧ De bdX1_firstWrong_126 23 (.istore 7) 2 ∧ De bdX1_firstWrong_126 25 (.goto 13) 3 ∧ De bdX1_firstWrong_126 28 (.iload 11) 2 ∧ De bdX1_firstWrong_126 30 (.bipush 32) 2 ∧ De bdX1_firstWrong_126 32 (.if_icmp .eq 6) 3 := by decide +kernel
theorem dX1_firstWrong_126 : decode cX1_firstWrong 126 = .ok (.bipush 47, 2) := dAt wdX1_firstWrong_126 adX1_firstWrong_126.1 rfl
theorem dX1_firstWrong_128 : decode cX1_firstWrong 128 = .ok (.if_icmp .ne 26, 3) := dAt wdX1_firstWrong_126 adX1_firstWrong_126.2.1 rfl
theorem dX1_firstWrong_131 : decode cX1_firstWrong 131 = .ok (.iload 6, 2) := dAt wdX1_firstWrong_126 adX1_firstWrong_126.2.2.1 rfl
theorem dX1_firstWrong_133 : decode cX1_firstWrong 133 = .ok (.ifCond .le 21, 3) := dAt wdX1_firstWrong_126 adX1_firstWrong_126.2.2.2.1 rfl
theorem dX1_firstWrong_136 : decode cX1_firstWrong 136 = .ok (.iload 5, 2) := dAt wdX1_firstWrong_126 adX1_firstWrong_126.2.2.2.2.1 rfl
theorem dX1_firstWrong_138 : decode cX1_firstWrong 138 = .ok (.iload_n 2, 1) := dAt wdX1_firstWrong_126 adX1_firstWrong_126.2.2.2.2.2.1 rfl
theorem dX1_firstWrong_139 : decode cX1_firstWrong 139 = .ok (.if_icmp .ge 15, 3) := dAt wdX1_firstWrong_126 adX1_firstWrong_126.2.2.2.2.2.2.1 rfl
theorem dX1_firstWrong_142 : decode cX1_firstWrong 142 = .ok (.iinc 5 1, 3) := dAt wdX1_firstWrong_126 adX1_firstWrong_126.2.2.2.2.2.2.2.1 rfl
theorem dX1_firstWrong_145 : decode cX1_firstWrong 145 = .ok (.iconst 0, 1) := dAt wdX1_firstWrong_126 adX1_firstWrong_126.2.2.2.2.2.2.2.2.1 rfl
theorem dX1_firstWrong_146 : decode cX1_firstWrong 146 = .ok (.istore 6, 2) := dAt wdX1_firstWrong_126 adX1_firstWrong_126.2.2.2.2.2.2.2.2.2.1 rfl
theorem dX1_firstWrong_148 : decode cX1_firstWrong 148 = .ok (.iconst 0, 1) := dAt wdX1_firstWrong_126 adX1_firstWrong_126.2.2.2.2.2.2.2.2.2.2.1 rfl
theorem dX1_firstWrong_149 : decode cX1_firstWrong 149 = .ok (.istore 7, 2) := dAt wdX1_firstWrong_126 adX1_firstWrong_126.2.2.2.2.2.2.2.2.2.2.2.1 rfl
theorem dX1_firstWrong_151 : decode cX1_firstWrong 151 = .ok (.goto 13, 3) := dAt wdX1_firstWrong_126 adX1_firstWrong_126.2.2.2.2.2.2.2.2.2.2.2.2.1 rfl
theorem dX1_firstWrong_154 : decode cX1_firstWrong 154 = .ok (.iload 11, 2) := dAt wdX1_firstWrong_126 adX1_firstWrong_126.2.2.2.2.2.2.2.2.2.2.2.2.2.1 rfl
theorem dX1_firstWrong_156 : decode cX1_firstWrong 156 = .ok (.bipush 32, 2) := dAt wdX1_firstWrong_126 adX1_firstWrong_126.2.2.2.2.2.2.2.2.2.2.2.2.2.2.1 rfl
theorem dX1_firstWrong_158 : decode cX1_firstWrong 158 = .ok (.if_icmp .eq 6, 3) := dAt wdX1_firstWrong_126 adX1_firstWrong_126.2.2.2.2.2.2.2.2.2.2.2.2.2.2.2 rfl
def bdX1_firstWrong_161 : ByteArray := .mk #[21, 10, 172, 3, 54, 8, 132, 10, 1, 167, 255, 105, 21, 9, 154, 0, 8, 21, 6, 154, 0, 7, 27, 167, 0, 4, 2, 172]
theorem wdX1_firstWrong_161 : LocW cX1_firstWrong 161 bdX1_firstWrong_161 := loc_of (by decide +kernel)
theorem adX1_firstWrong_161 : De bdX1_firstWrong_161 0 (.iload 10) 2 ∧ De bdX1_firstWrong_161 2 (.ireturn) 1 ∧ De bdX1_firstWrong_161 3 (.iconst 0) 1 ∧ De bdX1_firstWrong_161 4 (.istore 8) 2 ∧ De bdX1_firstWrong_161 6 (.iinc 10 1) 3 ∧ De bdX1_firstWrong_161 9 (.goto (-151)) 3 ∧ De bdX1_firstWrong_161 12 (.iload 9) 2 ∧ De bdX1_firstWrong_161 14 (.ifCond .ne 8) 3 ∧ De bdX1_firstWrong_161 17 (.iload 6) 2 ∧ De bdX1_firstWrong_161 19 (.ifCond .ne 7) 3 ∧ De bdX1_firstWrong_161 22 (.iload_n 1) 1 ∧ De bdX1_firstWrong_161 23 (.goto 4) 3 ∧ De bdX1_firstWrong_161 26 (.iconst (-1)) 1 ∧ De bdX1_firstWrong_161 27 (.ireturn) 1 := by decide +kernel
theorem dX1_firstWrong_161 : decode cX1_firstWrong 161 = .ok (.iload 10, 2) := dAt wdX1_firstWrong_161 adX1_firstWrong_161.1 rfl
theorem dX1_firstWrong_163 : decode cX1_firstWrong 163 = .ok (.ireturn, 1) := dAt wdX1_firstWrong_161 adX1_firstWrong_161.2.1 rfl
theorem dX1_firstWrong_164 : decode cX1_firstWrong 164 = .ok (.iconst 0, 1) := dAt wdX1_firstWrong_161 adX1_firstWrong_161.2.2.1 rfl
theorem dX1_firstWrong_165 : decode cX1_firstWrong 165 = .ok (.istore 8, 2) := dAt wdX1_firstWrong_161 adX1_firstWrong_161.2.2.2.1 rfl
theorem dX1_firstWrong_167 : decode cX1_firstWrong 167 = .ok (.iinc 10 1, 3) := dAt wdX1_firstWrong_161 adX1_firstWrong_161.2.2.2.2.1 rfl
theorem dX1_firstWrong_170 : decode cX1_firstWrong 170 = .ok (.goto (-151), 3) := dAt wdX1_firstWrong_161 adX1_firstWrong_161.2.2.2.2.2.1 rfl
theorem dX1_firstWrong_173 : decode cX1_firstWrong 173 = .ok (.iload 9, 2) := dAt wdX1_firstWrong_161 adX1_firstWrong_161.2.2.2.2.2.2.1 rfl
theorem dX1_firstWrong_175 : decode cX1_firstWrong 175 = .ok (.ifCond .ne 8, 3) := dAt wdX1_firstWrong_161 adX1_firstWrong_161.2.2.2.2.2.2.2.1 rfl
theorem dX1_firstWrong_178 : decode cX1_firstWrong 178 = .ok (.iload 6, 2) := dAt wdX1_firstWrong_161 adX1_firstWrong_161.2.2.2.2.2.2.2.2.1 rfl
theorem dX1_firstWrong_180 : decode cX1_firstWrong 180 = .ok (.ifCond .ne 7, 3) := dAt wdX1_firstWrong_161 adX1_firstWrong_161.2.2.2.2.2.2.2.2.2.1 rfl
theorem dX1_firstWrong_183 : decode cX1_firstWrong 183 = .ok (.iload_n 1, 1) := dAt wdX1_firstWrong_161 adX1_firstWrong_161.2.2.2.2.2.2.2.2.2.2.1 rfl
theorem dX1_firstWrong_184 : decode cX1_firstWrong 184 = .ok (.goto 4, 3) := dAt wdX1_firstWrong_161 adX1_firstWrong_161.2.2.2.2.2.2.2.2.2.2.2.1 rfl
theorem dX1_firstWrong_187 : decode cX1_firstWrong 187 = .ok (.iconst (-1), 1) := dAt wdX1_firstWrong_161 adX1_firstWrong_161.2.2.2.2.2.2.2.2.2.2.2.2.1 rfl
theorem dX1_firstWrong_188 : decode cX1_firstWrong 188 = .ok (.ireturn, 1) := dAt wdX1_firstWrong_161 adX1_firstWrong_161.2.2.2.2.2.2.2.2.2.2.2.2.2 rfl
def bdX1_isLetter_0 : ByteArray := .mk #[26, 16, 97, 161, 0, 13, 26, 16, 122, 163, 0, 7, 4, 167, 0, 4, 3, 172]
theorem wdX1_isLetter_0 : LocW cX1_isLetter 0 bdX1_isLetter_0 := loc_of (by decide +kernel)
theorem adX1_isLetter_0 : De bdX1_isLetter_0 0 (.iload_n 0) 1 ∧ De bdX1_isLetter_0 1 (.bipush 97) 2 ∧ De bdX1_isLetter_0 3 (.if_icmp .lt 13) 3 ∧ De bdX1_isLetter_0 6 (.iload_n 0) 1 ∧ De bdX1_isLetter_0 7 (.bipush 122) 2 ∧ De bdX1_isLetter_0 9 (.if_icmp .gt 7) 3 ∧ De bdX1_isLetter_0 12 (.iconst 1) 1 ∧ De bdX1_isLetter_0 13 (.goto 4) 3 ∧ De bdX1_isLetter_0 16 (.iconst 0) 1 ∧ De bdX1_isLetter_0 17 (.ireturn) 1 := by decide +kernel
theorem dX1_isLetter_0 : decode cX1_isLetter 0 = .ok (.iload_n 0, 1) := dAt wdX1_isLetter_0 adX1_isLetter_0.1 rfl
theorem dX1_isLetter_1 : decode cX1_isLetter 1 = .ok (.bipush 97, 2) := dAt wdX1_isLetter_0 adX1_isLetter_0.2.1 rfl
theorem dX1_isLetter_3 : decode cX1_isLetter 3 = .ok (.if_icmp .lt 13, 3) := dAt wdX1_isLetter_0 adX1_isLetter_0.2.2.1 rfl
theorem dX1_isLetter_6 : decode cX1_isLetter 6 = .ok (.iload_n 0, 1) := dAt wdX1_isLetter_0 adX1_isLetter_0.2.2.2.1 rfl
theorem dX1_isLetter_7 : decode cX1_isLetter 7 = .ok (.bipush 122, 2) := dAt wdX1_isLetter_0 adX1_isLetter_0.2.2.2.2.1 rfl
theorem dX1_isLetter_9 : decode cX1_isLetter 9 = .ok (.if_icmp .gt 7, 3) := dAt wdX1_isLetter_0 adX1_isLetter_0.2.2.2.2.2.1 rfl
theorem dX1_isLetter_12 : decode cX1_isLetter 12 = .ok (.iconst 1, 1) := dAt wdX1_isLetter_0 adX1_isLetter_0.2.2.2.2.2.2.1 rfl
theorem dX1_isLetter_13 : decode cX1_isLetter 13 = .ok (.goto 4, 3) := dAt wdX1_isLetter_0 adX1_isLetter_0.2.2.2.2.2.2.2.1 rfl
theorem dX1_isLetter_16 : decode cX1_isLetter 16 = .ok (.iconst 0, 1) := dAt wdX1_isLetter_0 adX1_isLetter_0.2.2.2.2.2.2.2.2.1 rfl
theorem dX1_isLetter_17 : decode cX1_isLetter 17 = .ok (.ireturn, 1) := dAt wdX1_isLetter_0 adX1_isLetter_0.2.2.2.2.2.2.2.2.2 rfl
def bdX2_init_0 : ByteArray := .mk #[42, 183, 0, 3, 42, 16, 6, 188, 10, 181, 0, 9, 42, 16, 6, 188, 10, 181, 0, 15, 42, 16, 6, 188, 10, 181, 0, 18, 42, 16, 6]
theorem wdX2_init_0 : LocW cX2_init 0 bdX2_init_0 := loc_of (by decide +kernel)
theorem adX2_init_0 : De bdX2_init_0 0 (.aload_n 0) 1 ∧ De bdX2_init_0 1 (.invokespecial 3) 3 ∧ De bdX2_init_0 4 (.aload_n 0) 1 ∧ De bdX2_init_0 5 (.bipush 6) 2 ∧ De bdX2_init_0 7 (.newarray .int) 2 ∧ De bdX2_init_0 9 (.putfield 9) 3 ∧ De bdX2_init_0 12 (.aload_n 0) 1 ∧ De bdX2_init_0 13 (.bipush 6) 2 ∧ De bdX2_init_0 15 (.newarray .int) 2 ∧ De bdX2_init_0 17 (.putfield 15) 3 ∧ De bdX2_init_0 20 (.aload_n 0) 1 ∧ De bdX2_init_0 21 (.bipush 6) 2 ∧ De bdX2_init_0 23 (.newarray .int) 2 ∧ De bdX2_init_0 25 (.putfield 18) 3 ∧ De bdX2_init_0 28 (.aload_n 0) 1 ∧ De bdX2_init_0 29 (.bipush 6) 2 := by decide +kernel
theorem dX2_init_0 : decode cX2_init 0 = .ok (.aload_n 0, 1) := dAt wdX2_init_0 adX2_init_0.1 rfl
theorem dX2_init_1 : decode cX2_init 1 = .ok (.invokespecial 3, 3) := dAt wdX2_init_0 adX2_init_0.2.1 rfl
theorem dX2_init_4 : decode cX2_init 4 = .ok (.aload_n 0, 1) := dAt wdX2_init_0 adX2_init_0.2.2.1 rfl
theorem dX2_init_5 : decode cX2_init 5 = .ok (.bipush 6, 2) := dAt wdX2_init_0 adX2_init_0.2.2.2.1 rfl
theorem dX2_init_7 : decode cX2_init 7 = .ok (.newarray .int, 2) := dAt wdX2_init_0 adX2_init_0.2.2.2.2.1 rfl
theorem dX2_init_9 : decode cX2_init 9 = .ok (.putfield 9, 3) := dAt wdX2_init_0 adX2_init_0.2.2.2.2.2.1 rfl
theorem dX2_init_12 : decode cX2_init 12 = .ok (.aload_n 0, 1) := dAt wdX2_init_0 adX2_init_0.2.2.2.2.2.2.1 rfl
theorem dX2_init_13 : decode cX2_init 13 = .ok (.bipush 6, 2) := dAt wdX2_init_0 adX2_init_0.2.2.2.2.2.2.2.1 rfl
theorem dX2_init_15 : decode cX2_init 15 = .ok (.newarray .int, 2) := dAt wdX2_init_0 adX2_init_0.2.2.2.2.2.2.2.2.1 rfl
theorem dX2_init_17 : decode cX2_init 17 = .ok (.putfield 15, 3) := dAt wdX2_init_0 adX2_init_0.2.2.2.2.2.2.2.2.2.1 rfl
theorem dX2_init_20 : decode cX2_init 20 = .ok (.aload_n 0, 1) := dAt wdX2_init_0 adX2_init_0.2.2.2.2.2.2.2.2.2.2.1 rfl
theorem dX2_init_21 : decode cX2_init 21 = .ok (.bipush 6, 2) := dAt wdX2_init_0 adX2_init_0.2.2.2.2.2.2.2.2.2.2.2.1 rfl
theorem dX2_init_23 : decode cX2_init 23 = .ok (.newarray .int, 2) := dAt wdX2_init_0 adX2_init_0.2.2.2.2.2.2.2.2.2.2.2.2.1 rfl
theorem dX2_init_25 : decode cX2_init 25 = .ok (.putfield 18, 3) := dAt wdX2_init_0 adX2_init_0.2.2.2.2.2.2.2.2.2.2.2.2.2.1 rfl
theorem dX2_init_28 : decode cX2_init 28 = .ok (.aload_n 0, 1) := dAt wdX2_init_0 adX2_init_0.2.2.2.2.2.2.2.2.2.2.2.2.2.2.1 rfl
theorem dX2_init_29 : decode cX2_init 29 = .ok (.bipush 6, 2) := dAt wdX2_init_0 adX2_init_0.2.2.2.2.2.2.2.2.2.2.2.2.2.2.2 rfl
def bdX2_init_31 : ByteArray := .mk #[188, 10, 181, 0, 21, 42, 16, 54, 189, 0, 24, 181, 0, 25, 42, 16, 54, 188, 10, 181, 0, 29, 42, 3, 181, 0, 32, 42, 17, 0, 200, 188, 10]
theorem wdX2_init_31 : LocW cX2_init 31 bdX2_init_31 := loc_of (by decide +kernel)
theorem adX2_init_31 : De bdX2_init_31 0 (.newarray .int) 2 ∧ De bdX2_init_31 2 (.putfield 21) 3 ∧ De bdX2_init_31 5 (.aload_n 0) 1 ∧ De bdX2_init_31 6 (.bipush 54) 2 ∧ De bdX2_init_31 8 (.anewarray 24) 3 ∧ De bdX2_init_31 11 (.putfield 25) 3 ∧ De bdX2_init_31 14 (.aload_n 0) 1 ∧ De bdX2_init_31 15 (.bipush 54) 2 ∧ De bdX2_init_31 17 (.newarray .int) 2 ∧ De bdX2_init_31 19 (.putfield 29) 3 ∧ De bdX2_init_31 22 (.aload_n 0) 1 ∧ De bdX2_init_31 23 (.iconst 0) 1 ∧ De bdX2_init_31 24 (.putfield 32) 3 ∧ De bdX2_init_31 27 (.aload_n 0) 1 ∧ De bdX2_init_31 28 (.sipush 200) 3 ∧ De bdX2_init_31 31 (.newarray .int) 2 := by decide +kernel
theorem dX2_init_31 : decode cX2_init 31 = .ok (.newarray .int, 2) := dAt wdX2_init_31 adX2_init_31.1 rfl
theorem dX2_init_33 : decode cX2_init 33 = .ok (.putfield 21, 3) := dAt wdX2_init_31 adX2_init_31.2.1 rfl
theorem dX2_init_36 : decode cX2_init 36 = .ok (.aload_n 0, 1) := dAt wdX2_init_31 adX2_init_31.2.2.1 rfl
theorem dX2_init_37 : decode cX2_init 37 = .ok (.bipush 54, 2) := dAt wdX2_init_31 adX2_init_31.2.2.2.1 rfl
theorem dX2_init_39 : decode cX2_init 39 = .ok (.anewarray 24, 3) := dAt wdX2_init_31 adX2_init_31.2.2.2.2.1 rfl
theorem dX2_init_42 : decode cX2_init 42 = .ok (.putfield 25, 3) := dAt wdX2_init_31 adX2_init_31.2.2.2.2.2.1 rfl
theorem dX2_init_45 : decode cX2_init 45 = .ok (.aload_n 0, 1) := dAt wdX2_init_31 adX2_init_31.2.2.2.2.2.2.1 rfl
theorem dX2_init_46 : decode cX2_init 46 = .ok (.bipush 54, 2) := dAt wdX2_init_31 adX2_init_31.2.2.2.2.2.2.2.1 rfl
theorem dX2_init_48 : decode cX2_init 48 = .ok (.newarray .int, 2) := dAt wdX2_init_31 adX2_init_31.2.2.2.2.2.2.2.2.1 rfl
theorem dX2_init_50 : decode cX2_init 50 = .ok (.putfield 29, 3) := dAt wdX2_init_31 adX2_init_31.2.2.2.2.2.2.2.2.2.1 rfl
theorem dX2_init_53 : decode cX2_init 53 = .ok (.aload_n 0, 1) := dAt wdX2_init_31 adX2_init_31.2.2.2.2.2.2.2.2.2.2.1 rfl
theorem dX2_init_54 : decode cX2_init 54 = .ok (.iconst 0, 1) := dAt wdX2_init_31 adX2_init_31.2.2.2.2.2.2.2.2.2.2.2.1 rfl
theorem dX2_init_55 : decode cX2_init 55 = .ok (.putfield 32, 3) := dAt wdX2_init_31 adX2_init_31.2.2.2.2.2.2.2.2.2.2.2.2.1 rfl
theorem dX2_init_58 : decode cX2_init 58 = .ok (.aload_n 0, 1) := dAt wdX2_init_31 adX2_init_31.2.2.2.2.2.2.2.2.2.2.2.2.2.1 rfl
theorem dX2_init_59 : decode cX2_init 59 = .ok (.sipush 200, 3) := dAt wdX2_init_31 adX2_init_31.2.2.2.2.2.2.2.2.2.2.2.2.2.2.1 rfl
theorem dX2_init_62 : decode cX2_init 62 = .ok (.newarray .int, 2) := dAt wdX2_init_31 adX2_init_31.2.2.2.2.2.2.2.2.2.2.2.2.2.2.2 rfl
def bdX2_init_64 : ByteArray := .mk #[181, 0, 36, 42, 17, 0, 200, 188, 10, 181, 0, 39, 42, 17, 0, 200, 188, 10, 181, 0, 42, 42, 17, 0, 200, 188, 10, 181, 0, 45, 42, 3, 181, 0, 48]
theorem wdX2_init_64 : LocW cX2_init 64 bdX2_init_64 := loc_of (by decide +kernel)
theorem adX2_init_64 : De bdX2_init_64 0 (.putfield 36) 3 ∧ De bdX2_init_64 3 (.aload_n 0) 1 ∧ De bdX2_init_64 4 (.sipush 200) 3 ∧ De bdX2_init_64 7 (.newarray .int) 2 ∧ De bdX2_init_64 9 (.putfield 39) 3 ∧ De bdX2_init_64 12 (.aload_n 0) 1 ∧ De bdX2_init_64 13 (.sipush 200) 3 ∧ De bdX2_init_64 16 (.newarray .int) 2 ∧ De bdX2_init_64 18 (.putfield 42) 3 ∧ De bdX2_init_64 21 (.aload_n 0) 1 ∧ De bdX2_init_64 22 (.sipush 200) 3 ∧ De bdX2_init_64 25 (.newarray .int) 2 ∧ De bdX2_init_64 27 (.putfield 45) 3 ∧ De bdX2_init_64 30 (.aload_n 0) 1 ∧ De bdX2_init_64 31 (.iconst 0) 1 ∧ De bdX2_init_64 32 (.putfield 48) 3 := by decide +kernel
theorem dX2_init_64 : decode cX2_init 64 = .ok (.putfield 36, 3) := dAt wdX2_init_64 adX2_init_64.1 rfl
theorem dX2_init_67 : decode cX2_init 67 = .ok (.aload_n 0, 1) := dAt wdX2_init_64 adX2_init_64.2.1 rfl
theorem dX2_init_68 : decode cX2_init 68 = .ok (.sipush 200, 3) := dAt wdX2_init_64 adX2_init_64.2.2.1 rfl
theorem dX2_init_71 : decode cX2_init 71 = .ok (.newarray .int, 2) := dAt wdX2_init_64 adX2_init_64.2.2.2.1 rfl
theorem dX2_init_73 : decode cX2_init 73 = .ok (.putfield 39, 3) := dAt wdX2_init_64 adX2_init_64.2.2.2.2.1 rfl
theorem dX2_init_76 : decode cX2_init 76 = .ok (.aload_n 0, 1) := dAt wdX2_init_64 adX2_init_64.2.2.2.2.2.1 rfl
theorem dX2_init_77 : decode cX2_init 77 = .ok (.sipush 200, 3) := dAt wdX2_init_64 adX2_init_64.2.2.2.2.2.2.1 rfl
theorem dX2_init_80 : decode cX2_init 80 = .ok (.newarray .int, 2) := dAt wdX2_init_64 adX2_init_64.2.2.2.2.2.2.2.1 rfl
theorem dX2_init_82 : decode cX2_init 82 = .ok (.putfield 42, 3) := dAt wdX2_init_64 adX2_init_64.2.2.2.2.2.2.2.2.1 rfl
theorem dX2_init_85 : decode cX2_init 85 = .ok (.aload_n 0, 1) := dAt wdX2_init_64 adX2_init_64.2.2.2.2.2.2.2.2.2.1 rfl
theorem dX2_init_86 : decode cX2_init 86 = .ok (.sipush 200, 3) := dAt wdX2_init_64 adX2_init_64.2.2.2.2.2.2.2.2.2.2.1 rfl
theorem dX2_init_89 : decode cX2_init 89 = .ok (.newarray .int, 2) := dAt wdX2_init_64 adX2_init_64.2.2.2.2.2.2.2.2.2.2.2.1 rfl
theorem dX2_init_91 : decode cX2_init 91 = .ok (.putfield 45, 3) := dAt wdX2_init_64 adX2_init_64.2.2.2.2.2.2.2.2.2.2.2.2.1 rfl
theorem dX2_init_94 : decode cX2_init 94 = .ok (.aload_n 0, 1) := dAt wdX2_init_64 adX2_init_64.2.2.2.2.2.2.2.2.2.2.2.2.2.1 rfl
theorem dX2_init_95 : decode cX2_init 95 = .ok (.iconst 0, 1) := dAt wdX2_init_64 adX2_init_64.2.2.2.2.2.2.2.2.2.2.2.2.2.2.1 rfl
theorem dX2_init_96 : decode cX2_init 96 = .ok (.putfield 48, 3) := dAt wdX2_init_64 adX2_init_64.2.2.2.2.2.2.2.2.2.2.2.2.2.2.2 rfl
def bdX2_init_99 : ByteArray := .mk #[3, 60, 27, 16, 6, 162, 0, 31, 42, 180, 0, 9, 27, 4, 79, 42, 180, 0, 15, 27, 16, 20, 79, 42]
theorem wdX2_init_99 : LocW cX2_init 99 bdX2_init_99 := loc_of (by decide +kernel)
theorem adX2_init_99 : De bdX2_init_99 0 (.iconst 0) 1 ∧ De bdX2_init_99 1 (.istore_n 1) 1 ∧ De bdX2_init_99 2 (.iload_n 1) 1 ∧ De bdX2_init_99 3 (.bipush 6) 2 ∧ De bdX2_init_99 5 (.if_icmp .ge 31) 3 ∧ De bdX2_init_99 8 (.aload_n 0) 1 ∧ De bdX2_init_99 9 (.getfield 9) 3 ∧ De bdX2_init_99 12 (.iload_n 1) 1 ∧ De bdX2_init_99 13 (.iconst 1) 1 ∧ De bdX2_init_99 14 (.iastore) 1 ∧ De bdX2_init_99 15 (.aload_n 0) 1 ∧ De bdX2_init_99 16 (.getfield 15) 3 ∧ De bdX2_init_99 19 (.iload_n 1) 1 ∧ De bdX2_init_99 20 (.bipush 20) 2 ∧ De bdX2_init_99 22 (.iastore) 1 ∧ De bdX2_init_99 23 (.aload_n 0) 1 := by decide +kernel
theorem dX2_init_99 : decode cX2_init 99 = .ok (.iconst 0, 1) := dAt wdX2_init_99 adX2_init_99.1 rfl
theorem dX2_init_100 : decode cX2_init 100 = .ok (.istore_n 1, 1) := dAt wdX2_init_99 adX2_init_99.2.1 rfl
theorem dX2_init_101 : decode cX2_init 101 = .ok (.iload_n 1, 1) := dAt wdX2_init_99 adX2_init_99.2.2.1 rfl
theorem dX2_init_102 : decode cX2_init 102 = .ok (.bipush 6, 2) := dAt wdX2_init_99 adX2_init_99.2.2.2.1 rfl
theorem dX2_init_104 : decode cX2_init 104 = .ok (.if_icmp .ge 31, 3) := dAt wdX2_init_99 adX2_init_99.2.2.2.2.1 rfl
theorem dX2_init_107 : decode cX2_init 107 = .ok (.aload_n 0, 1) := dAt wdX2_init_99 adX2_init_99.2.2.2.2.2.1 rfl
theorem dX2_init_108 : decode cX2_init 108 = .ok (.getfield 9, 3) := dAt wdX2_init_99 adX2_init_99.2.2.2.2.2.2.1 rfl
theorem dX2_init_111 : decode cX2_init 111 = .ok (.iload_n 1, 1) := dAt wdX2_init_99 adX2_init_99.2.2.2.2.2.2.2.1 rfl
theorem dX2_init_112 : decode cX2_init 112 = .ok (.iconst 1, 1) := dAt wdX2_init_99 adX2_init_99.2.2.2.2.2.2.2.2.1 rfl
theorem dX2_init_113 : decode cX2_init 113 = .ok (.iastore, 1) := dAt wdX2_init_99 adX2_init_99.2.2.2.2.2.2.2.2.2.1 rfl
theorem dX2_init_114 : decode cX2_init 114 = .ok (.aload_n 0, 1) := dAt wdX2_init_99 adX2_init_99.2.2.2.2.2.2.2.2.2.2.1 rfl
theorem dX2_init_115 : decode cX2_init 115 = .ok (.getfield 15, 3) := dAt wdX2_init_99 adX2_init_99.2.2.2.2.2.2.2.2.2.2.2.1 rfl
theorem dX2_init_118 : decode cX2_init 118 = .ok (.iload_n 1, 1) := dAt wdX2_init_99 adX2_init_99.2.2.2.2.2.2.2.2.2.2.2.2.1 rfl
theorem dX2_init_119 : decode cX2_init 119 = .ok (.bipush 20, 2) := dAt wdX2_init_99 adX2_init_99.2.2.2.2.2.2.2.2.2.2.2.2.2.1 rfl
theorem dX2_init_121 : decode cX2_init 121 = .ok (.iastore, 1) := dAt wdX2_init_99 adX2_init_99.2.2.2.2.2.2.2.2.2.2.2.2.2.2.1 rfl
theorem dX2_init_122 : decode cX2_init 122 = .ok (.aload_n 0, 1) := dAt wdX2_init_99 adX2_init_99.2.2.2.2.2.2.2.2.2.2.2.2.2.2.2 rfl
def bdX2_init_123 : ByteArray := .mk #[180, 0, 18, 27, 2, 79, 132, 1, 1, 167, 255, 225, 177]
theorem wdX2_init_123 : LocW cX2_init 123 bdX2_init_123 := loc_of (by decide +kernel)
theorem adX2_init_123 : De bdX2_init_123 0 (.getfield 18) 3 ∧ De bdX2_init_123 3 (.iload_n 1) 1 ∧ De bdX2_init_123 4 (.iconst (-1)) 1 ∧ De bdX2_init_123 5 (.iastore) 1 ∧ De bdX2_init_123 6 (.iinc 1 1) 3 ∧ De bdX2_init_123 9 (.goto (-31)) 3 ∧ De bdX2_init_123 12 (.return_) 1 := by decide +kernel
theorem dX2_init_123 : decode cX2_init 123 = .ok (.getfield 18, 3) := dAt wdX2_init_123 adX2_init_123.1 rfl
theorem dX2_init_126 : decode cX2_init 126 = .ok (.iload_n 1, 1) := dAt wdX2_init_123 adX2_init_123.2.1 rfl
theorem dX2_init_127 : decode cX2_init 127 = .ok (.iconst (-1), 1) := dAt wdX2_init_123 adX2_init_123.2.2.1 rfl
theorem dX2_init_128 : decode cX2_init 128 = .ok (.iastore, 1) := dAt wdX2_init_123 adX2_init_123.2.2.2.1 rfl
theorem dX2_init_129 : decode cX2_init 129 = .ok (.iinc 1 1, 3) := dAt wdX2_init_123 adX2_init_123.2.2.2.2.1 rfl
theorem dX2_init_132 : decode cX2_init 132 = .ok (.goto (-31), 3) := dAt wdX2_init_123 adX2_init_123.2.2.2.2.2.1 rfl
theorem dX2_init_135 : decode cX2_init 135 = .ok (.return_, 1) := dAt wdX2_init_123 adX2_init_123.2.2.2.2.2.2 rfl
def bdX2_takeAll_0 : ByteArray := .mk #[43, 180, 0, 9, 3, 42, 180, 0, 9, 3, 42, 180, 0, 9, 190, 184, 0, 51, 43, 180, 0, 15, 3, 42, 180, 0, 15, 3]
theorem wdX2_takeAll_0 : LocW cX2_takeAll 0 bdX2_takeAll_0 := loc_of (by decide +kernel)
theorem adX2_takeAll_0 : De bdX2_takeAll_0 0 (.aload_n 1) 1 ∧ De bdX2_takeAll_0 1 (.getfield 9) 3 ∧ De bdX2_takeAll_0 4 (.iconst 0) 1 ∧ De bdX2_takeAll_0 5 (.aload_n 0) 1 ∧ De bdX2_takeAll_0 6 (.getfield 9) 3 ∧ De bdX2_takeAll_0 9 (.iconst 0) 1 ∧ De bdX2_takeAll_0 10 (.aload_n 0) 1 ∧ De bdX2_takeAll_0 11 (.getfield 9) 3 ∧ De bdX2_takeAll_0 14 (.arraylength) 1 ∧ De bdX2_takeAll_0 15 (.invokestatic 51) 3 ∧ De bdX2_takeAll_0 18 (.aload_n 1) 1 ∧ De bdX2_takeAll_0 19 (.getfield 15) 3 ∧ De bdX2_takeAll_0 22 (.iconst 0) 1 ∧ De bdX2_takeAll_0 23 (.aload_n 0) 1 ∧ De bdX2_takeAll_0 24 (.getfield 15) 3 ∧ De bdX2_takeAll_0 27 (.iconst 0) 1 := by decide +kernel
theorem dX2_takeAll_0 : decode cX2_takeAll 0 = .ok (.aload_n 1, 1) := dAt wdX2_takeAll_0 adX2_takeAll_0.1 rfl
theorem dX2_takeAll_1 : decode cX2_takeAll 1 = .ok (.getfield 9, 3) := dAt wdX2_takeAll_0 adX2_takeAll_0.2.1 rfl
theorem dX2_takeAll_4 : decode cX2_takeAll 4 = .ok (.iconst 0, 1) := dAt wdX2_takeAll_0 adX2_takeAll_0.2.2.1 rfl
theorem dX2_takeAll_5 : decode cX2_takeAll 5 = .ok (.aload_n 0, 1) := dAt wdX2_takeAll_0 adX2_takeAll_0.2.2.2.1 rfl
theorem dX2_takeAll_6 : decode cX2_takeAll 6 = .ok (.getfield 9, 3) := dAt wdX2_takeAll_0 adX2_takeAll_0.2.2.2.2.1 rfl
theorem dX2_takeAll_9 : decode cX2_takeAll 9 = .ok (.iconst 0, 1) := dAt wdX2_takeAll_0 adX2_takeAll_0.2.2.2.2.2.1 rfl
theorem dX2_takeAll_10 : decode cX2_takeAll 10 = .ok (.aload_n 0, 1) := dAt wdX2_takeAll_0 adX2_takeAll_0.2.2.2.2.2.2.1 rfl
theorem dX2_takeAll_11 : decode cX2_takeAll 11 = .ok (.getfield 9, 3) := dAt wdX2_takeAll_0 adX2_takeAll_0.2.2.2.2.2.2.2.1 rfl
theorem dX2_takeAll_14 : decode cX2_takeAll 14 = .ok (.arraylength, 1) := dAt wdX2_takeAll_0 adX2_takeAll_0.2.2.2.2.2.2.2.2.1 rfl
theorem dX2_takeAll_15 : decode cX2_takeAll 15 = .ok (.invokestatic 51, 3) := dAt wdX2_takeAll_0 adX2_takeAll_0.2.2.2.2.2.2.2.2.2.1 rfl
theorem dX2_takeAll_18 : decode cX2_takeAll 18 = .ok (.aload_n 1, 1) := dAt wdX2_takeAll_0 adX2_takeAll_0.2.2.2.2.2.2.2.2.2.2.1 rfl
theorem dX2_takeAll_19 : decode cX2_takeAll 19 = .ok (.getfield 15, 3) := dAt wdX2_takeAll_0 adX2_takeAll_0.2.2.2.2.2.2.2.2.2.2.2.1 rfl
theorem dX2_takeAll_22 : decode cX2_takeAll 22 = .ok (.iconst 0, 1) := dAt wdX2_takeAll_0 adX2_takeAll_0.2.2.2.2.2.2.2.2.2.2.2.2.1 rfl
theorem dX2_takeAll_23 : decode cX2_takeAll 23 = .ok (.aload_n 0, 1) := dAt wdX2_takeAll_0 adX2_takeAll_0.2.2.2.2.2.2.2.2.2.2.2.2.2.1 rfl
theorem dX2_takeAll_24 : decode cX2_takeAll 24 = .ok (.getfield 15, 3) := dAt wdX2_takeAll_0 adX2_takeAll_0.2.2.2.2.2.2.2.2.2.2.2.2.2.2.1 rfl
theorem dX2_takeAll_27 : decode cX2_takeAll 27 = .ok (.iconst 0, 1) := dAt wdX2_takeAll_0 adX2_takeAll_0.2.2.2.2.2.2.2.2.2.2.2.2.2.2.2 rfl
def bdX2_takeAll_28 : ByteArray := .mk #[42, 180, 0, 15, 190, 184, 0, 51, 43, 180, 0, 18, 3, 42, 180, 0, 18, 3, 42, 180, 0, 18, 190, 184, 0, 51, 43, 180, 0, 21]
theorem wdX2_takeAll_28 : LocW cX2_takeAll 28 bdX2_takeAll_28 := loc_of (by decide +kernel)
theorem adX2_takeAll_28 : De bdX2_takeAll_28 0 (.aload_n 0) 1 ∧ De bdX2_takeAll_28 1 (.getfield 15) 3 ∧ De bdX2_takeAll_28 4 (.arraylength) 1 ∧ De bdX2_takeAll_28 5 (.invokestatic 51) 3 ∧ De bdX2_takeAll_28 8 (.aload_n 1) 1 ∧ De bdX2_takeAll_28 9 (.getfield 18) 3 ∧ De bdX2_takeAll_28 12 (.iconst 0) 1 ∧ De bdX2_takeAll_28 13 (.aload_n 0) 1 ∧ De bdX2_takeAll_28 14 (.getfield 18) 3 ∧ De bdX2_takeAll_28 17 (.iconst 0) 1 ∧ De bdX2_takeAll_28 18 (.aload_n 0) 1 ∧ De bdX2_takeAll_28 19 (.getfield 18) 3 ∧ De bdX2_takeAll_28 22 (.arraylength) 1 ∧ De bdX2_takeAll_28 23 (.invokestatic 51) 3 ∧ De bdX2_takeAll_28 26 (.aload_n 1) 1 ∧ De bdX2_takeAll_28 27 (.getfield 21) 3 := by decide +kernel
theorem dX2_takeAll_28 : decode cX2_takeAll 28 = .ok (.aload_n 0, 1) := dAt wdX2_takeAll_28 adX2_takeAll_28.1 rfl
theorem dX2_takeAll_29 : decode cX2_takeAll 29 = .ok (.getfield 15, 3) := dAt wdX2_takeAll_28 adX2_takeAll_28.2.1 rfl
theorem dX2_takeAll_32 : decode cX2_takeAll 32 = .ok (.arraylength, 1) := dAt wdX2_takeAll_28 adX2_takeAll_28.2.2.1 rfl
theorem dX2_takeAll_33 : decode cX2_takeAll 33 = .ok (.invokestatic 51, 3) := dAt wdX2_takeAll_28 adX2_takeAll_28.2.2.2.1 rfl
theorem dX2_takeAll_36 : decode cX2_takeAll 36 = .ok (.aload_n 1, 1) := dAt wdX2_takeAll_28 adX2_takeAll_28.2.2.2.2.1 rfl
theorem dX2_takeAll_37 : decode cX2_takeAll 37 = .ok (.getfield 18, 3) := dAt wdX2_takeAll_28 adX2_takeAll_28.2.2.2.2.2.1 rfl
theorem dX2_takeAll_40 : decode cX2_takeAll 40 = .ok (.iconst 0, 1) := dAt wdX2_takeAll_28 adX2_takeAll_28.2.2.2.2.2.2.1 rfl
theorem dX2_takeAll_41 : decode cX2_takeAll 41 = .ok (.aload_n 0, 1) := dAt wdX2_takeAll_28 adX2_takeAll_28.2.2.2.2.2.2.2.1 rfl
theorem dX2_takeAll_42 : decode cX2_takeAll 42 = .ok (.getfield 18, 3) := dAt wdX2_takeAll_28 adX2_takeAll_28.2.2.2.2.2.2.2.2.1 rfl
theorem dX2_takeAll_45 : decode cX2_takeAll 45 = .ok (.iconst 0, 1) := dAt wdX2_takeAll_28 adX2_takeAll_28.2.2.2.2.2.2.2.2.2.1 rfl
theorem dX2_takeAll_46 : decode cX2_takeAll 46 = .ok (.aload_n 0, 1) := dAt wdX2_takeAll_28 adX2_takeAll_28.2.2.2.2.2.2.2.2.2.2.1 rfl
theorem dX2_takeAll_47 : decode cX2_takeAll 47 = .ok (.getfield 18, 3) := dAt wdX2_takeAll_28 adX2_takeAll_28.2.2.2.2.2.2.2.2.2.2.2.1 rfl
theorem dX2_takeAll_50 : decode cX2_takeAll 50 = .ok (.arraylength, 1) := dAt wdX2_takeAll_28 adX2_takeAll_28.2.2.2.2.2.2.2.2.2.2.2.2.1 rfl
theorem dX2_takeAll_51 : decode cX2_takeAll 51 = .ok (.invokestatic 51, 3) := dAt wdX2_takeAll_28 adX2_takeAll_28.2.2.2.2.2.2.2.2.2.2.2.2.2.1 rfl
theorem dX2_takeAll_54 : decode cX2_takeAll 54 = .ok (.aload_n 1, 1) := dAt wdX2_takeAll_28 adX2_takeAll_28.2.2.2.2.2.2.2.2.2.2.2.2.2.2.1 rfl
theorem dX2_takeAll_55 : decode cX2_takeAll 55 = .ok (.getfield 21, 3) := dAt wdX2_takeAll_28 adX2_takeAll_28.2.2.2.2.2.2.2.2.2.2.2.2.2.2.2 rfl
def bdX2_takeAll_58 : ByteArray := .mk #[3, 42, 180, 0, 21, 3, 42, 180, 0, 21, 190, 184, 0, 51, 43, 180, 0, 36, 3, 42, 180, 0, 36, 3, 42, 180, 0, 36]
theorem wdX2_takeAll_58 : LocW cX2_takeAll 58 bdX2_takeAll_58 := loc_of (by decide +kernel)
theorem adX2_takeAll_58 : De bdX2_takeAll_58 0 (.iconst 0) 1 ∧ De bdX2_takeAll_58 1 (.aload_n 0) 1 ∧ De bdX2_takeAll_58 2 (.getfield 21) 3 ∧ De bdX2_takeAll_58 5 (.iconst 0) 1 ∧ De bdX2_takeAll_58 6 (.aload_n 0) 1 ∧ De bdX2_takeAll_58 7 (.getfield 21) 3 ∧ De bdX2_takeAll_58 10 (.arraylength) 1 ∧ De bdX2_takeAll_58 11 (.invokestatic 51) 3 ∧ De bdX2_takeAll_58 14 (.aload_n 1) 1 ∧ De bdX2_takeAll_58 15 (.getfield 36) 3 ∧ De bdX2_takeAll_58 18 (.iconst 0) 1 ∧ De bdX2_takeAll_58 19 (.aload_n 0) 1 ∧ De bdX2_takeAll_58 20 (.getfield 36) 3 ∧ De bdX2_takeAll_58 23 (.iconst 0) 1 ∧ De bdX2_takeAll_58 24 (.aload_n 0) 1 ∧ De bdX2_takeAll_58 25 (.getfield 36) 3 := by decide +kernel
theorem dX2_takeAll_58 : decode cX2_takeAll 58 = .ok (.iconst 0, 1) := dAt wdX2_takeAll_58 adX2_takeAll_58.1 rfl
theorem dX2_takeAll_59 : decode cX2_takeAll 59 = .ok (.aload_n 0, 1) := dAt wdX2_takeAll_58 adX2_takeAll_58.2.1 rfl
theorem dX2_takeAll_60 : decode cX2_takeAll 60 = .ok (.getfield 21, 3) := dAt wdX2_takeAll_58 adX2_takeAll_58.2.2.1 rfl
theorem dX2_takeAll_63 : decode cX2_takeAll 63 = .ok (.iconst 0, 1) := dAt wdX2_takeAll_58 adX2_takeAll_58.2.2.2.1 rfl
theorem dX2_takeAll_64 : decode cX2_takeAll 64 = .ok (.aload_n 0, 1) := dAt wdX2_takeAll_58 adX2_takeAll_58.2.2.2.2.1 rfl
theorem dX2_takeAll_65 : decode cX2_takeAll 65 = .ok (.getfield 21, 3) := dAt wdX2_takeAll_58 adX2_takeAll_58.2.2.2.2.2.1 rfl
theorem dX2_takeAll_68 : decode cX2_takeAll 68 = .ok (.arraylength, 1) := dAt wdX2_takeAll_58 adX2_takeAll_58.2.2.2.2.2.2.1 rfl
theorem dX2_takeAll_69 : decode cX2_takeAll 69 = .ok (.invokestatic 51, 3) := dAt wdX2_takeAll_58 adX2_takeAll_58.2.2.2.2.2.2.2.1 rfl
theorem dX2_takeAll_72 : decode cX2_takeAll 72 = .ok (.aload_n 1, 1) := dAt wdX2_takeAll_58 adX2_takeAll_58.2.2.2.2.2.2.2.2.1 rfl
theorem dX2_takeAll_73 : decode cX2_takeAll 73 = .ok (.getfield 36, 3) := dAt wdX2_takeAll_58 adX2_takeAll_58.2.2.2.2.2.2.2.2.2.1 rfl
theorem dX2_takeAll_76 : decode cX2_takeAll 76 = .ok (.iconst 0, 1) := dAt wdX2_takeAll_58 adX2_takeAll_58.2.2.2.2.2.2.2.2.2.2.1 rfl
theorem dX2_takeAll_77 : decode cX2_takeAll 77 = .ok (.aload_n 0, 1) := dAt wdX2_takeAll_58 adX2_takeAll_58.2.2.2.2.2.2.2.2.2.2.2.1 rfl
theorem dX2_takeAll_78 : decode cX2_takeAll 78 = .ok (.getfield 36, 3) := dAt wdX2_takeAll_58 adX2_takeAll_58.2.2.2.2.2.2.2.2.2.2.2.2.1 rfl
theorem dX2_takeAll_81 : decode cX2_takeAll 81 = .ok (.iconst 0, 1) := dAt wdX2_takeAll_58 adX2_takeAll_58.2.2.2.2.2.2.2.2.2.2.2.2.2.1 rfl
theorem dX2_takeAll_82 : decode cX2_takeAll 82 = .ok (.aload_n 0, 1) := dAt wdX2_takeAll_58 adX2_takeAll_58.2.2.2.2.2.2.2.2.2.2.2.2.2.2.1 rfl
theorem dX2_takeAll_83 : decode cX2_takeAll 83 = .ok (.getfield 36, 3) := dAt wdX2_takeAll_58 adX2_takeAll_58.2.2.2.2.2.2.2.2.2.2.2.2.2.2.2 rfl
def bdX2_takeAll_86 : ByteArray := .mk #[190, 184, 0, 51, 43, 180, 0, 39, 3, 42, 180, 0, 39, 3, 42, 180, 0, 39, 190, 184, 0, 51, 43, 180, 0, 42, 3, 42]
theorem wdX2_takeAll_86 : LocW cX2_takeAll 86 bdX2_takeAll_86 := loc_of (by decide +kernel)
theorem adX2_takeAll_86 : De bdX2_takeAll_86 0 (.arraylength) 1 ∧ De bdX2_takeAll_86 1 (.invokestatic 51) 3 ∧ De bdX2_takeAll_86 4 (.aload_n 1) 1 ∧ De bdX2_takeAll_86 5 (.getfield 39) 3 ∧ De bdX2_takeAll_86 8 (.iconst 0) 1 ∧ De bdX2_takeAll_86 9 (.aload_n 0) 1 ∧ De bdX2_takeAll_86 10 (.getfield 39) 3 ∧ De bdX2_takeAll_86 13 (.iconst 0) 1 ∧ De bdX2_takeAll_86 14 (.aload_n 0) 1 ∧ De bdX2_takeAll_86 15 (.getfield 39) 3 ∧ De bdX2_takeAll_86 18 (.arraylength) 1 ∧ De bdX2_takeAll_86 19 (.invokestatic 51) 3 ∧ De bdX2_takeAll_86 22 (.aload_n 1) 1 ∧ De bdX2_takeAll_86 23 (.getfield 42) 3 ∧ De bdX2_takeAll_86 26 (.iconst 0) 1 ∧ De bdX2_takeAll_86 27 (.aload_n 0) 1 := by decide +kernel
theorem dX2_takeAll_86 : decode cX2_takeAll 86 = .ok (.arraylength, 1) := dAt wdX2_takeAll_86 adX2_takeAll_86.1 rfl
theorem dX2_takeAll_87 : decode cX2_takeAll 87 = .ok (.invokestatic 51, 3) := dAt wdX2_takeAll_86 adX2_takeAll_86.2.1 rfl
theorem dX2_takeAll_90 : decode cX2_takeAll 90 = .ok (.aload_n 1, 1) := dAt wdX2_takeAll_86 adX2_takeAll_86.2.2.1 rfl
theorem dX2_takeAll_91 : decode cX2_takeAll 91 = .ok (.getfield 39, 3) := dAt wdX2_takeAll_86 adX2_takeAll_86.2.2.2.1 rfl
theorem dX2_takeAll_94 : decode cX2_takeAll 94 = .ok (.iconst 0, 1) := dAt wdX2_takeAll_86 adX2_takeAll_86.2.2.2.2.1 rfl
theorem dX2_takeAll_95 : decode cX2_takeAll 95 = .ok (.aload_n 0, 1) := dAt wdX2_takeAll_86 adX2_takeAll_86.2.2.2.2.2.1 rfl
theorem dX2_takeAll_96 : decode cX2_takeAll 96 = .ok (.getfield 39, 3) := dAt wdX2_takeAll_86 adX2_takeAll_86.2.2.2.2.2.2.1 rfl
theorem dX2_takeAll_99 : decode cX2_takeAll 99 = .ok (.iconst 0, 1) := dAt wdX2_takeAll_86 adX2_takeAll_86.2.2.2.2.2.2.2.1 rfl
theorem dX2_takeAll_100 : decode cX2_takeAll 100 = .ok (.aload_n 0, 1) := dAt wdX2_takeAll_86 adX2_takeAll_86.2.2.2.2.2.2.2.2.1 rfl
theorem dX2_takeAll_101 : decode cX2_takeAll 101 = .ok (.getfield 39, 3) := dAt wdX2_takeAll_86 adX2_takeAll_86.2.2.2.2.2.2.2.2.2.1 rfl
theorem dX2_takeAll_104 : decode cX2_takeAll 104 = .ok (.arraylength, 1) := dAt wdX2_takeAll_86 adX2_takeAll_86.2.2.2.2.2.2.2.2.2.2.1 rfl
theorem dX2_takeAll_105 : decode cX2_takeAll 105 = .ok (.invokestatic 51, 3) := dAt wdX2_takeAll_86 adX2_takeAll_86.2.2.2.2.2.2.2.2.2.2.2.1 rfl
theorem dX2_takeAll_108 : decode cX2_takeAll 108 = .ok (.aload_n 1, 1) := dAt wdX2_takeAll_86 adX2_takeAll_86.2.2.2.2.2.2.2.2.2.2.2.2.1 rfl
theorem dX2_takeAll_109 : decode cX2_takeAll 109 = .ok (.getfield 42, 3) := dAt wdX2_takeAll_86 adX2_takeAll_86.2.2.2.2.2.2.2.2.2.2.2.2.2.1 rfl
theorem dX2_takeAll_112 : decode cX2_takeAll 112 = .ok (.iconst 0, 1) := dAt wdX2_takeAll_86 adX2_takeAll_86.2.2.2.2.2.2.2.2.2.2.2.2.2.2.1 rfl
theorem dX2_takeAll_113 : decode cX2_takeAll 113 = .ok (.aload_n 0, 1) := dAt wdX2_takeAll_86 adX2_takeAll_86.2.2.2.2.2.2.2.2.2.2.2.2.2.2.2 rfl
def bdX2_takeAll_114 : ByteArray := .mk #[180, 0, 42, 3, 42, 180, 0, 42, 190, 184, 0, 51, 43, 180, 0, 45, 3, 42, 180, 0, 45, 3, 42, 180, 0, 45, 190, 184, 0, 51]
theorem wdX2_takeAll_114 : LocW cX2_takeAll 114 bdX2_takeAll_114 := loc_of (by decide +kernel)
theorem adX2_takeAll_114 : De bdX2_takeAll_114 0 (.getfield 42) 3 ∧ De bdX2_takeAll_114 3 (.iconst 0) 1 ∧ De bdX2_takeAll_114 4 (.aload_n 0) 1 ∧ De bdX2_takeAll_114 5 (.getfield 42) 3 ∧ De bdX2_takeAll_114 8 (.arraylength) 1 ∧ De bdX2_takeAll_114 9 (.invokestatic 51) 3 ∧ De bdX2_takeAll_114 12 (.aload_n 1) 1 ∧ De bdX2_takeAll_114 13 (.getfield 45) 3 ∧ De bdX2_takeAll_114 16 (.iconst 0) 1 ∧ De bdX2_takeAll_114 17 (.aload_n 0) 1 ∧ De bdX2_takeAll_114 18 (.getfield 45) 3 ∧ De bdX2_takeAll_114 21 (.iconst 0) 1 ∧ De bdX2_takeAll_114 22 (.aload_n 0) 1 ∧ De bdX2_takeAll_114 23 (.getfield 45) 3 ∧ De bdX2_takeAll_114 26 (.arraylength) 1 ∧ De bdX2_takeAll_114 27 (.invokestatic 51) 3 := by decide +kernel
theorem dX2_takeAll_114 : decode cX2_takeAll 114 = .ok (.getfield 42, 3) := dAt wdX2_takeAll_114 adX2_takeAll_114.1 rfl
theorem dX2_takeAll_117 : decode cX2_takeAll 117 = .ok (.iconst 0, 1) := dAt wdX2_takeAll_114 adX2_takeAll_114.2.1 rfl
theorem dX2_takeAll_118 : decode cX2_takeAll 118 = .ok (.aload_n 0, 1) := dAt wdX2_takeAll_114 adX2_takeAll_114.2.2.1 rfl
theorem dX2_takeAll_119 : decode cX2_takeAll 119 = .ok (.getfield 42, 3) := dAt wdX2_takeAll_114 adX2_takeAll_114.2.2.2.1 rfl
theorem dX2_takeAll_122 : decode cX2_takeAll 122 = .ok (.arraylength, 1) := dAt wdX2_takeAll_114 adX2_takeAll_114.2.2.2.2.1 rfl
theorem dX2_takeAll_123 : decode cX2_takeAll 123 = .ok (.invokestatic 51, 3) := dAt wdX2_takeAll_114 adX2_takeAll_114.2.2.2.2.2.1 rfl
theorem dX2_takeAll_126 : decode cX2_takeAll 126 = .ok (.aload_n 1, 1) := dAt wdX2_takeAll_114 adX2_takeAll_114.2.2.2.2.2.2.1 rfl
theorem dX2_takeAll_127 : decode cX2_takeAll 127 = .ok (.getfield 45, 3) := dAt wdX2_takeAll_114 adX2_takeAll_114.2.2.2.2.2.2.2.1 rfl
theorem dX2_takeAll_130 : decode cX2_takeAll 130 = .ok (.iconst 0, 1) := dAt wdX2_takeAll_114 adX2_takeAll_114.2.2.2.2.2.2.2.2.1 rfl
theorem dX2_takeAll_131 : decode cX2_takeAll 131 = .ok (.aload_n 0, 1) := dAt wdX2_takeAll_114 adX2_takeAll_114.2.2.2.2.2.2.2.2.2.1 rfl
theorem dX2_takeAll_132 : decode cX2_takeAll 132 = .ok (.getfield 45, 3) := dAt wdX2_takeAll_114 adX2_takeAll_114.2.2.2.2.2.2.2.2.2.2.1 rfl
theorem dX2_takeAll_135 : decode cX2_takeAll 135 = .ok (.iconst 0, 1) := dAt wdX2_takeAll_114 adX2_takeAll_114.2.2.2.2.2.2.2.2.2.2.2.1 rfl
theorem dX2_takeAll_136 : decode cX2_takeAll 136 = .ok (.aload_n 0, 1) := dAt wdX2_takeAll_114 adX2_takeAll_114.2.2.2.2.2.2.2.2.2.2.2.2.1 rfl
theorem dX2_takeAll_137 : decode cX2_takeAll 137 = .ok (.getfield 45, 3) := dAt wdX2_takeAll_114 adX2_takeAll_114.2.2.2.2.2.2.2.2.2.2.2.2.2.1 rfl
theorem dX2_takeAll_140 : decode cX2_takeAll 140 = .ok (.arraylength, 1) := dAt wdX2_takeAll_114 adX2_takeAll_114.2.2.2.2.2.2.2.2.2.2.2.2.2.2.1 rfl
theorem dX2_takeAll_141 : decode cX2_takeAll 141 = .ok (.invokestatic 51, 3) := dAt wdX2_takeAll_114 adX2_takeAll_114.2.2.2.2.2.2.2.2.2.2.2.2.2.2.2 rfl
def bdX2_takeAll_144 : ByteArray := .mk #[42, 43, 180, 0, 32, 181, 0, 32, 42, 43, 180, 0, 48, 181, 0, 48, 3, 61, 28, 16, 54, 162, 0, 26, 42, 28, 43]
theorem wdX2_takeAll_144 : LocW cX2_takeAll 144 bdX2_takeAll_144 := loc_of (by decide +kernel)
theorem adX2_takeAll_144 : De bdX2_takeAll_144 0 (.aload_n 0) 1 ∧ De bdX2_takeAll_144 1 (.aload_n 1) 1 ∧ De bdX2_takeAll_144 2 (.getfield 32) 3 ∧ De bdX2_takeAll_144 5 (.putfield 32) 3 ∧ De bdX2_takeAll_144 8 (.aload_n 0) 1 ∧ De bdX2_takeAll_144 9 (.aload_n 1) 1 ∧ De bdX2_takeAll_144 10 (.getfield 48) 3 ∧ De bdX2_takeAll_144 13 (.putfield 48) 3 ∧ De bdX2_takeAll_144 16 (.iconst 0) 1 ∧ De bdX2_takeAll_144 17 (.istore_n 2) 1 ∧ De bdX2_takeAll_144 18 (.iload_n 2) 1 ∧ De bdX2_takeAll_144 19 (.bipush 54) 2 ∧ De bdX2_takeAll_144 21 (.if_icmp .ge 26) 3 ∧ De bdX2_takeAll_144 24 (.aload_n 0) 1 ∧ De bdX2_takeAll_144 25 (.iload_n 2) 1 ∧ De bdX2_takeAll_144 26 (.aload_n 1) 1 := by decide +kernel
theorem dX2_takeAll_144 : decode cX2_takeAll 144 = .ok (.aload_n 0, 1) := dAt wdX2_takeAll_144 adX2_takeAll_144.1 rfl
theorem dX2_takeAll_145 : decode cX2_takeAll 145 = .ok (.aload_n 1, 1) := dAt wdX2_takeAll_144 adX2_takeAll_144.2.1 rfl
theorem dX2_takeAll_146 : decode cX2_takeAll 146 = .ok (.getfield 32, 3) := dAt wdX2_takeAll_144 adX2_takeAll_144.2.2.1 rfl
theorem dX2_takeAll_149 : decode cX2_takeAll 149 = .ok (.putfield 32, 3) := dAt wdX2_takeAll_144 adX2_takeAll_144.2.2.2.1 rfl
theorem dX2_takeAll_152 : decode cX2_takeAll 152 = .ok (.aload_n 0, 1) := dAt wdX2_takeAll_144 adX2_takeAll_144.2.2.2.2.1 rfl
theorem dX2_takeAll_153 : decode cX2_takeAll 153 = .ok (.aload_n 1, 1) := dAt wdX2_takeAll_144 adX2_takeAll_144.2.2.2.2.2.1 rfl
theorem dX2_takeAll_154 : decode cX2_takeAll 154 = .ok (.getfield 48, 3) := dAt wdX2_takeAll_144 adX2_takeAll_144.2.2.2.2.2.2.1 rfl
theorem dX2_takeAll_157 : decode cX2_takeAll 157 = .ok (.putfield 48, 3) := dAt wdX2_takeAll_144 adX2_takeAll_144.2.2.2.2.2.2.2.1 rfl
theorem dX2_takeAll_160 : decode cX2_takeAll 160 = .ok (.iconst 0, 1) := dAt wdX2_takeAll_144 adX2_takeAll_144.2.2.2.2.2.2.2.2.1 rfl
theorem dX2_takeAll_161 : decode cX2_takeAll 161 = .ok (.istore_n 2, 1) := dAt wdX2_takeAll_144 adX2_takeAll_144.2.2.2.2.2.2.2.2.2.1 rfl
theorem dX2_takeAll_162 : decode cX2_takeAll 162 = .ok (.iload_n 2, 1) := dAt wdX2_takeAll_144 adX2_takeAll_144.2.2.2.2.2.2.2.2.2.2.1 rfl
theorem dX2_takeAll_163 : decode cX2_takeAll 163 = .ok (.bipush 54, 2) := dAt wdX2_takeAll_144 adX2_takeAll_144.2.2.2.2.2.2.2.2.2.2.2.1 rfl
theorem dX2_takeAll_165 : decode cX2_takeAll 165 = .ok (.if_icmp .ge 26, 3) := dAt wdX2_takeAll_144 adX2_takeAll_144.2.2.2.2.2.2.2.2.2.2.2.2.1 rfl
theorem dX2_takeAll_168 : decode cX2_takeAll 168 = .ok (.aload_n 0, 1) := dAt wdX2_takeAll_144 adX2_takeAll_144.2.2.2.2.2.2.2.2.2.2.2.2.2.1 rfl
theorem dX2_takeAll_169 : decode cX2_takeAll 169 = .ok (.iload_n 2, 1) := dAt wdX2_takeAll_144 adX2_takeAll_144.2.2.2.2.2.2.2.2.2.2.2.2.2.2.1 rfl
theorem dX2_takeAll_170 : decode cX2_takeAll 170 = .ok (.aload_n 1, 1) := dAt wdX2_takeAll_144 adX2_takeAll_144.2.2.2.2.2.2.2.2.2.2.2.2.2.2.2 rfl
def bdX2_takeAll_171 : ByteArray := .mk #[180, 0, 25, 28, 50, 43, 180, 0, 29, 28, 46, 182, 0, 57, 132, 2, 1, 167, 255, 230, 177]
theorem wdX2_takeAll_171 : LocW cX2_takeAll 171 bdX2_takeAll_171 := loc_of (by decide +kernel)
theorem adX2_takeAll_171 : De bdX2_takeAll_171 0 (.getfield 25) 3 ∧ De bdX2_takeAll_171 3 (.iload_n 2) 1 ∧ De bdX2_takeAll_171 4 (.aaload) 1 ∧ De bdX2_takeAll_171 5 (.aload_n 1) 1 ∧ De bdX2_takeAll_171 6 (.getfield 29) 3 ∧ De bdX2_takeAll_171 9 (.iload_n 2) 1 ∧ De bdX2_takeAll_171 10 (.iaload) 1 ∧ De bdX2_takeAll_171 11 (.invokevirtual 57) 3 ∧ De bdX2_takeAll_171 14 (.iinc 2 1) 3 ∧ De bdX2_takeAll_171 17 (.goto (-26)) 3 ∧ De bdX2_takeAll_171 20 (.return_) 1 := by decide +kernel
theorem dX2_takeAll_171 : decode cX2_takeAll 171 = .ok (.getfield 25, 3) := dAt wdX2_takeAll_171 adX2_takeAll_171.1 rfl
theorem dX2_takeAll_174 : decode cX2_takeAll 174 = .ok (.iload_n 2, 1) := dAt wdX2_takeAll_171 adX2_takeAll_171.2.1 rfl
theorem dX2_takeAll_175 : decode cX2_takeAll 175 = .ok (.aaload, 1) := dAt wdX2_takeAll_171 adX2_takeAll_171.2.2.1 rfl
theorem dX2_takeAll_176 : decode cX2_takeAll 176 = .ok (.aload_n 1, 1) := dAt wdX2_takeAll_171 adX2_takeAll_171.2.2.2.1 rfl
theorem dX2_takeAll_177 : decode cX2_takeAll 177 = .ok (.getfield 29, 3) := dAt wdX2_takeAll_171 adX2_takeAll_171.2.2.2.2.1 rfl
theorem dX2_takeAll_180 : decode cX2_takeAll 180 = .ok (.iload_n 2, 1) := dAt wdX2_takeAll_171 adX2_takeAll_171.2.2.2.2.2.1 rfl
theorem dX2_takeAll_181 : decode cX2_takeAll 181 = .ok (.iaload, 1) := dAt wdX2_takeAll_171 adX2_takeAll_171.2.2.2.2.2.2.1 rfl
theorem dX2_takeAll_182 : decode cX2_takeAll 182 = .ok (.invokevirtual 57, 3) := dAt wdX2_takeAll_171 adX2_takeAll_171.2.2.2.2.2.2.2.1 rfl
theorem dX2_takeAll_185 : decode cX2_takeAll 185 = .ok (.iinc 2 1, 3) := dAt wdX2_takeAll_171 adX2_takeAll_171.2.2.2.2.2.2.2.2.1 rfl
theorem dX2_takeAll_188 : decode cX2_takeAll 188 = .ok (.goto (-26), 3) := dAt wdX2_takeAll_171 adX2_takeAll_171.2.2.2.2.2.2.2.2.2.1 rfl
theorem dX2_takeAll_191 : decode cX2_takeAll 191 = .ok (.return_, 1) := dAt wdX2_takeAll_171 adX2_takeAll_171.2.2.2.2.2.2.2.2.2.2 rfl
def bdX2_takeRow_0 : ByteArray := .mk #[42, 180, 0, 29, 27, 3, 79, 3, 54, 4, 21, 4, 29, 162, 0, 29, 44, 198, 0, 25, 21, 4, 44, 190, 162, 0, 18]
theorem wdX2_takeRow_0 : LocW cX2_takeRow 0 bdX2_takeRow_0 := loc_of (by decide +kernel)
theorem adX2_takeRow_0 : De bdX2_takeRow_0 0 (.aload_n 0) 1 ∧ De bdX2_takeRow_0 1 (.getfield 29) 3 ∧ De bdX2_takeRow_0 4 (.iload_n 1) 1 ∧ De bdX2_takeRow_0 5 (.iconst 0) 1 ∧ De bdX2_takeRow_0 6 (.iastore) 1 ∧ De bdX2_takeRow_0 7 (.iconst 0) 1 ∧ De bdX2_takeRow_0 8 (.istore 4) 2 ∧ De bdX2_takeRow_0 10 (.iload 4) 2 ∧ De bdX2_takeRow_0 12 (.iload_n 3) 1 ∧ De bdX2_takeRow_0 13 (.if_icmp .ge 29) 3 ∧ De bdX2_takeRow_0 16 (.aload_n 2) 1 ∧ De bdX2_takeRow_0 17 (.ifnull 25) 3 ∧ De bdX2_takeRow_0 20 (.iload 4) 2 ∧ De bdX2_takeRow_0 22 (.aload_n 2) 1 ∧ De bdX2_takeRow_0 23 (.arraylength) 1 ∧ De bdX2_takeRow_0 24 (.if_icmp .ge 18) 3 := by decide +kernel
theorem dX2_takeRow_0 : decode cX2_takeRow 0 = .ok (.aload_n 0, 1) := dAt wdX2_takeRow_0 adX2_takeRow_0.1 rfl
theorem dX2_takeRow_1 : decode cX2_takeRow 1 = .ok (.getfield 29, 3) := dAt wdX2_takeRow_0 adX2_takeRow_0.2.1 rfl
theorem dX2_takeRow_4 : decode cX2_takeRow 4 = .ok (.iload_n 1, 1) := dAt wdX2_takeRow_0 adX2_takeRow_0.2.2.1 rfl
theorem dX2_takeRow_5 : decode cX2_takeRow 5 = .ok (.iconst 0, 1) := dAt wdX2_takeRow_0 adX2_takeRow_0.2.2.2.1 rfl
theorem dX2_takeRow_6 : decode cX2_takeRow 6 = .ok (.iastore, 1) := dAt wdX2_takeRow_0 adX2_takeRow_0.2.2.2.2.1 rfl
theorem dX2_takeRow_7 : decode cX2_takeRow 7 = .ok (.iconst 0, 1) := dAt wdX2_takeRow_0 adX2_takeRow_0.2.2.2.2.2.1 rfl
theorem dX2_takeRow_8 : decode cX2_takeRow 8 = .ok (.istore 4, 2) := dAt wdX2_takeRow_0 adX2_takeRow_0.2.2.2.2.2.2.1 rfl
theorem dX2_takeRow_10 : decode cX2_takeRow 10 = .ok (.iload 4, 2) := dAt wdX2_takeRow_0 adX2_takeRow_0.2.2.2.2.2.2.2.1 rfl
theorem dX2_takeRow_12 : decode cX2_takeRow 12 = .ok (.iload_n 3, 1) := dAt wdX2_takeRow_0 adX2_takeRow_0.2.2.2.2.2.2.2.2.1 rfl
theorem dX2_takeRow_13 : decode cX2_takeRow 13 = .ok (.if_icmp .ge 29, 3) := dAt wdX2_takeRow_0 adX2_takeRow_0.2.2.2.2.2.2.2.2.2.1 rfl
theorem dX2_takeRow_16 : decode cX2_takeRow 16 = .ok (.aload_n 2, 1) := dAt wdX2_takeRow_0 adX2_takeRow_0.2.2.2.2.2.2.2.2.2.2.1 rfl
theorem dX2_takeRow_17 : decode cX2_takeRow 17 = .ok (.ifnull 25, 3) := dAt wdX2_takeRow_0 adX2_takeRow_0.2.2.2.2.2.2.2.2.2.2.2.1 rfl
theorem dX2_takeRow_20 : decode cX2_takeRow 20 = .ok (.iload 4, 2) := dAt wdX2_takeRow_0 adX2_takeRow_0.2.2.2.2.2.2.2.2.2.2.2.2.1 rfl
theorem dX2_takeRow_22 : decode cX2_takeRow 22 = .ok (.aload_n 2, 1) := dAt wdX2_takeRow_0 adX2_takeRow_0.2.2.2.2.2.2.2.2.2.2.2.2.2.1 rfl
theorem dX2_takeRow_23 : decode cX2_takeRow 23 = .ok (.arraylength, 1) := dAt wdX2_takeRow_0 adX2_takeRow_0.2.2.2.2.2.2.2.2.2.2.2.2.2.2.1 rfl
theorem dX2_takeRow_24 : decode cX2_takeRow 24 = .ok (.if_icmp .ge 18, 3) := dAt wdX2_takeRow_0 adX2_takeRow_0.2.2.2.2.2.2.2.2.2.2.2.2.2.2.2 rfl
def bdX2_takeRow_27 : ByteArray := .mk #[42, 27, 44, 21, 4, 46, 182, 0, 61, 132, 4, 1, 167, 255, 227, 177]
theorem wdX2_takeRow_27 : LocW cX2_takeRow 27 bdX2_takeRow_27 := loc_of (by decide +kernel)
theorem adX2_takeRow_27 : De bdX2_takeRow_27 0 (.aload_n 0) 1 ∧ De bdX2_takeRow_27 1 (.iload_n 1) 1 ∧ De bdX2_takeRow_27 2 (.aload_n 2) 1 ∧ De bdX2_takeRow_27 3 (.iload 4) 2 ∧ De bdX2_takeRow_27 5 (.iaload) 1 ∧ De bdX2_takeRow_27 6 (.invokevirtual 61) 3 ∧ De bdX2_takeRow_27 9 (.iinc 4 1) 3 ∧ De bdX2_takeRow_27 12 (.goto (-29)) 3 ∧ De bdX2_takeRow_27 15 (.return_) 1 := by decide +kernel
theorem dX2_takeRow_27 : decode cX2_takeRow 27 = .ok (.aload_n 0, 1) := dAt wdX2_takeRow_27 adX2_takeRow_27.1 rfl
theorem dX2_takeRow_28 : decode cX2_takeRow 28 = .ok (.iload_n 1, 1) := dAt wdX2_takeRow_27 adX2_takeRow_27.2.1 rfl
theorem dX2_takeRow_29 : decode cX2_takeRow 29 = .ok (.aload_n 2, 1) := dAt wdX2_takeRow_27 adX2_takeRow_27.2.2.1 rfl
theorem dX2_takeRow_30 : decode cX2_takeRow 30 = .ok (.iload 4, 2) := dAt wdX2_takeRow_27 adX2_takeRow_27.2.2.2.1 rfl
theorem dX2_takeRow_32 : decode cX2_takeRow 32 = .ok (.iaload, 1) := dAt wdX2_takeRow_27 adX2_takeRow_27.2.2.2.2.1 rfl
theorem dX2_takeRow_33 : decode cX2_takeRow 33 = .ok (.invokevirtual 61, 3) := dAt wdX2_takeRow_27 adX2_takeRow_27.2.2.2.2.2.1 rfl
theorem dX2_takeRow_36 : decode cX2_takeRow 36 = .ok (.iinc 4 1, 3) := dAt wdX2_takeRow_27 adX2_takeRow_27.2.2.2.2.2.2.1 rfl
theorem dX2_takeRow_39 : decode cX2_takeRow 39 = .ok (.goto (-29), 3) := dAt wdX2_takeRow_27 adX2_takeRow_27.2.2.2.2.2.2.2.1 rfl
theorem dX2_takeRow_42 : decode cX2_takeRow 42 = .ok (.return_, 1) := dAt wdX2_takeRow_27 adX2_takeRow_27.2.2.2.2.2.2.2.2 rfl
def bdX2_addSlug_0 : ByteArray := .mk #[42, 180, 0, 25, 27, 50, 199, 0, 14, 42, 180, 0, 25, 27, 17, 0, 180, 188, 10, 83, 42, 180, 0, 29, 27, 46, 17, 0, 180]
theorem wdX2_addSlug_0 : LocW cX2_addSlug 0 bdX2_addSlug_0 := loc_of (by decide +kernel)
theorem adX2_addSlug_0 : De bdX2_addSlug_0 0 (.aload_n 0) 1 ∧ De bdX2_addSlug_0 1 (.getfield 25) 3 ∧ De bdX2_addSlug_0 4 (.iload_n 1) 1 ∧ De bdX2_addSlug_0 5 (.aaload) 1 ∧ De bdX2_addSlug_0 6 (.ifnonnull 14) 3 ∧ De bdX2_addSlug_0 9 (.aload_n 0) 1 ∧ De bdX2_addSlug_0 10 (.getfield 25) 3 ∧ De bdX2_addSlug_0 13 (.iload_n 1) 1 ∧ De bdX2_addSlug_0 14 (.sipush 180) 3 ∧ De bdX2_addSlug_0 17 (.newarray .int) 2 ∧ De bdX2_addSlug_0 19 (.aastore) 1 ∧ De bdX2_addSlug_0 20 (.aload_n 0) 1 ∧ De bdX2_addSlug_0 21 (.getfield 29) 3 ∧ De bdX2_addSlug_0 24 (.iload_n 1) 1 ∧ De bdX2_addSlug_0 25 (.iaload) 1 ∧ De bdX2_addSlug_0 26 (.sipush 180) 3 := by decide +kernel
theorem dX2_addSlug_0 : decode cX2_addSlug 0 = .ok (.aload_n 0, 1) := dAt wdX2_addSlug_0 adX2_addSlug_0.1 rfl
theorem dX2_addSlug_1 : decode cX2_addSlug 1 = .ok (.getfield 25, 3) := dAt wdX2_addSlug_0 adX2_addSlug_0.2.1 rfl
theorem dX2_addSlug_4 : decode cX2_addSlug 4 = .ok (.iload_n 1, 1) := dAt wdX2_addSlug_0 adX2_addSlug_0.2.2.1 rfl
theorem dX2_addSlug_5 : decode cX2_addSlug 5 = .ok (.aaload, 1) := dAt wdX2_addSlug_0 adX2_addSlug_0.2.2.2.1 rfl
theorem dX2_addSlug_6 : decode cX2_addSlug 6 = .ok (.ifnonnull 14, 3) := dAt wdX2_addSlug_0 adX2_addSlug_0.2.2.2.2.1 rfl
theorem dX2_addSlug_9 : decode cX2_addSlug 9 = .ok (.aload_n 0, 1) := dAt wdX2_addSlug_0 adX2_addSlug_0.2.2.2.2.2.1 rfl
theorem dX2_addSlug_10 : decode cX2_addSlug 10 = .ok (.getfield 25, 3) := dAt wdX2_addSlug_0 adX2_addSlug_0.2.2.2.2.2.2.1 rfl
theorem dX2_addSlug_13 : decode cX2_addSlug 13 = .ok (.iload_n 1, 1) := dAt wdX2_addSlug_0 adX2_addSlug_0.2.2.2.2.2.2.2.1 rfl
theorem dX2_addSlug_14 : decode cX2_addSlug 14 = .ok (.sipush 180, 3) := dAt wdX2_addSlug_0 adX2_addSlug_0.2.2.2.2.2.2.2.2.1 rfl
theorem dX2_addSlug_17 : decode cX2_addSlug 17 = .ok (.newarray .int, 2) := dAt wdX2_addSlug_0 adX2_addSlug_0.2.2.2.2.2.2.2.2.2.1 rfl
theorem dX2_addSlug_19 : decode cX2_addSlug 19 = .ok (.aastore, 1) := dAt wdX2_addSlug_0 adX2_addSlug_0.2.2.2.2.2.2.2.2.2.2.1 rfl
theorem dX2_addSlug_20 : decode cX2_addSlug 20 = .ok (.aload_n 0, 1) := dAt wdX2_addSlug_0 adX2_addSlug_0.2.2.2.2.2.2.2.2.2.2.2.1 rfl
theorem dX2_addSlug_21 : decode cX2_addSlug 21 = .ok (.getfield 29, 3) := dAt wdX2_addSlug_0 adX2_addSlug_0.2.2.2.2.2.2.2.2.2.2.2.2.1 rfl
theorem dX2_addSlug_24 : decode cX2_addSlug 24 = .ok (.iload_n 1, 1) := dAt wdX2_addSlug_0 adX2_addSlug_0.2.2.2.2.2.2.2.2.2.2.2.2.2.1 rfl
theorem dX2_addSlug_25 : decode cX2_addSlug 25 = .ok (.iaload, 1) := dAt wdX2_addSlug_0 adX2_addSlug_0.2.2.2.2.2.2.2.2.2.2.2.2.2.2.1 rfl
theorem dX2_addSlug_26 : decode cX2_addSlug 26 = .ok (.sipush 180, 3) := dAt wdX2_addSlug_0 adX2_addSlug_0.2.2.2.2.2.2.2.2.2.2.2.2.2.2.2 rfl
def bdX2_addSlug_29 : ByteArray := .mk #[162, 0, 27, 42, 180, 0, 25, 27, 50, 42, 180, 0, 29, 27, 46, 28, 79, 42, 180, 0, 29, 27, 92, 46]
theorem wdX2_addSlug_29 : LocW cX2_addSlug 29 bdX2_addSlug_29 := loc_of (by decide +kernel)
theorem adX2_addSlug_29 : De bdX2_addSlug_29 0 (.if_icmp .ge 27) 3 ∧ De bdX2_addSlug_29 3 (.aload_n 0) 1 ∧ De bdX2_addSlug_29 4 (.getfield 25) 3 ∧ De bdX2_addSlug_29 7 (.iload_n 1) 1 ∧ De bdX2_addSlug_29 8 (.aaload) 1 ∧ De bdX2_addSlug_29 9 (.aload_n 0) 1 ∧ De bdX2_addSlug_29 10 (.getfield 29) 3 ∧ De bdX2_addSlug_29 13 (.iload_n 1) 1 ∧ De bdX2_addSlug_29 14 (.iaload) 1 ∧ De bdX2_addSlug_29 15 (.iload_n 2) 1 ∧ De bdX2_addSlug_29 16 (.iastore) 1 ∧ De bdX2_addSlug_29 17 (.aload_n 0) 1 ∧ De bdX2_addSlug_29 18 (.getfield 29) 3 ∧ De bdX2_addSlug_29 21 (.iload_n 1) 1 ∧ De bdX2_addSlug_29 22 (.dup2) 1 ∧ De bdX2_addSlug_29 23 (.iaload) 1 := by decide +kernel
theorem dX2_addSlug_29 : decode cX2_addSlug 29 = .ok (.if_icmp .ge 27, 3) := dAt wdX2_addSlug_29 adX2_addSlug_29.1 rfl
theorem dX2_addSlug_32 : decode cX2_addSlug 32 = .ok (.aload_n 0, 1) := dAt wdX2_addSlug_29 adX2_addSlug_29.2.1 rfl
theorem dX2_addSlug_33 : decode cX2_addSlug 33 = .ok (.getfield 25, 3) := dAt wdX2_addSlug_29 adX2_addSlug_29.2.2.1 rfl
theorem dX2_addSlug_36 : decode cX2_addSlug 36 = .ok (.iload_n 1, 1) := dAt wdX2_addSlug_29 adX2_addSlug_29.2.2.2.1 rfl
theorem dX2_addSlug_37 : decode cX2_addSlug 37 = .ok (.aaload, 1) := dAt wdX2_addSlug_29 adX2_addSlug_29.2.2.2.2.1 rfl
theorem dX2_addSlug_38 : decode cX2_addSlug 38 = .ok (.aload_n 0, 1) := dAt wdX2_addSlug_29 adX2_addSlug_29.2.2.2.2.2.1 rfl
theorem dX2_addSlug_39 : decode cX2_addSlug 39 = .ok (.getfield 29, 3) := dAt wdX2_addSlug_29 adX2_addSlug_29.2.2.2.2.2.2.1 rfl
theorem dX2_addSlug_42 : decode cX2_addSlug 42 = .ok (.iload_n 1, 1) := dAt wdX2_addSlug_29 adX2_addSlug_29.2.2.2.2.2.2.2.1 rfl
theorem dX2_addSlug_43 : decode cX2_addSlug 43 = .ok (.iaload, 1) := dAt wdX2_addSlug_29 adX2_addSlug_29.2.2.2.2.2.2.2.2.1 rfl
theorem dX2_addSlug_44 : decode cX2_addSlug 44 = .ok (.iload_n 2, 1) := dAt wdX2_addSlug_29 adX2_addSlug_29.2.2.2.2.2.2.2.2.2.1 rfl
theorem dX2_addSlug_45 : decode cX2_addSlug 45 = .ok (.iastore, 1) := dAt wdX2_addSlug_29 adX2_addSlug_29.2.2.2.2.2.2.2.2.2.2.1 rfl
theorem dX2_addSlug_46 : decode cX2_addSlug 46 = .ok (.aload_n 0, 1) := dAt wdX2_addSlug_29 adX2_addSlug_29.2.2.2.2.2.2.2.2.2.2.2.1 rfl
theorem dX2_addSlug_47 : decode cX2_addSlug 47 = .ok (.getfield 29, 3) := dAt wdX2_addSlug_29 adX2_addSlug_29.2.2.2.2.2.2.2.2.2.2.2.2.1 rfl
theorem dX2_addSlug_50 : decode cX2_addSlug 50 = .ok (.iload_n 1, 1) := dAt wdX2_addSlug_29 adX2_addSlug_29.2.2.2.2.2.2.2.2.2.2.2.2.2.1 rfl
theorem dX2_addSlug_51 : decode cX2_addSlug 51 = .ok (.dup2, 1) := dAt wdX2_addSlug_29 adX2_addSlug_29.2.2.2.2.2.2.2.2.2.2.2.2.2.2.1 rfl
theorem dX2_addSlug_52 : decode cX2_addSlug 52 = .ok (.iaload, 1) := dAt wdX2_addSlug_29 adX2_addSlug_29.2.2.2.2.2.2.2.2.2.2.2.2.2.2.2 rfl
def bdX2_addSlug_53 : ByteArray := .mk #[4, 96, 79, 177]
theorem wdX2_addSlug_53 : LocW cX2_addSlug 53 bdX2_addSlug_53 := loc_of (by decide +kernel)
theorem adX2_addSlug_53 : De bdX2_addSlug_53 0 (.iconst 1) 1 ∧ De bdX2_addSlug_53 1 (.iadd) 1 ∧ De bdX2_addSlug_53 2 (.iastore) 1 ∧ De bdX2_addSlug_53 3 (.return_) 1 := by decide +kernel
theorem dX2_addSlug_53 : decode cX2_addSlug 53 = .ok (.iconst 1, 1) := dAt wdX2_addSlug_53 adX2_addSlug_53.1 rfl
theorem dX2_addSlug_54 : decode cX2_addSlug 54 = .ok (.iadd, 1) := dAt wdX2_addSlug_53 adX2_addSlug_53.2.1 rfl
theorem dX2_addSlug_55 : decode cX2_addSlug 55 = .ok (.iastore, 1) := dAt wdX2_addSlug_53 adX2_addSlug_53.2.2.1 rfl
theorem dX2_addSlug_56 : decode cX2_addSlug 56 = .ok (.return_, 1) := dAt wdX2_addSlug_53 adX2_addSlug_53.2.2.2 rfl
def bdX2_emptyRow_0 : ByteArray := .mk #[42, 180, 0, 29, 27, 3, 79, 27, 172]
theorem wdX2_emptyRow_0 : LocW cX2_emptyRow 0 bdX2_emptyRow_0 := loc_of (by decide +kernel)
theorem adX2_emptyRow_0 : De bdX2_emptyRow_0 0 (.aload_n 0) 1 ∧ De bdX2_emptyRow_0 1 (.getfield 29) 3 ∧ De bdX2_emptyRow_0 4 (.iload_n 1) 1 ∧ De bdX2_emptyRow_0 5 (.iconst 0) 1 ∧ De bdX2_emptyRow_0 6 (.iastore) 1 ∧ De bdX2_emptyRow_0 7 (.iload_n 1) 1 ∧ De bdX2_emptyRow_0 8 (.ireturn) 1 := by decide +kernel
theorem dX2_emptyRow_0 : decode cX2_emptyRow 0 = .ok (.aload_n 0, 1) := dAt wdX2_emptyRow_0 adX2_emptyRow_0.1 rfl
theorem dX2_emptyRow_1 : decode cX2_emptyRow 1 = .ok (.getfield 29, 3) := dAt wdX2_emptyRow_0 adX2_emptyRow_0.2.1 rfl
theorem dX2_emptyRow_4 : decode cX2_emptyRow 4 = .ok (.iload_n 1, 1) := dAt wdX2_emptyRow_0 adX2_emptyRow_0.2.2.1 rfl
theorem dX2_emptyRow_5 : decode cX2_emptyRow 5 = .ok (.iconst 0, 1) := dAt wdX2_emptyRow_0 adX2_emptyRow_0.2.2.2.1 rfl
theorem dX2_emptyRow_6 : decode cX2_emptyRow 6 = .ok (.iastore, 1) := dAt wdX2_emptyRow_0 adX2_emptyRow_0.2.2.2.2.1 rfl
theorem dX2_emptyRow_7 : decode cX2_emptyRow 7 = .ok (.iload_n 1, 1) := dAt wdX2_emptyRow_0 adX2_emptyRow_0.2.2.2.2.2.1 rfl
theorem dX2_emptyRow_8 : decode cX2_emptyRow 8 = .ok (.ireturn, 1) := dAt wdX2_emptyRow_0 adX2_emptyRow_0.2.2.2.2.2.2 rfl
def bdX2_layPart_0 : ByteArray := .mk #[3, 62, 29, 44, 180, 0, 65, 162, 0, 20, 42, 27, 44, 180, 0, 70, 29, 46, 182, 0, 61, 132, 3, 1, 167, 255, 234, 177]
theorem wdX2_layPart_0 : LocW cX2_layPart 0 bdX2_layPart_0 := loc_of (by decide +kernel)
theorem adX2_layPart_0 : De bdX2_layPart_0 0 (.iconst 0) 1 ∧ De bdX2_layPart_0 1 (.istore_n 3) 1 ∧ De bdX2_layPart_0 2 (.iload_n 3) 1 ∧ De bdX2_layPart_0 3 (.aload_n 2) 1 ∧ De bdX2_layPart_0 4 (.getfield 65) 3 ∧ De bdX2_layPart_0 7 (.if_icmp .ge 20) 3 ∧ De bdX2_layPart_0 10 (.aload_n 0) 1 ∧ De bdX2_layPart_0 11 (.iload_n 1) 1 ∧ De bdX2_layPart_0 12 (.aload_n 2) 1 ∧ De bdX2_layPart_0 13 (.getfield 70) 3 ∧ De bdX2_layPart_0 16 (.iload_n 3) 1 ∧ De bdX2_layPart_0 17 (.iaload) 1 ∧ De bdX2_layPart_0 18 (.invokevirtual 61) 3 ∧ De bdX2_layPart_0 21 (.iinc 3 1) 3 ∧ De bdX2_layPart_0 24 (.goto (-22)) 3 ∧ De bdX2_layPart_0 27 (.return_) 1 := by decide +kernel
theorem dX2_layPart_0 : decode cX2_layPart 0 = .ok (.iconst 0, 1) := dAt wdX2_layPart_0 adX2_layPart_0.1 rfl
theorem dX2_layPart_1 : decode cX2_layPart 1 = .ok (.istore_n 3, 1) := dAt wdX2_layPart_0 adX2_layPart_0.2.1 rfl
theorem dX2_layPart_2 : decode cX2_layPart 2 = .ok (.iload_n 3, 1) := dAt wdX2_layPart_0 adX2_layPart_0.2.2.1 rfl
theorem dX2_layPart_3 : decode cX2_layPart 3 = .ok (.aload_n 2, 1) := dAt wdX2_layPart_0 adX2_layPart_0.2.2.2.1 rfl
theorem dX2_layPart_4 : decode cX2_layPart 4 = .ok (.getfield 65, 3) := dAt wdX2_layPart_0 adX2_layPart_0.2.2.2.2.1 rfl
theorem dX2_layPart_7 : decode cX2_layPart 7 = .ok (.if_icmp .ge 20, 3) := dAt wdX2_layPart_0 adX2_layPart_0.2.2.2.2.2.1 rfl
theorem dX2_layPart_10 : decode cX2_layPart 10 = .ok (.aload_n 0, 1) := dAt wdX2_layPart_0 adX2_layPart_0.2.2.2.2.2.2.1 rfl
theorem dX2_layPart_11 : decode cX2_layPart 11 = .ok (.iload_n 1, 1) := dAt wdX2_layPart_0 adX2_layPart_0.2.2.2.2.2.2.2.1 rfl
theorem dX2_layPart_12 : decode cX2_layPart 12 = .ok (.aload_n 2, 1) := dAt wdX2_layPart_0 adX2_layPart_0.2.2.2.2.2.2.2.2.1 rfl
theorem dX2_layPart_13 : decode cX2_layPart 13 = .ok (.getfield 70, 3) := dAt wdX2_layPart_0 adX2_layPart_0.2.2.2.2.2.2.2.2.2.1 rfl
theorem dX2_layPart_16 : decode cX2_layPart 16 = .ok (.iload_n 3, 1) := dAt wdX2_layPart_0 adX2_layPart_0.2.2.2.2.2.2.2.2.2.2.1 rfl
theorem dX2_layPart_17 : decode cX2_layPart 17 = .ok (.iaload, 1) := dAt wdX2_layPart_0 adX2_layPart_0.2.2.2.2.2.2.2.2.2.2.2.1 rfl
theorem dX2_layPart_18 : decode cX2_layPart 18 = .ok (.invokevirtual 61, 3) := dAt wdX2_layPart_0 adX2_layPart_0.2.2.2.2.2.2.2.2.2.2.2.2.1 rfl
theorem dX2_layPart_21 : decode cX2_layPart 21 = .ok (.iinc 3 1, 3) := dAt wdX2_layPart_0 adX2_layPart_0.2.2.2.2.2.2.2.2.2.2.2.2.2.1 rfl
theorem dX2_layPart_24 : decode cX2_layPart 24 = .ok (.goto (-22), 3) := dAt wdX2_layPart_0 adX2_layPart_0.2.2.2.2.2.2.2.2.2.2.2.2.2.2.1 rfl
theorem dX2_layPart_27 : decode cX2_layPart 27 = .ok (.return_, 1) := dAt wdX2_layPart_0 adX2_layPart_0.2.2.2.2.2.2.2.2.2.2.2.2.2.2.2 rfl
def bdX2_addEdition_0 : ByteArray := .mk #[42, 89, 180, 0, 32, 4, 96, 181, 0, 32, 3, 60, 27, 16, 6, 162, 0, 34, 42, 16, 6, 42, 180, 0, 32, 104]
theorem wdX2_addEdition_0 : LocW cX2_addEdition 0 bdX2_addEdition_0 := loc_of (by decide +kernel)
theorem adX2_addEdition_0 : De bdX2_addEdition_0 0 (.aload_n 0) 1 ∧ De bdX2_addEdition_0 1 (.dup) 1 ∧ De bdX2_addEdition_0 2 (.getfield 32) 3 ∧ De bdX2_addEdition_0 5 (.iconst 1) 1 ∧ De bdX2_addEdition_0 6 (.iadd) 1 ∧ De bdX2_addEdition_0 7 (.putfield 32) 3 ∧ De bdX2_addEdition_0 10 (.iconst 0) 1 ∧ De bdX2_addEdition_0 11 (.istore_n 1) 1 ∧ De bdX2_addEdition_0 12 (.iload_n 1) 1 ∧ De bdX2_addEdition_0 13 (.bipush 6) 2 ∧ De bdX2_addEdition_0 15 (.if_icmp .ge 34) 3 ∧ De bdX2_addEdition_0 18 (.aload_n 0) 1 ∧ De bdX2_addEdition_0 19 (.bipush 6) 2 ∧ De bdX2_addEdition_0 21 (.aload_n 0) 1 ∧ De bdX2_addEdition_0 22 (.getfield 32) 3 ∧ De bdX2_addEdition_0 25 (.imul) 1 := by decide +kernel
theorem dX2_addEdition_0 : decode cX2_addEdition 0 = .ok (.aload_n 0, 1) := dAt wdX2_addEdition_0 adX2_addEdition_0.1 rfl
theorem dX2_addEdition_1 : decode cX2_addEdition 1 = .ok (.dup, 1) := dAt wdX2_addEdition_0 adX2_addEdition_0.2.1 rfl
theorem dX2_addEdition_2 : decode cX2_addEdition 2 = .ok (.getfield 32, 3) := dAt wdX2_addEdition_0 adX2_addEdition_0.2.2.1 rfl
theorem dX2_addEdition_5 : decode cX2_addEdition 5 = .ok (.iconst 1, 1) := dAt wdX2_addEdition_0 adX2_addEdition_0.2.2.2.1 rfl
theorem dX2_addEdition_6 : decode cX2_addEdition 6 = .ok (.iadd, 1) := dAt wdX2_addEdition_0 adX2_addEdition_0.2.2.2.2.1 rfl
theorem dX2_addEdition_7 : decode cX2_addEdition 7 = .ok (.putfield 32, 3) := dAt wdX2_addEdition_0 adX2_addEdition_0.2.2.2.2.2.1 rfl
theorem dX2_addEdition_10 : decode cX2_addEdition 10 = .ok (.iconst 0, 1) := dAt wdX2_addEdition_0 adX2_addEdition_0.2.2.2.2.2.2.1 rfl
theorem dX2_addEdition_11 : decode cX2_addEdition 11 = .ok (.istore_n 1, 1) := dAt wdX2_addEdition_0 adX2_addEdition_0.2.2.2.2.2.2.2.1 rfl
theorem dX2_addEdition_12 : decode cX2_addEdition 12 = .ok (.iload_n 1, 1) := dAt wdX2_addEdition_0 adX2_addEdition_0.2.2.2.2.2.2.2.2.1 rfl
theorem dX2_addEdition_13 : decode cX2_addEdition 13 = .ok (.bipush 6, 2) := dAt wdX2_addEdition_0 adX2_addEdition_0.2.2.2.2.2.2.2.2.2.1 rfl
theorem dX2_addEdition_15 : decode cX2_addEdition 15 = .ok (.if_icmp .ge 34, 3) := dAt wdX2_addEdition_0 adX2_addEdition_0.2.2.2.2.2.2.2.2.2.2.1 rfl
theorem dX2_addEdition_18 : decode cX2_addEdition 18 = .ok (.aload_n 0, 1) := dAt wdX2_addEdition_0 adX2_addEdition_0.2.2.2.2.2.2.2.2.2.2.2.1 rfl
theorem dX2_addEdition_19 : decode cX2_addEdition 19 = .ok (.bipush 6, 2) := dAt wdX2_addEdition_0 adX2_addEdition_0.2.2.2.2.2.2.2.2.2.2.2.2.1 rfl
theorem dX2_addEdition_21 : decode cX2_addEdition 21 = .ok (.aload_n 0, 1) := dAt wdX2_addEdition_0 adX2_addEdition_0.2.2.2.2.2.2.2.2.2.2.2.2.2.1 rfl
theorem dX2_addEdition_22 : decode cX2_addEdition 22 = .ok (.getfield 32, 3) := dAt wdX2_addEdition_0 adX2_addEdition_0.2.2.2.2.2.2.2.2.2.2.2.2.2.2.1 rfl
theorem dX2_addEdition_25 : decode cX2_addEdition 25 = .ok (.imul, 1) := dAt wdX2_addEdition_0 adX2_addEdition_0.2.2.2.2.2.2.2.2.2.2.2.2.2.2.2 rfl
def bdX2_addEdition_26 : ByteArray := .mk #[27, 96, 42, 180, 0, 25, 27, 50, 42, 180, 0, 29, 27, 46, 182, 0, 57, 132, 1, 1, 167, 255, 222, 42, 180, 0, 32, 4]
theorem wdX2_addEdition_26 : LocW cX2_addEdition 26 bdX2_addEdition_26 := loc_of (by decide +kernel)
theorem adX2_addEdition_26 : De bdX2_addEdition_26 0 (.iload_n 1) 1 ∧ De bdX2_addEdition_26 1 (.iadd) 1 ∧ De bdX2_addEdition_26 2 (.aload_n 0) 1 ∧ De bdX2_addEdition_26 3 (.getfield 25) 3 ∧ De bdX2_addEdition_26 6 (.iload_n 1) 1 ∧ De bdX2_addEdition_26 7 (.aaload) 1 ∧ De bdX2_addEdition_26 8 (.aload_n 0) 1 ∧ De bdX2_addEdition_26 9 (.getfield 29) 3 ∧ De bdX2_addEdition_26 12 (.iload_n 1) 1 ∧ De bdX2_addEdition_26 13 (.iaload) 1 ∧ De bdX2_addEdition_26 14 (.invokevirtual 57) 3 ∧ De bdX2_addEdition_26 17 (.iinc 1 1) 3 ∧ De bdX2_addEdition_26 20 (.goto (-34)) 3 ∧ De bdX2_addEdition_26 23 (.aload_n 0) 1 ∧ De bdX2_addEdition_26 24 (.getfield 32) 3 ∧ De bdX2_addEdition_26 27 (.iconst 1) 1 := by decide +kernel
theorem dX2_addEdition_26 : decode cX2_addEdition 26 = .ok (.iload_n 1, 1) := dAt wdX2_addEdition_26 adX2_addEdition_26.1 rfl
theorem dX2_addEdition_27 : decode cX2_addEdition 27 = .ok (.iadd, 1) := dAt wdX2_addEdition_26 adX2_addEdition_26.2.1 rfl
theorem dX2_addEdition_28 : decode cX2_addEdition 28 = .ok (.aload_n 0, 1) := dAt wdX2_addEdition_26 adX2_addEdition_26.2.2.1 rfl
theorem dX2_addEdition_29 : decode cX2_addEdition 29 = .ok (.getfield 25, 3) := dAt wdX2_addEdition_26 adX2_addEdition_26.2.2.2.1 rfl
theorem dX2_addEdition_32 : decode cX2_addEdition 32 = .ok (.iload_n 1, 1) := dAt wdX2_addEdition_26 adX2_addEdition_26.2.2.2.2.1 rfl
theorem dX2_addEdition_33 : decode cX2_addEdition 33 = .ok (.aaload, 1) := dAt wdX2_addEdition_26 adX2_addEdition_26.2.2.2.2.2.1 rfl
theorem dX2_addEdition_34 : decode cX2_addEdition 34 = .ok (.aload_n 0, 1) := dAt wdX2_addEdition_26 adX2_addEdition_26.2.2.2.2.2.2.1 rfl
theorem dX2_addEdition_35 : decode cX2_addEdition 35 = .ok (.getfield 29, 3) := dAt wdX2_addEdition_26 adX2_addEdition_26.2.2.2.2.2.2.2.1 rfl
theorem dX2_addEdition_38 : decode cX2_addEdition 38 = .ok (.iload_n 1, 1) := dAt wdX2_addEdition_26 adX2_addEdition_26.2.2.2.2.2.2.2.2.1 rfl
theorem dX2_addEdition_39 : decode cX2_addEdition 39 = .ok (.iaload, 1) := dAt wdX2_addEdition_26 adX2_addEdition_26.2.2.2.2.2.2.2.2.2.1 rfl
theorem dX2_addEdition_40 : decode cX2_addEdition 40 = .ok (.invokevirtual 57, 3) := dAt wdX2_addEdition_26 adX2_addEdition_26.2.2.2.2.2.2.2.2.2.2.1 rfl
theorem dX2_addEdition_43 : decode cX2_addEdition 43 = .ok (.iinc 1 1, 3) := dAt wdX2_addEdition_26 adX2_addEdition_26.2.2.2.2.2.2.2.2.2.2.2.1 rfl
theorem dX2_addEdition_46 : decode cX2_addEdition 46 = .ok (.goto (-34), 3) := dAt wdX2_addEdition_26 adX2_addEdition_26.2.2.2.2.2.2.2.2.2.2.2.2.1 rfl
theorem dX2_addEdition_49 : decode cX2_addEdition 49 = .ok (.aload_n 0, 1) := dAt wdX2_addEdition_26 adX2_addEdition_26.2.2.2.2.2.2.2.2.2.2.2.2.2.1 rfl
theorem dX2_addEdition_50 : decode cX2_addEdition 50 = .ok (.getfield 32, 3) := dAt wdX2_addEdition_26 adX2_addEdition_26.2.2.2.2.2.2.2.2.2.2.2.2.2.2.1 rfl
theorem dX2_addEdition_53 : decode cX2_addEdition 53 = .ok (.iconst 1, 1) := dAt wdX2_addEdition_26 adX2_addEdition_26.2.2.2.2.2.2.2.2.2.2.2.2.2.2.2 rfl
def bdX2_addEdition_54 : ByteArray := .mk #[100, 172]
theorem wdX2_addEdition_54 : LocW cX2_addEdition 54 bdX2_addEdition_54 := loc_of (by decide +kernel)
theorem adX2_addEdition_54 : De bdX2_addEdition_54 0 (.isub) 1 ∧ De bdX2_addEdition_54 1 (.ireturn) 1 := by decide +kernel
theorem dX2_addEdition_54 : decode cX2_addEdition 54 = .ok (.isub, 1) := dAt wdX2_addEdition_54 adX2_addEdition_54.1 rfl
theorem dX2_addEdition_55 : decode cX2_addEdition 55 = .ok (.ireturn, 1) := dAt wdX2_addEdition_54 adX2_addEdition_54.2 rfl
def bdX2_slugOn_0 : ByteArray := .mk #[28, 155, 0, 22, 28, 42, 180, 0, 29, 27, 46, 162, 0, 12, 42, 180, 0, 25, 27, 50, 199, 0, 7, 2, 167, 0, 11, 42]
theorem wdX2_slugOn_0 : LocW cX2_slugOn 0 bdX2_slugOn_0 := loc_of (by decide +kernel)
theorem adX2_slugOn_0 : De bdX2_slugOn_0 0 (.iload_n 2) 1 ∧ De bdX2_slugOn_0 1 (.ifCond .lt 22) 3 ∧ De bdX2_slugOn_0 4 (.iload_n 2) 1 ∧ De bdX2_slugOn_0 5 (.aload_n 0) 1 ∧ De bdX2_slugOn_0 6 (.getfield 29) 3 ∧ De bdX2_slugOn_0 9 (.iload_n 1) 1 ∧ De bdX2_slugOn_0 10 (.iaload) 1 ∧ De bdX2_slugOn_0 11 (.if_icmp .ge 12) 3 ∧ De bdX2_slugOn_0 14 (.aload_n 0) 1 ∧ De bdX2_slugOn_0 15 (.getfield 25) 3 ∧ De bdX2_slugOn_0 18 (.iload_n 1) 1 ∧ De bdX2_slugOn_0 19 (.aaload) 1 ∧ De bdX2_slugOn_0 20 (.ifnonnull 7) 3 ∧ De bdX2_slugOn_0 23 (.iconst (-1)) 1 ∧ De bdX2_slugOn_0 24 (.goto 11) 3 ∧ De bdX2_slugOn_0 27 (.aload_n 0) 1 := by decide +kernel
theorem dX2_slugOn_0 : decode cX2_slugOn 0 = .ok (.iload_n 2, 1) := dAt wdX2_slugOn_0 adX2_slugOn_0.1 rfl
theorem dX2_slugOn_1 : decode cX2_slugOn 1 = .ok (.ifCond .lt 22, 3) := dAt wdX2_slugOn_0 adX2_slugOn_0.2.1 rfl
theorem dX2_slugOn_4 : decode cX2_slugOn 4 = .ok (.iload_n 2, 1) := dAt wdX2_slugOn_0 adX2_slugOn_0.2.2.1 rfl
theorem dX2_slugOn_5 : decode cX2_slugOn 5 = .ok (.aload_n 0, 1) := dAt wdX2_slugOn_0 adX2_slugOn_0.2.2.2.1 rfl
theorem dX2_slugOn_6 : decode cX2_slugOn 6 = .ok (.getfield 29, 3) := dAt wdX2_slugOn_0 adX2_slugOn_0.2.2.2.2.1 rfl
theorem dX2_slugOn_9 : decode cX2_slugOn 9 = .ok (.iload_n 1, 1) := dAt wdX2_slugOn_0 adX2_slugOn_0.2.2.2.2.2.1 rfl
theorem dX2_slugOn_10 : decode cX2_slugOn 10 = .ok (.iaload, 1) := dAt wdX2_slugOn_0 adX2_slugOn_0.2.2.2.2.2.2.1 rfl
theorem dX2_slugOn_11 : decode cX2_slugOn 11 = .ok (.if_icmp .ge 12, 3) := dAt wdX2_slugOn_0 adX2_slugOn_0.2.2.2.2.2.2.2.1 rfl
theorem dX2_slugOn_14 : decode cX2_slugOn 14 = .ok (.aload_n 0, 1) := dAt wdX2_slugOn_0 adX2_slugOn_0.2.2.2.2.2.2.2.2.1 rfl
theorem dX2_slugOn_15 : decode cX2_slugOn 15 = .ok (.getfield 25, 3) := dAt wdX2_slugOn_0 adX2_slugOn_0.2.2.2.2.2.2.2.2.2.1 rfl
theorem dX2_slugOn_18 : decode cX2_slugOn 18 = .ok (.iload_n 1, 1) := dAt wdX2_slugOn_0 adX2_slugOn_0.2.2.2.2.2.2.2.2.2.2.1 rfl
theorem dX2_slugOn_19 : decode cX2_slugOn 19 = .ok (.aaload, 1) := dAt wdX2_slugOn_0 adX2_slugOn_0.2.2.2.2.2.2.2.2.2.2.2.1 rfl
theorem dX2_slugOn_20 : decode cX2_slugOn 20 = .ok (.ifnonnull 7, 3) := dAt wdX2_slugOn_0 adX2_slugOn_0.2.2.2.2.2.2.2.2.2.2.2.2.1 rfl
theorem dX2_slugOn_23 : decode cX2_slugOn 23 = .ok (.iconst (-1), 1) := dAt wdX2_slugOn_0 adX2_slugOn_0.2.2.2.2.2.2.2.2.2.2.2.2.2.1 rfl
theorem dX2_slugOn_24 : decode cX2_slugOn 24 = .ok (.goto 11, 3) := dAt wdX2_slugOn_0 adX2_slugOn_0.2.2.2.2.2.2.2.2.2.2.2.2.2.2.1 rfl
theorem dX2_slugOn_27 : decode cX2_slugOn 27 = .ok (.aload_n 0, 1) := dAt wdX2_slugOn_0 adX2_slugOn_0.2.2.2.2.2.2.2.2.2.2.2.2.2.2.2 rfl
def bdX2_slugOn_28 : ByteArray := .mk #[180, 0, 25, 27, 50, 28, 46, 172]
theorem wdX2_slugOn_28 : LocW cX2_slugOn 28 bdX2_slugOn_28 := loc_of (by decide +kernel)
theorem adX2_slugOn_28 : De bdX2_slugOn_28 0 (.getfield 25) 3 ∧ De bdX2_slugOn_28 3 (.iload_n 1) 1 ∧ De bdX2_slugOn_28 4 (.aaload) 1 ∧ De bdX2_slugOn_28 5 (.iload_n 2) 1 ∧ De bdX2_slugOn_28 6 (.iaload) 1 ∧ De bdX2_slugOn_28 7 (.ireturn) 1 := by decide +kernel
theorem dX2_slugOn_28 : decode cX2_slugOn 28 = .ok (.getfield 25, 3) := dAt wdX2_slugOn_28 adX2_slugOn_28.1 rfl
theorem dX2_slugOn_31 : decode cX2_slugOn 31 = .ok (.iload_n 1, 1) := dAt wdX2_slugOn_28 adX2_slugOn_28.2.1 rfl
theorem dX2_slugOn_32 : decode cX2_slugOn 32 = .ok (.aaload, 1) := dAt wdX2_slugOn_28 adX2_slugOn_28.2.2.1 rfl
theorem dX2_slugOn_33 : decode cX2_slugOn 33 = .ok (.iload_n 2, 1) := dAt wdX2_slugOn_28 adX2_slugOn_28.2.2.2.1 rfl
theorem dX2_slugOn_34 : decode cX2_slugOn 34 = .ok (.iaload, 1) := dAt wdX2_slugOn_28 adX2_slugOn_28.2.2.2.2.1 rfl
theorem dX2_slugOn_35 : decode cX2_slugOn 35 = .ok (.ireturn, 1) := dAt wdX2_slugOn_28 adX2_slugOn_28.2.2.2.2.2 rfl
def bdX2_countNew_0 : ByteArray := .mk #[3, 62, 3, 54, 4, 21, 4, 42, 180, 0, 29, 28, 46, 162, 0, 32, 29, 42, 27, 42, 28, 21, 4]
theorem wdX2_countNew_0 : LocW cX2_countNew 0 bdX2_countNew_0 := loc_of (by decide +kernel)
theorem adX2_countNew_0 : De bdX2_countNew_0 0 (.iconst 0) 1 ∧ De bdX2_countNew_0 1 (.istore_n 3) 1 ∧ De bdX2_countNew_0 2 (.iconst 0) 1 ∧ De bdX2_countNew_0 3 (.istore 4) 2 ∧ De bdX2_countNew_0 5 (.iload 4) 2 ∧ De bdX2_countNew_0 7 (.aload_n 0) 1 ∧ De bdX2_countNew_0 8 (.getfield 29) 3 ∧ De bdX2_countNew_0 11 (.iload_n 2) 1 ∧ De bdX2_countNew_0 12 (.iaload) 1 ∧ De bdX2_countNew_0 13 (.if_icmp .ge 32) 3 ∧ De bdX2_countNew_0 16 (.iload_n 3) 1 ∧ De bdX2_countNew_0 17 (.aload_n 0) 1 ∧ De bdX2_countNew_0 18 (.iload_n 1) 1 ∧ De bdX2_countNew_0 19 (.aload_n 0) 1 ∧ De bdX2_countNew_0 20 (.iload_n 2) 1 ∧ De bdX2_countNew_0 21 (.iload 4) 2 := by decide +kernel
theorem dX2_countNew_0 : decode cX2_countNew 0 = .ok (.iconst 0, 1) := dAt wdX2_countNew_0 adX2_countNew_0.1 rfl
theorem dX2_countNew_1 : decode cX2_countNew 1 = .ok (.istore_n 3, 1) := dAt wdX2_countNew_0 adX2_countNew_0.2.1 rfl
theorem dX2_countNew_2 : decode cX2_countNew 2 = .ok (.iconst 0, 1) := dAt wdX2_countNew_0 adX2_countNew_0.2.2.1 rfl
theorem dX2_countNew_3 : decode cX2_countNew 3 = .ok (.istore 4, 2) := dAt wdX2_countNew_0 adX2_countNew_0.2.2.2.1 rfl
theorem dX2_countNew_5 : decode cX2_countNew 5 = .ok (.iload 4, 2) := dAt wdX2_countNew_0 adX2_countNew_0.2.2.2.2.1 rfl
theorem dX2_countNew_7 : decode cX2_countNew 7 = .ok (.aload_n 0, 1) := dAt wdX2_countNew_0 adX2_countNew_0.2.2.2.2.2.1 rfl
theorem dX2_countNew_8 : decode cX2_countNew 8 = .ok (.getfield 29, 3) := dAt wdX2_countNew_0 adX2_countNew_0.2.2.2.2.2.2.1 rfl
theorem dX2_countNew_11 : decode cX2_countNew 11 = .ok (.iload_n 2, 1) := dAt wdX2_countNew_0 adX2_countNew_0.2.2.2.2.2.2.2.1 rfl
theorem dX2_countNew_12 : decode cX2_countNew 12 = .ok (.iaload, 1) := dAt wdX2_countNew_0 adX2_countNew_0.2.2.2.2.2.2.2.2.1 rfl
theorem dX2_countNew_13 : decode cX2_countNew 13 = .ok (.if_icmp .ge 32, 3) := dAt wdX2_countNew_0 adX2_countNew_0.2.2.2.2.2.2.2.2.2.1 rfl
theorem dX2_countNew_16 : decode cX2_countNew 16 = .ok (.iload_n 3, 1) := dAt wdX2_countNew_0 adX2_countNew_0.2.2.2.2.2.2.2.2.2.2.1 rfl
theorem dX2_countNew_17 : decode cX2_countNew 17 = .ok (.aload_n 0, 1) := dAt wdX2_countNew_0 adX2_countNew_0.2.2.2.2.2.2.2.2.2.2.2.1 rfl
theorem dX2_countNew_18 : decode cX2_countNew 18 = .ok (.iload_n 1, 1) := dAt wdX2_countNew_0 adX2_countNew_0.2.2.2.2.2.2.2.2.2.2.2.2.1 rfl
theorem dX2_countNew_19 : decode cX2_countNew 19 = .ok (.aload_n 0, 1) := dAt wdX2_countNew_0 adX2_countNew_0.2.2.2.2.2.2.2.2.2.2.2.2.2.1 rfl
theorem dX2_countNew_20 : decode cX2_countNew 20 = .ok (.iload_n 2, 1) := dAt wdX2_countNew_0 adX2_countNew_0.2.2.2.2.2.2.2.2.2.2.2.2.2.2.1 rfl
theorem dX2_countNew_21 : decode cX2_countNew 21 = .ok (.iload 4, 2) := dAt wdX2_countNew_0 adX2_countNew_0.2.2.2.2.2.2.2.2.2.2.2.2.2.2.2 rfl
def bdX2_countNew_23 : ByteArray := .mk #[182, 0, 73, 182, 0, 77, 153, 0, 7, 3, 167, 0, 4, 4, 96, 62, 132, 4, 1, 167, 255, 219, 29, 172]
theorem wdX2_countNew_23 : LocW cX2_countNew 23 bdX2_countNew_23 := loc_of (by decide +kernel)
theorem adX2_countNew_23 : De bdX2_countNew_23 0 (.invokevirtual 73) 3 ∧ De bdX2_countNew_23 3 (.invokevirtual 77) 3 ∧ De bdX2_countNew_23 6 (.ifCond .eq 7) 3 ∧ De bdX2_countNew_23 9 (.iconst 0) 1 ∧ De bdX2_countNew_23 10 (.goto 4) 3 ∧ De bdX2_countNew_23 13 (.iconst 1) 1 ∧ De bdX2_countNew_23 14 (.iadd) 1 ∧ De bdX2_countNew_23 15 (.istore_n 3) 1 ∧ De bdX2_countNew_23 16 (.iinc 4 1) 3 ∧ De bdX2_countNew_23 19 (.goto (-37)) 3 ∧ De bdX2_countNew_23 22 (.iload_n 3) 1 ∧ De bdX2_countNew_23 23 (.ireturn) 1 := by decide +kernel
theorem dX2_countNew_23 : decode cX2_countNew 23 = .ok (.invokevirtual 73, 3) := dAt wdX2_countNew_23 adX2_countNew_23.1 rfl
theorem dX2_countNew_26 : decode cX2_countNew 26 = .ok (.invokevirtual 77, 3) := dAt wdX2_countNew_23 adX2_countNew_23.2.1 rfl
theorem dX2_countNew_29 : decode cX2_countNew 29 = .ok (.ifCond .eq 7, 3) := dAt wdX2_countNew_23 adX2_countNew_23.2.2.1 rfl
theorem dX2_countNew_32 : decode cX2_countNew 32 = .ok (.iconst 0, 1) := dAt wdX2_countNew_23 adX2_countNew_23.2.2.2.1 rfl
theorem dX2_countNew_33 : decode cX2_countNew 33 = .ok (.goto 4, 3) := dAt wdX2_countNew_23 adX2_countNew_23.2.2.2.2.1 rfl
theorem dX2_countNew_36 : decode cX2_countNew 36 = .ok (.iconst 1, 1) := dAt wdX2_countNew_23 adX2_countNew_23.2.2.2.2.2.1 rfl
theorem dX2_countNew_37 : decode cX2_countNew 37 = .ok (.iadd, 1) := dAt wdX2_countNew_23 adX2_countNew_23.2.2.2.2.2.2.1 rfl
theorem dX2_countNew_38 : decode cX2_countNew 38 = .ok (.istore_n 3, 1) := dAt wdX2_countNew_23 adX2_countNew_23.2.2.2.2.2.2.2.1 rfl
theorem dX2_countNew_39 : decode cX2_countNew 39 = .ok (.iinc 4 1, 3) := dAt wdX2_countNew_23 adX2_countNew_23.2.2.2.2.2.2.2.2.1 rfl
theorem dX2_countNew_42 : decode cX2_countNew 42 = .ok (.goto (-37), 3) := dAt wdX2_countNew_23 adX2_countNew_23.2.2.2.2.2.2.2.2.2.1 rfl
theorem dX2_countNew_45 : decode cX2_countNew 45 = .ok (.iload_n 3, 1) := dAt wdX2_countNew_23 adX2_countNew_23.2.2.2.2.2.2.2.2.2.2.1 rfl
theorem dX2_countNew_46 : decode cX2_countNew 46 = .ok (.ireturn, 1) := dAt wdX2_countNew_23 adX2_countNew_23.2.2.2.2.2.2.2.2.2.2.2 rfl
def bdX2_hasSlug_0 : ByteArray := .mk #[3, 62, 29, 42, 180, 0, 29, 27, 46, 162, 0, 21, 42, 27, 29, 182, 0, 73, 28, 160, 0, 5, 4, 172]
theorem wdX2_hasSlug_0 : LocW cX2_hasSlug 0 bdX2_hasSlug_0 := loc_of (by decide +kernel)
theorem adX2_hasSlug_0 : De bdX2_hasSlug_0 0 (.iconst 0) 1 ∧ De bdX2_hasSlug_0 1 (.istore_n 3) 1 ∧ De bdX2_hasSlug_0 2 (.iload_n 3) 1 ∧ De bdX2_hasSlug_0 3 (.aload_n 0) 1 ∧ De bdX2_hasSlug_0 4 (.getfield 29) 3 ∧ De bdX2_hasSlug_0 7 (.iload_n 1) 1 ∧ De bdX2_hasSlug_0 8 (.iaload) 1 ∧ De bdX2_hasSlug_0 9 (.if_icmp .ge 21) 3 ∧ De bdX2_hasSlug_0 12 (.aload_n 0) 1 ∧ De bdX2_hasSlug_0 13 (.iload_n 1) 1 ∧ De bdX2_hasSlug_0 14 (.iload_n 3) 1 ∧ De bdX2_hasSlug_0 15 (.invokevirtual 73) 3 ∧ De bdX2_hasSlug_0 18 (.iload_n 2) 1 ∧ De bdX2_hasSlug_0 19 (.if_icmp .ne 5) 3 ∧ De bdX2_hasSlug_0 22 (.iconst 1) 1 ∧ De bdX2_hasSlug_0 23 (.ireturn) 1 := by decide +kernel
theorem dX2_hasSlug_0 : decode cX2_hasSlug 0 = .ok (.iconst 0, 1) := dAt wdX2_hasSlug_0 adX2_hasSlug_0.1 rfl
theorem dX2_hasSlug_1 : decode cX2_hasSlug 1 = .ok (.istore_n 3, 1) := dAt wdX2_hasSlug_0 adX2_hasSlug_0.2.1 rfl
theorem dX2_hasSlug_2 : decode cX2_hasSlug 2 = .ok (.iload_n 3, 1) := dAt wdX2_hasSlug_0 adX2_hasSlug_0.2.2.1 rfl
theorem dX2_hasSlug_3 : decode cX2_hasSlug 3 = .ok (.aload_n 0, 1) := dAt wdX2_hasSlug_0 adX2_hasSlug_0.2.2.2.1 rfl
theorem dX2_hasSlug_4 : decode cX2_hasSlug 4 = .ok (.getfield 29, 3) := dAt wdX2_hasSlug_0 adX2_hasSlug_0.2.2.2.2.1 rfl
theorem dX2_hasSlug_7 : decode cX2_hasSlug 7 = .ok (.iload_n 1, 1) := dAt wdX2_hasSlug_0 adX2_hasSlug_0.2.2.2.2.2.1 rfl
theorem dX2_hasSlug_8 : decode cX2_hasSlug 8 = .ok (.iaload, 1) := dAt wdX2_hasSlug_0 adX2_hasSlug_0.2.2.2.2.2.2.1 rfl
theorem dX2_hasSlug_9 : decode cX2_hasSlug 9 = .ok (.if_icmp .ge 21, 3) := dAt wdX2_hasSlug_0 adX2_hasSlug_0.2.2.2.2.2.2.2.1 rfl
theorem dX2_hasSlug_12 : decode cX2_hasSlug 12 = .ok (.aload_n 0, 1) := dAt wdX2_hasSlug_0 adX2_hasSlug_0.2.2.2.2.2.2.2.2.1 rfl
theorem dX2_hasSlug_13 : decode cX2_hasSlug 13 = .ok (.iload_n 1, 1) := dAt wdX2_hasSlug_0 adX2_hasSlug_0.2.2.2.2.2.2.2.2.2.1 rfl
theorem dX2_hasSlug_14 : decode cX2_hasSlug 14 = .ok (.iload_n 3, 1) := dAt wdX2_hasSlug_0 adX2_hasSlug_0.2.2.2.2.2.2.2.2.2.2.1 rfl
theorem dX2_hasSlug_15 : decode cX2_hasSlug 15 = .ok (.invokevirtual 73, 3) := dAt wdX2_hasSlug_0 adX2_hasSlug_0.2.2.2.2.2.2.2.2.2.2.2.1 rfl
theorem dX2_hasSlug_18 : decode cX2_hasSlug 18 = .ok (.iload_n 2, 1) := dAt wdX2_hasSlug_0 adX2_hasSlug_0.2.2.2.2.2.2.2.2.2.2.2.2.1 rfl
theorem dX2_hasSlug_19 : decode cX2_hasSlug 19 = .ok (.if_icmp .ne 5, 3) := dAt wdX2_hasSlug_0 adX2_hasSlug_0.2.2.2.2.2.2.2.2.2.2.2.2.2.1 rfl
theorem dX2_hasSlug_22 : decode cX2_hasSlug 22 = .ok (.iconst 1, 1) := dAt wdX2_hasSlug_0 adX2_hasSlug_0.2.2.2.2.2.2.2.2.2.2.2.2.2.2.1 rfl
theorem dX2_hasSlug_23 : decode cX2_hasSlug 23 = .ok (.ireturn, 1) := dAt wdX2_hasSlug_0 adX2_hasSlug_0.2.2.2.2.2.2.2.2.2.2.2.2.2.2.2 rfl
def bdX2_hasSlug_24 : ByteArray := .mk #[132, 3, 1, 167, 255, 231, 3, 172]
theorem wdX2_hasSlug_24 : LocW cX2_hasSlug 24 bdX2_hasSlug_24 := loc_of (by decide +kernel)
theorem adX2_hasSlug_24 : De bdX2_hasSlug_24 0 (.iinc 3 1) 3 ∧ De bdX2_hasSlug_24 3 (.goto (-25)) 3 ∧ De bdX2_hasSlug_24 6 (.iconst 0) 1 ∧ De bdX2_hasSlug_24 7 (.ireturn) 1 := by decide +kernel
theorem dX2_hasSlug_24 : decode cX2_hasSlug 24 = .ok (.iinc 3 1, 3) := dAt wdX2_hasSlug_24 adX2_hasSlug_24.1 rfl
theorem dX2_hasSlug_27 : decode cX2_hasSlug 27 = .ok (.goto (-25), 3) := dAt wdX2_hasSlug_24 adX2_hasSlug_24.2.1 rfl
theorem dX2_hasSlug_30 : decode cX2_hasSlug 30 = .ok (.iconst 0, 1) := dAt wdX2_hasSlug_24 adX2_hasSlug_24.2.2.1 rfl
theorem dX2_hasSlug_31 : decode cX2_hasSlug 31 = .ok (.ireturn, 1) := dAt wdX2_hasSlug_24 adX2_hasSlug_24.2.2.2 rfl
def bdX2_addTelling_0 : ByteArray := .mk #[42, 180, 0, 48, 17, 0, 200, 161, 0, 4, 177, 42, 180, 0, 36, 42, 180, 0, 48, 27, 79, 42, 180, 0, 39, 42, 180, 0, 48, 28]
theorem wdX2_addTelling_0 : LocW cX2_addTelling 0 bdX2_addTelling_0 := loc_of (by decide +kernel)
theorem adX2_addTelling_0 : De bdX2_addTelling_0 0 (.aload_n 0) 1 ∧ De bdX2_addTelling_0 1 (.getfield 48) 3 ∧ De bdX2_addTelling_0 4 (.sipush 200) 3 ∧ De bdX2_addTelling_0 7 (.if_icmp .lt 4) 3 ∧ De bdX2_addTelling_0 10 (.return_) 1 ∧ De bdX2_addTelling_0 11 (.aload_n 0) 1 ∧ De bdX2_addTelling_0 12 (.getfield 36) 3 ∧ De bdX2_addTelling_0 15 (.aload_n 0) 1 ∧ De bdX2_addTelling_0 16 (.getfield 48) 3 ∧ De bdX2_addTelling_0 19 (.iload_n 1) 1 ∧ De bdX2_addTelling_0 20 (.iastore) 1 ∧ De bdX2_addTelling_0 21 (.aload_n 0) 1 ∧ De bdX2_addTelling_0 22 (.getfield 39) 3 ∧ De bdX2_addTelling_0 25 (.aload_n 0) 1 ∧ De bdX2_addTelling_0 26 (.getfield 48) 3 ∧ De bdX2_addTelling_0 29 (.iload_n 2) 1 := by decide +kernel
theorem dX2_addTelling_0 : decode cX2_addTelling 0 = .ok (.aload_n 0, 1) := dAt wdX2_addTelling_0 adX2_addTelling_0.1 rfl
theorem dX2_addTelling_1 : decode cX2_addTelling 1 = .ok (.getfield 48, 3) := dAt wdX2_addTelling_0 adX2_addTelling_0.2.1 rfl
theorem dX2_addTelling_4 : decode cX2_addTelling 4 = .ok (.sipush 200, 3) := dAt wdX2_addTelling_0 adX2_addTelling_0.2.2.1 rfl
theorem dX2_addTelling_7 : decode cX2_addTelling 7 = .ok (.if_icmp .lt 4, 3) := dAt wdX2_addTelling_0 adX2_addTelling_0.2.2.2.1 rfl
theorem dX2_addTelling_10 : decode cX2_addTelling 10 = .ok (.return_, 1) := dAt wdX2_addTelling_0 adX2_addTelling_0.2.2.2.2.1 rfl
theorem dX2_addTelling_11 : decode cX2_addTelling 11 = .ok (.aload_n 0, 1) := dAt wdX2_addTelling_0 adX2_addTelling_0.2.2.2.2.2.1 rfl
theorem dX2_addTelling_12 : decode cX2_addTelling 12 = .ok (.getfield 36, 3) := dAt wdX2_addTelling_0 adX2_addTelling_0.2.2.2.2.2.2.1 rfl
theorem dX2_addTelling_15 : decode cX2_addTelling 15 = .ok (.aload_n 0, 1) := dAt wdX2_addTelling_0 adX2_addTelling_0.2.2.2.2.2.2.2.1 rfl
theorem dX2_addTelling_16 : decode cX2_addTelling 16 = .ok (.getfield 48, 3) := dAt wdX2_addTelling_0 adX2_addTelling_0.2.2.2.2.2.2.2.2.1 rfl
theorem dX2_addTelling_19 : decode cX2_addTelling 19 = .ok (.iload_n 1, 1) := dAt wdX2_addTelling_0 adX2_addTelling_0.2.2.2.2.2.2.2.2.2.1 rfl
theorem dX2_addTelling_20 : decode cX2_addTelling 20 = .ok (.iastore, 1) := dAt wdX2_addTelling_0 adX2_addTelling_0.2.2.2.2.2.2.2.2.2.2.1 rfl
theorem dX2_addTelling_21 : decode cX2_addTelling 21 = .ok (.aload_n 0, 1) := dAt wdX2_addTelling_0 adX2_addTelling_0.2.2.2.2.2.2.2.2.2.2.2.1 rfl
theorem dX2_addTelling_22 : decode cX2_addTelling 22 = .ok (.getfield 39, 3) := dAt wdX2_addTelling_0 adX2_addTelling_0.2.2.2.2.2.2.2.2.2.2.2.2.1 rfl
theorem dX2_addTelling_25 : decode cX2_addTelling 25 = .ok (.aload_n 0, 1) := dAt wdX2_addTelling_0 adX2_addTelling_0.2.2.2.2.2.2.2.2.2.2.2.2.2.1 rfl
theorem dX2_addTelling_26 : decode cX2_addTelling 26 = .ok (.getfield 48, 3) := dAt wdX2_addTelling_0 adX2_addTelling_0.2.2.2.2.2.2.2.2.2.2.2.2.2.2.1 rfl
theorem dX2_addTelling_29 : decode cX2_addTelling 29 = .ok (.iload_n 2, 1) := dAt wdX2_addTelling_0 adX2_addTelling_0.2.2.2.2.2.2.2.2.2.2.2.2.2.2.2 rfl
def bdX2_addTelling_30 : ByteArray := .mk #[79, 42, 180, 0, 42, 42, 180, 0, 48, 29, 79, 42, 180, 0, 45, 42, 180, 0, 48, 21, 4, 79, 42, 89, 180, 0, 48]
theorem wdX2_addTelling_30 : LocW cX2_addTelling 30 bdX2_addTelling_30 := loc_of (by decide +kernel)
theorem adX2_addTelling_30 : De bdX2_addTelling_30 0 (.iastore) 1 ∧ De bdX2_addTelling_30 1 (.aload_n 0) 1 ∧ De bdX2_addTelling_30 2 (.getfield 42) 3 ∧ De bdX2_addTelling_30 5 (.aload_n 0) 1 ∧ De bdX2_addTelling_30 6 (.getfield 48) 3 ∧ De bdX2_addTelling_30 9 (.iload_n 3) 1 ∧ De bdX2_addTelling_30 10 (.iastore) 1 ∧ De bdX2_addTelling_30 11 (.aload_n 0) 1 ∧ De bdX2_addTelling_30 12 (.getfield 45) 3 ∧ De bdX2_addTelling_30 15 (.aload_n 0) 1 ∧ De bdX2_addTelling_30 16 (.getfield 48) 3 ∧ De bdX2_addTelling_30 19 (.iload 4) 2 ∧ De bdX2_addTelling_30 21 (.iastore) 1 ∧ De bdX2_addTelling_30 22 (.aload_n 0) 1 ∧ De bdX2_addTelling_30 23 (.dup) 1 ∧ De bdX2_addTelling_30 24 (.getfield 48) 3 := by decide +kernel
theorem dX2_addTelling_30 : decode cX2_addTelling 30 = .ok (.iastore, 1) := dAt wdX2_addTelling_30 adX2_addTelling_30.1 rfl
theorem dX2_addTelling_31 : decode cX2_addTelling 31 = .ok (.aload_n 0, 1) := dAt wdX2_addTelling_30 adX2_addTelling_30.2.1 rfl
theorem dX2_addTelling_32 : decode cX2_addTelling 32 = .ok (.getfield 42, 3) := dAt wdX2_addTelling_30 adX2_addTelling_30.2.2.1 rfl
theorem dX2_addTelling_35 : decode cX2_addTelling 35 = .ok (.aload_n 0, 1) := dAt wdX2_addTelling_30 adX2_addTelling_30.2.2.2.1 rfl
theorem dX2_addTelling_36 : decode cX2_addTelling 36 = .ok (.getfield 48, 3) := dAt wdX2_addTelling_30 adX2_addTelling_30.2.2.2.2.1 rfl
theorem dX2_addTelling_39 : decode cX2_addTelling 39 = .ok (.iload_n 3, 1) := dAt wdX2_addTelling_30 adX2_addTelling_30.2.2.2.2.2.1 rfl
theorem dX2_addTelling_40 : decode cX2_addTelling 40 = .ok (.iastore, 1) := dAt wdX2_addTelling_30 adX2_addTelling_30.2.2.2.2.2.2.1 rfl
theorem dX2_addTelling_41 : decode cX2_addTelling 41 = .ok (.aload_n 0, 1) := dAt wdX2_addTelling_30 adX2_addTelling_30.2.2.2.2.2.2.2.1 rfl
theorem dX2_addTelling_42 : decode cX2_addTelling 42 = .ok (.getfield 45, 3) := dAt wdX2_addTelling_30 adX2_addTelling_30.2.2.2.2.2.2.2.2.1 rfl
theorem dX2_addTelling_45 : decode cX2_addTelling 45 = .ok (.aload_n 0, 1) := dAt wdX2_addTelling_30 adX2_addTelling_30.2.2.2.2.2.2.2.2.2.1 rfl
theorem dX2_addTelling_46 : decode cX2_addTelling 46 = .ok (.getfield 48, 3) := dAt wdX2_addTelling_30 adX2_addTelling_30.2.2.2.2.2.2.2.2.2.2.1 rfl
theorem dX2_addTelling_49 : decode cX2_addTelling 49 = .ok (.iload 4, 2) := dAt wdX2_addTelling_30 adX2_addTelling_30.2.2.2.2.2.2.2.2.2.2.2.1 rfl
theorem dX2_addTelling_51 : decode cX2_addTelling 51 = .ok (.iastore, 1) := dAt wdX2_addTelling_30 adX2_addTelling_30.2.2.2.2.2.2.2.2.2.2.2.2.1 rfl
theorem dX2_addTelling_52 : decode cX2_addTelling 52 = .ok (.aload_n 0, 1) := dAt wdX2_addTelling_30 adX2_addTelling_30.2.2.2.2.2.2.2.2.2.2.2.2.2.1 rfl
theorem dX2_addTelling_53 : decode cX2_addTelling 53 = .ok (.dup, 1) := dAt wdX2_addTelling_30 adX2_addTelling_30.2.2.2.2.2.2.2.2.2.2.2.2.2.2.1 rfl
theorem dX2_addTelling_54 : decode cX2_addTelling 54 = .ok (.getfield 48, 3) := dAt wdX2_addTelling_30 adX2_addTelling_30.2.2.2.2.2.2.2.2.2.2.2.2.2.2.2 rfl
def bdX2_addTelling_57 : ByteArray := .mk #[4, 96, 181, 0, 48, 177]
theorem wdX2_addTelling_57 : LocW cX2_addTelling 57 bdX2_addTelling_57 := loc_of (by decide +kernel)
theorem adX2_addTelling_57 : De bdX2_addTelling_57 0 (.iconst 1) 1 ∧ De bdX2_addTelling_57 1 (.iadd) 1 ∧ De bdX2_addTelling_57 2 (.putfield 48) 3 ∧ De bdX2_addTelling_57 5 (.return_) 1 := by decide +kernel
theorem dX2_addTelling_57 : decode cX2_addTelling 57 = .ok (.iconst 1, 1) := dAt wdX2_addTelling_57 adX2_addTelling_57.1 rfl
theorem dX2_addTelling_58 : decode cX2_addTelling 58 = .ok (.iadd, 1) := dAt wdX2_addTelling_57 adX2_addTelling_57.2.1 rfl
theorem dX2_addTelling_59 : decode cX2_addTelling 59 = .ok (.putfield 48, 3) := dAt wdX2_addTelling_57 adX2_addTelling_57.2.2.1 rfl
theorem dX2_addTelling_62 : decode cX2_addTelling 62 = .ok (.return_, 1) := dAt wdX2_addTelling_57 adX2_addTelling_57.2.2.2 rfl
def bdX2_rackOf_0 : ByteArray := .mk #[2, 54, 4, 2, 54, 5, 3, 54, 6, 21, 6, 42, 180, 0, 48, 162, 0, 105, 42, 180, 0, 36, 21, 6, 46, 27, 160, 0, 88]
theorem wdX2_rackOf_0 : LocW cX2_rackOf 0 bdX2_rackOf_0 := loc_of (by decide +kernel)
theorem adX2_rackOf_0 : De bdX2_rackOf_0 0 (.iconst (-1)) 1 ∧ De bdX2_rackOf_0 1 (.istore 4) 2 ∧ De bdX2_rackOf_0 3 (.iconst (-1)) 1 ∧ De bdX2_rackOf_0 4 (.istore 5) 2 ∧ De bdX2_rackOf_0 6 (.iconst 0) 1 ∧ De bdX2_rackOf_0 7 (.istore 6) 2 ∧ De bdX2_rackOf_0 9 (.iload 6) 2 ∧ De bdX2_rackOf_0 11 (.aload_n 0) 1 ∧ De bdX2_rackOf_0 12 (.getfield 48) 3 ∧ De bdX2_rackOf_0 15 (.if_icmp .ge 105) 3 ∧ De bdX2_rackOf_0 18 (.aload_n 0) 1 ∧ De bdX2_rackOf_0 19 (.getfield 36) 3 ∧ De bdX2_rackOf_0 22 (.iload 6) 2 ∧ De bdX2_rackOf_0 24 (.iaload) 1 ∧ De bdX2_rackOf_0 25 (.iload_n 1) 1 ∧ De bdX2_rackOf_0 26 (.if_icmp .ne 88) 3 := by decide +kernel
theorem dX2_rackOf_0 : decode cX2_rackOf 0 = .ok (.iconst (-1), 1) := dAt wdX2_rackOf_0 adX2_rackOf_0.1 rfl
theorem dX2_rackOf_1 : decode cX2_rackOf 1 = .ok (.istore 4, 2) := dAt wdX2_rackOf_0 adX2_rackOf_0.2.1 rfl
theorem dX2_rackOf_3 : decode cX2_rackOf 3 = .ok (.iconst (-1), 1) := dAt wdX2_rackOf_0 adX2_rackOf_0.2.2.1 rfl
theorem dX2_rackOf_4 : decode cX2_rackOf 4 = .ok (.istore 5, 2) := dAt wdX2_rackOf_0 adX2_rackOf_0.2.2.2.1 rfl
theorem dX2_rackOf_6 : decode cX2_rackOf 6 = .ok (.iconst 0, 1) := dAt wdX2_rackOf_0 adX2_rackOf_0.2.2.2.2.1 rfl
theorem dX2_rackOf_7 : decode cX2_rackOf 7 = .ok (.istore 6, 2) := dAt wdX2_rackOf_0 adX2_rackOf_0.2.2.2.2.2.1 rfl
theorem dX2_rackOf_9 : decode cX2_rackOf 9 = .ok (.iload 6, 2) := dAt wdX2_rackOf_0 adX2_rackOf_0.2.2.2.2.2.2.1 rfl
theorem dX2_rackOf_11 : decode cX2_rackOf 11 = .ok (.aload_n 0, 1) := dAt wdX2_rackOf_0 adX2_rackOf_0.2.2.2.2.2.2.2.1 rfl
theorem dX2_rackOf_12 : decode cX2_rackOf 12 = .ok (.getfield 48, 3) := dAt wdX2_rackOf_0 adX2_rackOf_0.2.2.2.2.2.2.2.2.1 rfl
theorem dX2_rackOf_15 : decode cX2_rackOf 15 = .ok (.if_icmp .ge 105, 3) := dAt wdX2_rackOf_0 adX2_rackOf_0.2.2.2.2.2.2.2.2.2.1 rfl
theorem dX2_rackOf_18 : decode cX2_rackOf 18 = .ok (.aload_n 0, 1) := dAt wdX2_rackOf_0 adX2_rackOf_0.2.2.2.2.2.2.2.2.2.2.1 rfl
theorem dX2_rackOf_19 : decode cX2_rackOf 19 = .ok (.getfield 36, 3) := dAt wdX2_rackOf_0 adX2_rackOf_0.2.2.2.2.2.2.2.2.2.2.2.1 rfl
theorem dX2_rackOf_22 : decode cX2_rackOf 22 = .ok (.iload 6, 2) := dAt wdX2_rackOf_0 adX2_rackOf_0.2.2.2.2.2.2.2.2.2.2.2.2.1 rfl
theorem dX2_rackOf_24 : decode cX2_rackOf 24 = .ok (.iaload, 1) := dAt wdX2_rackOf_0 adX2_rackOf_0.2.2.2.2.2.2.2.2.2.2.2.2.2.1 rfl
theorem dX2_rackOf_25 : decode cX2_rackOf 25 = .ok (.iload_n 1, 1) := dAt wdX2_rackOf_0 adX2_rackOf_0.2.2.2.2.2.2.2.2.2.2.2.2.2.2.1 rfl
theorem dX2_rackOf_26 : decode cX2_rackOf 26 = .ok (.if_icmp .ne 88, 3) := dAt wdX2_rackOf_0 adX2_rackOf_0.2.2.2.2.2.2.2.2.2.2.2.2.2.2.2 rfl
def bdX2_rackOf_29 : ByteArray := .mk #[42, 180, 0, 45, 21, 6, 46, 29, 163, 0, 77, 42, 180, 0, 42, 21, 6, 46, 28, 164, 0, 6, 167, 0, 63, 42, 180, 0, 42, 21, 6]
theorem wdX2_rackOf_29 : LocW cX2_rackOf 29 bdX2_rackOf_29 := loc_of (by decide +kernel)
theorem adX2_rackOf_29 : De bdX2_rackOf_29 0 (.aload_n 0) 1 ∧ De bdX2_rackOf_29 1 (.getfield 45) 3 ∧ De bdX2_rackOf_29 4 (.iload 6) 2 ∧ De bdX2_rackOf_29 6 (.iaload) 1 ∧ De bdX2_rackOf_29 7 (.iload_n 3) 1 ∧ De bdX2_rackOf_29 8 (.if_icmp .gt 77) 3 ∧ De bdX2_rackOf_29 11 (.aload_n 0) 1 ∧ De bdX2_rackOf_29 12 (.getfield 42) 3 ∧ De bdX2_rackOf_29 15 (.iload 6) 2 ∧ De bdX2_rackOf_29 17 (.iaload) 1 ∧ De bdX2_rackOf_29 18 (.iload_n 2) 1 ∧ De bdX2_rackOf_29 19 (.if_icmp .le 6) 3 ∧ De bdX2_rackOf_29 22 (.goto 63) 3 ∧ De bdX2_rackOf_29 25 (.aload_n 0) 1 ∧ De bdX2_rackOf_29 26 (.getfield 42) 3 ∧ De bdX2_rackOf_29 29 (.iload 6) 2 := by decide +kernel
theorem dX2_rackOf_29 : decode cX2_rackOf 29 = .ok (.aload_n 0, 1) := dAt wdX2_rackOf_29 adX2_rackOf_29.1 rfl
theorem dX2_rackOf_30 : decode cX2_rackOf 30 = .ok (.getfield 45, 3) := dAt wdX2_rackOf_29 adX2_rackOf_29.2.1 rfl
theorem dX2_rackOf_33 : decode cX2_rackOf 33 = .ok (.iload 6, 2) := dAt wdX2_rackOf_29 adX2_rackOf_29.2.2.1 rfl
theorem dX2_rackOf_35 : decode cX2_rackOf 35 = .ok (.iaload, 1) := dAt wdX2_rackOf_29 adX2_rackOf_29.2.2.2.1 rfl
theorem dX2_rackOf_36 : decode cX2_rackOf 36 = .ok (.iload_n 3, 1) := dAt wdX2_rackOf_29 adX2_rackOf_29.2.2.2.2.1 rfl
theorem dX2_rackOf_37 : decode cX2_rackOf 37 = .ok (.if_icmp .gt 77, 3) := dAt wdX2_rackOf_29 adX2_rackOf_29.2.2.2.2.2.1 rfl
theorem dX2_rackOf_40 : decode cX2_rackOf 40 = .ok (.aload_n 0, 1) := dAt wdX2_rackOf_29 adX2_rackOf_29.2.2.2.2.2.2.1 rfl
theorem dX2_rackOf_41 : decode cX2_rackOf 41 = .ok (.getfield 42, 3) := dAt wdX2_rackOf_29 adX2_rackOf_29.2.2.2.2.2.2.2.1 rfl
theorem dX2_rackOf_44 : decode cX2_rackOf 44 = .ok (.iload 6, 2) := dAt wdX2_rackOf_29 adX2_rackOf_29.2.2.2.2.2.2.2.2.1 rfl
theorem dX2_rackOf_46 : decode cX2_rackOf 46 = .ok (.iaload, 1) := dAt wdX2_rackOf_29 adX2_rackOf_29.2.2.2.2.2.2.2.2.2.1 rfl
theorem dX2_rackOf_47 : decode cX2_rackOf 47 = .ok (.iload_n 2, 1) := dAt wdX2_rackOf_29 adX2_rackOf_29.2.2.2.2.2.2.2.2.2.2.1 rfl
theorem dX2_rackOf_48 : decode cX2_rackOf 48 = .ok (.if_icmp .le 6, 3) := dAt wdX2_rackOf_29 adX2_rackOf_29.2.2.2.2.2.2.2.2.2.2.2.1 rfl
theorem dX2_rackOf_51 : decode cX2_rackOf 51 = .ok (.goto 63, 3) := dAt wdX2_rackOf_29 adX2_rackOf_29.2.2.2.2.2.2.2.2.2.2.2.2.1 rfl
theorem dX2_rackOf_54 : decode cX2_rackOf 54 = .ok (.aload_n 0, 1) := dAt wdX2_rackOf_29 adX2_rackOf_29.2.2.2.2.2.2.2.2.2.2.2.2.2.1 rfl
theorem dX2_rackOf_55 : decode cX2_rackOf 55 = .ok (.getfield 42, 3) := dAt wdX2_rackOf_29 adX2_rackOf_29.2.2.2.2.2.2.2.2.2.2.2.2.2.2.1 rfl
theorem dX2_rackOf_58 : decode cX2_rackOf 58 = .ok (.iload 6, 2) := dAt wdX2_rackOf_29 adX2_rackOf_29.2.2.2.2.2.2.2.2.2.2.2.2.2.2.2 rfl
def bdX2_rackOf_60 : ByteArray := .mk #[46, 21, 5, 164, 0, 24, 42, 180, 0, 42, 21, 6, 46, 54, 5, 42, 180, 0, 39, 21, 6, 46, 54, 4, 167, 0, 30, 42, 180, 0, 42]
theorem wdX2_rackOf_60 : LocW cX2_rackOf 60 bdX2_rackOf_60 := loc_of (by decide +kernel)
theorem adX2_rackOf_60 : De bdX2_rackOf_60 0 (.iaload) 1 ∧ De bdX2_rackOf_60 1 (.iload 5) 2 ∧ De bdX2_rackOf_60 3 (.if_icmp .le 24) 3 ∧ De bdX2_rackOf_60 6 (.aload_n 0) 1 ∧ De bdX2_rackOf_60 7 (.getfield 42) 3 ∧ De bdX2_rackOf_60 10 (.iload 6) 2 ∧ De bdX2_rackOf_60 12 (.iaload) 1 ∧ De bdX2_rackOf_60 13 (.istore 5) 2 ∧ De bdX2_rackOf_60 15 (.aload_n 0) 1 ∧ De bdX2_rackOf_60 16 (.getfield 39) 3 ∧ De bdX2_rackOf_60 19 (.iload 6) 2 ∧ De bdX2_rackOf_60 21 (.iaload) 1 ∧ De bdX2_rackOf_60 22 (.istore 4) 2 ∧ De bdX2_rackOf_60 24 (.goto 30) 3 ∧ De bdX2_rackOf_60 27 (.aload_n 0) 1 ∧ De bdX2_rackOf_60 28 (.getfield 42) 3 := by decide +kernel
theorem dX2_rackOf_60 : decode cX2_rackOf 60 = .ok (.iaload, 1) := dAt wdX2_rackOf_60 adX2_rackOf_60.1 rfl
theorem dX2_rackOf_61 : decode cX2_rackOf 61 = .ok (.iload 5, 2) := dAt wdX2_rackOf_60 adX2_rackOf_60.2.1 rfl
theorem dX2_rackOf_63 : decode cX2_rackOf 63 = .ok (.if_icmp .le 24, 3) := dAt wdX2_rackOf_60 adX2_rackOf_60.2.2.1 rfl
theorem dX2_rackOf_66 : decode cX2_rackOf 66 = .ok (.aload_n 0, 1) := dAt wdX2_rackOf_60 adX2_rackOf_60.2.2.2.1 rfl
theorem dX2_rackOf_67 : decode cX2_rackOf 67 = .ok (.getfield 42, 3) := dAt wdX2_rackOf_60 adX2_rackOf_60.2.2.2.2.1 rfl
theorem dX2_rackOf_70 : decode cX2_rackOf 70 = .ok (.iload 6, 2) := dAt wdX2_rackOf_60 adX2_rackOf_60.2.2.2.2.2.1 rfl
theorem dX2_rackOf_72 : decode cX2_rackOf 72 = .ok (.iaload, 1) := dAt wdX2_rackOf_60 adX2_rackOf_60.2.2.2.2.2.2.1 rfl
theorem dX2_rackOf_73 : decode cX2_rackOf 73 = .ok (.istore 5, 2) := dAt wdX2_rackOf_60 adX2_rackOf_60.2.2.2.2.2.2.2.1 rfl
theorem dX2_rackOf_75 : decode cX2_rackOf 75 = .ok (.aload_n 0, 1) := dAt wdX2_rackOf_60 adX2_rackOf_60.2.2.2.2.2.2.2.2.1 rfl
theorem dX2_rackOf_76 : decode cX2_rackOf 76 = .ok (.getfield 39, 3) := dAt wdX2_rackOf_60 adX2_rackOf_60.2.2.2.2.2.2.2.2.2.1 rfl
theorem dX2_rackOf_79 : decode cX2_rackOf 79 = .ok (.iload 6, 2) := dAt wdX2_rackOf_60 adX2_rackOf_60.2.2.2.2.2.2.2.2.2.2.1 rfl
theorem dX2_rackOf_81 : decode cX2_rackOf 81 = .ok (.iaload, 1) := dAt wdX2_rackOf_60 adX2_rackOf_60.2.2.2.2.2.2.2.2.2.2.2.1 rfl
theorem dX2_rackOf_82 : decode cX2_rackOf 82 = .ok (.istore 4, 2) := dAt wdX2_rackOf_60 adX2_rackOf_60.2.2.2.2.2.2.2.2.2.2.2.2.1 rfl
theorem dX2_rackOf_84 : decode cX2_rackOf 84 = .ok (.goto 30, 3) := dAt wdX2_rackOf_60 adX2_rackOf_60.2.2.2.2.2.2.2.2.2.2.2.2.2.1 rfl
theorem dX2_rackOf_87 : decode cX2_rackOf 87 = .ok (.aload_n 0, 1) := dAt wdX2_rackOf_60 adX2_rackOf_60.2.2.2.2.2.2.2.2.2.2.2.2.2.2.1 rfl
theorem dX2_rackOf_88 : decode cX2_rackOf 88 = .ok (.getfield 42, 3) := dAt wdX2_rackOf_60 adX2_rackOf_60.2.2.2.2.2.2.2.2.2.2.2.2.2.2.2 rfl
def bdX2_rackOf_91 : ByteArray := .mk #[21, 6, 46, 21, 5, 160, 0, 18, 42, 180, 0, 39, 21, 6, 46, 21, 4, 159, 0, 6, 2, 54, 4, 132, 6, 1, 167, 255, 148, 21, 4, 172]
theorem wdX2_rackOf_91 : LocW cX2_rackOf 91 bdX2_rackOf_91 := loc_of (by decide +kernel)
theorem adX2_rackOf_91 : De bdX2_rackOf_91 0 (.iload 6) 2 ∧ De bdX2_rackOf_91 2 (.iaload) 1 ∧ De bdX2_rackOf_91 3 (.iload 5) 2 ∧ De bdX2_rackOf_91 5 (.if_icmp .ne 18) 3 ∧ De bdX2_rackOf_91 8 (.aload_n 0) 1 ∧ De bdX2_rackOf_91 9 (.getfield 39) 3 ∧ De bdX2_rackOf_91 12 (.iload 6) 2 ∧ De bdX2_rackOf_91 14 (.iaload) 1 ∧ De bdX2_rackOf_91 15 (.iload 4) 2 ∧ De bdX2_rackOf_91 17 (.if_icmp .eq 6) 3 ∧ De bdX2_rackOf_91 20 (.iconst (-1)) 1 ∧ De bdX2_rackOf_91 21 (.istore 4) 2 ∧ De bdX2_rackOf_91 23 (.iinc 6 1) 3 ∧ De bdX2_rackOf_91 26 (.goto (-108)) 3 ∧ De bdX2_rackOf_91 29 (.iload 4) 2 ∧ De bdX2_rackOf_91 31 (.ireturn) 1 := by decide +kernel
theorem dX2_rackOf_91 : decode cX2_rackOf 91 = .ok (.iload 6, 2) := dAt wdX2_rackOf_91 adX2_rackOf_91.1 rfl
theorem dX2_rackOf_93 : decode cX2_rackOf 93 = .ok (.iaload, 1) := dAt wdX2_rackOf_91 adX2_rackOf_91.2.1 rfl
theorem dX2_rackOf_94 : decode cX2_rackOf 94 = .ok (.iload 5, 2) := dAt wdX2_rackOf_91 adX2_rackOf_91.2.2.1 rfl
theorem dX2_rackOf_96 : decode cX2_rackOf 96 = .ok (.if_icmp .ne 18, 3) := dAt wdX2_rackOf_91 adX2_rackOf_91.2.2.2.1 rfl
theorem dX2_rackOf_99 : decode cX2_rackOf 99 = .ok (.aload_n 0, 1) := dAt wdX2_rackOf_91 adX2_rackOf_91.2.2.2.2.1 rfl
theorem dX2_rackOf_100 : decode cX2_rackOf 100 = .ok (.getfield 39, 3) := dAt wdX2_rackOf_91 adX2_rackOf_91.2.2.2.2.2.1 rfl
theorem dX2_rackOf_103 : decode cX2_rackOf 103 = .ok (.iload 6, 2) := dAt wdX2_rackOf_91 adX2_rackOf_91.2.2.2.2.2.2.1 rfl
theorem dX2_rackOf_105 : decode cX2_rackOf 105 = .ok (.iaload, 1) := dAt wdX2_rackOf_91 adX2_rackOf_91.2.2.2.2.2.2.2.1 rfl
theorem dX2_rackOf_106 : decode cX2_rackOf 106 = .ok (.iload 4, 2) := dAt wdX2_rackOf_91 adX2_rackOf_91.2.2.2.2.2.2.2.2.1 rfl
theorem dX2_rackOf_108 : decode cX2_rackOf 108 = .ok (.if_icmp .eq 6, 3) := dAt wdX2_rackOf_91 adX2_rackOf_91.2.2.2.2.2.2.2.2.2.1 rfl
theorem dX2_rackOf_111 : decode cX2_rackOf 111 = .ok (.iconst (-1), 1) := dAt wdX2_rackOf_91 adX2_rackOf_91.2.2.2.2.2.2.2.2.2.2.1 rfl
theorem dX2_rackOf_112 : decode cX2_rackOf 112 = .ok (.istore 4, 2) := dAt wdX2_rackOf_91 adX2_rackOf_91.2.2.2.2.2.2.2.2.2.2.2.1 rfl
theorem dX2_rackOf_114 : decode cX2_rackOf 114 = .ok (.iinc 6 1, 3) := dAt wdX2_rackOf_91 adX2_rackOf_91.2.2.2.2.2.2.2.2.2.2.2.2.1 rfl
theorem dX2_rackOf_117 : decode cX2_rackOf 117 = .ok (.goto (-108), 3) := dAt wdX2_rackOf_91 adX2_rackOf_91.2.2.2.2.2.2.2.2.2.2.2.2.2.1 rfl
theorem dX2_rackOf_120 : decode cX2_rackOf 120 = .ok (.iload 4, 2) := dAt wdX2_rackOf_91 adX2_rackOf_91.2.2.2.2.2.2.2.2.2.2.2.2.2.2.1 rfl
theorem dX2_rackOf_122 : decode cX2_rackOf 122 = .ok (.ireturn, 1) := dAt wdX2_rackOf_91 adX2_rackOf_91.2.2.2.2.2.2.2.2.2.2.2.2.2.2.2 rfl
def bdX3_init_0 : ByteArray := .mk #[42, 183, 0, 3, 42, 3, 181, 0, 9, 42, 2, 181, 0, 15, 42, 7, 188, 10, 181, 0, 18, 42, 7, 188, 10, 181, 0, 22]
theorem wdX3_init_0 : LocW cX3_init 0 bdX3_init_0 := loc_of (by decide +kernel)
theorem adX3_init_0 : De bdX3_init_0 0 (.aload_n 0) 1 ∧ De bdX3_init_0 1 (.invokespecial 3) 3 ∧ De bdX3_init_0 4 (.aload_n 0) 1 ∧ De bdX3_init_0 5 (.iconst 0) 1 ∧ De bdX3_init_0 6 (.putfield 9) 3 ∧ De bdX3_init_0 9 (.aload_n 0) 1 ∧ De bdX3_init_0 10 (.iconst (-1)) 1 ∧ De bdX3_init_0 11 (.putfield 15) 3 ∧ De bdX3_init_0 14 (.aload_n 0) 1 ∧ De bdX3_init_0 15 (.iconst 4) 1 ∧ De bdX3_init_0 16 (.newarray .int) 2 ∧ De bdX3_init_0 18 (.putfield 18) 3 ∧ De bdX3_init_0 21 (.aload_n 0) 1 ∧ De bdX3_init_0 22 (.iconst 4) 1 ∧ De bdX3_init_0 23 (.newarray .int) 2 ∧ De bdX3_init_0 25 (.putfield 22) 3 := by decide +kernel
theorem dX3_init_0 : decode cX3_init 0 = .ok (.aload_n 0, 1) := dAt wdX3_init_0 adX3_init_0.1 rfl
theorem dX3_init_1 : decode cX3_init 1 = .ok (.invokespecial 3, 3) := dAt wdX3_init_0 adX3_init_0.2.1 rfl
theorem dX3_init_4 : decode cX3_init 4 = .ok (.aload_n 0, 1) := dAt wdX3_init_0 adX3_init_0.2.2.1 rfl
theorem dX3_init_5 : decode cX3_init 5 = .ok (.iconst 0, 1) := dAt wdX3_init_0 adX3_init_0.2.2.2.1 rfl
theorem dX3_init_6 : decode cX3_init 6 = .ok (.putfield 9, 3) := dAt wdX3_init_0 adX3_init_0.2.2.2.2.1 rfl
theorem dX3_init_9 : decode cX3_init 9 = .ok (.aload_n 0, 1) := dAt wdX3_init_0 adX3_init_0.2.2.2.2.2.1 rfl
theorem dX3_init_10 : decode cX3_init 10 = .ok (.iconst (-1), 1) := dAt wdX3_init_0 adX3_init_0.2.2.2.2.2.2.1 rfl
theorem dX3_init_11 : decode cX3_init 11 = .ok (.putfield 15, 3) := dAt wdX3_init_0 adX3_init_0.2.2.2.2.2.2.2.1 rfl
theorem dX3_init_14 : decode cX3_init 14 = .ok (.aload_n 0, 1) := dAt wdX3_init_0 adX3_init_0.2.2.2.2.2.2.2.2.1 rfl
theorem dX3_init_15 : decode cX3_init 15 = .ok (.iconst 4, 1) := dAt wdX3_init_0 adX3_init_0.2.2.2.2.2.2.2.2.2.1 rfl
theorem dX3_init_16 : decode cX3_init 16 = .ok (.newarray .int, 2) := dAt wdX3_init_0 adX3_init_0.2.2.2.2.2.2.2.2.2.2.1 rfl
theorem dX3_init_18 : decode cX3_init 18 = .ok (.putfield 18, 3) := dAt wdX3_init_0 adX3_init_0.2.2.2.2.2.2.2.2.2.2.2.1 rfl
theorem dX3_init_21 : decode cX3_init 21 = .ok (.aload_n 0, 1) := dAt wdX3_init_0 adX3_init_0.2.2.2.2.2.2.2.2.2.2.2.2.1 rfl
theorem dX3_init_22 : decode cX3_init 22 = .ok (.iconst 4, 1) := dAt wdX3_init_0 adX3_init_0.2.2.2.2.2.2.2.2.2.2.2.2.2.1 rfl
theorem dX3_init_23 : decode cX3_init 23 = .ok (.newarray .int, 2) := dAt wdX3_init_0 adX3_init_0.2.2.2.2.2.2.2.2.2.2.2.2.2.2.1 rfl
theorem dX3_init_25 : decode cX3_init 25 = .ok (.putfield 22, 3) := dAt wdX3_init_0 adX3_init_0.2.2.2.2.2.2.2.2.2.2.2.2.2.2.2 rfl
def bdX3_init_28 : ByteArray := .mk #[42, 7, 188, 10, 181, 0, 25, 42, 7, 188, 10, 181, 0, 28, 42, 7, 188, 10, 181, 0, 31, 42, 7, 188, 10, 181, 0, 34]
theorem wdX3_init_28 : LocW cX3_init 28 bdX3_init_28 := loc_of (by decide +kernel)
theorem adX3_init_28 : De bdX3_init_28 0 (.aload_n 0) 1 ∧ De bdX3_init_28 1 (.iconst 4) 1 ∧ De bdX3_init_28 2 (.newarray .int) 2 ∧ De bdX3_init_28 4 (.putfield 25) 3 ∧ De bdX3_init_28 7 (.aload_n 0) 1 ∧ De bdX3_init_28 8 (.iconst 4) 1 ∧ De bdX3_init_28 9 (.newarray .int) 2 ∧ De bdX3_init_28 11 (.putfield 28) 3 ∧ De bdX3_init_28 14 (.aload_n 0) 1 ∧ De bdX3_init_28 15 (.iconst 4) 1 ∧ De bdX3_init_28 16 (.newarray .int) 2 ∧ De bdX3_init_28 18 (.putfield 31) 3 ∧ De bdX3_init_28 21 (.aload_n 0) 1 ∧ De bdX3_init_28 22 (.iconst 4) 1 ∧ De bdX3_init_28 23 (.newarray .int) 2 ∧ De bdX3_init_28 25 (.putfield 34) 3 := by decide +kernel
theorem dX3_init_28 : decode cX3_init 28 = .ok (.aload_n 0, 1) := dAt wdX3_init_28 adX3_init_28.1 rfl
theorem dX3_init_29 : decode cX3_init 29 = .ok (.iconst 4, 1) := dAt wdX3_init_28 adX3_init_28.2.1 rfl
theorem dX3_init_30 : decode cX3_init 30 = .ok (.newarray .int, 2) := dAt wdX3_init_28 adX3_init_28.2.2.1 rfl
theorem dX3_init_32 : decode cX3_init 32 = .ok (.putfield 25, 3) := dAt wdX3_init_28 adX3_init_28.2.2.2.1 rfl
theorem dX3_init_35 : decode cX3_init 35 = .ok (.aload_n 0, 1) := dAt wdX3_init_28 adX3_init_28.2.2.2.2.1 rfl
theorem dX3_init_36 : decode cX3_init 36 = .ok (.iconst 4, 1) := dAt wdX3_init_28 adX3_init_28.2.2.2.2.2.1 rfl
theorem dX3_init_37 : decode cX3_init 37 = .ok (.newarray .int, 2) := dAt wdX3_init_28 adX3_init_28.2.2.2.2.2.2.1 rfl
theorem dX3_init_39 : decode cX3_init 39 = .ok (.putfield 28, 3) := dAt wdX3_init_28 adX3_init_28.2.2.2.2.2.2.2.1 rfl
theorem dX3_init_42 : decode cX3_init 42 = .ok (.aload_n 0, 1) := dAt wdX3_init_28 adX3_init_28.2.2.2.2.2.2.2.2.1 rfl
theorem dX3_init_43 : decode cX3_init 43 = .ok (.iconst 4, 1) := dAt wdX3_init_28 adX3_init_28.2.2.2.2.2.2.2.2.2.1 rfl
theorem dX3_init_44 : decode cX3_init 44 = .ok (.newarray .int, 2) := dAt wdX3_init_28 adX3_init_28.2.2.2.2.2.2.2.2.2.2.1 rfl
theorem dX3_init_46 : decode cX3_init 46 = .ok (.putfield 31, 3) := dAt wdX3_init_28 adX3_init_28.2.2.2.2.2.2.2.2.2.2.2.1 rfl
theorem dX3_init_49 : decode cX3_init 49 = .ok (.aload_n 0, 1) := dAt wdX3_init_28 adX3_init_28.2.2.2.2.2.2.2.2.2.2.2.2.1 rfl
theorem dX3_init_50 : decode cX3_init 50 = .ok (.iconst 4, 1) := dAt wdX3_init_28 adX3_init_28.2.2.2.2.2.2.2.2.2.2.2.2.2.1 rfl
theorem dX3_init_51 : decode cX3_init 51 = .ok (.newarray .int, 2) := dAt wdX3_init_28 adX3_init_28.2.2.2.2.2.2.2.2.2.2.2.2.2.2.1 rfl
theorem dX3_init_53 : decode cX3_init 53 = .ok (.putfield 34, 3) := dAt wdX3_init_28 adX3_init_28.2.2.2.2.2.2.2.2.2.2.2.2.2.2.2 rfl
def bdX3_init_56 : ByteArray := .mk #[42, 16, 24, 188, 10, 181, 0, 37, 42, 7, 188, 10, 181, 0, 40, 42, 4, 181, 0, 43, 177]
theorem wdX3_init_56 : LocW cX3_init 56 bdX3_init_56 := loc_of (by decide +kernel)
theorem adX3_init_56 : De bdX3_init_56 0 (.aload_n 0) 1 ∧ De bdX3_init_56 1 (.bipush 24) 2 ∧ De bdX3_init_56 3 (.newarray .int) 2 ∧ De bdX3_init_56 5 (.putfield 37) 3 ∧ De bdX3_init_56 8 (.aload_n 0) 1 ∧ De bdX3_init_56 9 (.iconst 4) 1 ∧ De bdX3_init_56 10 (.newarray .int) 2 ∧ De bdX3_init_56 12 (.putfield 40) 3 ∧ De bdX3_init_56 15 (.aload_n 0) 1 ∧ De bdX3_init_56 16 (.iconst 1) 1 ∧ De bdX3_init_56 17 (.putfield 43) 3 ∧ De bdX3_init_56 20 (.return_) 1 := by decide +kernel
theorem dX3_init_56 : decode cX3_init 56 = .ok (.aload_n 0, 1) := dAt wdX3_init_56 adX3_init_56.1 rfl
theorem dX3_init_57 : decode cX3_init 57 = .ok (.bipush 24, 2) := dAt wdX3_init_56 adX3_init_56.2.1 rfl
theorem dX3_init_59 : decode cX3_init 59 = .ok (.newarray .int, 2) := dAt wdX3_init_56 adX3_init_56.2.2.1 rfl
theorem dX3_init_61 : decode cX3_init 61 = .ok (.putfield 37, 3) := dAt wdX3_init_56 adX3_init_56.2.2.2.1 rfl
theorem dX3_init_64 : decode cX3_init 64 = .ok (.aload_n 0, 1) := dAt wdX3_init_56 adX3_init_56.2.2.2.2.1 rfl
theorem dX3_init_65 : decode cX3_init 65 = .ok (.iconst 4, 1) := dAt wdX3_init_56 adX3_init_56.2.2.2.2.2.1 rfl
theorem dX3_init_66 : decode cX3_init 66 = .ok (.newarray .int, 2) := dAt wdX3_init_56 adX3_init_56.2.2.2.2.2.2.1 rfl
theorem dX3_init_68 : decode cX3_init 68 = .ok (.putfield 40, 3) := dAt wdX3_init_56 adX3_init_56.2.2.2.2.2.2.2.1 rfl
theorem dX3_init_71 : decode cX3_init 71 = .ok (.aload_n 0, 1) := dAt wdX3_init_56 adX3_init_56.2.2.2.2.2.2.2.2.1 rfl
theorem dX3_init_72 : decode cX3_init 72 = .ok (.iconst 1, 1) := dAt wdX3_init_56 adX3_init_56.2.2.2.2.2.2.2.2.2.1 rfl
theorem dX3_init_73 : decode cX3_init 73 = .ok (.putfield 43, 3) := dAt wdX3_init_56 adX3_init_56.2.2.2.2.2.2.2.2.2.2.1 rfl
theorem dX3_init_76 : decode cX3_init 76 = .ok (.return_, 1) := dAt wdX3_init_56 adX3_init_56.2.2.2.2.2.2.2.2.2.2.2 rfl
def bdX3_search_0 : ByteArray := .mk #[42, 3, 181, 0, 9, 42, 2, 181, 0, 15, 42, 29, 42, 180, 0, 40, 190, 184, 0, 46, 181, 0, 43, 3, 54, 5, 21, 5]
theorem wdX3_search_0 : LocW cX3_search 0 bdX3_search_0 := loc_of (by decide +kernel)
theorem adX3_search_0 : De bdX3_search_0 0 (.aload_n 0) 1 ∧ De bdX3_search_0 1 (.iconst 0) 1 ∧ De bdX3_search_0 2 (.putfield 9) 3 ∧ De bdX3_search_0 5 (.aload_n 0) 1 ∧ De bdX3_search_0 6 (.iconst (-1)) 1 ∧ De bdX3_search_0 7 (.putfield 15) 3 ∧ De bdX3_search_0 10 (.aload_n 0) 1 ∧ De bdX3_search_0 11 (.iload_n 3) 1 ∧ De bdX3_search_0 12 (.aload_n 0) 1 ∧ De bdX3_search_0 13 (.getfield 40) 3 ∧ De bdX3_search_0 16 (.arraylength) 1 ∧ De bdX3_search_0 17 (.invokestatic 46) 3 ∧ De bdX3_search_0 20 (.putfield 43) 3 ∧ De bdX3_search_0 23 (.iconst 0) 1 ∧ De bdX3_search_0 24 (.istore 5) 2 ∧ De bdX3_search_0 26 (.iload 5) 2 := by decide +kernel
theorem dX3_search_0 : decode cX3_search 0 = .ok (.aload_n 0, 1) := dAt wdX3_search_0 adX3_search_0.1 rfl
theorem dX3_search_1 : decode cX3_search 1 = .ok (.iconst 0, 1) := dAt wdX3_search_0 adX3_search_0.2.1 rfl
theorem dX3_search_2 : decode cX3_search 2 = .ok (.putfield 9, 3) := dAt wdX3_search_0 adX3_search_0.2.2.1 rfl
theorem dX3_search_5 : decode cX3_search 5 = .ok (.aload_n 0, 1) := dAt wdX3_search_0 adX3_search_0.2.2.2.1 rfl
theorem dX3_search_6 : decode cX3_search 6 = .ok (.iconst (-1), 1) := dAt wdX3_search_0 adX3_search_0.2.2.2.2.1 rfl
theorem dX3_search_7 : decode cX3_search 7 = .ok (.putfield 15, 3) := dAt wdX3_search_0 adX3_search_0.2.2.2.2.2.1 rfl
theorem dX3_search_10 : decode cX3_search 10 = .ok (.aload_n 0, 1) := dAt wdX3_search_0 adX3_search_0.2.2.2.2.2.2.1 rfl
theorem dX3_search_11 : decode cX3_search 11 = .ok (.iload_n 3, 1) := dAt wdX3_search_0 adX3_search_0.2.2.2.2.2.2.2.1 rfl
theorem dX3_search_12 : decode cX3_search 12 = .ok (.aload_n 0, 1) := dAt wdX3_search_0 adX3_search_0.2.2.2.2.2.2.2.2.1 rfl
theorem dX3_search_13 : decode cX3_search 13 = .ok (.getfield 40, 3) := dAt wdX3_search_0 adX3_search_0.2.2.2.2.2.2.2.2.2.1 rfl
theorem dX3_search_16 : decode cX3_search 16 = .ok (.arraylength, 1) := dAt wdX3_search_0 adX3_search_0.2.2.2.2.2.2.2.2.2.2.1 rfl
theorem dX3_search_17 : decode cX3_search 17 = .ok (.invokestatic 46, 3) := dAt wdX3_search_0 adX3_search_0.2.2.2.2.2.2.2.2.2.2.2.1 rfl
theorem dX3_search_20 : decode cX3_search 20 = .ok (.putfield 43, 3) := dAt wdX3_search_0 adX3_search_0.2.2.2.2.2.2.2.2.2.2.2.2.1 rfl
theorem dX3_search_23 : decode cX3_search 23 = .ok (.iconst 0, 1) := dAt wdX3_search_0 adX3_search_0.2.2.2.2.2.2.2.2.2.2.2.2.2.1 rfl
theorem dX3_search_24 : decode cX3_search 24 = .ok (.istore 5, 2) := dAt wdX3_search_0 adX3_search_0.2.2.2.2.2.2.2.2.2.2.2.2.2.2.1 rfl
theorem dX3_search_26 : decode cX3_search 26 = .ok (.iload 5, 2) := dAt wdX3_search_0 adX3_search_0.2.2.2.2.2.2.2.2.2.2.2.2.2.2.2 rfl
def bdX3_search_28 : ByteArray := .mk #[43, 180, 0, 52, 162, 0, 33, 42, 180, 0, 9, 7, 162, 0, 25, 28, 21, 5, 122, 4, 126, 153, 0, 10, 42, 43, 21, 5]
theorem wdX3_search_28 : LocW cX3_search 28 bdX3_search_28 := loc_of (by decide +kernel)
theorem adX3_search_28 : De bdX3_search_28 0 (.aload_n 1) 1 ∧ De bdX3_search_28 1 (.getfield 52) 3 ∧ De bdX3_search_28 4 (.if_icmp .ge 33) 3 ∧ De bdX3_search_28 7 (.aload_n 0) 1 ∧ De bdX3_search_28 8 (.getfield 9) 3 ∧ De bdX3_search_28 11 (.iconst 4) 1 ∧ De bdX3_search_28 12 (.if_icmp .ge 25) 3 ∧ De bdX3_search_28 15 (.iload_n 2) 1 ∧ De bdX3_search_28 16 (.iload 5) 2 ∧ De bdX3_search_28 18 (.ishr) 1 ∧ De bdX3_search_28 19 (.iconst 1) 1 ∧ De bdX3_search_28 20 (.iand) 1 ∧ De bdX3_search_28 21 (.ifCond .eq 10) 3 ∧ De bdX3_search_28 24 (.aload_n 0) 1 ∧ De bdX3_search_28 25 (.aload_n 1) 1 ∧ De bdX3_search_28 26 (.iload 5) 2 := by decide +kernel
theorem dX3_search_28 : decode cX3_search 28 = .ok (.aload_n 1, 1) := dAt wdX3_search_28 adX3_search_28.1 rfl
theorem dX3_search_29 : decode cX3_search 29 = .ok (.getfield 52, 3) := dAt wdX3_search_28 adX3_search_28.2.1 rfl
theorem dX3_search_32 : decode cX3_search 32 = .ok (.if_icmp .ge 33, 3) := dAt wdX3_search_28 adX3_search_28.2.2.1 rfl
theorem dX3_search_35 : decode cX3_search 35 = .ok (.aload_n 0, 1) := dAt wdX3_search_28 adX3_search_28.2.2.2.1 rfl
theorem dX3_search_36 : decode cX3_search 36 = .ok (.getfield 9, 3) := dAt wdX3_search_28 adX3_search_28.2.2.2.2.1 rfl
theorem dX3_search_39 : decode cX3_search 39 = .ok (.iconst 4, 1) := dAt wdX3_search_28 adX3_search_28.2.2.2.2.2.1 rfl
theorem dX3_search_40 : decode cX3_search 40 = .ok (.if_icmp .ge 25, 3) := dAt wdX3_search_28 adX3_search_28.2.2.2.2.2.2.1 rfl
theorem dX3_search_43 : decode cX3_search 43 = .ok (.iload_n 2, 1) := dAt wdX3_search_28 adX3_search_28.2.2.2.2.2.2.2.1 rfl
theorem dX3_search_44 : decode cX3_search 44 = .ok (.iload 5, 2) := dAt wdX3_search_28 adX3_search_28.2.2.2.2.2.2.2.2.1 rfl
theorem dX3_search_46 : decode cX3_search 46 = .ok (.ishr, 1) := dAt wdX3_search_28 adX3_search_28.2.2.2.2.2.2.2.2.2.1 rfl
theorem dX3_search_47 : decode cX3_search 47 = .ok (.iconst 1, 1) := dAt wdX3_search_28 adX3_search_28.2.2.2.2.2.2.2.2.2.2.1 rfl
theorem dX3_search_48 : decode cX3_search 48 = .ok (.iand, 1) := dAt wdX3_search_28 adX3_search_28.2.2.2.2.2.2.2.2.2.2.2.1 rfl
theorem dX3_search_49 : decode cX3_search 49 = .ok (.ifCond .eq 10, 3) := dAt wdX3_search_28 adX3_search_28.2.2.2.2.2.2.2.2.2.2.2.2.1 rfl
theorem dX3_search_52 : decode cX3_search 52 = .ok (.aload_n 0, 1) := dAt wdX3_search_28 adX3_search_28.2.2.2.2.2.2.2.2.2.2.2.2.2.1 rfl
theorem dX3_search_53 : decode cX3_search 53 = .ok (.aload_n 1, 1) := dAt wdX3_search_28 adX3_search_28.2.2.2.2.2.2.2.2.2.2.2.2.2.2.1 rfl
theorem dX3_search_54 : decode cX3_search 54 = .ok (.iload 5, 2) := dAt wdX3_search_28 adX3_search_28.2.2.2.2.2.2.2.2.2.2.2.2.2.2.2 rfl
def bdX3_search_56 : ByteArray := .mk #[182, 0, 56, 132, 5, 1, 167, 255, 220, 3, 54, 5, 21, 5, 42, 180, 0, 43, 162, 0, 18, 42, 180, 0, 40, 21, 5, 21, 4, 79, 132, 5, 1, 167, 255, 235]
theorem wdX3_search_56 : LocW cX3_search 56 bdX3_search_56 := loc_of (by decide +kernel)
theorem adX3_search_56 : De bdX3_search_56 0 (.invokevirtual 56) 3 ∧ De bdX3_search_56 3 (.iinc 5 1) 3 ∧ De bdX3_search_56 6 (.goto (-36)) 3 ∧ De bdX3_search_56 9 (.iconst 0) 1 ∧ De bdX3_search_56 10 (.istore 5) 2 ∧ De bdX3_search_56 12 (.iload 5) 2 ∧ De bdX3_search_56 14 (.aload_n 0) 1 ∧ De bdX3_search_56 15 (.getfield 43) 3 ∧ De bdX3_search_56 18 (.if_icmp .ge 18) 3 ∧ De bdX3_search_56 21 (.aload_n 0) 1 ∧ De bdX3_search_56 22 (.getfield 40) 3 ∧ De bdX3_search_56 25 (.iload 5) 2 ∧ De bdX3_search_56 27 (.iload 4) 2 ∧ De bdX3_search_56 29 (.iastore) 1 ∧ De bdX3_search_56 30 (.iinc 5 1) 3 ∧ De bdX3_search_56 33 (.goto (-21)) 3 := by decide +kernel
theorem dX3_search_56 : decode cX3_search 56 = .ok (.invokevirtual 56, 3) := dAt wdX3_search_56 adX3_search_56.1 rfl
theorem dX3_search_59 : decode cX3_search 59 = .ok (.iinc 5 1, 3) := dAt wdX3_search_56 adX3_search_56.2.1 rfl
theorem dX3_search_62 : decode cX3_search 62 = .ok (.goto (-36), 3) := dAt wdX3_search_56 adX3_search_56.2.2.1 rfl
theorem dX3_search_65 : decode cX3_search 65 = .ok (.iconst 0, 1) := dAt wdX3_search_56 adX3_search_56.2.2.2.1 rfl
theorem dX3_search_66 : decode cX3_search 66 = .ok (.istore 5, 2) := dAt wdX3_search_56 adX3_search_56.2.2.2.2.1 rfl
theorem dX3_search_68 : decode cX3_search 68 = .ok (.iload 5, 2) := dAt wdX3_search_56 adX3_search_56.2.2.2.2.2.1 rfl
theorem dX3_search_70 : decode cX3_search 70 = .ok (.aload_n 0, 1) := dAt wdX3_search_56 adX3_search_56.2.2.2.2.2.2.1 rfl
theorem dX3_search_71 : decode cX3_search 71 = .ok (.getfield 43, 3) := dAt wdX3_search_56 adX3_search_56.2.2.2.2.2.2.2.1 rfl
theorem dX3_search_74 : decode cX3_search 74 = .ok (.if_icmp .ge 18, 3) := dAt wdX3_search_56 adX3_search_56.2.2.2.2.2.2.2.2.1 rfl
theorem dX3_search_77 : decode cX3_search 77 = .ok (.aload_n 0, 1) := dAt wdX3_search_56 adX3_search_56.2.2.2.2.2.2.2.2.2.1 rfl
theorem dX3_search_78 : decode cX3_search 78 = .ok (.getfield 40, 3) := dAt wdX3_search_56 adX3_search_56.2.2.2.2.2.2.2.2.2.2.1 rfl
theorem dX3_search_81 : decode cX3_search 81 = .ok (.iload 5, 2) := dAt wdX3_search_56 adX3_search_56.2.2.2.2.2.2.2.2.2.2.2.1 rfl
theorem dX3_search_83 : decode cX3_search 83 = .ok (.iload 4, 2) := dAt wdX3_search_56 adX3_search_56.2.2.2.2.2.2.2.2.2.2.2.2.1 rfl
theorem dX3_search_85 : decode cX3_search 85 = .ok (.iastore, 1) := dAt wdX3_search_56 adX3_search_56.2.2.2.2.2.2.2.2.2.2.2.2.2.1 rfl
theorem dX3_search_86 : decode cX3_search 86 = .ok (.iinc 5 1, 3) := dAt wdX3_search_56 adX3_search_56.2.2.2.2.2.2.2.2.2.2.2.2.2.2.1 rfl
theorem dX3_search_89 : decode cX3_search 89 = .ok (.goto (-21), 3) := dAt wdX3_search_56 adX3_search_56.2.2.2.2.2.2.2.2.2.2.2.2.2.2.2 rfl
def bdX3_search_92 : ByteArray := .mk #[42, 3, 182, 0, 60, 177]
theorem wdX3_search_92 : LocW cX3_search 92 bdX3_search_92 := loc_of (by decide +kernel)
theorem adX3_search_92 : De bdX3_search_92 0 (.aload_n 0) 1 ∧ De bdX3_search_92 1 (.iconst 0) 1 ∧ De bdX3_search_92 2 (.invokevirtual 60) 3 ∧ De bdX3_search_92 5 (.return_) 1 := by decide +kernel
theorem dX3_search_92 : decode cX3_search 92 = .ok (.aload_n 0, 1) := dAt wdX3_search_92 adX3_search_92.1 rfl
theorem dX3_search_93 : decode cX3_search 93 = .ok (.iconst 0, 1) := dAt wdX3_search_92 adX3_search_92.2.1 rfl
theorem dX3_search_94 : decode cX3_search 94 = .ok (.invokevirtual 60, 3) := dAt wdX3_search_92 adX3_search_92.2.2.1 rfl
theorem dX3_search_97 : decode cX3_search 97 = .ok (.return_, 1) := dAt wdX3_search_92 adX3_search_92.2.2.2 rfl
def bdX3_addStory_0 : ByteArray := .mk #[42, 180, 0, 18, 42, 180, 0, 9, 28, 79, 42, 180, 0, 34, 42, 180, 0, 9, 3, 79, 42, 180, 0, 37, 42, 180, 0, 9]
theorem wdX3_addStory_0 : LocW cX3_addStory 0 bdX3_addStory_0 := loc_of (by decide +kernel)
theorem adX3_addStory_0 : De bdX3_addStory_0 0 (.aload_n 0) 1 ∧ De bdX3_addStory_0 1 (.getfield 18) 3 ∧ De bdX3_addStory_0 4 (.aload_n 0) 1 ∧ De bdX3_addStory_0 5 (.getfield 9) 3 ∧ De bdX3_addStory_0 8 (.iload_n 2) 1 ∧ De bdX3_addStory_0 9 (.iastore) 1 ∧ De bdX3_addStory_0 10 (.aload_n 0) 1 ∧ De bdX3_addStory_0 11 (.getfield 34) 3 ∧ De bdX3_addStory_0 14 (.aload_n 0) 1 ∧ De bdX3_addStory_0 15 (.getfield 9) 3 ∧ De bdX3_addStory_0 18 (.iconst 0) 1 ∧ De bdX3_addStory_0 19 (.iastore) 1 ∧ De bdX3_addStory_0 20 (.aload_n 0) 1 ∧ De bdX3_addStory_0 21 (.getfield 37) 3 ∧ De bdX3_addStory_0 24 (.aload_n 0) 1 ∧ De bdX3_addStory_0 25 (.getfield 9) 3 := by decide +kernel
theorem dX3_addStory_0 : decode cX3_addStory 0 = .ok (.aload_n 0, 1) := dAt wdX3_addStory_0 adX3_addStory_0.1 rfl
theorem dX3_addStory_1 : decode cX3_addStory 1 = .ok (.getfield 18, 3) := dAt wdX3_addStory_0 adX3_addStory_0.2.1 rfl
theorem dX3_addStory_4 : decode cX3_addStory 4 = .ok (.aload_n 0, 1) := dAt wdX3_addStory_0 adX3_addStory_0.2.2.1 rfl
theorem dX3_addStory_5 : decode cX3_addStory 5 = .ok (.getfield 9, 3) := dAt wdX3_addStory_0 adX3_addStory_0.2.2.2.1 rfl
theorem dX3_addStory_8 : decode cX3_addStory 8 = .ok (.iload_n 2, 1) := dAt wdX3_addStory_0 adX3_addStory_0.2.2.2.2.1 rfl
theorem dX3_addStory_9 : decode cX3_addStory 9 = .ok (.iastore, 1) := dAt wdX3_addStory_0 adX3_addStory_0.2.2.2.2.2.1 rfl
theorem dX3_addStory_10 : decode cX3_addStory 10 = .ok (.aload_n 0, 1) := dAt wdX3_addStory_0 adX3_addStory_0.2.2.2.2.2.2.1 rfl
theorem dX3_addStory_11 : decode cX3_addStory 11 = .ok (.getfield 34, 3) := dAt wdX3_addStory_0 adX3_addStory_0.2.2.2.2.2.2.2.1 rfl
theorem dX3_addStory_14 : decode cX3_addStory 14 = .ok (.aload_n 0, 1) := dAt wdX3_addStory_0 adX3_addStory_0.2.2.2.2.2.2.2.2.1 rfl
theorem dX3_addStory_15 : decode cX3_addStory 15 = .ok (.getfield 9, 3) := dAt wdX3_addStory_0 adX3_addStory_0.2.2.2.2.2.2.2.2.2.1 rfl
theorem dX3_addStory_18 : decode cX3_addStory 18 = .ok (.iconst 0, 1) := dAt wdX3_addStory_0 adX3_addStory_0.2.2.2.2.2.2.2.2.2.2.1 rfl
theorem dX3_addStory_19 : decode cX3_addStory 19 = .ok (.iastore, 1) := dAt wdX3_addStory_0 adX3_addStory_0.2.2.2.2.2.2.2.2.2.2.2.1 rfl
theorem dX3_addStory_20 : decode cX3_addStory 20 = .ok (.aload_n 0, 1) := dAt wdX3_addStory_0 adX3_addStory_0.2.2.2.2.2.2.2.2.2.2.2.2.1 rfl
theorem dX3_addStory_21 : decode cX3_addStory 21 = .ok (.getfield 37, 3) := dAt wdX3_addStory_0 adX3_addStory_0.2.2.2.2.2.2.2.2.2.2.2.2.2.1 rfl
theorem dX3_addStory_24 : decode cX3_addStory 24 = .ok (.aload_n 0, 1) := dAt wdX3_addStory_0 adX3_addStory_0.2.2.2.2.2.2.2.2.2.2.2.2.2.2.1 rfl
theorem dX3_addStory_25 : decode cX3_addStory 25 = .ok (.getfield 9, 3) := dAt wdX3_addStory_0 adX3_addStory_0.2.2.2.2.2.2.2.2.2.2.2.2.2.2.2 rfl
def bdX3_addStory_28 : ByteArray := .mk #[16, 6, 104, 3, 79, 3, 62, 29, 43, 180, 0, 64, 28, 46, 162, 0, 82, 43, 8, 28, 104]
theorem wdX3_addStory_28 : LocW cX3_addStory 28 bdX3_addStory_28 := loc_of (by decide +kernel)
theorem adX3_addStory_28 : De bdX3_addStory_28 0 (.bipush 6) 2 ∧ De bdX3_addStory_28 2 (.imul) 1 ∧ De bdX3_addStory_28 3 (.iconst 0) 1 ∧ De bdX3_addStory_28 4 (.iastore) 1 ∧ De bdX3_addStory_28 5 (.iconst 0) 1 ∧ De bdX3_addStory_28 6 (.istore_n 3) 1 ∧ De bdX3_addStory_28 7 (.iload_n 3) 1 ∧ De bdX3_addStory_28 8 (.aload_n 1) 1 ∧ De bdX3_addStory_28 9 (.getfield 64) 3 ∧ De bdX3_addStory_28 12 (.iload_n 2) 1 ∧ De bdX3_addStory_28 13 (.iaload) 1 ∧ De bdX3_addStory_28 14 (.if_icmp .ge 82) 3 ∧ De bdX3_addStory_28 17 (.aload_n 1) 1 ∧ De bdX3_addStory_28 18 (.iconst 5) 1 ∧ De bdX3_addStory_28 19 (.iload_n 2) 1 ∧ De bdX3_addStory_28 20 (.imul) 1 := by decide +kernel
theorem dX3_addStory_28 : decode cX3_addStory 28 = .ok (.bipush 6, 2) := dAt wdX3_addStory_28 adX3_addStory_28.1 rfl
theorem dX3_addStory_30 : decode cX3_addStory 30 = .ok (.imul, 1) := dAt wdX3_addStory_28 adX3_addStory_28.2.1 rfl
theorem dX3_addStory_31 : decode cX3_addStory 31 = .ok (.iconst 0, 1) := dAt wdX3_addStory_28 adX3_addStory_28.2.2.1 rfl
theorem dX3_addStory_32 : decode cX3_addStory 32 = .ok (.iastore, 1) := dAt wdX3_addStory_28 adX3_addStory_28.2.2.2.1 rfl
theorem dX3_addStory_33 : decode cX3_addStory 33 = .ok (.iconst 0, 1) := dAt wdX3_addStory_28 adX3_addStory_28.2.2.2.2.1 rfl
theorem dX3_addStory_34 : decode cX3_addStory 34 = .ok (.istore_n 3, 1) := dAt wdX3_addStory_28 adX3_addStory_28.2.2.2.2.2.1 rfl
theorem dX3_addStory_35 : decode cX3_addStory 35 = .ok (.iload_n 3, 1) := dAt wdX3_addStory_28 adX3_addStory_28.2.2.2.2.2.2.1 rfl
theorem dX3_addStory_36 : decode cX3_addStory 36 = .ok (.aload_n 1, 1) := dAt wdX3_addStory_28 adX3_addStory_28.2.2.2.2.2.2.2.1 rfl
theorem dX3_addStory_37 : decode cX3_addStory 37 = .ok (.getfield 64, 3) := dAt wdX3_addStory_28 adX3_addStory_28.2.2.2.2.2.2.2.2.1 rfl
theorem dX3_addStory_40 : decode cX3_addStory 40 = .ok (.iload_n 2, 1) := dAt wdX3_addStory_28 adX3_addStory_28.2.2.2.2.2.2.2.2.2.1 rfl
theorem dX3_addStory_41 : decode cX3_addStory 41 = .ok (.iaload, 1) := dAt wdX3_addStory_28 adX3_addStory_28.2.2.2.2.2.2.2.2.2.2.1 rfl
theorem dX3_addStory_42 : decode cX3_addStory 42 = .ok (.if_icmp .ge 82, 3) := dAt wdX3_addStory_28 adX3_addStory_28.2.2.2.2.2.2.2.2.2.2.2.1 rfl
theorem dX3_addStory_45 : decode cX3_addStory 45 = .ok (.aload_n 1, 1) := dAt wdX3_addStory_28 adX3_addStory_28.2.2.2.2.2.2.2.2.2.2.2.2.1 rfl
theorem dX3_addStory_46 : decode cX3_addStory 46 = .ok (.iconst 5, 1) := dAt wdX3_addStory_28 adX3_addStory_28.2.2.2.2.2.2.2.2.2.2.2.2.2.1 rfl
theorem dX3_addStory_47 : decode cX3_addStory 47 = .ok (.iload_n 2, 1) := dAt wdX3_addStory_28 adX3_addStory_28.2.2.2.2.2.2.2.2.2.2.2.2.2.2.1 rfl
theorem dX3_addStory_48 : decode cX3_addStory 48 = .ok (.imul, 1) := dAt wdX3_addStory_28 adX3_addStory_28.2.2.2.2.2.2.2.2.2.2.2.2.2.2.2 rfl
def bdX3_addStory_49 : ByteArray := .mk #[29, 96, 182, 0, 67, 58, 4, 25, 4, 199, 0, 7, 3, 167, 0, 8, 25, 4, 180, 0, 71, 54, 5, 42, 180, 0, 37, 42, 180, 0, 9, 16, 6]
theorem wdX3_addStory_49 : LocW cX3_addStory 49 bdX3_addStory_49 := loc_of (by decide +kernel)
theorem adX3_addStory_49 : De bdX3_addStory_49 0 (.iload_n 3) 1 ∧ De bdX3_addStory_49 1 (.iadd) 1 ∧ De bdX3_addStory_49 2 (.invokevirtual 67) 3 ∧ De bdX3_addStory_49 5 (.astore 4) 2 ∧ De bdX3_addStory_49 7 (.aload 4) 2 ∧ De bdX3_addStory_49 9 (.ifnonnull 7) 3 ∧ De bdX3_addStory_49 12 (.iconst 0) 1 ∧ De bdX3_addStory_49 13 (.goto 8) 3 ∧ De bdX3_addStory_49 16 (.aload 4) 2 ∧ De bdX3_addStory_49 18 (.getfield 71) 3 ∧ De bdX3_addStory_49 21 (.istore 5) 2 ∧ De bdX3_addStory_49 23 (.aload_n 0) 1 ∧ De bdX3_addStory_49 24 (.getfield 37) 3 ∧ De bdX3_addStory_49 27 (.aload_n 0) 1 ∧ De bdX3_addStory_49 28 (.getfield 9) 3 ∧ De bdX3_addStory_49 31 (.bipush 6) 2 := by decide +kernel
theorem dX3_addStory_49 : decode cX3_addStory 49 = .ok (.iload_n 3, 1) := dAt wdX3_addStory_49 adX3_addStory_49.1 rfl
theorem dX3_addStory_50 : decode cX3_addStory 50 = .ok (.iadd, 1) := dAt wdX3_addStory_49 adX3_addStory_49.2.1 rfl
theorem dX3_addStory_51 : decode cX3_addStory 51 = .ok (.invokevirtual 67, 3) := dAt wdX3_addStory_49 adX3_addStory_49.2.2.1 rfl
theorem dX3_addStory_54 : decode cX3_addStory 54 = .ok (.astore 4, 2) := dAt wdX3_addStory_49 adX3_addStory_49.2.2.2.1 rfl
theorem dX3_addStory_56 : decode cX3_addStory 56 = .ok (.aload 4, 2) := dAt wdX3_addStory_49 adX3_addStory_49.2.2.2.2.1 rfl
theorem dX3_addStory_58 : decode cX3_addStory 58 = .ok (.ifnonnull 7, 3) := dAt wdX3_addStory_49 adX3_addStory_49.2.2.2.2.2.1 rfl
theorem dX3_addStory_61 : decode cX3_addStory 61 = .ok (.iconst 0, 1) := dAt wdX3_addStory_49 adX3_addStory_49.2.2.2.2.2.2.1 rfl
theorem dX3_addStory_62 : decode cX3_addStory 62 = .ok (.goto 8, 3) := dAt wdX3_addStory_49 adX3_addStory_49.2.2.2.2.2.2.2.1 rfl
theorem dX3_addStory_65 : decode cX3_addStory 65 = .ok (.aload 4, 2) := dAt wdX3_addStory_49 adX3_addStory_49.2.2.2.2.2.2.2.2.1 rfl
theorem dX3_addStory_67 : decode cX3_addStory 67 = .ok (.getfield 71, 3) := dAt wdX3_addStory_49 adX3_addStory_49.2.2.2.2.2.2.2.2.2.1 rfl
theorem dX3_addStory_70 : decode cX3_addStory 70 = .ok (.istore 5, 2) := dAt wdX3_addStory_49 adX3_addStory_49.2.2.2.2.2.2.2.2.2.2.1 rfl
theorem dX3_addStory_72 : decode cX3_addStory 72 = .ok (.aload_n 0, 1) := dAt wdX3_addStory_49 adX3_addStory_49.2.2.2.2.2.2.2.2.2.2.2.1 rfl
theorem dX3_addStory_73 : decode cX3_addStory 73 = .ok (.getfield 37, 3) := dAt wdX3_addStory_49 adX3_addStory_49.2.2.2.2.2.2.2.2.2.2.2.2.1 rfl
theorem dX3_addStory_76 : decode cX3_addStory 76 = .ok (.aload_n 0, 1) := dAt wdX3_addStory_49 adX3_addStory_49.2.2.2.2.2.2.2.2.2.2.2.2.2.1 rfl
theorem dX3_addStory_77 : decode cX3_addStory 77 = .ok (.getfield 9, 3) := dAt wdX3_addStory_49 adX3_addStory_49.2.2.2.2.2.2.2.2.2.2.2.2.2.2.1 rfl
theorem dX3_addStory_80 : decode cX3_addStory 80 = .ok (.bipush 6, 2) := dAt wdX3_addStory_49 adX3_addStory_49.2.2.2.2.2.2.2.2.2.2.2.2.2.2.2 rfl
def bdX3_addStory_82 : ByteArray := .mk #[104, 29, 96, 4, 96, 42, 180, 0, 37, 42, 180, 0, 9, 16, 6, 104, 29, 96, 46, 21, 5, 96]
theorem wdX3_addStory_82 : LocW cX3_addStory 82 bdX3_addStory_82 := loc_of (by decide +kernel)
theorem adX3_addStory_82 : De bdX3_addStory_82 0 (.imul) 1 ∧ De bdX3_addStory_82 1 (.iload_n 3) 1 ∧ De bdX3_addStory_82 2 (.iadd) 1 ∧ De bdX3_addStory_82 3 (.iconst 1) 1 ∧ De bdX3_addStory_82 4 (.iadd) 1 ∧ De bdX3_addStory_82 5 (.aload_n 0) 1 ∧ De bdX3_addStory_82 6 (.getfield 37) 3 ∧ De bdX3_addStory_82 9 (.aload_n 0) 1 ∧ De bdX3_addStory_82 10 (.getfield 9) 3 ∧ De bdX3_addStory_82 13 (.bipush 6) 2 ∧ De bdX3_addStory_82 15 (.imul) 1 ∧ De bdX3_addStory_82 16 (.iload_n 3) 1 ∧ De bdX3_addStory_82 17 (.iadd) 1 ∧ De bdX3_addStory_82 18 (.iaload) 1 ∧ De bdX3_addStory_82 19 (.iload 5) 2 ∧ De bdX3_addStory_82 21 (.iadd) 1 := by decide +kernel
theorem dX3_addStory_82 : decode cX3_addStory 82 = .ok (.imul, 1) := dAt wdX3_addStory_82 adX3_addStory_82.1 rfl
theorem dX3_addStory_83 : decode cX3_addStory 83 = .ok (.iload_n 3, 1) := dAt wdX3_addStory_82 adX3_addStory_82.2.1 rfl
theorem dX3_addStory_84 : decode cX3_addStory 84 = .ok (.iadd, 1) := dAt wdX3_addStory_82 adX3_addStory_82.2.2.1 rfl
theorem dX3_addStory_85 : decode cX3_addStory 85 = .ok (.iconst 1, 1) := dAt wdX3_addStory_82 adX3_addStory_82.2.2.2.1 rfl
theorem dX3_addStory_86 : decode cX3_addStory 86 = .ok (.iadd, 1) := dAt wdX3_addStory_82 adX3_addStory_82.2.2.2.2.1 rfl
theorem dX3_addStory_87 : decode cX3_addStory 87 = .ok (.aload_n 0, 1) := dAt wdX3_addStory_82 adX3_addStory_82.2.2.2.2.2.1 rfl
theorem dX3_addStory_88 : decode cX3_addStory 88 = .ok (.getfield 37, 3) := dAt wdX3_addStory_82 adX3_addStory_82.2.2.2.2.2.2.1 rfl
theorem dX3_addStory_91 : decode cX3_addStory 91 = .ok (.aload_n 0, 1) := dAt wdX3_addStory_82 adX3_addStory_82.2.2.2.2.2.2.2.1 rfl
theorem dX3_addStory_92 : decode cX3_addStory 92 = .ok (.getfield 9, 3) := dAt wdX3_addStory_82 adX3_addStory_82.2.2.2.2.2.2.2.2.1 rfl
theorem dX3_addStory_95 : decode cX3_addStory 95 = .ok (.bipush 6, 2) := dAt wdX3_addStory_82 adX3_addStory_82.2.2.2.2.2.2.2.2.2.1 rfl
theorem dX3_addStory_97 : decode cX3_addStory 97 = .ok (.imul, 1) := dAt wdX3_addStory_82 adX3_addStory_82.2.2.2.2.2.2.2.2.2.2.1 rfl
theorem dX3_addStory_98 : decode cX3_addStory 98 = .ok (.iload_n 3, 1) := dAt wdX3_addStory_82 adX3_addStory_82.2.2.2.2.2.2.2.2.2.2.2.1 rfl
theorem dX3_addStory_99 : decode cX3_addStory 99 = .ok (.iadd, 1) := dAt wdX3_addStory_82 adX3_addStory_82.2.2.2.2.2.2.2.2.2.2.2.2.1 rfl
theorem dX3_addStory_100 : decode cX3_addStory 100 = .ok (.iaload, 1) := dAt wdX3_addStory_82 adX3_addStory_82.2.2.2.2.2.2.2.2.2.2.2.2.2.1 rfl
theorem dX3_addStory_101 : decode cX3_addStory 101 = .ok (.iload 5, 2) := dAt wdX3_addStory_82 adX3_addStory_82.2.2.2.2.2.2.2.2.2.2.2.2.2.2.1 rfl
theorem dX3_addStory_103 : decode cX3_addStory 103 = .ok (.iadd, 1) := dAt wdX3_addStory_82 adX3_addStory_82.2.2.2.2.2.2.2.2.2.2.2.2.2.2.2 rfl
def bdX3_addStory_104 : ByteArray := .mk #[79, 42, 180, 0, 34, 42, 180, 0, 9, 92, 46, 4, 96, 79, 132, 3, 1, 167, 255, 170, 42, 89, 180, 0, 9, 4]
theorem wdX3_addStory_104 : LocW cX3_addStory 104 bdX3_addStory_104 := loc_of (by decide +kernel)
theorem adX3_addStory_104 : De bdX3_addStory_104 0 (.iastore) 1 ∧ De bdX3_addStory_104 1 (.aload_n 0) 1 ∧ De bdX3_addStory_104 2 (.getfield 34) 3 ∧ De bdX3_addStory_104 5 (.aload_n 0) 1 ∧ De bdX3_addStory_104 6 (.getfield 9) 3 ∧ De bdX3_addStory_104 9 (.dup2) 1 ∧ De bdX3_addStory_104 10 (.iaload) 1 ∧ De bdX3_addStory_104 11 (.iconst 1) 1 ∧ De bdX3_addStory_104 12 (.iadd) 1 ∧ De bdX3_addStory_104 13 (.iastore) 1 ∧ De bdX3_addStory_104 14 (.iinc 3 1) 3 ∧ De bdX3_addStory_104 17 (.goto (-86)) 3 ∧ De bdX3_addStory_104 20 (.aload_n 0) 1 ∧ De bdX3_addStory_104 21 (.dup) 1 ∧ De bdX3_addStory_104 22 (.getfield 9) 3 ∧ De bdX3_addStory_104 25 (.iconst 1) 1 := by decide +kernel
theorem dX3_addStory_104 : decode cX3_addStory 104 = .ok (.iastore, 1) := dAt wdX3_addStory_104 adX3_addStory_104.1 rfl
theorem dX3_addStory_105 : decode cX3_addStory 105 = .ok (.aload_n 0, 1) := dAt wdX3_addStory_104 adX3_addStory_104.2.1 rfl
theorem dX3_addStory_106 : decode cX3_addStory 106 = .ok (.getfield 34, 3) := dAt wdX3_addStory_104 adX3_addStory_104.2.2.1 rfl
theorem dX3_addStory_109 : decode cX3_addStory 109 = .ok (.aload_n 0, 1) := dAt wdX3_addStory_104 adX3_addStory_104.2.2.2.1 rfl
theorem dX3_addStory_110 : decode cX3_addStory 110 = .ok (.getfield 9, 3) := dAt wdX3_addStory_104 adX3_addStory_104.2.2.2.2.1 rfl
theorem dX3_addStory_113 : decode cX3_addStory 113 = .ok (.dup2, 1) := dAt wdX3_addStory_104 adX3_addStory_104.2.2.2.2.2.1 rfl
theorem dX3_addStory_114 : decode cX3_addStory 114 = .ok (.iaload, 1) := dAt wdX3_addStory_104 adX3_addStory_104.2.2.2.2.2.2.1 rfl
theorem dX3_addStory_115 : decode cX3_addStory 115 = .ok (.iconst 1, 1) := dAt wdX3_addStory_104 adX3_addStory_104.2.2.2.2.2.2.2.1 rfl
theorem dX3_addStory_116 : decode cX3_addStory 116 = .ok (.iadd, 1) := dAt wdX3_addStory_104 adX3_addStory_104.2.2.2.2.2.2.2.2.1 rfl
theorem dX3_addStory_117 : decode cX3_addStory 117 = .ok (.iastore, 1) := dAt wdX3_addStory_104 adX3_addStory_104.2.2.2.2.2.2.2.2.2.1 rfl
theorem dX3_addStory_118 : decode cX3_addStory 118 = .ok (.iinc 3 1, 3) := dAt wdX3_addStory_104 adX3_addStory_104.2.2.2.2.2.2.2.2.2.2.1 rfl
theorem dX3_addStory_121 : decode cX3_addStory 121 = .ok (.goto (-86), 3) := dAt wdX3_addStory_104 adX3_addStory_104.2.2.2.2.2.2.2.2.2.2.2.1 rfl
theorem dX3_addStory_124 : decode cX3_addStory 124 = .ok (.aload_n 0, 1) := dAt wdX3_addStory_104 adX3_addStory_104.2.2.2.2.2.2.2.2.2.2.2.2.1 rfl
theorem dX3_addStory_125 : decode cX3_addStory 125 = .ok (.dup, 1) := dAt wdX3_addStory_104 adX3_addStory_104.2.2.2.2.2.2.2.2.2.2.2.2.2.1 rfl
theorem dX3_addStory_126 : decode cX3_addStory 126 = .ok (.getfield 9, 3) := dAt wdX3_addStory_104 adX3_addStory_104.2.2.2.2.2.2.2.2.2.2.2.2.2.2.1 rfl
theorem dX3_addStory_129 : decode cX3_addStory 129 = .ok (.iconst 1, 1) := dAt wdX3_addStory_104 adX3_addStory_104.2.2.2.2.2.2.2.2.2.2.2.2.2.2.2 rfl
def bdX3_addStory_130 : ByteArray := .mk #[96, 181, 0, 9, 177]
theorem wdX3_addStory_130 : LocW cX3_addStory 130 bdX3_addStory_130 := loc_of (by decide +kernel)
theorem adX3_addStory_130 : De bdX3_addStory_130 0 (.iadd) 1 ∧ De bdX3_addStory_130 1 (.putfield 9) 3 ∧ De bdX3_addStory_130 4 (.return_) 1 := by decide +kernel
theorem dX3_addStory_130 : decode cX3_addStory 130 = .ok (.iadd, 1) := dAt wdX3_addStory_130 adX3_addStory_130.1 rfl
theorem dX3_addStory_131 : decode cX3_addStory 131 = .ok (.putfield 9, 3) := dAt wdX3_addStory_130 adX3_addStory_130.2.1 rfl
theorem dX3_addStory_134 : decode cX3_addStory 134 = .ok (.return_, 1) := dAt wdX3_addStory_130 adX3_addStory_130.2.2 rfl
def bdX3_chooseColumn_0 : ByteArray := .mk #[27, 42, 180, 0, 9, 161, 0, 10, 42, 3, 3, 182, 0, 76, 177, 3, 61, 28, 42, 180, 0, 43, 162, 0, 23, 42]
theorem wdX3_chooseColumn_0 : LocW cX3_chooseColumn 0 bdX3_chooseColumn_0 := loc_of (by decide +kernel)
theorem adX3_chooseColumn_0 : De bdX3_chooseColumn_0 0 (.iload_n 1) 1 ∧ De bdX3_chooseColumn_0 1 (.aload_n 0) 1 ∧ De bdX3_chooseColumn_0 2 (.getfield 9) 3 ∧ De bdX3_chooseColumn_0 5 (.if_icmp .lt 10) 3 ∧ De bdX3_chooseColumn_0 8 (.aload_n 0) 1 ∧ De bdX3_chooseColumn_0 9 (.iconst 0) 1 ∧ De bdX3_chooseColumn_0 10 (.iconst 0) 1 ∧ De bdX3_chooseColumn_0 11 (.invokevirtual 76) 3 ∧ De bdX3_chooseColumn_0 14 (.return_) 1 ∧ De bdX3_chooseColumn_0 15 (.iconst 0) 1 ∧ De bdX3_chooseColumn_0 16 (.istore_n 2) 1 ∧ De bdX3_chooseColumn_0 17 (.iload_n 2) 1 ∧ De bdX3_chooseColumn_0 18 (.aload_n 0) 1 ∧ De bdX3_chooseColumn_0 19 (.getfield 43) 3 ∧ De bdX3_chooseColumn_0 22 (.if_icmp .ge 23) 3 ∧ De bdX3_chooseColumn_0 25 (.aload_n 0) 1 := by decide +kernel
theorem dX3_chooseColumn_0 : decode cX3_chooseColumn 0 = .ok (.iload_n 1, 1) := dAt wdX3_chooseColumn_0 adX3_chooseColumn_0.1 rfl
theorem dX3_chooseColumn_1 : decode cX3_chooseColumn 1 = .ok (.aload_n 0, 1) := dAt wdX3_chooseColumn_0 adX3_chooseColumn_0.2.1 rfl
theorem dX3_chooseColumn_2 : decode cX3_chooseColumn 2 = .ok (.getfield 9, 3) := dAt wdX3_chooseColumn_0 adX3_chooseColumn_0.2.2.1 rfl
theorem dX3_chooseColumn_5 : decode cX3_chooseColumn 5 = .ok (.if_icmp .lt 10, 3) := dAt wdX3_chooseColumn_0 adX3_chooseColumn_0.2.2.2.1 rfl
theorem dX3_chooseColumn_8 : decode cX3_chooseColumn 8 = .ok (.aload_n 0, 1) := dAt wdX3_chooseColumn_0 adX3_chooseColumn_0.2.2.2.2.1 rfl
theorem dX3_chooseColumn_9 : decode cX3_chooseColumn 9 = .ok (.iconst 0, 1) := dAt wdX3_chooseColumn_0 adX3_chooseColumn_0.2.2.2.2.2.1 rfl
theorem dX3_chooseColumn_10 : decode cX3_chooseColumn 10 = .ok (.iconst 0, 1) := dAt wdX3_chooseColumn_0 adX3_chooseColumn_0.2.2.2.2.2.2.1 rfl
theorem dX3_chooseColumn_11 : decode cX3_chooseColumn 11 = .ok (.invokevirtual 76, 3) := dAt wdX3_chooseColumn_0 adX3_chooseColumn_0.2.2.2.2.2.2.2.1 rfl
theorem dX3_chooseColumn_14 : decode cX3_chooseColumn 14 = .ok (.return_, 1) := dAt wdX3_chooseColumn_0 adX3_chooseColumn_0.2.2.2.2.2.2.2.2.1 rfl
theorem dX3_chooseColumn_15 : decode cX3_chooseColumn 15 = .ok (.iconst 0, 1) := dAt wdX3_chooseColumn_0 adX3_chooseColumn_0.2.2.2.2.2.2.2.2.2.1 rfl
theorem dX3_chooseColumn_16 : decode cX3_chooseColumn 16 = .ok (.istore_n 2, 1) := dAt wdX3_chooseColumn_0 adX3_chooseColumn_0.2.2.2.2.2.2.2.2.2.2.1 rfl
theorem dX3_chooseColumn_17 : decode cX3_chooseColumn 17 = .ok (.iload_n 2, 1) := dAt wdX3_chooseColumn_0 adX3_chooseColumn_0.2.2.2.2.2.2.2.2.2.2.2.1 rfl
theorem dX3_chooseColumn_18 : decode cX3_chooseColumn 18 = .ok (.aload_n 0, 1) := dAt wdX3_chooseColumn_0 adX3_chooseColumn_0.2.2.2.2.2.2.2.2.2.2.2.2.1 rfl
theorem dX3_chooseColumn_19 : decode cX3_chooseColumn 19 = .ok (.getfield 43, 3) := dAt wdX3_chooseColumn_0 adX3_chooseColumn_0.2.2.2.2.2.2.2.2.2.2.2.2.2.1 rfl
theorem dX3_chooseColumn_22 : decode cX3_chooseColumn 22 = .ok (.if_icmp .ge 23, 3) := dAt wdX3_chooseColumn_0 adX3_chooseColumn_0.2.2.2.2.2.2.2.2.2.2.2.2.2.2.1 rfl
theorem dX3_chooseColumn_25 : decode cX3_chooseColumn 25 = .ok (.aload_n 0, 1) := dAt wdX3_chooseColumn_0 adX3_chooseColumn_0.2.2.2.2.2.2.2.2.2.2.2.2.2.2.2 rfl
def bdX3_chooseColumn_26 : ByteArray := .mk #[180, 0, 28, 27, 28, 79, 42, 27, 4, 96, 182, 0, 60, 132, 2, 1, 167, 255, 231, 177]
theorem wdX3_chooseColumn_26 : LocW cX3_chooseColumn 26 bdX3_chooseColumn_26 := loc_of (by decide +kernel)
theorem adX3_chooseColumn_26 : De bdX3_chooseColumn_26 0 (.getfield 28) 3 ∧ De bdX3_chooseColumn_26 3 (.iload_n 1) 1 ∧ De bdX3_chooseColumn_26 4 (.iload_n 2) 1 ∧ De bdX3_chooseColumn_26 5 (.iastore) 1 ∧ De bdX3_chooseColumn_26 6 (.aload_n 0) 1 ∧ De bdX3_chooseColumn_26 7 (.iload_n 1) 1 ∧ De bdX3_chooseColumn_26 8 (.iconst 1) 1 ∧ De bdX3_chooseColumn_26 9 (.iadd) 1 ∧ De bdX3_chooseColumn_26 10 (.invokevirtual 60) 3 ∧ De bdX3_chooseColumn_26 13 (.iinc 2 1) 3 ∧ De bdX3_chooseColumn_26 16 (.goto (-25)) 3 ∧ De bdX3_chooseColumn_26 19 (.return_) 1 := by decide +kernel
theorem dX3_chooseColumn_26 : decode cX3_chooseColumn 26 = .ok (.getfield 28, 3) := dAt wdX3_chooseColumn_26 adX3_chooseColumn_26.1 rfl
theorem dX3_chooseColumn_29 : decode cX3_chooseColumn 29 = .ok (.iload_n 1, 1) := dAt wdX3_chooseColumn_26 adX3_chooseColumn_26.2.1 rfl
theorem dX3_chooseColumn_30 : decode cX3_chooseColumn 30 = .ok (.iload_n 2, 1) := dAt wdX3_chooseColumn_26 adX3_chooseColumn_26.2.2.1 rfl
theorem dX3_chooseColumn_31 : decode cX3_chooseColumn 31 = .ok (.iastore, 1) := dAt wdX3_chooseColumn_26 adX3_chooseColumn_26.2.2.2.1 rfl
theorem dX3_chooseColumn_32 : decode cX3_chooseColumn 32 = .ok (.aload_n 0, 1) := dAt wdX3_chooseColumn_26 adX3_chooseColumn_26.2.2.2.2.1 rfl
theorem dX3_chooseColumn_33 : decode cX3_chooseColumn 33 = .ok (.iload_n 1, 1) := dAt wdX3_chooseColumn_26 adX3_chooseColumn_26.2.2.2.2.2.1 rfl
theorem dX3_chooseColumn_34 : decode cX3_chooseColumn 34 = .ok (.iconst 1, 1) := dAt wdX3_chooseColumn_26 adX3_chooseColumn_26.2.2.2.2.2.2.1 rfl
theorem dX3_chooseColumn_35 : decode cX3_chooseColumn 35 = .ok (.iadd, 1) := dAt wdX3_chooseColumn_26 adX3_chooseColumn_26.2.2.2.2.2.2.2.1 rfl
theorem dX3_chooseColumn_36 : decode cX3_chooseColumn 36 = .ok (.invokevirtual 60, 3) := dAt wdX3_chooseColumn_26 adX3_chooseColumn_26.2.2.2.2.2.2.2.2.1 rfl
theorem dX3_chooseColumn_39 : decode cX3_chooseColumn 39 = .ok (.iinc 2 1, 3) := dAt wdX3_chooseColumn_26 adX3_chooseColumn_26.2.2.2.2.2.2.2.2.2.1 rfl
theorem dX3_chooseColumn_42 : decode cX3_chooseColumn 42 = .ok (.goto (-25), 3) := dAt wdX3_chooseColumn_26 adX3_chooseColumn_26.2.2.2.2.2.2.2.2.2.2.1 rfl
theorem dX3_chooseColumn_45 : decode cX3_chooseColumn 45 = .ok (.return_, 1) := dAt wdX3_chooseColumn_26 adX3_chooseColumn_26.2.2.2.2.2.2.2.2.2.2.2 rfl
def bdX3_chooseKeep_0 : ByteArray := .mk #[27, 42, 180, 0, 9, 161, 0, 9, 42, 28, 182, 0, 80, 177, 42, 180, 0, 34, 27, 46, 62, 29, 4, 161, 0, 88]
theorem wdX3_chooseKeep_0 : LocW cX3_chooseKeep 0 bdX3_chooseKeep_0 := loc_of (by decide +kernel)
theorem adX3_chooseKeep_0 : De bdX3_chooseKeep_0 0 (.iload_n 1) 1 ∧ De bdX3_chooseKeep_0 1 (.aload_n 0) 1 ∧ De bdX3_chooseKeep_0 2 (.getfield 9) 3 ∧ De bdX3_chooseKeep_0 5 (.if_icmp .lt 9) 3 ∧ De bdX3_chooseKeep_0 8 (.aload_n 0) 1 ∧ De bdX3_chooseKeep_0 9 (.iload_n 2) 1 ∧ De bdX3_chooseKeep_0 10 (.invokevirtual 80) 3 ∧ De bdX3_chooseKeep_0 13 (.return_) 1 ∧ De bdX3_chooseKeep_0 14 (.aload_n 0) 1 ∧ De bdX3_chooseKeep_0 15 (.getfield 34) 3 ∧ De bdX3_chooseKeep_0 18 (.iload_n 1) 1 ∧ De bdX3_chooseKeep_0 19 (.iaload) 1 ∧ De bdX3_chooseKeep_0 20 (.istore_n 3) 1 ∧ De bdX3_chooseKeep_0 21 (.iload_n 3) 1 ∧ De bdX3_chooseKeep_0 22 (.iconst 1) 1 ∧ De bdX3_chooseKeep_0 23 (.if_icmp .lt 88) 3 := by decide +kernel
theorem dX3_chooseKeep_0 : decode cX3_chooseKeep 0 = .ok (.iload_n 1, 1) := dAt wdX3_chooseKeep_0 adX3_chooseKeep_0.1 rfl
theorem dX3_chooseKeep_1 : decode cX3_chooseKeep 1 = .ok (.aload_n 0, 1) := dAt wdX3_chooseKeep_0 adX3_chooseKeep_0.2.1 rfl
theorem dX3_chooseKeep_2 : decode cX3_chooseKeep 2 = .ok (.getfield 9, 3) := dAt wdX3_chooseKeep_0 adX3_chooseKeep_0.2.2.1 rfl
theorem dX3_chooseKeep_5 : decode cX3_chooseKeep 5 = .ok (.if_icmp .lt 9, 3) := dAt wdX3_chooseKeep_0 adX3_chooseKeep_0.2.2.2.1 rfl
theorem dX3_chooseKeep_8 : decode cX3_chooseKeep 8 = .ok (.aload_n 0, 1) := dAt wdX3_chooseKeep_0 adX3_chooseKeep_0.2.2.2.2.1 rfl
theorem dX3_chooseKeep_9 : decode cX3_chooseKeep 9 = .ok (.iload_n 2, 1) := dAt wdX3_chooseKeep_0 adX3_chooseKeep_0.2.2.2.2.2.1 rfl
theorem dX3_chooseKeep_10 : decode cX3_chooseKeep 10 = .ok (.invokevirtual 80, 3) := dAt wdX3_chooseKeep_0 adX3_chooseKeep_0.2.2.2.2.2.2.1 rfl
theorem dX3_chooseKeep_13 : decode cX3_chooseKeep 13 = .ok (.return_, 1) := dAt wdX3_chooseKeep_0 adX3_chooseKeep_0.2.2.2.2.2.2.2.1 rfl
theorem dX3_chooseKeep_14 : decode cX3_chooseKeep 14 = .ok (.aload_n 0, 1) := dAt wdX3_chooseKeep_0 adX3_chooseKeep_0.2.2.2.2.2.2.2.2.1 rfl
theorem dX3_chooseKeep_15 : decode cX3_chooseKeep 15 = .ok (.getfield 34, 3) := dAt wdX3_chooseKeep_0 adX3_chooseKeep_0.2.2.2.2.2.2.2.2.2.1 rfl
theorem dX3_chooseKeep_18 : decode cX3_chooseKeep 18 = .ok (.iload_n 1, 1) := dAt wdX3_chooseKeep_0 adX3_chooseKeep_0.2.2.2.2.2.2.2.2.2.2.1 rfl
theorem dX3_chooseKeep_19 : decode cX3_chooseKeep 19 = .ok (.iaload, 1) := dAt wdX3_chooseKeep_0 adX3_chooseKeep_0.2.2.2.2.2.2.2.2.2.2.2.1 rfl
theorem dX3_chooseKeep_20 : decode cX3_chooseKeep 20 = .ok (.istore_n 3, 1) := dAt wdX3_chooseKeep_0 adX3_chooseKeep_0.2.2.2.2.2.2.2.2.2.2.2.2.1 rfl
theorem dX3_chooseKeep_21 : decode cX3_chooseKeep 21 = .ok (.iload_n 3, 1) := dAt wdX3_chooseKeep_0 adX3_chooseKeep_0.2.2.2.2.2.2.2.2.2.2.2.2.2.1 rfl
theorem dX3_chooseKeep_22 : decode cX3_chooseKeep 22 = .ok (.iconst 1, 1) := dAt wdX3_chooseKeep_0 adX3_chooseKeep_0.2.2.2.2.2.2.2.2.2.2.2.2.2.2.1 rfl
theorem dX3_chooseKeep_23 : decode cX3_chooseKeep 23 = .ok (.if_icmp .lt 88, 3) := dAt wdX3_chooseKeep_0 adX3_chooseKeep_0.2.2.2.2.2.2.2.2.2.2.2.2.2.2.2 rfl
def bdX3_chooseKeep_26 : ByteArray := .mk #[42, 180, 0, 37, 27, 16, 6, 104, 29, 96, 46, 54, 4, 21, 4, 42, 180, 0, 40, 42, 180, 0, 28, 27, 46]
theorem wdX3_chooseKeep_26 : LocW cX3_chooseKeep 26 bdX3_chooseKeep_26 := loc_of (by decide +kernel)
theorem adX3_chooseKeep_26 : De bdX3_chooseKeep_26 0 (.aload_n 0) 1 ∧ De bdX3_chooseKeep_26 1 (.getfield 37) 3 ∧ De bdX3_chooseKeep_26 4 (.iload_n 1) 1 ∧ De bdX3_chooseKeep_26 5 (.bipush 6) 2 ∧ De bdX3_chooseKeep_26 7 (.imul) 1 ∧ De bdX3_chooseKeep_26 8 (.iload_n 3) 1 ∧ De bdX3_chooseKeep_26 9 (.iadd) 1 ∧ De bdX3_chooseKeep_26 10 (.iaload) 1 ∧ De bdX3_chooseKeep_26 11 (.istore 4) 2 ∧ De bdX3_chooseKeep_26 13 (.iload 4) 2 ∧ De bdX3_chooseKeep_26 15 (.aload_n 0) 1 ∧ De bdX3_chooseKeep_26 16 (.getfield 40) 3 ∧ De bdX3_chooseKeep_26 19 (.aload_n 0) 1 ∧ De bdX3_chooseKeep_26 20 (.getfield 28) 3 ∧ De bdX3_chooseKeep_26 23 (.iload_n 1) 1 ∧ De bdX3_chooseKeep_26 24 (.iaload) 1 := by decide +kernel
theorem dX3_chooseKeep_26 : decode cX3_chooseKeep 26 = .ok (.aload_n 0, 1) := dAt wdX3_chooseKeep_26 adX3_chooseKeep_26.1 rfl
theorem dX3_chooseKeep_27 : decode cX3_chooseKeep 27 = .ok (.getfield 37, 3) := dAt wdX3_chooseKeep_26 adX3_chooseKeep_26.2.1 rfl
theorem dX3_chooseKeep_30 : decode cX3_chooseKeep 30 = .ok (.iload_n 1, 1) := dAt wdX3_chooseKeep_26 adX3_chooseKeep_26.2.2.1 rfl
theorem dX3_chooseKeep_31 : decode cX3_chooseKeep 31 = .ok (.bipush 6, 2) := dAt wdX3_chooseKeep_26 adX3_chooseKeep_26.2.2.2.1 rfl
theorem dX3_chooseKeep_33 : decode cX3_chooseKeep 33 = .ok (.imul, 1) := dAt wdX3_chooseKeep_26 adX3_chooseKeep_26.2.2.2.2.1 rfl
theorem dX3_chooseKeep_34 : decode cX3_chooseKeep 34 = .ok (.iload_n 3, 1) := dAt wdX3_chooseKeep_26 adX3_chooseKeep_26.2.2.2.2.2.1 rfl
theorem dX3_chooseKeep_35 : decode cX3_chooseKeep 35 = .ok (.iadd, 1) := dAt wdX3_chooseKeep_26 adX3_chooseKeep_26.2.2.2.2.2.2.1 rfl
theorem dX3_chooseKeep_36 : decode cX3_chooseKeep 36 = .ok (.iaload, 1) := dAt wdX3_chooseKeep_26 adX3_chooseKeep_26.2.2.2.2.2.2.2.1 rfl
theorem dX3_chooseKeep_37 : decode cX3_chooseKeep 37 = .ok (.istore 4, 2) := dAt wdX3_chooseKeep_26 adX3_chooseKeep_26.2.2.2.2.2.2.2.2.1 rfl
theorem dX3_chooseKeep_39 : decode cX3_chooseKeep 39 = .ok (.iload 4, 2) := dAt wdX3_chooseKeep_26 adX3_chooseKeep_26.2.2.2.2.2.2.2.2.2.1 rfl
theorem dX3_chooseKeep_41 : decode cX3_chooseKeep 41 = .ok (.aload_n 0, 1) := dAt wdX3_chooseKeep_26 adX3_chooseKeep_26.2.2.2.2.2.2.2.2.2.2.1 rfl
theorem dX3_chooseKeep_42 : decode cX3_chooseKeep 42 = .ok (.getfield 40, 3) := dAt wdX3_chooseKeep_26 adX3_chooseKeep_26.2.2.2.2.2.2.2.2.2.2.2.1 rfl
theorem dX3_chooseKeep_45 : decode cX3_chooseKeep 45 = .ok (.aload_n 0, 1) := dAt wdX3_chooseKeep_26 adX3_chooseKeep_26.2.2.2.2.2.2.2.2.2.2.2.2.1 rfl
theorem dX3_chooseKeep_46 : decode cX3_chooseKeep 46 = .ok (.getfield 28, 3) := dAt wdX3_chooseKeep_26 adX3_chooseKeep_26.2.2.2.2.2.2.2.2.2.2.2.2.2.1 rfl
theorem dX3_chooseKeep_49 : decode cX3_chooseKeep 49 = .ok (.iload_n 1, 1) := dAt wdX3_chooseKeep_26 adX3_chooseKeep_26.2.2.2.2.2.2.2.2.2.2.2.2.2.2.1 rfl
theorem dX3_chooseKeep_50 : decode cX3_chooseKeep 50 = .ok (.iaload, 1) := dAt wdX3_chooseKeep_26 adX3_chooseKeep_26.2.2.2.2.2.2.2.2.2.2.2.2.2.2.2 rfl
def bdX3_chooseKeep_51 : ByteArray := .mk #[46, 163, 0, 53, 42, 180, 0, 31, 27, 29, 79, 42, 180, 0, 40, 42, 180, 0, 28, 27, 46, 92, 46, 21, 4]
theorem wdX3_chooseKeep_51 : LocW cX3_chooseKeep 51 bdX3_chooseKeep_51 := loc_of (by decide +kernel)
theorem adX3_chooseKeep_51 : De bdX3_chooseKeep_51 0 (.iaload) 1 ∧ De bdX3_chooseKeep_51 1 (.if_icmp .gt 53) 3 ∧ De bdX3_chooseKeep_51 4 (.aload_n 0) 1 ∧ De bdX3_chooseKeep_51 5 (.getfield 31) 3 ∧ De bdX3_chooseKeep_51 8 (.iload_n 1) 1 ∧ De bdX3_chooseKeep_51 9 (.iload_n 3) 1 ∧ De bdX3_chooseKeep_51 10 (.iastore) 1 ∧ De bdX3_chooseKeep_51 11 (.aload_n 0) 1 ∧ De bdX3_chooseKeep_51 12 (.getfield 40) 3 ∧ De bdX3_chooseKeep_51 15 (.aload_n 0) 1 ∧ De bdX3_chooseKeep_51 16 (.getfield 28) 3 ∧ De bdX3_chooseKeep_51 19 (.iload_n 1) 1 ∧ De bdX3_chooseKeep_51 20 (.iaload) 1 ∧ De bdX3_chooseKeep_51 21 (.dup2) 1 ∧ De bdX3_chooseKeep_51 22 (.iaload) 1 ∧ De bdX3_chooseKeep_51 23 (.iload 4) 2 := by decide +kernel
theorem dX3_chooseKeep_51 : decode cX3_chooseKeep 51 = .ok (.iaload, 1) := dAt wdX3_chooseKeep_51 adX3_chooseKeep_51.1 rfl
theorem dX3_chooseKeep_52 : decode cX3_chooseKeep 52 = .ok (.if_icmp .gt 53, 3) := dAt wdX3_chooseKeep_51 adX3_chooseKeep_51.2.1 rfl
theorem dX3_chooseKeep_55 : decode cX3_chooseKeep 55 = .ok (.aload_n 0, 1) := dAt wdX3_chooseKeep_51 adX3_chooseKeep_51.2.2.1 rfl
theorem dX3_chooseKeep_56 : decode cX3_chooseKeep 56 = .ok (.getfield 31, 3) := dAt wdX3_chooseKeep_51 adX3_chooseKeep_51.2.2.2.1 rfl
theorem dX3_chooseKeep_59 : decode cX3_chooseKeep 59 = .ok (.iload_n 1, 1) := dAt wdX3_chooseKeep_51 adX3_chooseKeep_51.2.2.2.2.1 rfl
theorem dX3_chooseKeep_60 : decode cX3_chooseKeep 60 = .ok (.iload_n 3, 1) := dAt wdX3_chooseKeep_51 adX3_chooseKeep_51.2.2.2.2.2.1 rfl
theorem dX3_chooseKeep_61 : decode cX3_chooseKeep 61 = .ok (.iastore, 1) := dAt wdX3_chooseKeep_51 adX3_chooseKeep_51.2.2.2.2.2.2.1 rfl
theorem dX3_chooseKeep_62 : decode cX3_chooseKeep 62 = .ok (.aload_n 0, 1) := dAt wdX3_chooseKeep_51 adX3_chooseKeep_51.2.2.2.2.2.2.2.1 rfl
theorem dX3_chooseKeep_63 : decode cX3_chooseKeep 63 = .ok (.getfield 40, 3) := dAt wdX3_chooseKeep_51 adX3_chooseKeep_51.2.2.2.2.2.2.2.2.1 rfl
theorem dX3_chooseKeep_66 : decode cX3_chooseKeep 66 = .ok (.aload_n 0, 1) := dAt wdX3_chooseKeep_51 adX3_chooseKeep_51.2.2.2.2.2.2.2.2.2.1 rfl
theorem dX3_chooseKeep_67 : decode cX3_chooseKeep 67 = .ok (.getfield 28, 3) := dAt wdX3_chooseKeep_51 adX3_chooseKeep_51.2.2.2.2.2.2.2.2.2.2.1 rfl
theorem dX3_chooseKeep_70 : decode cX3_chooseKeep 70 = .ok (.iload_n 1, 1) := dAt wdX3_chooseKeep_51 adX3_chooseKeep_51.2.2.2.2.2.2.2.2.2.2.2.1 rfl
theorem dX3_chooseKeep_71 : decode cX3_chooseKeep 71 = .ok (.iaload, 1) := dAt wdX3_chooseKeep_51 adX3_chooseKeep_51.2.2.2.2.2.2.2.2.2.2.2.2.1 rfl
theorem dX3_chooseKeep_72 : decode cX3_chooseKeep 72 = .ok (.dup2, 1) := dAt wdX3_chooseKeep_51 adX3_chooseKeep_51.2.2.2.2.2.2.2.2.2.2.2.2.2.1 rfl
theorem dX3_chooseKeep_73 : decode cX3_chooseKeep 73 = .ok (.iaload, 1) := dAt wdX3_chooseKeep_51 adX3_chooseKeep_51.2.2.2.2.2.2.2.2.2.2.2.2.2.2.1 rfl
theorem dX3_chooseKeep_74 : decode cX3_chooseKeep 74 = .ok (.iload 4, 2) := dAt wdX3_chooseKeep_51 adX3_chooseKeep_51.2.2.2.2.2.2.2.2.2.2.2.2.2.2.2 rfl
def bdX3_chooseKeep_76 : ByteArray := .mk #[100, 79, 42, 27, 4, 96, 28, 21, 4, 96, 182, 0, 76, 42, 180, 0, 40, 42, 180, 0, 28, 27, 46]
theorem wdX3_chooseKeep_76 : LocW cX3_chooseKeep 76 bdX3_chooseKeep_76 := loc_of (by decide +kernel)
theorem adX3_chooseKeep_76 : De bdX3_chooseKeep_76 0 (.isub) 1 ∧ De bdX3_chooseKeep_76 1 (.iastore) 1 ∧ De bdX3_chooseKeep_76 2 (.aload_n 0) 1 ∧ De bdX3_chooseKeep_76 3 (.iload_n 1) 1 ∧ De bdX3_chooseKeep_76 4 (.iconst 1) 1 ∧ De bdX3_chooseKeep_76 5 (.iadd) 1 ∧ De bdX3_chooseKeep_76 6 (.iload_n 2) 1 ∧ De bdX3_chooseKeep_76 7 (.iload 4) 2 ∧ De bdX3_chooseKeep_76 9 (.iadd) 1 ∧ De bdX3_chooseKeep_76 10 (.invokevirtual 76) 3 ∧ De bdX3_chooseKeep_76 13 (.aload_n 0) 1 ∧ De bdX3_chooseKeep_76 14 (.getfield 40) 3 ∧ De bdX3_chooseKeep_76 17 (.aload_n 0) 1 ∧ De bdX3_chooseKeep_76 18 (.getfield 28) 3 ∧ De bdX3_chooseKeep_76 21 (.iload_n 1) 1 ∧ De bdX3_chooseKeep_76 22 (.iaload) 1 := by decide +kernel
theorem dX3_chooseKeep_76 : decode cX3_chooseKeep 76 = .ok (.isub, 1) := dAt wdX3_chooseKeep_76 adX3_chooseKeep_76.1 rfl
theorem dX3_chooseKeep_77 : decode cX3_chooseKeep 77 = .ok (.iastore, 1) := dAt wdX3_chooseKeep_76 adX3_chooseKeep_76.2.1 rfl
theorem dX3_chooseKeep_78 : decode cX3_chooseKeep 78 = .ok (.aload_n 0, 1) := dAt wdX3_chooseKeep_76 adX3_chooseKeep_76.2.2.1 rfl
theorem dX3_chooseKeep_79 : decode cX3_chooseKeep 79 = .ok (.iload_n 1, 1) := dAt wdX3_chooseKeep_76 adX3_chooseKeep_76.2.2.2.1 rfl
theorem dX3_chooseKeep_80 : decode cX3_chooseKeep 80 = .ok (.iconst 1, 1) := dAt wdX3_chooseKeep_76 adX3_chooseKeep_76.2.2.2.2.1 rfl
theorem dX3_chooseKeep_81 : decode cX3_chooseKeep 81 = .ok (.iadd, 1) := dAt wdX3_chooseKeep_76 adX3_chooseKeep_76.2.2.2.2.2.1 rfl
theorem dX3_chooseKeep_82 : decode cX3_chooseKeep 82 = .ok (.iload_n 2, 1) := dAt wdX3_chooseKeep_76 adX3_chooseKeep_76.2.2.2.2.2.2.1 rfl
theorem dX3_chooseKeep_83 : decode cX3_chooseKeep 83 = .ok (.iload 4, 2) := dAt wdX3_chooseKeep_76 adX3_chooseKeep_76.2.2.2.2.2.2.2.1 rfl
theorem dX3_chooseKeep_85 : decode cX3_chooseKeep 85 = .ok (.iadd, 1) := dAt wdX3_chooseKeep_76 adX3_chooseKeep_76.2.2.2.2.2.2.2.2.1 rfl
theorem dX3_chooseKeep_86 : decode cX3_chooseKeep 86 = .ok (.invokevirtual 76, 3) := dAt wdX3_chooseKeep_76 adX3_chooseKeep_76.2.2.2.2.2.2.2.2.2.1 rfl
theorem dX3_chooseKeep_89 : decode cX3_chooseKeep 89 = .ok (.aload_n 0, 1) := dAt wdX3_chooseKeep_76 adX3_chooseKeep_76.2.2.2.2.2.2.2.2.2.2.1 rfl
theorem dX3_chooseKeep_90 : decode cX3_chooseKeep 90 = .ok (.getfield 40, 3) := dAt wdX3_chooseKeep_76 adX3_chooseKeep_76.2.2.2.2.2.2.2.2.2.2.2.1 rfl
theorem dX3_chooseKeep_93 : decode cX3_chooseKeep 93 = .ok (.aload_n 0, 1) := dAt wdX3_chooseKeep_76 adX3_chooseKeep_76.2.2.2.2.2.2.2.2.2.2.2.2.1 rfl
theorem dX3_chooseKeep_94 : decode cX3_chooseKeep 94 = .ok (.getfield 28, 3) := dAt wdX3_chooseKeep_76 adX3_chooseKeep_76.2.2.2.2.2.2.2.2.2.2.2.2.2.1 rfl
theorem dX3_chooseKeep_97 : decode cX3_chooseKeep 97 = .ok (.iload_n 1, 1) := dAt wdX3_chooseKeep_76 adX3_chooseKeep_76.2.2.2.2.2.2.2.2.2.2.2.2.2.2.1 rfl
theorem dX3_chooseKeep_98 : decode cX3_chooseKeep 98 = .ok (.iaload, 1) := dAt wdX3_chooseKeep_76 adX3_chooseKeep_76.2.2.2.2.2.2.2.2.2.2.2.2.2.2.2 rfl
def bdX3_chooseKeep_99 : ByteArray := .mk #[92, 46, 21, 4, 96, 79, 132, 3, 255, 167, 255, 169, 177]
theorem wdX3_chooseKeep_99 : LocW cX3_chooseKeep 99 bdX3_chooseKeep_99 := loc_of (by decide +kernel)
theorem adX3_chooseKeep_99 : De bdX3_chooseKeep_99 0 (.dup2) 1 ∧ De bdX3_chooseKeep_99 1 (.iaload) 1 ∧ De bdX3_chooseKeep_99 2 (.iload 4) 2 ∧ De bdX3_chooseKeep_99 4 (.iadd) 1 ∧ De bdX3_chooseKeep_99 5 (.iastore) 1 ∧ De bdX3_chooseKeep_99 6 (.iinc 3 (-1)) 3 ∧ De bdX3_chooseKeep_99 9 (.goto (-87)) 3 ∧ De bdX3_chooseKeep_99 12 (.return_) 1 := by decide +kernel
theorem dX3_chooseKeep_99 : decode cX3_chooseKeep 99 = .ok (.dup2, 1) := dAt wdX3_chooseKeep_99 adX3_chooseKeep_99.1 rfl
theorem dX3_chooseKeep_100 : decode cX3_chooseKeep 100 = .ok (.iaload, 1) := dAt wdX3_chooseKeep_99 adX3_chooseKeep_99.2.1 rfl
theorem dX3_chooseKeep_101 : decode cX3_chooseKeep 101 = .ok (.iload 4, 2) := dAt wdX3_chooseKeep_99 adX3_chooseKeep_99.2.2.1 rfl
theorem dX3_chooseKeep_103 : decode cX3_chooseKeep 103 = .ok (.iadd, 1) := dAt wdX3_chooseKeep_99 adX3_chooseKeep_99.2.2.2.1 rfl
theorem dX3_chooseKeep_104 : decode cX3_chooseKeep 104 = .ok (.iastore, 1) := dAt wdX3_chooseKeep_99 adX3_chooseKeep_99.2.2.2.2.1 rfl
theorem dX3_chooseKeep_105 : decode cX3_chooseKeep 105 = .ok (.iinc 3 (-1), 3) := dAt wdX3_chooseKeep_99 adX3_chooseKeep_99.2.2.2.2.2.1 rfl
theorem dX3_chooseKeep_108 : decode cX3_chooseKeep 108 = .ok (.goto (-87), 3) := dAt wdX3_chooseKeep_99 adX3_chooseKeep_99.2.2.2.2.2.2.1 rfl
theorem dX3_chooseKeep_111 : decode cX3_chooseKeep 111 = .ok (.return_, 1) := dAt wdX3_chooseKeep_99 adX3_chooseKeep_99.2.2.2.2.2.2.2 rfl
def bdX3_takeIfBetter_0 : ByteArray := .mk #[27, 42, 180, 0, 15, 163, 0, 4, 177, 42, 27, 181, 0, 15, 42, 180, 0, 28, 3, 42, 180, 0, 22, 3, 42, 180, 0, 9]
theorem wdX3_takeIfBetter_0 : LocW cX3_takeIfBetter 0 bdX3_takeIfBetter_0 := loc_of (by decide +kernel)
theorem adX3_takeIfBetter_0 : De bdX3_takeIfBetter_0 0 (.iload_n 1) 1 ∧ De bdX3_takeIfBetter_0 1 (.aload_n 0) 1 ∧ De bdX3_takeIfBetter_0 2 (.getfield 15) 3 ∧ De bdX3_takeIfBetter_0 5 (.if_icmp .gt 4) 3 ∧ De bdX3_takeIfBetter_0 8 (.return_) 1 ∧ De bdX3_takeIfBetter_0 9 (.aload_n 0) 1 ∧ De bdX3_takeIfBetter_0 10 (.iload_n 1) 1 ∧ De bdX3_takeIfBetter_0 11 (.putfield 15) 3 ∧ De bdX3_takeIfBetter_0 14 (.aload_n 0) 1 ∧ De bdX3_takeIfBetter_0 15 (.getfield 28) 3 ∧ De bdX3_takeIfBetter_0 18 (.iconst 0) 1 ∧ De bdX3_takeIfBetter_0 19 (.aload_n 0) 1 ∧ De bdX3_takeIfBetter_0 20 (.getfield 22) 3 ∧ De bdX3_takeIfBetter_0 23 (.iconst 0) 1 ∧ De bdX3_takeIfBetter_0 24 (.aload_n 0) 1 ∧ De bdX3_takeIfBetter_0 25 (.getfield 9) 3 := by decide +kernel
theorem dX3_takeIfBetter_0 : decode cX3_takeIfBetter 0 = .ok (.iload_n 1, 1) := dAt wdX3_takeIfBetter_0 adX3_takeIfBetter_0.1 rfl
theorem dX3_takeIfBetter_1 : decode cX3_takeIfBetter 1 = .ok (.aload_n 0, 1) := dAt wdX3_takeIfBetter_0 adX3_takeIfBetter_0.2.1 rfl
theorem dX3_takeIfBetter_2 : decode cX3_takeIfBetter 2 = .ok (.getfield 15, 3) := dAt wdX3_takeIfBetter_0 adX3_takeIfBetter_0.2.2.1 rfl
theorem dX3_takeIfBetter_5 : decode cX3_takeIfBetter 5 = .ok (.if_icmp .gt 4, 3) := dAt wdX3_takeIfBetter_0 adX3_takeIfBetter_0.2.2.2.1 rfl
theorem dX3_takeIfBetter_8 : decode cX3_takeIfBetter 8 = .ok (.return_, 1) := dAt wdX3_takeIfBetter_0 adX3_takeIfBetter_0.2.2.2.2.1 rfl
theorem dX3_takeIfBetter_9 : decode cX3_takeIfBetter 9 = .ok (.aload_n 0, 1) := dAt wdX3_takeIfBetter_0 adX3_takeIfBetter_0.2.2.2.2.2.1 rfl
theorem dX3_takeIfBetter_10 : decode cX3_takeIfBetter 10 = .ok (.iload_n 1, 1) := dAt wdX3_takeIfBetter_0 adX3_takeIfBetter_0.2.2.2.2.2.2.1 rfl
theorem dX3_takeIfBetter_11 : decode cX3_takeIfBetter 11 = .ok (.putfield 15, 3) := dAt wdX3_takeIfBetter_0 adX3_takeIfBetter_0.2.2.2.2.2.2.2.1 rfl
theorem dX3_takeIfBetter_14 : decode cX3_takeIfBetter 14 = .ok (.aload_n 0, 1) := dAt wdX3_takeIfBetter_0 adX3_takeIfBetter_0.2.2.2.2.2.2.2.2.1 rfl
theorem dX3_takeIfBetter_15 : decode cX3_takeIfBetter 15 = .ok (.getfield 28, 3) := dAt wdX3_takeIfBetter_0 adX3_takeIfBetter_0.2.2.2.2.2.2.2.2.2.1 rfl
theorem dX3_takeIfBetter_18 : decode cX3_takeIfBetter 18 = .ok (.iconst 0, 1) := dAt wdX3_takeIfBetter_0 adX3_takeIfBetter_0.2.2.2.2.2.2.2.2.2.2.1 rfl
theorem dX3_takeIfBetter_19 : decode cX3_takeIfBetter 19 = .ok (.aload_n 0, 1) := dAt wdX3_takeIfBetter_0 adX3_takeIfBetter_0.2.2.2.2.2.2.2.2.2.2.2.1 rfl
theorem dX3_takeIfBetter_20 : decode cX3_takeIfBetter 20 = .ok (.getfield 22, 3) := dAt wdX3_takeIfBetter_0 adX3_takeIfBetter_0.2.2.2.2.2.2.2.2.2.2.2.2.1 rfl
theorem dX3_takeIfBetter_23 : decode cX3_takeIfBetter 23 = .ok (.iconst 0, 1) := dAt wdX3_takeIfBetter_0 adX3_takeIfBetter_0.2.2.2.2.2.2.2.2.2.2.2.2.2.1 rfl
theorem dX3_takeIfBetter_24 : decode cX3_takeIfBetter 24 = .ok (.aload_n 0, 1) := dAt wdX3_takeIfBetter_0 adX3_takeIfBetter_0.2.2.2.2.2.2.2.2.2.2.2.2.2.2.1 rfl
theorem dX3_takeIfBetter_25 : decode cX3_takeIfBetter 25 = .ok (.getfield 9, 3) := dAt wdX3_takeIfBetter_0 adX3_takeIfBetter_0.2.2.2.2.2.2.2.2.2.2.2.2.2.2.2 rfl
def bdX3_takeIfBetter_28 : ByteArray := .mk #[184, 0, 83, 42, 180, 0, 31, 3, 42, 180, 0, 25, 3, 42, 180, 0, 9, 184, 0, 83, 177]
theorem wdX3_takeIfBetter_28 : LocW cX3_takeIfBetter 28 bdX3_takeIfBetter_28 := loc_of (by decide +kernel)
theorem adX3_takeIfBetter_28 : De bdX3_takeIfBetter_28 0 (.invokestatic 83) 3 ∧ De bdX3_takeIfBetter_28 3 (.aload_n 0) 1 ∧ De bdX3_takeIfBetter_28 4 (.getfield 31) 3 ∧ De bdX3_takeIfBetter_28 7 (.iconst 0) 1 ∧ De bdX3_takeIfBetter_28 8 (.aload_n 0) 1 ∧ De bdX3_takeIfBetter_28 9 (.getfield 25) 3 ∧ De bdX3_takeIfBetter_28 12 (.iconst 0) 1 ∧ De bdX3_takeIfBetter_28 13 (.aload_n 0) 1 ∧ De bdX3_takeIfBetter_28 14 (.getfield 9) 3 ∧ De bdX3_takeIfBetter_28 17 (.invokestatic 83) 3 ∧ De bdX3_takeIfBetter_28 20 (.return_) 1 := by decide +kernel
theorem dX3_takeIfBetter_28 : decode cX3_takeIfBetter 28 = .ok (.invokestatic 83, 3) := dAt wdX3_takeIfBetter_28 adX3_takeIfBetter_28.1 rfl
theorem dX3_takeIfBetter_31 : decode cX3_takeIfBetter 31 = .ok (.aload_n 0, 1) := dAt wdX3_takeIfBetter_28 adX3_takeIfBetter_28.2.1 rfl
theorem dX3_takeIfBetter_32 : decode cX3_takeIfBetter 32 = .ok (.getfield 31, 3) := dAt wdX3_takeIfBetter_28 adX3_takeIfBetter_28.2.2.1 rfl
theorem dX3_takeIfBetter_35 : decode cX3_takeIfBetter 35 = .ok (.iconst 0, 1) := dAt wdX3_takeIfBetter_28 adX3_takeIfBetter_28.2.2.2.1 rfl
theorem dX3_takeIfBetter_36 : decode cX3_takeIfBetter 36 = .ok (.aload_n 0, 1) := dAt wdX3_takeIfBetter_28 adX3_takeIfBetter_28.2.2.2.2.1 rfl
theorem dX3_takeIfBetter_37 : decode cX3_takeIfBetter 37 = .ok (.getfield 25, 3) := dAt wdX3_takeIfBetter_28 adX3_takeIfBetter_28.2.2.2.2.2.1 rfl
theorem dX3_takeIfBetter_40 : decode cX3_takeIfBetter 40 = .ok (.iconst 0, 1) := dAt wdX3_takeIfBetter_28 adX3_takeIfBetter_28.2.2.2.2.2.2.1 rfl
theorem dX3_takeIfBetter_41 : decode cX3_takeIfBetter 41 = .ok (.aload_n 0, 1) := dAt wdX3_takeIfBetter_28 adX3_takeIfBetter_28.2.2.2.2.2.2.2.1 rfl
theorem dX3_takeIfBetter_42 : decode cX3_takeIfBetter 42 = .ok (.getfield 9, 3) := dAt wdX3_takeIfBetter_28 adX3_takeIfBetter_28.2.2.2.2.2.2.2.2.1 rfl
theorem dX3_takeIfBetter_45 : decode cX3_takeIfBetter 45 = .ok (.invokestatic 83, 3) := dAt wdX3_takeIfBetter_28 adX3_takeIfBetter_28.2.2.2.2.2.2.2.2.2.1 rfl
theorem dX3_takeIfBetter_48 : decode cX3_takeIfBetter 48 = .ok (.return_, 1) := dAt wdX3_takeIfBetter_28 adX3_takeIfBetter_28.2.2.2.2.2.2.2.2.2.2 rfl
def bdX3_placeOf_0 : ByteArray := .mk #[3, 61, 28, 42, 180, 0, 9, 162, 0, 21, 42, 180, 0, 18, 28, 46, 27, 160, 0, 5, 28, 172, 132, 2, 1, 167, 255, 233]
theorem wdX3_placeOf_0 : LocW cX3_placeOf 0 bdX3_placeOf_0 := loc_of (by decide +kernel)
theorem adX3_placeOf_0 : De bdX3_placeOf_0 0 (.iconst 0) 1 ∧ De bdX3_placeOf_0 1 (.istore_n 2) 1 ∧ De bdX3_placeOf_0 2 (.iload_n 2) 1 ∧ De bdX3_placeOf_0 3 (.aload_n 0) 1 ∧ De bdX3_placeOf_0 4 (.getfield 9) 3 ∧ De bdX3_placeOf_0 7 (.if_icmp .ge 21) 3 ∧ De bdX3_placeOf_0 10 (.aload_n 0) 1 ∧ De bdX3_placeOf_0 11 (.getfield 18) 3 ∧ De bdX3_placeOf_0 14 (.iload_n 2) 1 ∧ De bdX3_placeOf_0 15 (.iaload) 1 ∧ De bdX3_placeOf_0 16 (.iload_n 1) 1 ∧ De bdX3_placeOf_0 17 (.if_icmp .ne 5) 3 ∧ De bdX3_placeOf_0 20 (.iload_n 2) 1 ∧ De bdX3_placeOf_0 21 (.ireturn) 1 ∧ De bdX3_placeOf_0 22 (.iinc 2 1) 3 ∧ De bdX3_placeOf_0 25 (.goto (-23)) 3 := by decide +kernel
theorem dX3_placeOf_0 : decode cX3_placeOf 0 = .ok (.iconst 0, 1) := dAt wdX3_placeOf_0 adX3_placeOf_0.1 rfl
theorem dX3_placeOf_1 : decode cX3_placeOf 1 = .ok (.istore_n 2, 1) := dAt wdX3_placeOf_0 adX3_placeOf_0.2.1 rfl
theorem dX3_placeOf_2 : decode cX3_placeOf 2 = .ok (.iload_n 2, 1) := dAt wdX3_placeOf_0 adX3_placeOf_0.2.2.1 rfl
theorem dX3_placeOf_3 : decode cX3_placeOf 3 = .ok (.aload_n 0, 1) := dAt wdX3_placeOf_0 adX3_placeOf_0.2.2.2.1 rfl
theorem dX3_placeOf_4 : decode cX3_placeOf 4 = .ok (.getfield 9, 3) := dAt wdX3_placeOf_0 adX3_placeOf_0.2.2.2.2.1 rfl
theorem dX3_placeOf_7 : decode cX3_placeOf 7 = .ok (.if_icmp .ge 21, 3) := dAt wdX3_placeOf_0 adX3_placeOf_0.2.2.2.2.2.1 rfl
theorem dX3_placeOf_10 : decode cX3_placeOf 10 = .ok (.aload_n 0, 1) := dAt wdX3_placeOf_0 adX3_placeOf_0.2.2.2.2.2.2.1 rfl
theorem dX3_placeOf_11 : decode cX3_placeOf 11 = .ok (.getfield 18, 3) := dAt wdX3_placeOf_0 adX3_placeOf_0.2.2.2.2.2.2.2.1 rfl
theorem dX3_placeOf_14 : decode cX3_placeOf 14 = .ok (.iload_n 2, 1) := dAt wdX3_placeOf_0 adX3_placeOf_0.2.2.2.2.2.2.2.2.1 rfl
theorem dX3_placeOf_15 : decode cX3_placeOf 15 = .ok (.iaload, 1) := dAt wdX3_placeOf_0 adX3_placeOf_0.2.2.2.2.2.2.2.2.2.1 rfl
theorem dX3_placeOf_16 : decode cX3_placeOf 16 = .ok (.iload_n 1, 1) := dAt wdX3_placeOf_0 adX3_placeOf_0.2.2.2.2.2.2.2.2.2.2.1 rfl
theorem dX3_placeOf_17 : decode cX3_placeOf 17 = .ok (.if_icmp .ne 5, 3) := dAt wdX3_placeOf_0 adX3_placeOf_0.2.2.2.2.2.2.2.2.2.2.2.1 rfl
theorem dX3_placeOf_20 : decode cX3_placeOf 20 = .ok (.iload_n 2, 1) := dAt wdX3_placeOf_0 adX3_placeOf_0.2.2.2.2.2.2.2.2.2.2.2.2.1 rfl
theorem dX3_placeOf_21 : decode cX3_placeOf 21 = .ok (.ireturn, 1) := dAt wdX3_placeOf_0 adX3_placeOf_0.2.2.2.2.2.2.2.2.2.2.2.2.2.1 rfl
theorem dX3_placeOf_22 : decode cX3_placeOf 22 = .ok (.iinc 2 1, 3) := dAt wdX3_placeOf_0 adX3_placeOf_0.2.2.2.2.2.2.2.2.2.2.2.2.2.2.1 rfl
theorem dX3_placeOf_25 : decode cX3_placeOf 25 = .ok (.goto (-23), 3) := dAt wdX3_placeOf_0 adX3_placeOf_0.2.2.2.2.2.2.2.2.2.2.2.2.2.2.2 rfl
def bdX3_placeOf_28 : ByteArray := .mk #[2, 172]
theorem wdX3_placeOf_28 : LocW cX3_placeOf 28 bdX3_placeOf_28 := loc_of (by decide +kernel)
theorem adX3_placeOf_28 : De bdX3_placeOf_28 0 (.iconst (-1)) 1 ∧ De bdX3_placeOf_28 1 (.ireturn) 1 := by decide +kernel
theorem dX3_placeOf_28 : decode cX3_placeOf 28 = .ok (.iconst (-1), 1) := dAt wdX3_placeOf_28 adX3_placeOf_28.1 rfl
theorem dX3_placeOf_29 : decode cX3_placeOf 29 = .ok (.ireturn, 1) := dAt wdX3_placeOf_28 adX3_placeOf_28.2 rfl
def bdX3_allRight_0 : ByteArray := .mk #[3, 61, 28, 42, 180, 0, 9, 162, 0, 60, 3, 62, 29, 42, 180, 0, 25, 28, 46, 162, 0, 42, 43, 8]
theorem wdX3_allRight_0 : LocW cX3_allRight 0 bdX3_allRight_0 := loc_of (by decide +kernel)
theorem adX3_allRight_0 : De bdX3_allRight_0 0 (.iconst 0) 1 ∧ De bdX3_allRight_0 1 (.istore_n 2) 1 ∧ De bdX3_allRight_0 2 (.iload_n 2) 1 ∧ De bdX3_allRight_0 3 (.aload_n 0) 1 ∧ De bdX3_allRight_0 4 (.getfield 9) 3 ∧ De bdX3_allRight_0 7 (.if_icmp .ge 60) 3 ∧ De bdX3_allRight_0 10 (.iconst 0) 1 ∧ De bdX3_allRight_0 11 (.istore_n 3) 1 ∧ De bdX3_allRight_0 12 (.iload_n 3) 1 ∧ De bdX3_allRight_0 13 (.aload_n 0) 1 ∧ De bdX3_allRight_0 14 (.getfield 25) 3 ∧ De bdX3_allRight_0 17 (.iload_n 2) 1 ∧ De bdX3_allRight_0 18 (.iaload) 1 ∧ De bdX3_allRight_0 19 (.if_icmp .ge 42) 3 ∧ De bdX3_allRight_0 22 (.aload_n 1) 1 ∧ De bdX3_allRight_0 23 (.iconst 5) 1 := by decide +kernel
theorem dX3_allRight_0 : decode cX3_allRight 0 = .ok (.iconst 0, 1) := dAt wdX3_allRight_0 adX3_allRight_0.1 rfl
theorem dX3_allRight_1 : decode cX3_allRight 1 = .ok (.istore_n 2, 1) := dAt wdX3_allRight_0 adX3_allRight_0.2.1 rfl
theorem dX3_allRight_2 : decode cX3_allRight 2 = .ok (.iload_n 2, 1) := dAt wdX3_allRight_0 adX3_allRight_0.2.2.1 rfl
theorem dX3_allRight_3 : decode cX3_allRight 3 = .ok (.aload_n 0, 1) := dAt wdX3_allRight_0 adX3_allRight_0.2.2.2.1 rfl
theorem dX3_allRight_4 : decode cX3_allRight 4 = .ok (.getfield 9, 3) := dAt wdX3_allRight_0 adX3_allRight_0.2.2.2.2.1 rfl
theorem dX3_allRight_7 : decode cX3_allRight 7 = .ok (.if_icmp .ge 60, 3) := dAt wdX3_allRight_0 adX3_allRight_0.2.2.2.2.2.1 rfl
theorem dX3_allRight_10 : decode cX3_allRight 10 = .ok (.iconst 0, 1) := dAt wdX3_allRight_0 adX3_allRight_0.2.2.2.2.2.2.1 rfl
theorem dX3_allRight_11 : decode cX3_allRight 11 = .ok (.istore_n 3, 1) := dAt wdX3_allRight_0 adX3_allRight_0.2.2.2.2.2.2.2.1 rfl
theorem dX3_allRight_12 : decode cX3_allRight 12 = .ok (.iload_n 3, 1) := dAt wdX3_allRight_0 adX3_allRight_0.2.2.2.2.2.2.2.2.1 rfl
theorem dX3_allRight_13 : decode cX3_allRight 13 = .ok (.aload_n 0, 1) := dAt wdX3_allRight_0 adX3_allRight_0.2.2.2.2.2.2.2.2.2.1 rfl
theorem dX3_allRight_14 : decode cX3_allRight 14 = .ok (.getfield 25, 3) := dAt wdX3_allRight_0 adX3_allRight_0.2.2.2.2.2.2.2.2.2.2.1 rfl
theorem dX3_allRight_17 : decode cX3_allRight 17 = .ok (.iload_n 2, 1) := dAt wdX3_allRight_0 adX3_allRight_0.2.2.2.2.2.2.2.2.2.2.2.1 rfl
theorem dX3_allRight_18 : decode cX3_allRight 18 = .ok (.iaload, 1) := dAt wdX3_allRight_0 adX3_allRight_0.2.2.2.2.2.2.2.2.2.2.2.2.1 rfl
theorem dX3_allRight_19 : decode cX3_allRight 19 = .ok (.if_icmp .ge 42, 3) := dAt wdX3_allRight_0 adX3_allRight_0.2.2.2.2.2.2.2.2.2.2.2.2.2.1 rfl
theorem dX3_allRight_22 : decode cX3_allRight 22 = .ok (.aload_n 1, 1) := dAt wdX3_allRight_0 adX3_allRight_0.2.2.2.2.2.2.2.2.2.2.2.2.2.2.1 rfl
theorem dX3_allRight_23 : decode cX3_allRight 23 = .ok (.iconst 5, 1) := dAt wdX3_allRight_0 adX3_allRight_0.2.2.2.2.2.2.2.2.2.2.2.2.2.2.2 rfl
def bdX3_allRight_24 : ByteArray := .mk #[42, 180, 0, 18, 28, 46, 104, 29, 96, 182, 0, 67, 58, 4, 25, 4, 198, 0, 13, 43, 25, 4, 182, 0, 89, 2, 159, 0, 5]
theorem wdX3_allRight_24 : LocW cX3_allRight 24 bdX3_allRight_24 := loc_of (by decide +kernel)
theorem adX3_allRight_24 : De bdX3_allRight_24 0 (.aload_n 0) 1 ∧ De bdX3_allRight_24 1 (.getfield 18) 3 ∧ De bdX3_allRight_24 4 (.iload_n 2) 1 ∧ De bdX3_allRight_24 5 (.iaload) 1 ∧ De bdX3_allRight_24 6 (.imul) 1 ∧ De bdX3_allRight_24 7 (.iload_n 3) 1 ∧ De bdX3_allRight_24 8 (.iadd) 1 ∧ De bdX3_allRight_24 9 (.invokevirtual 67) 3 ∧ De bdX3_allRight_24 12 (.astore 4) 2 ∧ De bdX3_allRight_24 14 (.aload 4) 2 ∧ De bdX3_allRight_24 16 (.ifnull 13) 3 ∧ De bdX3_allRight_24 19 (.aload_n 1) 1 ∧ De bdX3_allRight_24 20 (.aload 4) 2 ∧ De bdX3_allRight_24 22 (.invokevirtual 89) 3 ∧ De bdX3_allRight_24 25 (.iconst (-1)) 1 ∧ De bdX3_allRight_24 26 (.if_icmp .eq 5) 3 := by decide +kernel
theorem dX3_allRight_24 : decode cX3_allRight 24 = .ok (.aload_n 0, 1) := dAt wdX3_allRight_24 adX3_allRight_24.1 rfl
theorem dX3_allRight_25 : decode cX3_allRight 25 = .ok (.getfield 18, 3) := dAt wdX3_allRight_24 adX3_allRight_24.2.1 rfl
theorem dX3_allRight_28 : decode cX3_allRight 28 = .ok (.iload_n 2, 1) := dAt wdX3_allRight_24 adX3_allRight_24.2.2.1 rfl
theorem dX3_allRight_29 : decode cX3_allRight 29 = .ok (.iaload, 1) := dAt wdX3_allRight_24 adX3_allRight_24.2.2.2.1 rfl
theorem dX3_allRight_30 : decode cX3_allRight 30 = .ok (.imul, 1) := dAt wdX3_allRight_24 adX3_allRight_24.2.2.2.2.1 rfl
theorem dX3_allRight_31 : decode cX3_allRight 31 = .ok (.iload_n 3, 1) := dAt wdX3_allRight_24 adX3_allRight_24.2.2.2.2.2.1 rfl
theorem dX3_allRight_32 : decode cX3_allRight 32 = .ok (.iadd, 1) := dAt wdX3_allRight_24 adX3_allRight_24.2.2.2.2.2.2.1 rfl
theorem dX3_allRight_33 : decode cX3_allRight 33 = .ok (.invokevirtual 67, 3) := dAt wdX3_allRight_24 adX3_allRight_24.2.2.2.2.2.2.2.1 rfl
theorem dX3_allRight_36 : decode cX3_allRight 36 = .ok (.astore 4, 2) := dAt wdX3_allRight_24 adX3_allRight_24.2.2.2.2.2.2.2.2.1 rfl
theorem dX3_allRight_38 : decode cX3_allRight 38 = .ok (.aload 4, 2) := dAt wdX3_allRight_24 adX3_allRight_24.2.2.2.2.2.2.2.2.2.1 rfl
theorem dX3_allRight_40 : decode cX3_allRight 40 = .ok (.ifnull 13, 3) := dAt wdX3_allRight_24 adX3_allRight_24.2.2.2.2.2.2.2.2.2.2.1 rfl
theorem dX3_allRight_43 : decode cX3_allRight 43 = .ok (.aload_n 1, 1) := dAt wdX3_allRight_24 adX3_allRight_24.2.2.2.2.2.2.2.2.2.2.2.1 rfl
theorem dX3_allRight_44 : decode cX3_allRight 44 = .ok (.aload 4, 2) := dAt wdX3_allRight_24 adX3_allRight_24.2.2.2.2.2.2.2.2.2.2.2.2.1 rfl
theorem dX3_allRight_46 : decode cX3_allRight 46 = .ok (.invokevirtual 89, 3) := dAt wdX3_allRight_24 adX3_allRight_24.2.2.2.2.2.2.2.2.2.2.2.2.2.1 rfl
theorem dX3_allRight_49 : decode cX3_allRight 49 = .ok (.iconst (-1), 1) := dAt wdX3_allRight_24 adX3_allRight_24.2.2.2.2.2.2.2.2.2.2.2.2.2.2.1 rfl
theorem dX3_allRight_50 : decode cX3_allRight 50 = .ok (.if_icmp .eq 5, 3) := dAt wdX3_allRight_24 adX3_allRight_24.2.2.2.2.2.2.2.2.2.2.2.2.2.2.2 rfl
def bdX3_allRight_53 : ByteArray := .mk #[3, 172, 132, 3, 1, 167, 255, 210, 132, 2, 1, 167, 255, 194, 4, 172]
theorem wdX3_allRight_53 : LocW cX3_allRight 53 bdX3_allRight_53 := loc_of (by decide +kernel)
theorem adX3_allRight_53 : De bdX3_allRight_53 0 (.iconst 0) 1 ∧ De bdX3_allRight_53 1 (.ireturn) 1 ∧ De bdX3_allRight_53 2 (.iinc 3 1) 3 ∧ De bdX3_allRight_53 5 (.goto (-46)) 3 ∧ De bdX3_allRight_53 8 (.iinc 2 1) 3 ∧ De bdX3_allRight_53 11 (.goto (-62)) 3 ∧ De bdX3_allRight_53 14 (.iconst 1) 1 ∧ De bdX3_allRight_53 15 (.ireturn) 1 := by decide +kernel
theorem dX3_allRight_53 : decode cX3_allRight 53 = .ok (.iconst 0, 1) := dAt wdX3_allRight_53 adX3_allRight_53.1 rfl
theorem dX3_allRight_54 : decode cX3_allRight 54 = .ok (.ireturn, 1) := dAt wdX3_allRight_53 adX3_allRight_53.2.1 rfl
theorem dX3_allRight_55 : decode cX3_allRight 55 = .ok (.iinc 3 1, 3) := dAt wdX3_allRight_53 adX3_allRight_53.2.2.1 rfl
theorem dX3_allRight_58 : decode cX3_allRight 58 = .ok (.goto (-46), 3) := dAt wdX3_allRight_53 adX3_allRight_53.2.2.2.1 rfl
theorem dX3_allRight_61 : decode cX3_allRight 61 = .ok (.iinc 2 1, 3) := dAt wdX3_allRight_53 adX3_allRight_53.2.2.2.2.1 rfl
theorem dX3_allRight_64 : decode cX3_allRight 64 = .ok (.goto (-62), 3) := dAt wdX3_allRight_53 adX3_allRight_53.2.2.2.2.2.1 rfl
theorem dX3_allRight_67 : decode cX3_allRight 67 = .ok (.iconst 1, 1) := dAt wdX3_allRight_53 adX3_allRight_53.2.2.2.2.2.2.1 rfl
theorem dX3_allRight_68 : decode cX3_allRight 68 = .ok (.ireturn, 1) := dAt wdX3_allRight_53 adX3_allRight_53.2.2.2.2.2.2.2 rfl
def bdX4_init_0 : ByteArray := .mk #[42, 183, 0, 3, 42, 16, 27, 188, 10, 181, 0, 9, 42, 3, 181, 0, 15, 42, 3, 181, 0, 19, 42, 3, 181, 0, 23, 42]
theorem wdX4_init_0 : LocW cX4_init 0 bdX4_init_0 := loc_of (by decide +kernel)
theorem adX4_init_0 : De bdX4_init_0 0 (.aload_n 0) 1 ∧ De bdX4_init_0 1 (.invokespecial 3) 3 ∧ De bdX4_init_0 4 (.aload_n 0) 1 ∧ De bdX4_init_0 5 (.bipush 27) 2 ∧ De bdX4_init_0 7 (.newarray .int) 2 ∧ De bdX4_init_0 9 (.putfield 9) 3 ∧ De bdX4_init_0 12 (.aload_n 0) 1 ∧ De bdX4_init_0 13 (.iconst 0) 1 ∧ De bdX4_init_0 14 (.putfield 15) 3 ∧ De bdX4_init_0 17 (.aload_n 0) 1 ∧ De bdX4_init_0 18 (.iconst 0) 1 ∧ De bdX4_init_0 19 (.putfield 19) 3 ∧ De bdX4_init_0 22 (.aload_n 0) 1 ∧ De bdX4_init_0 23 (.iconst 0) 1 ∧ De bdX4_init_0 24 (.putfield 23) 3 ∧ De bdX4_init_0 27 (.aload_n 0) 1 := by decide +kernel
theorem dX4_init_0 : decode cX4_init 0 = .ok (.aload_n 0, 1) := dAt wdX4_init_0 adX4_init_0.1 rfl
theorem dX4_init_1 : decode cX4_init 1 = .ok (.invokespecial 3, 3) := dAt wdX4_init_0 adX4_init_0.2.1 rfl
theorem dX4_init_4 : decode cX4_init 4 = .ok (.aload_n 0, 1) := dAt wdX4_init_0 adX4_init_0.2.2.1 rfl
theorem dX4_init_5 : decode cX4_init 5 = .ok (.bipush 27, 2) := dAt wdX4_init_0 adX4_init_0.2.2.2.1 rfl
theorem dX4_init_7 : decode cX4_init 7 = .ok (.newarray .int, 2) := dAt wdX4_init_0 adX4_init_0.2.2.2.2.1 rfl
theorem dX4_init_9 : decode cX4_init 9 = .ok (.putfield 9, 3) := dAt wdX4_init_0 adX4_init_0.2.2.2.2.2.1 rfl
theorem dX4_init_12 : decode cX4_init 12 = .ok (.aload_n 0, 1) := dAt wdX4_init_0 adX4_init_0.2.2.2.2.2.2.1 rfl
theorem dX4_init_13 : decode cX4_init 13 = .ok (.iconst 0, 1) := dAt wdX4_init_0 adX4_init_0.2.2.2.2.2.2.2.1 rfl
theorem dX4_init_14 : decode cX4_init 14 = .ok (.putfield 15, 3) := dAt wdX4_init_0 adX4_init_0.2.2.2.2.2.2.2.2.1 rfl
theorem dX4_init_17 : decode cX4_init 17 = .ok (.aload_n 0, 1) := dAt wdX4_init_0 adX4_init_0.2.2.2.2.2.2.2.2.2.1 rfl
theorem dX4_init_18 : decode cX4_init 18 = .ok (.iconst 0, 1) := dAt wdX4_init_0 adX4_init_0.2.2.2.2.2.2.2.2.2.2.1 rfl
theorem dX4_init_19 : decode cX4_init 19 = .ok (.putfield 19, 3) := dAt wdX4_init_0 adX4_init_0.2.2.2.2.2.2.2.2.2.2.2.1 rfl
theorem dX4_init_22 : decode cX4_init 22 = .ok (.aload_n 0, 1) := dAt wdX4_init_0 adX4_init_0.2.2.2.2.2.2.2.2.2.2.2.2.1 rfl
theorem dX4_init_23 : decode cX4_init 23 = .ok (.iconst 0, 1) := dAt wdX4_init_0 adX4_init_0.2.2.2.2.2.2.2.2.2.2.2.2.2.1 rfl
theorem dX4_init_24 : decode cX4_init 24 = .ok (.putfield 23, 3) := dAt wdX4_init_0 adX4_init_0.2.2.2.2.2.2.2.2.2.2.2.2.2.2.1 rfl
theorem dX4_init_27 : decode cX4_init 27 = .ok (.aload_n 0, 1) := dAt wdX4_init_0 adX4_init_0.2.2.2.2.2.2.2.2.2.2.2.2.2.2.2 rfl
def bdX4_init_28 : ByteArray := .mk #[3, 181, 0, 26, 42, 3, 181, 0, 29, 42, 3, 181, 0, 32, 42, 16, 30, 188, 10, 181, 0, 35, 42, 16, 30, 188, 10, 181, 0, 38]
theorem wdX4_init_28 : LocW cX4_init 28 bdX4_init_28 := loc_of (by decide +kernel)
theorem adX4_init_28 : De bdX4_init_28 0 (.iconst 0) 1 ∧ De bdX4_init_28 1 (.putfield 26) 3 ∧ De bdX4_init_28 4 (.aload_n 0) 1 ∧ De bdX4_init_28 5 (.iconst 0) 1 ∧ De bdX4_init_28 6 (.putfield 29) 3 ∧ De bdX4_init_28 9 (.aload_n 0) 1 ∧ De bdX4_init_28 10 (.iconst 0) 1 ∧ De bdX4_init_28 11 (.putfield 32) 3 ∧ De bdX4_init_28 14 (.aload_n 0) 1 ∧ De bdX4_init_28 15 (.bipush 30) 2 ∧ De bdX4_init_28 17 (.newarray .int) 2 ∧ De bdX4_init_28 19 (.putfield 35) 3 ∧ De bdX4_init_28 22 (.aload_n 0) 1 ∧ De bdX4_init_28 23 (.bipush 30) 2 ∧ De bdX4_init_28 25 (.newarray .int) 2 ∧ De bdX4_init_28 27 (.putfield 38) 3 := by decide +kernel
theorem dX4_init_28 : decode cX4_init 28 = .ok (.iconst 0, 1) := dAt wdX4_init_28 adX4_init_28.1 rfl
theorem dX4_init_29 : decode cX4_init 29 = .ok (.putfield 26, 3) := dAt wdX4_init_28 adX4_init_28.2.1 rfl
theorem dX4_init_32 : decode cX4_init 32 = .ok (.aload_n 0, 1) := dAt wdX4_init_28 adX4_init_28.2.2.1 rfl
theorem dX4_init_33 : decode cX4_init 33 = .ok (.iconst 0, 1) := dAt wdX4_init_28 adX4_init_28.2.2.2.1 rfl
theorem dX4_init_34 : decode cX4_init 34 = .ok (.putfield 29, 3) := dAt wdX4_init_28 adX4_init_28.2.2.2.2.1 rfl
theorem dX4_init_37 : decode cX4_init 37 = .ok (.aload_n 0, 1) := dAt wdX4_init_28 adX4_init_28.2.2.2.2.2.1 rfl
theorem dX4_init_38 : decode cX4_init 38 = .ok (.iconst 0, 1) := dAt wdX4_init_28 adX4_init_28.2.2.2.2.2.2.1 rfl
theorem dX4_init_39 : decode cX4_init 39 = .ok (.putfield 32, 3) := dAt wdX4_init_28 adX4_init_28.2.2.2.2.2.2.2.1 rfl
theorem dX4_init_42 : decode cX4_init 42 = .ok (.aload_n 0, 1) := dAt wdX4_init_28 adX4_init_28.2.2.2.2.2.2.2.2.1 rfl
theorem dX4_init_43 : decode cX4_init 43 = .ok (.bipush 30, 2) := dAt wdX4_init_28 adX4_init_28.2.2.2.2.2.2.2.2.2.1 rfl
theorem dX4_init_45 : decode cX4_init 45 = .ok (.newarray .int, 2) := dAt wdX4_init_28 adX4_init_28.2.2.2.2.2.2.2.2.2.2.1 rfl
theorem dX4_init_47 : decode cX4_init 47 = .ok (.putfield 35, 3) := dAt wdX4_init_28 adX4_init_28.2.2.2.2.2.2.2.2.2.2.2.1 rfl
theorem dX4_init_50 : decode cX4_init 50 = .ok (.aload_n 0, 1) := dAt wdX4_init_28 adX4_init_28.2.2.2.2.2.2.2.2.2.2.2.2.1 rfl
theorem dX4_init_51 : decode cX4_init 51 = .ok (.bipush 30, 2) := dAt wdX4_init_28 adX4_init_28.2.2.2.2.2.2.2.2.2.2.2.2.2.1 rfl
theorem dX4_init_53 : decode cX4_init 53 = .ok (.newarray .int, 2) := dAt wdX4_init_28 adX4_init_28.2.2.2.2.2.2.2.2.2.2.2.2.2.2.1 rfl
theorem dX4_init_55 : decode cX4_init 55 = .ok (.putfield 38, 3) := dAt wdX4_init_28 adX4_init_28.2.2.2.2.2.2.2.2.2.2.2.2.2.2.2 rfl
def bdX4_init_58 : ByteArray := .mk #[42, 16, 30, 188, 10, 181, 0, 41, 42, 16, 30, 188, 4, 181, 0, 44, 177]
theorem wdX4_init_58 : LocW cX4_init 58 bdX4_init_58 := loc_of (by decide +kernel)
theorem adX4_init_58 : De bdX4_init_58 0 (.aload_n 0) 1 ∧ De bdX4_init_58 1 (.bipush 30) 2 ∧ De bdX4_init_58 3 (.newarray .int) 2 ∧ De bdX4_init_58 5 (.putfield 41) 3 ∧ De bdX4_init_58 8 (.aload_n 0) 1 ∧ De bdX4_init_58 9 (.bipush 30) 2 ∧ De bdX4_init_58 11 (.newarray .boolean) 2 ∧ De bdX4_init_58 13 (.putfield 44) 3 ∧ De bdX4_init_58 16 (.return_) 1 := by decide +kernel
theorem dX4_init_58 : decode cX4_init 58 = .ok (.aload_n 0, 1) := dAt wdX4_init_58 adX4_init_58.1 rfl
theorem dX4_init_59 : decode cX4_init 59 = .ok (.bipush 30, 2) := dAt wdX4_init_58 adX4_init_58.2.1 rfl
theorem dX4_init_61 : decode cX4_init 61 = .ok (.newarray .int, 2) := dAt wdX4_init_58 adX4_init_58.2.2.1 rfl
theorem dX4_init_63 : decode cX4_init 63 = .ok (.putfield 41, 3) := dAt wdX4_init_58 adX4_init_58.2.2.2.1 rfl
theorem dX4_init_66 : decode cX4_init 66 = .ok (.aload_n 0, 1) := dAt wdX4_init_58 adX4_init_58.2.2.2.2.1 rfl
theorem dX4_init_67 : decode cX4_init 67 = .ok (.bipush 30, 2) := dAt wdX4_init_58 adX4_init_58.2.2.2.2.2.1 rfl
theorem dX4_init_69 : decode cX4_init 69 = .ok (.newarray .boolean, 2) := dAt wdX4_init_58 adX4_init_58.2.2.2.2.2.2.1 rfl
theorem dX4_init_71 : decode cX4_init 71 = .ok (.putfield 44, 3) := dAt wdX4_init_58 adX4_init_58.2.2.2.2.2.2.2.1 rfl
theorem dX4_init_74 : decode cX4_init 74 = .ok (.return_, 1) := dAt wdX4_init_58 adX4_init_58.2.2.2.2.2.2.2.2 rfl
def bdX4_empty_0 : ByteArray := .mk #[3, 62, 29, 16, 27, 162, 0, 16, 42, 180, 0, 9, 29, 27, 79, 132, 3, 1, 167, 255, 240, 42, 28, 181, 0, 15, 42]
theorem wdX4_empty_0 : LocW cX4_empty 0 bdX4_empty_0 := loc_of (by decide +kernel)
theorem adX4_empty_0 : De bdX4_empty_0 0 (.iconst 0) 1 ∧ De bdX4_empty_0 1 (.istore_n 3) 1 ∧ De bdX4_empty_0 2 (.iload_n 3) 1 ∧ De bdX4_empty_0 3 (.bipush 27) 2 ∧ De bdX4_empty_0 5 (.if_icmp .ge 16) 3 ∧ De bdX4_empty_0 8 (.aload_n 0) 1 ∧ De bdX4_empty_0 9 (.getfield 9) 3 ∧ De bdX4_empty_0 12 (.iload_n 3) 1 ∧ De bdX4_empty_0 13 (.iload_n 1) 1 ∧ De bdX4_empty_0 14 (.iastore) 1 ∧ De bdX4_empty_0 15 (.iinc 3 1) 3 ∧ De bdX4_empty_0 18 (.goto (-16)) 3 ∧ De bdX4_empty_0 21 (.aload_n 0) 1 ∧ De bdX4_empty_0 22 (.iload_n 2) 1 ∧ De bdX4_empty_0 23 (.putfield 15) 3 ∧ De bdX4_empty_0 26 (.aload_n 0) 1 := by decide +kernel
theorem dX4_empty_0 : decode cX4_empty 0 = .ok (.iconst 0, 1) := dAt wdX4_empty_0 adX4_empty_0.1 rfl
theorem dX4_empty_1 : decode cX4_empty 1 = .ok (.istore_n 3, 1) := dAt wdX4_empty_0 adX4_empty_0.2.1 rfl
theorem dX4_empty_2 : decode cX4_empty 2 = .ok (.iload_n 3, 1) := dAt wdX4_empty_0 adX4_empty_0.2.2.1 rfl
theorem dX4_empty_3 : decode cX4_empty 3 = .ok (.bipush 27, 2) := dAt wdX4_empty_0 adX4_empty_0.2.2.2.1 rfl
theorem dX4_empty_5 : decode cX4_empty 5 = .ok (.if_icmp .ge 16, 3) := dAt wdX4_empty_0 adX4_empty_0.2.2.2.2.1 rfl
theorem dX4_empty_8 : decode cX4_empty 8 = .ok (.aload_n 0, 1) := dAt wdX4_empty_0 adX4_empty_0.2.2.2.2.2.1 rfl
theorem dX4_empty_9 : decode cX4_empty 9 = .ok (.getfield 9, 3) := dAt wdX4_empty_0 adX4_empty_0.2.2.2.2.2.2.1 rfl
theorem dX4_empty_12 : decode cX4_empty 12 = .ok (.iload_n 3, 1) := dAt wdX4_empty_0 adX4_empty_0.2.2.2.2.2.2.2.1 rfl
theorem dX4_empty_13 : decode cX4_empty 13 = .ok (.iload_n 1, 1) := dAt wdX4_empty_0 adX4_empty_0.2.2.2.2.2.2.2.2.1 rfl
theorem dX4_empty_14 : decode cX4_empty 14 = .ok (.iastore, 1) := dAt wdX4_empty_0 adX4_empty_0.2.2.2.2.2.2.2.2.2.1 rfl
theorem dX4_empty_15 : decode cX4_empty 15 = .ok (.iinc 3 1, 3) := dAt wdX4_empty_0 adX4_empty_0.2.2.2.2.2.2.2.2.2.2.1 rfl
theorem dX4_empty_18 : decode cX4_empty 18 = .ok (.goto (-16), 3) := dAt wdX4_empty_0 adX4_empty_0.2.2.2.2.2.2.2.2.2.2.2.1 rfl
theorem dX4_empty_21 : decode cX4_empty 21 = .ok (.aload_n 0, 1) := dAt wdX4_empty_0 adX4_empty_0.2.2.2.2.2.2.2.2.2.2.2.2.1 rfl
theorem dX4_empty_22 : decode cX4_empty 22 = .ok (.iload_n 2, 1) := dAt wdX4_empty_0 adX4_empty_0.2.2.2.2.2.2.2.2.2.2.2.2.2.1 rfl
theorem dX4_empty_23 : decode cX4_empty 23 = .ok (.putfield 15, 3) := dAt wdX4_empty_0 adX4_empty_0.2.2.2.2.2.2.2.2.2.2.2.2.2.2.1 rfl
theorem dX4_empty_26 : decode cX4_empty 26 = .ok (.aload_n 0, 1) := dAt wdX4_empty_0 adX4_empty_0.2.2.2.2.2.2.2.2.2.2.2.2.2.2.2 rfl
def bdX4_empty_27 : ByteArray := .mk #[3, 181, 0, 19, 42, 3, 181, 0, 23, 42, 3, 181, 0, 26, 42, 3, 181, 0, 29, 42, 3, 181, 0, 32, 177]
theorem wdX4_empty_27 : LocW cX4_empty 27 bdX4_empty_27 := loc_of (by decide +kernel)
theorem adX4_empty_27 : De bdX4_empty_27 0 (.iconst 0) 1 ∧ De bdX4_empty_27 1 (.putfield 19) 3 ∧ De bdX4_empty_27 4 (.aload_n 0) 1 ∧ De bdX4_empty_27 5 (.iconst 0) 1 ∧ De bdX4_empty_27 6 (.putfield 23) 3 ∧ De bdX4_empty_27 9 (.aload_n 0) 1 ∧ De bdX4_empty_27 10 (.iconst 0) 1 ∧ De bdX4_empty_27 11 (.putfield 26) 3 ∧ De bdX4_empty_27 14 (.aload_n 0) 1 ∧ De bdX4_empty_27 15 (.iconst 0) 1 ∧ De bdX4_empty_27 16 (.putfield 29) 3 ∧ De bdX4_empty_27 19 (.aload_n 0) 1 ∧ De bdX4_empty_27 20 (.iconst 0) 1 ∧ De bdX4_empty_27 21 (.putfield 32) 3 ∧ De bdX4_empty_27 24 (.return_) 1 := by decide +kernel
theorem dX4_empty_27 : decode cX4_empty 27 = .ok (.iconst 0, 1) := dAt wdX4_empty_27 adX4_empty_27.1 rfl
theorem dX4_empty_28 : decode cX4_empty 28 = .ok (.putfield 19, 3) := dAt wdX4_empty_27 adX4_empty_27.2.1 rfl
theorem dX4_empty_31 : decode cX4_empty 31 = .ok (.aload_n 0, 1) := dAt wdX4_empty_27 adX4_empty_27.2.2.1 rfl
theorem dX4_empty_32 : decode cX4_empty 32 = .ok (.iconst 0, 1) := dAt wdX4_empty_27 adX4_empty_27.2.2.2.1 rfl
theorem dX4_empty_33 : decode cX4_empty 33 = .ok (.putfield 23, 3) := dAt wdX4_empty_27 adX4_empty_27.2.2.2.2.1 rfl
theorem dX4_empty_36 : decode cX4_empty 36 = .ok (.aload_n 0, 1) := dAt wdX4_empty_27 adX4_empty_27.2.2.2.2.2.1 rfl
theorem dX4_empty_37 : decode cX4_empty 37 = .ok (.iconst 0, 1) := dAt wdX4_empty_27 adX4_empty_27.2.2.2.2.2.2.1 rfl
theorem dX4_empty_38 : decode cX4_empty 38 = .ok (.putfield 26, 3) := dAt wdX4_empty_27 adX4_empty_27.2.2.2.2.2.2.2.1 rfl
theorem dX4_empty_41 : decode cX4_empty 41 = .ok (.aload_n 0, 1) := dAt wdX4_empty_27 adX4_empty_27.2.2.2.2.2.2.2.2.1 rfl
theorem dX4_empty_42 : decode cX4_empty 42 = .ok (.iconst 0, 1) := dAt wdX4_empty_27 adX4_empty_27.2.2.2.2.2.2.2.2.2.1 rfl
theorem dX4_empty_43 : decode cX4_empty 43 = .ok (.putfield 29, 3) := dAt wdX4_empty_27 adX4_empty_27.2.2.2.2.2.2.2.2.2.2.1 rfl
theorem dX4_empty_46 : decode cX4_empty 46 = .ok (.aload_n 0, 1) := dAt wdX4_empty_27 adX4_empty_27.2.2.2.2.2.2.2.2.2.2.2.1 rfl
theorem dX4_empty_47 : decode cX4_empty 47 = .ok (.iconst 0, 1) := dAt wdX4_empty_27 adX4_empty_27.2.2.2.2.2.2.2.2.2.2.2.2.1 rfl
theorem dX4_empty_48 : decode cX4_empty 48 = .ok (.putfield 32, 3) := dAt wdX4_empty_27 adX4_empty_27.2.2.2.2.2.2.2.2.2.2.2.2.2.1 rfl
theorem dX4_empty_51 : decode cX4_empty 51 = .ok (.return_, 1) := dAt wdX4_empty_27 adX4_empty_27.2.2.2.2.2.2.2.2.2.2.2.2.2.2 rfl
def bdX4_takeAll_0 : ByteArray := .mk #[43, 180, 0, 9, 3, 42, 180, 0, 9, 3, 42, 180, 0, 9, 190, 184, 0, 48, 43, 180, 0, 35, 3, 42, 180, 0, 35, 3]
theorem wdX4_takeAll_0 : LocW cX4_takeAll 0 bdX4_takeAll_0 := loc_of (by decide +kernel)
theorem adX4_takeAll_0 : De bdX4_takeAll_0 0 (.aload_n 1) 1 ∧ De bdX4_takeAll_0 1 (.getfield 9) 3 ∧ De bdX4_takeAll_0 4 (.iconst 0) 1 ∧ De bdX4_takeAll_0 5 (.aload_n 0) 1 ∧ De bdX4_takeAll_0 6 (.getfield 9) 3 ∧ De bdX4_takeAll_0 9 (.iconst 0) 1 ∧ De bdX4_takeAll_0 10 (.aload_n 0) 1 ∧ De bdX4_takeAll_0 11 (.getfield 9) 3 ∧ De bdX4_takeAll_0 14 (.arraylength) 1 ∧ De bdX4_takeAll_0 15 (.invokestatic 48) 3 ∧ De bdX4_takeAll_0 18 (.aload_n 1) 1 ∧ De bdX4_takeAll_0 19 (.getfield 35) 3 ∧ De bdX4_takeAll_0 22 (.iconst 0) 1 ∧ De bdX4_takeAll_0 23 (.aload_n 0) 1 ∧ De bdX4_takeAll_0 24 (.getfield 35) 3 ∧ De bdX4_takeAll_0 27 (.iconst 0) 1 := by decide +kernel
theorem dX4_takeAll_0 : decode cX4_takeAll 0 = .ok (.aload_n 1, 1) := dAt wdX4_takeAll_0 adX4_takeAll_0.1 rfl
theorem dX4_takeAll_1 : decode cX4_takeAll 1 = .ok (.getfield 9, 3) := dAt wdX4_takeAll_0 adX4_takeAll_0.2.1 rfl
theorem dX4_takeAll_4 : decode cX4_takeAll 4 = .ok (.iconst 0, 1) := dAt wdX4_takeAll_0 adX4_takeAll_0.2.2.1 rfl
theorem dX4_takeAll_5 : decode cX4_takeAll 5 = .ok (.aload_n 0, 1) := dAt wdX4_takeAll_0 adX4_takeAll_0.2.2.2.1 rfl
theorem dX4_takeAll_6 : decode cX4_takeAll 6 = .ok (.getfield 9, 3) := dAt wdX4_takeAll_0 adX4_takeAll_0.2.2.2.2.1 rfl
theorem dX4_takeAll_9 : decode cX4_takeAll 9 = .ok (.iconst 0, 1) := dAt wdX4_takeAll_0 adX4_takeAll_0.2.2.2.2.2.1 rfl
theorem dX4_takeAll_10 : decode cX4_takeAll 10 = .ok (.aload_n 0, 1) := dAt wdX4_takeAll_0 adX4_takeAll_0.2.2.2.2.2.2.1 rfl
theorem dX4_takeAll_11 : decode cX4_takeAll 11 = .ok (.getfield 9, 3) := dAt wdX4_takeAll_0 adX4_takeAll_0.2.2.2.2.2.2.2.1 rfl
theorem dX4_takeAll_14 : decode cX4_takeAll 14 = .ok (.arraylength, 1) := dAt wdX4_takeAll_0 adX4_takeAll_0.2.2.2.2.2.2.2.2.1 rfl
theorem dX4_takeAll_15 : decode cX4_takeAll 15 = .ok (.invokestatic 48, 3) := dAt wdX4_takeAll_0 adX4_takeAll_0.2.2.2.2.2.2.2.2.2.1 rfl
theorem dX4_takeAll_18 : decode cX4_takeAll 18 = .ok (.aload_n 1, 1) := dAt wdX4_takeAll_0 adX4_takeAll_0.2.2.2.2.2.2.2.2.2.2.1 rfl
theorem dX4_takeAll_19 : decode cX4_takeAll 19 = .ok (.getfield 35, 3) := dAt wdX4_takeAll_0 adX4_takeAll_0.2.2.2.2.2.2.2.2.2.2.2.1 rfl
theorem dX4_takeAll_22 : decode cX4_takeAll 22 = .ok (.iconst 0, 1) := dAt wdX4_takeAll_0 adX4_takeAll_0.2.2.2.2.2.2.2.2.2.2.2.2.1 rfl
theorem dX4_takeAll_23 : decode cX4_takeAll 23 = .ok (.aload_n 0, 1) := dAt wdX4_takeAll_0 adX4_takeAll_0.2.2.2.2.2.2.2.2.2.2.2.2.2.1 rfl
theorem dX4_takeAll_24 : decode cX4_takeAll 24 = .ok (.getfield 35, 3) := dAt wdX4_takeAll_0 adX4_takeAll_0.2.2.2.2.2.2.2.2.2.2.2.2.2.2.1 rfl
theorem dX4_takeAll_27 : decode cX4_takeAll 27 = .ok (.iconst 0, 1) := dAt wdX4_takeAll_0 adX4_takeAll_0.2.2.2.2.2.2.2.2.2.2.2.2.2.2.2 rfl
def bdX4_takeAll_28 : ByteArray := .mk #[42, 180, 0, 35, 190, 184, 0, 48, 43, 180, 0, 38, 3, 42, 180, 0, 38, 3, 42, 180, 0, 38, 190, 184, 0, 48, 43, 180, 0, 41]
theorem wdX4_takeAll_28 : LocW cX4_takeAll 28 bdX4_takeAll_28 := loc_of (by decide +kernel)
theorem adX4_takeAll_28 : De bdX4_takeAll_28 0 (.aload_n 0) 1 ∧ De bdX4_takeAll_28 1 (.getfield 35) 3 ∧ De bdX4_takeAll_28 4 (.arraylength) 1 ∧ De bdX4_takeAll_28 5 (.invokestatic 48) 3 ∧ De bdX4_takeAll_28 8 (.aload_n 1) 1 ∧ De bdX4_takeAll_28 9 (.getfield 38) 3 ∧ De bdX4_takeAll_28 12 (.iconst 0) 1 ∧ De bdX4_takeAll_28 13 (.aload_n 0) 1 ∧ De bdX4_takeAll_28 14 (.getfield 38) 3 ∧ De bdX4_takeAll_28 17 (.iconst 0) 1 ∧ De bdX4_takeAll_28 18 (.aload_n 0) 1 ∧ De bdX4_takeAll_28 19 (.getfield 38) 3 ∧ De bdX4_takeAll_28 22 (.arraylength) 1 ∧ De bdX4_takeAll_28 23 (.invokestatic 48) 3 ∧ De bdX4_takeAll_28 26 (.aload_n 1) 1 ∧ De bdX4_takeAll_28 27 (.getfield 41) 3 := by decide +kernel
theorem dX4_takeAll_28 : decode cX4_takeAll 28 = .ok (.aload_n 0, 1) := dAt wdX4_takeAll_28 adX4_takeAll_28.1 rfl
theorem dX4_takeAll_29 : decode cX4_takeAll 29 = .ok (.getfield 35, 3) := dAt wdX4_takeAll_28 adX4_takeAll_28.2.1 rfl
theorem dX4_takeAll_32 : decode cX4_takeAll 32 = .ok (.arraylength, 1) := dAt wdX4_takeAll_28 adX4_takeAll_28.2.2.1 rfl
theorem dX4_takeAll_33 : decode cX4_takeAll 33 = .ok (.invokestatic 48, 3) := dAt wdX4_takeAll_28 adX4_takeAll_28.2.2.2.1 rfl
theorem dX4_takeAll_36 : decode cX4_takeAll 36 = .ok (.aload_n 1, 1) := dAt wdX4_takeAll_28 adX4_takeAll_28.2.2.2.2.1 rfl
theorem dX4_takeAll_37 : decode cX4_takeAll 37 = .ok (.getfield 38, 3) := dAt wdX4_takeAll_28 adX4_takeAll_28.2.2.2.2.2.1 rfl
theorem dX4_takeAll_40 : decode cX4_takeAll 40 = .ok (.iconst 0, 1) := dAt wdX4_takeAll_28 adX4_takeAll_28.2.2.2.2.2.2.1 rfl
theorem dX4_takeAll_41 : decode cX4_takeAll 41 = .ok (.aload_n 0, 1) := dAt wdX4_takeAll_28 adX4_takeAll_28.2.2.2.2.2.2.2.1 rfl
theorem dX4_takeAll_42 : decode cX4_takeAll 42 = .ok (.getfield 38, 3) := dAt wdX4_takeAll_28 adX4_takeAll_28.2.2.2.2.2.2.2.2.1 rfl
theorem dX4_takeAll_45 : decode cX4_takeAll 45 = .ok (.iconst 0, 1) := dAt wdX4_takeAll_28 adX4_takeAll_28.2.2.2.2.2.2.2.2.2.1 rfl
theorem dX4_takeAll_46 : decode cX4_takeAll 46 = .ok (.aload_n 0, 1) := dAt wdX4_takeAll_28 adX4_takeAll_28.2.2.2.2.2.2.2.2.2.2.1 rfl
theorem dX4_takeAll_47 : decode cX4_takeAll 47 = .ok (.getfield 38, 3) := dAt wdX4_takeAll_28 adX4_takeAll_28.2.2.2.2.2.2.2.2.2.2.2.1 rfl
theorem dX4_takeAll_50 : decode cX4_takeAll 50 = .ok (.arraylength, 1) := dAt wdX4_takeAll_28 adX4_takeAll_28.2.2.2.2.2.2.2.2.2.2.2.2.1 rfl
theorem dX4_takeAll_51 : decode cX4_takeAll 51 = .ok (.invokestatic 48, 3) := dAt wdX4_takeAll_28 adX4_takeAll_28.2.2.2.2.2.2.2.2.2.2.2.2.2.1 rfl
theorem dX4_takeAll_54 : decode cX4_takeAll 54 = .ok (.aload_n 1, 1) := dAt wdX4_takeAll_28 adX4_takeAll_28.2.2.2.2.2.2.2.2.2.2.2.2.2.2.1 rfl
theorem dX4_takeAll_55 : decode cX4_takeAll 55 = .ok (.getfield 41, 3) := dAt wdX4_takeAll_28 adX4_takeAll_28.2.2.2.2.2.2.2.2.2.2.2.2.2.2.2 rfl
def bdX4_takeAll_58 : ByteArray := .mk #[3, 42, 180, 0, 41, 3, 42, 180, 0, 41, 190, 184, 0, 48, 43, 180, 0, 44, 42, 180, 0, 44, 184, 0, 54, 42, 43, 180, 0, 15]
theorem wdX4_takeAll_58 : LocW cX4_takeAll 58 bdX4_takeAll_58 := loc_of (by decide +kernel)
theorem adX4_takeAll_58 : De bdX4_takeAll_58 0 (.iconst 0) 1 ∧ De bdX4_takeAll_58 1 (.aload_n 0) 1 ∧ De bdX4_takeAll_58 2 (.getfield 41) 3 ∧ De bdX4_takeAll_58 5 (.iconst 0) 1 ∧ De bdX4_takeAll_58 6 (.aload_n 0) 1 ∧ De bdX4_takeAll_58 7 (.getfield 41) 3 ∧ De bdX4_takeAll_58 10 (.arraylength) 1 ∧ De bdX4_takeAll_58 11 (.invokestatic 48) 3 ∧ De bdX4_takeAll_58 14 (.aload_n 1) 1 ∧ De bdX4_takeAll_58 15 (.getfield 44) 3 ∧ De bdX4_takeAll_58 18 (.aload_n 0) 1 ∧ De bdX4_takeAll_58 19 (.getfield 44) 3 ∧ De bdX4_takeAll_58 22 (.invokestatic 54) 3 ∧ De bdX4_takeAll_58 25 (.aload_n 0) 1 ∧ De bdX4_takeAll_58 26 (.aload_n 1) 1 ∧ De bdX4_takeAll_58 27 (.getfield 15) 3 := by decide +kernel
theorem dX4_takeAll_58 : decode cX4_takeAll 58 = .ok (.iconst 0, 1) := dAt wdX4_takeAll_58 adX4_takeAll_58.1 rfl
theorem dX4_takeAll_59 : decode cX4_takeAll 59 = .ok (.aload_n 0, 1) := dAt wdX4_takeAll_58 adX4_takeAll_58.2.1 rfl
theorem dX4_takeAll_60 : decode cX4_takeAll 60 = .ok (.getfield 41, 3) := dAt wdX4_takeAll_58 adX4_takeAll_58.2.2.1 rfl
theorem dX4_takeAll_63 : decode cX4_takeAll 63 = .ok (.iconst 0, 1) := dAt wdX4_takeAll_58 adX4_takeAll_58.2.2.2.1 rfl
theorem dX4_takeAll_64 : decode cX4_takeAll 64 = .ok (.aload_n 0, 1) := dAt wdX4_takeAll_58 adX4_takeAll_58.2.2.2.2.1 rfl
theorem dX4_takeAll_65 : decode cX4_takeAll 65 = .ok (.getfield 41, 3) := dAt wdX4_takeAll_58 adX4_takeAll_58.2.2.2.2.2.1 rfl
theorem dX4_takeAll_68 : decode cX4_takeAll 68 = .ok (.arraylength, 1) := dAt wdX4_takeAll_58 adX4_takeAll_58.2.2.2.2.2.2.1 rfl
theorem dX4_takeAll_69 : decode cX4_takeAll 69 = .ok (.invokestatic 48, 3) := dAt wdX4_takeAll_58 adX4_takeAll_58.2.2.2.2.2.2.2.1 rfl
theorem dX4_takeAll_72 : decode cX4_takeAll 72 = .ok (.aload_n 1, 1) := dAt wdX4_takeAll_58 adX4_takeAll_58.2.2.2.2.2.2.2.2.1 rfl
theorem dX4_takeAll_73 : decode cX4_takeAll 73 = .ok (.getfield 44, 3) := dAt wdX4_takeAll_58 adX4_takeAll_58.2.2.2.2.2.2.2.2.2.1 rfl
theorem dX4_takeAll_76 : decode cX4_takeAll 76 = .ok (.aload_n 0, 1) := dAt wdX4_takeAll_58 adX4_takeAll_58.2.2.2.2.2.2.2.2.2.2.1 rfl
theorem dX4_takeAll_77 : decode cX4_takeAll 77 = .ok (.getfield 44, 3) := dAt wdX4_takeAll_58 adX4_takeAll_58.2.2.2.2.2.2.2.2.2.2.2.1 rfl
theorem dX4_takeAll_80 : decode cX4_takeAll 80 = .ok (.invokestatic 54, 3) := dAt wdX4_takeAll_58 adX4_takeAll_58.2.2.2.2.2.2.2.2.2.2.2.2.1 rfl
theorem dX4_takeAll_83 : decode cX4_takeAll 83 = .ok (.aload_n 0, 1) := dAt wdX4_takeAll_58 adX4_takeAll_58.2.2.2.2.2.2.2.2.2.2.2.2.2.1 rfl
theorem dX4_takeAll_84 : decode cX4_takeAll 84 = .ok (.aload_n 1, 1) := dAt wdX4_takeAll_58 adX4_takeAll_58.2.2.2.2.2.2.2.2.2.2.2.2.2.2.1 rfl
theorem dX4_takeAll_85 : decode cX4_takeAll 85 = .ok (.getfield 15, 3) := dAt wdX4_takeAll_58 adX4_takeAll_58.2.2.2.2.2.2.2.2.2.2.2.2.2.2.2 rfl
def bdX4_takeAll_88 : ByteArray := .mk #[181, 0, 15, 42, 43, 180, 0, 19, 181, 0, 19, 42, 43, 180, 0, 23, 181, 0, 23, 42, 43, 180, 0, 26, 181, 0, 26, 42, 43, 180, 0, 29]
theorem wdX4_takeAll_88 : LocW cX4_takeAll 88 bdX4_takeAll_88 := loc_of (by decide +kernel)
theorem adX4_takeAll_88 : De bdX4_takeAll_88 0 (.putfield 15) 3 ∧ De bdX4_takeAll_88 3 (.aload_n 0) 1 ∧ De bdX4_takeAll_88 4 (.aload_n 1) 1 ∧ De bdX4_takeAll_88 5 (.getfield 19) 3 ∧ De bdX4_takeAll_88 8 (.putfield 19) 3 ∧ De bdX4_takeAll_88 11 (.aload_n 0) 1 ∧ De bdX4_takeAll_88 12 (.aload_n 1) 1 ∧ De bdX4_takeAll_88 13 (.getfield 23) 3 ∧ De bdX4_takeAll_88 16 (.putfield 23) 3 ∧ De bdX4_takeAll_88 19 (.aload_n 0) 1 ∧ De bdX4_takeAll_88 20 (.aload_n 1) 1 ∧ De bdX4_takeAll_88 21 (.getfield 26) 3 ∧ De bdX4_takeAll_88 24 (.putfield 26) 3 ∧ De bdX4_takeAll_88 27 (.aload_n 0) 1 ∧ De bdX4_takeAll_88 28 (.aload_n 1) 1 ∧ De bdX4_takeAll_88 29 (.getfield 29) 3 := by decide +kernel
theorem dX4_takeAll_88 : decode cX4_takeAll 88 = .ok (.putfield 15, 3) := dAt wdX4_takeAll_88 adX4_takeAll_88.1 rfl
theorem dX4_takeAll_91 : decode cX4_takeAll 91 = .ok (.aload_n 0, 1) := dAt wdX4_takeAll_88 adX4_takeAll_88.2.1 rfl
theorem dX4_takeAll_92 : decode cX4_takeAll 92 = .ok (.aload_n 1, 1) := dAt wdX4_takeAll_88 adX4_takeAll_88.2.2.1 rfl
theorem dX4_takeAll_93 : decode cX4_takeAll 93 = .ok (.getfield 19, 3) := dAt wdX4_takeAll_88 adX4_takeAll_88.2.2.2.1 rfl
theorem dX4_takeAll_96 : decode cX4_takeAll 96 = .ok (.putfield 19, 3) := dAt wdX4_takeAll_88 adX4_takeAll_88.2.2.2.2.1 rfl
theorem dX4_takeAll_99 : decode cX4_takeAll 99 = .ok (.aload_n 0, 1) := dAt wdX4_takeAll_88 adX4_takeAll_88.2.2.2.2.2.1 rfl
theorem dX4_takeAll_100 : decode cX4_takeAll 100 = .ok (.aload_n 1, 1) := dAt wdX4_takeAll_88 adX4_takeAll_88.2.2.2.2.2.2.1 rfl
theorem dX4_takeAll_101 : decode cX4_takeAll 101 = .ok (.getfield 23, 3) := dAt wdX4_takeAll_88 adX4_takeAll_88.2.2.2.2.2.2.2.1 rfl
theorem dX4_takeAll_104 : decode cX4_takeAll 104 = .ok (.putfield 23, 3) := dAt wdX4_takeAll_88 adX4_takeAll_88.2.2.2.2.2.2.2.2.1 rfl
theorem dX4_takeAll_107 : decode cX4_takeAll 107 = .ok (.aload_n 0, 1) := dAt wdX4_takeAll_88 adX4_takeAll_88.2.2.2.2.2.2.2.2.2.1 rfl
theorem dX4_takeAll_108 : decode cX4_takeAll 108 = .ok (.aload_n 1, 1) := dAt wdX4_takeAll_88 adX4_takeAll_88.2.2.2.2.2.2.2.2.2.2.1 rfl
theorem dX4_takeAll_109 : decode cX4_takeAll 109 = .ok (.getfield 26, 3) := dAt wdX4_takeAll_88 adX4_takeAll_88.2.2.2.2.2.2.2.2.2.2.2.1 rfl
theorem dX4_takeAll_112 : decode cX4_takeAll 112 = .ok (.putfield 26, 3) := dAt wdX4_takeAll_88 adX4_takeAll_88.2.2.2.2.2.2.2.2.2.2.2.2.1 rfl
theorem dX4_takeAll_115 : decode cX4_takeAll 115 = .ok (.aload_n 0, 1) := dAt wdX4_takeAll_88 adX4_takeAll_88.2.2.2.2.2.2.2.2.2.2.2.2.2.1 rfl
theorem dX4_takeAll_116 : decode cX4_takeAll 116 = .ok (.aload_n 1, 1) := dAt wdX4_takeAll_88 adX4_takeAll_88.2.2.2.2.2.2.2.2.2.2.2.2.2.2.1 rfl
theorem dX4_takeAll_117 : decode cX4_takeAll 117 = .ok (.getfield 29, 3) := dAt wdX4_takeAll_88 adX4_takeAll_88.2.2.2.2.2.2.2.2.2.2.2.2.2.2.2 rfl
def bdX4_takeAll_120 : ByteArray := .mk #[181, 0, 29, 42, 43, 180, 0, 32, 181, 0, 32, 177]
theorem wdX4_takeAll_120 : LocW cX4_takeAll 120 bdX4_takeAll_120 := loc_of (by decide +kernel)
theorem adX4_takeAll_120 : De bdX4_takeAll_120 0 (.putfield 29) 3 ∧ De bdX4_takeAll_120 3 (.aload_n 0) 1 ∧ De bdX4_takeAll_120 4 (.aload_n 1) 1 ∧ De bdX4_takeAll_120 5 (.getfield 32) 3 ∧ De bdX4_takeAll_120 8 (.putfield 32) 3 ∧ De bdX4_takeAll_120 11 (.return_) 1 := by decide +kernel
theorem dX4_takeAll_120 : decode cX4_takeAll 120 = .ok (.putfield 29, 3) := dAt wdX4_takeAll_120 adX4_takeAll_120.1 rfl
theorem dX4_takeAll_123 : decode cX4_takeAll 123 = .ok (.aload_n 0, 1) := dAt wdX4_takeAll_120 adX4_takeAll_120.2.1 rfl
theorem dX4_takeAll_124 : decode cX4_takeAll 124 = .ok (.aload_n 1, 1) := dAt wdX4_takeAll_120 adX4_takeAll_120.2.2.1 rfl
theorem dX4_takeAll_125 : decode cX4_takeAll 125 = .ok (.getfield 32, 3) := dAt wdX4_takeAll_120 adX4_takeAll_120.2.2.2.1 rfl
theorem dX4_takeAll_128 : decode cX4_takeAll 128 = .ok (.putfield 32, 3) := dAt wdX4_takeAll_120 adX4_takeAll_120.2.2.2.2.1 rfl
theorem dX4_takeAll_131 : decode cX4_takeAll 131 = .ok (.return_, 1) := dAt wdX4_takeAll_120 adX4_takeAll_120.2.2.2.2.2 rfl
def bdX4_addJob_0 : ByteArray := .mk #[42, 180, 0, 23, 16, 30, 161, 0, 4, 177, 42, 180, 0, 35, 42, 180, 0, 23, 27, 79, 42, 180, 0, 38, 42, 180, 0, 23, 28]
theorem wdX4_addJob_0 : LocW cX4_addJob 0 bdX4_addJob_0 := loc_of (by decide +kernel)
theorem adX4_addJob_0 : De bdX4_addJob_0 0 (.aload_n 0) 1 ∧ De bdX4_addJob_0 1 (.getfield 23) 3 ∧ De bdX4_addJob_0 4 (.bipush 30) 2 ∧ De bdX4_addJob_0 6 (.if_icmp .lt 4) 3 ∧ De bdX4_addJob_0 9 (.return_) 1 ∧ De bdX4_addJob_0 10 (.aload_n 0) 1 ∧ De bdX4_addJob_0 11 (.getfield 35) 3 ∧ De bdX4_addJob_0 14 (.aload_n 0) 1 ∧ De bdX4_addJob_0 15 (.getfield 23) 3 ∧ De bdX4_addJob_0 18 (.iload_n 1) 1 ∧ De bdX4_addJob_0 19 (.iastore) 1 ∧ De bdX4_addJob_0 20 (.aload_n 0) 1 ∧ De bdX4_addJob_0 21 (.getfield 38) 3 ∧ De bdX4_addJob_0 24 (.aload_n 0) 1 ∧ De bdX4_addJob_0 25 (.getfield 23) 3 ∧ De bdX4_addJob_0 28 (.iload_n 2) 1 := by decide +kernel
theorem dX4_addJob_0 : decode cX4_addJob 0 = .ok (.aload_n 0, 1) := dAt wdX4_addJob_0 adX4_addJob_0.1 rfl
theorem dX4_addJob_1 : decode cX4_addJob 1 = .ok (.getfield 23, 3) := dAt wdX4_addJob_0 adX4_addJob_0.2.1 rfl
theorem dX4_addJob_4 : decode cX4_addJob 4 = .ok (.bipush 30, 2) := dAt wdX4_addJob_0 adX4_addJob_0.2.2.1 rfl
theorem dX4_addJob_6 : decode cX4_addJob 6 = .ok (.if_icmp .lt 4, 3) := dAt wdX4_addJob_0 adX4_addJob_0.2.2.2.1 rfl
theorem dX4_addJob_9 : decode cX4_addJob 9 = .ok (.return_, 1) := dAt wdX4_addJob_0 adX4_addJob_0.2.2.2.2.1 rfl
theorem dX4_addJob_10 : decode cX4_addJob 10 = .ok (.aload_n 0, 1) := dAt wdX4_addJob_0 adX4_addJob_0.2.2.2.2.2.1 rfl
theorem dX4_addJob_11 : decode cX4_addJob 11 = .ok (.getfield 35, 3) := dAt wdX4_addJob_0 adX4_addJob_0.2.2.2.2.2.2.1 rfl
theorem dX4_addJob_14 : decode cX4_addJob 14 = .ok (.aload_n 0, 1) := dAt wdX4_addJob_0 adX4_addJob_0.2.2.2.2.2.2.2.1 rfl
theorem dX4_addJob_15 : decode cX4_addJob 15 = .ok (.getfield 23, 3) := dAt wdX4_addJob_0 adX4_addJob_0.2.2.2.2.2.2.2.2.1 rfl
theorem dX4_addJob_18 : decode cX4_addJob 18 = .ok (.iload_n 1, 1) := dAt wdX4_addJob_0 adX4_addJob_0.2.2.2.2.2.2.2.2.2.1 rfl
theorem dX4_addJob_19 : decode cX4_addJob 19 = .ok (.iastore, 1) := dAt wdX4_addJob_0 adX4_addJob_0.2.2.2.2.2.2.2.2.2.2.1 rfl
theorem dX4_addJob_20 : decode cX4_addJob 20 = .ok (.aload_n 0, 1) := dAt wdX4_addJob_0 adX4_addJob_0.2.2.2.2.2.2.2.2.2.2.2.1 rfl
theorem dX4_addJob_21 : decode cX4_addJob 21 = .ok (.getfield 38, 3) := dAt wdX4_addJob_0 adX4_addJob_0.2.2.2.2.2.2.2.2.2.2.2.2.1 rfl
theorem dX4_addJob_24 : decode cX4_addJob 24 = .ok (.aload_n 0, 1) := dAt wdX4_addJob_0 adX4_addJob_0.2.2.2.2.2.2.2.2.2.2.2.2.2.1 rfl
theorem dX4_addJob_25 : decode cX4_addJob 25 = .ok (.getfield 23, 3) := dAt wdX4_addJob_0 adX4_addJob_0.2.2.2.2.2.2.2.2.2.2.2.2.2.2.1 rfl
theorem dX4_addJob_28 : decode cX4_addJob 28 = .ok (.iload_n 2, 1) := dAt wdX4_addJob_0 adX4_addJob_0.2.2.2.2.2.2.2.2.2.2.2.2.2.2.2 rfl
def bdX4_addJob_29 : ByteArray := .mk #[79, 42, 180, 0, 41, 42, 180, 0, 23, 29, 79, 42, 180, 0, 44, 42, 180, 0, 23, 21, 4, 84, 42, 89, 180, 0, 23]
theorem wdX4_addJob_29 : LocW cX4_addJob 29 bdX4_addJob_29 := loc_of (by decide +kernel)
theorem adX4_addJob_29 : De bdX4_addJob_29 0 (.iastore) 1 ∧ De bdX4_addJob_29 1 (.aload_n 0) 1 ∧ De bdX4_addJob_29 2 (.getfield 41) 3 ∧ De bdX4_addJob_29 5 (.aload_n 0) 1 ∧ De bdX4_addJob_29 6 (.getfield 23) 3 ∧ De bdX4_addJob_29 9 (.iload_n 3) 1 ∧ De bdX4_addJob_29 10 (.iastore) 1 ∧ De bdX4_addJob_29 11 (.aload_n 0) 1 ∧ De bdX4_addJob_29 12 (.getfield 44) 3 ∧ De bdX4_addJob_29 15 (.aload_n 0) 1 ∧ De bdX4_addJob_29 16 (.getfield 23) 3 ∧ De bdX4_addJob_29 19 (.iload 4) 2 ∧ De bdX4_addJob_29 21 (.bastore) 1 ∧ De bdX4_addJob_29 22 (.aload_n 0) 1 ∧ De bdX4_addJob_29 23 (.dup) 1 ∧ De bdX4_addJob_29 24 (.getfield 23) 3 := by decide +kernel
theorem dX4_addJob_29 : decode cX4_addJob 29 = .ok (.iastore, 1) := dAt wdX4_addJob_29 adX4_addJob_29.1 rfl
theorem dX4_addJob_30 : decode cX4_addJob 30 = .ok (.aload_n 0, 1) := dAt wdX4_addJob_29 adX4_addJob_29.2.1 rfl
theorem dX4_addJob_31 : decode cX4_addJob 31 = .ok (.getfield 41, 3) := dAt wdX4_addJob_29 adX4_addJob_29.2.2.1 rfl
theorem dX4_addJob_34 : decode cX4_addJob 34 = .ok (.aload_n 0, 1) := dAt wdX4_addJob_29 adX4_addJob_29.2.2.2.1 rfl
theorem dX4_addJob_35 : decode cX4_addJob 35 = .ok (.getfield 23, 3) := dAt wdX4_addJob_29 adX4_addJob_29.2.2.2.2.1 rfl
theorem dX4_addJob_38 : decode cX4_addJob 38 = .ok (.iload_n 3, 1) := dAt wdX4_addJob_29 adX4_addJob_29.2.2.2.2.2.1 rfl
theorem dX4_addJob_39 : decode cX4_addJob 39 = .ok (.iastore, 1) := dAt wdX4_addJob_29 adX4_addJob_29.2.2.2.2.2.2.1 rfl
theorem dX4_addJob_40 : decode cX4_addJob 40 = .ok (.aload_n 0, 1) := dAt wdX4_addJob_29 adX4_addJob_29.2.2.2.2.2.2.2.1 rfl
theorem dX4_addJob_41 : decode cX4_addJob 41 = .ok (.getfield 44, 3) := dAt wdX4_addJob_29 adX4_addJob_29.2.2.2.2.2.2.2.2.1 rfl
theorem dX4_addJob_44 : decode cX4_addJob 44 = .ok (.aload_n 0, 1) := dAt wdX4_addJob_29 adX4_addJob_29.2.2.2.2.2.2.2.2.2.1 rfl
theorem dX4_addJob_45 : decode cX4_addJob 45 = .ok (.getfield 23, 3) := dAt wdX4_addJob_29 adX4_addJob_29.2.2.2.2.2.2.2.2.2.2.1 rfl
theorem dX4_addJob_48 : decode cX4_addJob 48 = .ok (.iload 4, 2) := dAt wdX4_addJob_29 adX4_addJob_29.2.2.2.2.2.2.2.2.2.2.2.1 rfl
theorem dX4_addJob_50 : decode cX4_addJob 50 = .ok (.bastore, 1) := dAt wdX4_addJob_29 adX4_addJob_29.2.2.2.2.2.2.2.2.2.2.2.2.1 rfl
theorem dX4_addJob_51 : decode cX4_addJob 51 = .ok (.aload_n 0, 1) := dAt wdX4_addJob_29 adX4_addJob_29.2.2.2.2.2.2.2.2.2.2.2.2.2.1 rfl
theorem dX4_addJob_52 : decode cX4_addJob 52 = .ok (.dup, 1) := dAt wdX4_addJob_29 adX4_addJob_29.2.2.2.2.2.2.2.2.2.2.2.2.2.2.1 rfl
theorem dX4_addJob_53 : decode cX4_addJob 53 = .ok (.getfield 23, 3) := dAt wdX4_addJob_29 adX4_addJob_29.2.2.2.2.2.2.2.2.2.2.2.2.2.2.2 rfl
def bdX4_addJob_56 : ByteArray := .mk #[4, 96, 181, 0, 23, 177]
theorem wdX4_addJob_56 : LocW cX4_addJob 56 bdX4_addJob_56 := loc_of (by decide +kernel)
theorem adX4_addJob_56 : De bdX4_addJob_56 0 (.iconst 1) 1 ∧ De bdX4_addJob_56 1 (.iadd) 1 ∧ De bdX4_addJob_56 2 (.putfield 23) 3 ∧ De bdX4_addJob_56 5 (.return_) 1 := by decide +kernel
theorem dX4_addJob_56 : decode cX4_addJob 56 = .ok (.iconst 1, 1) := dAt wdX4_addJob_56 adX4_addJob_56.1 rfl
theorem dX4_addJob_57 : decode cX4_addJob 57 = .ok (.iadd, 1) := dAt wdX4_addJob_56 adX4_addJob_56.2.1 rfl
theorem dX4_addJob_58 : decode cX4_addJob 58 = .ok (.putfield 23, 3) := dAt wdX4_addJob_56 adX4_addJob_56.2.2.1 rfl
theorem dX4_addJob_61 : decode cX4_addJob 61 = .ok (.return_, 1) := dAt wdX4_addJob_56 adX4_addJob_56.2.2.2 rfl
def bdX4_dropJob_0 : ByteArray := .mk #[4, 60, 27, 42, 180, 0, 23, 162, 0, 65, 42, 180, 0, 35, 27, 4, 100, 42, 180, 0, 35, 27, 46, 79]
theorem wdX4_dropJob_0 : LocW cX4_dropJob 0 bdX4_dropJob_0 := loc_of (by decide +kernel)
theorem adX4_dropJob_0 : De bdX4_dropJob_0 0 (.iconst 1) 1 ∧ De bdX4_dropJob_0 1 (.istore_n 1) 1 ∧ De bdX4_dropJob_0 2 (.iload_n 1) 1 ∧ De bdX4_dropJob_0 3 (.aload_n 0) 1 ∧ De bdX4_dropJob_0 4 (.getfield 23) 3 ∧ De bdX4_dropJob_0 7 (.if_icmp .ge 65) 3 ∧ De bdX4_dropJob_0 10 (.aload_n 0) 1 ∧ De bdX4_dropJob_0 11 (.getfield 35) 3 ∧ De bdX4_dropJob_0 14 (.iload_n 1) 1 ∧ De bdX4_dropJob_0 15 (.iconst 1) 1 ∧ De bdX4_dropJob_0 16 (.isub) 1 ∧ De bdX4_dropJob_0 17 (.aload_n 0) 1 ∧ De bdX4_dropJob_0 18 (.getfield 35) 3 ∧ De bdX4_dropJob_0 21 (.iload_n 1) 1 ∧ De bdX4_dropJob_0 22 (.iaload) 1 ∧ De bdX4_dropJob_0 23 (.iastore) 1 := by decide +kernel
theorem dX4_dropJob_0 : decode cX4_dropJob 0 = .ok (.iconst 1, 1) := dAt wdX4_dropJob_0 adX4_dropJob_0.1 rfl
theorem dX4_dropJob_1 : decode cX4_dropJob 1 = .ok (.istore_n 1, 1) := dAt wdX4_dropJob_0 adX4_dropJob_0.2.1 rfl
theorem dX4_dropJob_2 : decode cX4_dropJob 2 = .ok (.iload_n 1, 1) := dAt wdX4_dropJob_0 adX4_dropJob_0.2.2.1 rfl
theorem dX4_dropJob_3 : decode cX4_dropJob 3 = .ok (.aload_n 0, 1) := dAt wdX4_dropJob_0 adX4_dropJob_0.2.2.2.1 rfl
theorem dX4_dropJob_4 : decode cX4_dropJob 4 = .ok (.getfield 23, 3) := dAt wdX4_dropJob_0 adX4_dropJob_0.2.2.2.2.1 rfl
theorem dX4_dropJob_7 : decode cX4_dropJob 7 = .ok (.if_icmp .ge 65, 3) := dAt wdX4_dropJob_0 adX4_dropJob_0.2.2.2.2.2.1 rfl
theorem dX4_dropJob_10 : decode cX4_dropJob 10 = .ok (.aload_n 0, 1) := dAt wdX4_dropJob_0 adX4_dropJob_0.2.2.2.2.2.2.1 rfl
theorem dX4_dropJob_11 : decode cX4_dropJob 11 = .ok (.getfield 35, 3) := dAt wdX4_dropJob_0 adX4_dropJob_0.2.2.2.2.2.2.2.1 rfl
theorem dX4_dropJob_14 : decode cX4_dropJob 14 = .ok (.iload_n 1, 1) := dAt wdX4_dropJob_0 adX4_dropJob_0.2.2.2.2.2.2.2.2.1 rfl
theorem dX4_dropJob_15 : decode cX4_dropJob 15 = .ok (.iconst 1, 1) := dAt wdX4_dropJob_0 adX4_dropJob_0.2.2.2.2.2.2.2.2.2.1 rfl
theorem dX4_dropJob_16 : decode cX4_dropJob 16 = .ok (.isub, 1) := dAt wdX4_dropJob_0 adX4_dropJob_0.2.2.2.2.2.2.2.2.2.2.1 rfl
theorem dX4_dropJob_17 : decode cX4_dropJob 17 = .ok (.aload_n 0, 1) := dAt wdX4_dropJob_0 adX4_dropJob_0.2.2.2.2.2.2.2.2.2.2.2.1 rfl
theorem dX4_dropJob_18 : decode cX4_dropJob 18 = .ok (.getfield 35, 3) := dAt wdX4_dropJob_0 adX4_dropJob_0.2.2.2.2.2.2.2.2.2.2.2.2.1 rfl
theorem dX4_dropJob_21 : decode cX4_dropJob 21 = .ok (.iload_n 1, 1) := dAt wdX4_dropJob_0 adX4_dropJob_0.2.2.2.2.2.2.2.2.2.2.2.2.2.1 rfl
theorem dX4_dropJob_22 : decode cX4_dropJob 22 = .ok (.iaload, 1) := dAt wdX4_dropJob_0 adX4_dropJob_0.2.2.2.2.2.2.2.2.2.2.2.2.2.2.1 rfl
theorem dX4_dropJob_23 : decode cX4_dropJob 23 = .ok (.iastore, 1) := dAt wdX4_dropJob_0 adX4_dropJob_0.2.2.2.2.2.2.2.2.2.2.2.2.2.2.2 rfl
def bdX4_dropJob_24 : ByteArray := .mk #[42, 180, 0, 38, 27, 4, 100, 42, 180, 0, 38, 27, 46, 79, 42, 180, 0, 41, 27, 4, 100, 42]
theorem wdX4_dropJob_24 : LocW cX4_dropJob 24 bdX4_dropJob_24 := loc_of (by decide +kernel)
theorem adX4_dropJob_24 : De bdX4_dropJob_24 0 (.aload_n 0) 1 ∧ De bdX4_dropJob_24 1 (.getfield 38) 3 ∧ De bdX4_dropJob_24 4 (.iload_n 1) 1 ∧ De bdX4_dropJob_24 5 (.iconst 1) 1 ∧ De bdX4_dropJob_24 6 (.isub) 1 ∧ De bdX4_dropJob_24 7 (.aload_n 0) 1 ∧ De bdX4_dropJob_24 8 (.getfield 38) 3 ∧ De bdX4_dropJob_24 11 (.iload_n 1) 1 ∧ De bdX4_dropJob_24 12 (.iaload) 1 ∧ De bdX4_dropJob_24 13 (.iastore) 1 ∧ De bdX4_dropJob_24 14 (.aload_n 0) 1 ∧ De bdX4_dropJob_24 15 (.getfield 41) 3 ∧ De bdX4_dropJob_24 18 (.iload_n 1) 1 ∧ De bdX4_dropJob_24 19 (.iconst 1) 1 ∧ De bdX4_dropJob_24 20 (.isub) 1 ∧ De bdX4_dropJob_24 21 (.aload_n 0) 1 := by decide +kernel
theorem dX4_dropJob_24 : decode cX4_dropJob 24 = .ok (.aload_n 0, 1) := dAt wdX4_dropJob_24 adX4_dropJob_24.1 rfl
theorem dX4_dropJob_25 : decode cX4_dropJob 25 = .ok (.getfield 38, 3) := dAt wdX4_dropJob_24 adX4_dropJob_24.2.1 rfl
theorem dX4_dropJob_28 : decode cX4_dropJob 28 = .ok (.iload_n 1, 1) := dAt wdX4_dropJob_24 adX4_dropJob_24.2.2.1 rfl
theorem dX4_dropJob_29 : decode cX4_dropJob 29 = .ok (.iconst 1, 1) := dAt wdX4_dropJob_24 adX4_dropJob_24.2.2.2.1 rfl
theorem dX4_dropJob_30 : decode cX4_dropJob 30 = .ok (.isub, 1) := dAt wdX4_dropJob_24 adX4_dropJob_24.2.2.2.2.1 rfl
theorem dX4_dropJob_31 : decode cX4_dropJob 31 = .ok (.aload_n 0, 1) := dAt wdX4_dropJob_24 adX4_dropJob_24.2.2.2.2.2.1 rfl
theorem dX4_dropJob_32 : decode cX4_dropJob 32 = .ok (.getfield 38, 3) := dAt wdX4_dropJob_24 adX4_dropJob_24.2.2.2.2.2.2.1 rfl
theorem dX4_dropJob_35 : decode cX4_dropJob 35 = .ok (.iload_n 1, 1) := dAt wdX4_dropJob_24 adX4_dropJob_24.2.2.2.2.2.2.2.1 rfl
theorem dX4_dropJob_36 : decode cX4_dropJob 36 = .ok (.iaload, 1) := dAt wdX4_dropJob_24 adX4_dropJob_24.2.2.2.2.2.2.2.2.1 rfl
theorem dX4_dropJob_37 : decode cX4_dropJob 37 = .ok (.iastore, 1) := dAt wdX4_dropJob_24 adX4_dropJob_24.2.2.2.2.2.2.2.2.2.1 rfl
theorem dX4_dropJob_38 : decode cX4_dropJob 38 = .ok (.aload_n 0, 1) := dAt wdX4_dropJob_24 adX4_dropJob_24.2.2.2.2.2.2.2.2.2.2.1 rfl
theorem dX4_dropJob_39 : decode cX4_dropJob 39 = .ok (.getfield 41, 3) := dAt wdX4_dropJob_24 adX4_dropJob_24.2.2.2.2.2.2.2.2.2.2.2.1 rfl
theorem dX4_dropJob_42 : decode cX4_dropJob 42 = .ok (.iload_n 1, 1) := dAt wdX4_dropJob_24 adX4_dropJob_24.2.2.2.2.2.2.2.2.2.2.2.2.1 rfl
theorem dX4_dropJob_43 : decode cX4_dropJob 43 = .ok (.iconst 1, 1) := dAt wdX4_dropJob_24 adX4_dropJob_24.2.2.2.2.2.2.2.2.2.2.2.2.2.1 rfl
theorem dX4_dropJob_44 : decode cX4_dropJob 44 = .ok (.isub, 1) := dAt wdX4_dropJob_24 adX4_dropJob_24.2.2.2.2.2.2.2.2.2.2.2.2.2.2.1 rfl
theorem dX4_dropJob_45 : decode cX4_dropJob 45 = .ok (.aload_n 0, 1) := dAt wdX4_dropJob_24 adX4_dropJob_24.2.2.2.2.2.2.2.2.2.2.2.2.2.2.2 rfl
def bdX4_dropJob_46 : ByteArray := .mk #[180, 0, 41, 27, 46, 79, 42, 180, 0, 44, 27, 4, 100, 42, 180, 0, 44, 27, 51, 84, 132, 1, 1, 167, 255, 189]
theorem wdX4_dropJob_46 : LocW cX4_dropJob 46 bdX4_dropJob_46 := loc_of (by decide +kernel)
theorem adX4_dropJob_46 : De bdX4_dropJob_46 0 (.getfield 41) 3 ∧ De bdX4_dropJob_46 3 (.iload_n 1) 1 ∧ De bdX4_dropJob_46 4 (.iaload) 1 ∧ De bdX4_dropJob_46 5 (.iastore) 1 ∧ De bdX4_dropJob_46 6 (.aload_n 0) 1 ∧ De bdX4_dropJob_46 7 (.getfield 44) 3 ∧ De bdX4_dropJob_46 10 (.iload_n 1) 1 ∧ De bdX4_dropJob_46 11 (.iconst 1) 1 ∧ De bdX4_dropJob_46 12 (.isub) 1 ∧ De bdX4_dropJob_46 13 (.aload_n 0) 1 ∧ De bdX4_dropJob_46 14 (.getfield 44) 3 ∧ De bdX4_dropJob_46 17 (.iload_n 1) 1 ∧ De bdX4_dropJob_46 18 (.baload) 1 ∧ De bdX4_dropJob_46 19 (.bastore) 1 ∧ De bdX4_dropJob_46 20 (.iinc 1 1) 3 ∧ De bdX4_dropJob_46 23 (.goto (-67)) 3 := by decide +kernel
theorem dX4_dropJob_46 : decode cX4_dropJob 46 = .ok (.getfield 41, 3) := dAt wdX4_dropJob_46 adX4_dropJob_46.1 rfl
theorem dX4_dropJob_49 : decode cX4_dropJob 49 = .ok (.iload_n 1, 1) := dAt wdX4_dropJob_46 adX4_dropJob_46.2.1 rfl
theorem dX4_dropJob_50 : decode cX4_dropJob 50 = .ok (.iaload, 1) := dAt wdX4_dropJob_46 adX4_dropJob_46.2.2.1 rfl
theorem dX4_dropJob_51 : decode cX4_dropJob 51 = .ok (.iastore, 1) := dAt wdX4_dropJob_46 adX4_dropJob_46.2.2.2.1 rfl
theorem dX4_dropJob_52 : decode cX4_dropJob 52 = .ok (.aload_n 0, 1) := dAt wdX4_dropJob_46 adX4_dropJob_46.2.2.2.2.1 rfl
theorem dX4_dropJob_53 : decode cX4_dropJob 53 = .ok (.getfield 44, 3) := dAt wdX4_dropJob_46 adX4_dropJob_46.2.2.2.2.2.1 rfl
theorem dX4_dropJob_56 : decode cX4_dropJob 56 = .ok (.iload_n 1, 1) := dAt wdX4_dropJob_46 adX4_dropJob_46.2.2.2.2.2.2.1 rfl
theorem dX4_dropJob_57 : decode cX4_dropJob 57 = .ok (.iconst 1, 1) := dAt wdX4_dropJob_46 adX4_dropJob_46.2.2.2.2.2.2.2.1 rfl
theorem dX4_dropJob_58 : decode cX4_dropJob 58 = .ok (.isub, 1) := dAt wdX4_dropJob_46 adX4_dropJob_46.2.2.2.2.2.2.2.2.1 rfl
theorem dX4_dropJob_59 : decode cX4_dropJob 59 = .ok (.aload_n 0, 1) := dAt wdX4_dropJob_46 adX4_dropJob_46.2.2.2.2.2.2.2.2.2.1 rfl
theorem dX4_dropJob_60 : decode cX4_dropJob 60 = .ok (.getfield 44, 3) := dAt wdX4_dropJob_46 adX4_dropJob_46.2.2.2.2.2.2.2.2.2.2.1 rfl
theorem dX4_dropJob_63 : decode cX4_dropJob 63 = .ok (.iload_n 1, 1) := dAt wdX4_dropJob_46 adX4_dropJob_46.2.2.2.2.2.2.2.2.2.2.2.1 rfl
theorem dX4_dropJob_64 : decode cX4_dropJob 64 = .ok (.baload, 1) := dAt wdX4_dropJob_46 adX4_dropJob_46.2.2.2.2.2.2.2.2.2.2.2.2.1 rfl
theorem dX4_dropJob_65 : decode cX4_dropJob 65 = .ok (.bastore, 1) := dAt wdX4_dropJob_46 adX4_dropJob_46.2.2.2.2.2.2.2.2.2.2.2.2.2.1 rfl
theorem dX4_dropJob_66 : decode cX4_dropJob 66 = .ok (.iinc 1 1, 3) := dAt wdX4_dropJob_46 adX4_dropJob_46.2.2.2.2.2.2.2.2.2.2.2.2.2.2.1 rfl
theorem dX4_dropJob_69 : decode cX4_dropJob 69 = .ok (.goto (-67), 3) := dAt wdX4_dropJob_46 adX4_dropJob_46.2.2.2.2.2.2.2.2.2.2.2.2.2.2.2 rfl
def bdX4_dropJob_72 : ByteArray := .mk #[42, 3, 42, 180, 0, 23, 4, 100, 184, 0, 58, 181, 0, 23, 177]
theorem wdX4_dropJob_72 : LocW cX4_dropJob 72 bdX4_dropJob_72 := loc_of (by decide +kernel)
theorem adX4_dropJob_72 : De bdX4_dropJob_72 0 (.aload_n 0) 1 ∧ De bdX4_dropJob_72 1 (.iconst 0) 1 ∧ De bdX4_dropJob_72 2 (.aload_n 0) 1 ∧ De bdX4_dropJob_72 3 (.getfield 23) 3 ∧ De bdX4_dropJob_72 6 (.iconst 1) 1 ∧ De bdX4_dropJob_72 7 (.isub) 1 ∧ De bdX4_dropJob_72 8 (.invokestatic 58) 3 ∧ De bdX4_dropJob_72 11 (.putfield 23) 3 ∧ De bdX4_dropJob_72 14 (.return_) 1 := by decide +kernel
theorem dX4_dropJob_72 : decode cX4_dropJob 72 = .ok (.aload_n 0, 1) := dAt wdX4_dropJob_72 adX4_dropJob_72.1 rfl
theorem dX4_dropJob_73 : decode cX4_dropJob 73 = .ok (.iconst 0, 1) := dAt wdX4_dropJob_72 adX4_dropJob_72.2.1 rfl
theorem dX4_dropJob_74 : decode cX4_dropJob 74 = .ok (.aload_n 0, 1) := dAt wdX4_dropJob_72 adX4_dropJob_72.2.2.1 rfl
theorem dX4_dropJob_75 : decode cX4_dropJob 75 = .ok (.getfield 23, 3) := dAt wdX4_dropJob_72 adX4_dropJob_72.2.2.2.1 rfl
theorem dX4_dropJob_78 : decode cX4_dropJob 78 = .ok (.iconst 1, 1) := dAt wdX4_dropJob_72 adX4_dropJob_72.2.2.2.2.1 rfl
theorem dX4_dropJob_79 : decode cX4_dropJob 79 = .ok (.isub, 1) := dAt wdX4_dropJob_72 adX4_dropJob_72.2.2.2.2.2.1 rfl
theorem dX4_dropJob_80 : decode cX4_dropJob 80 = .ok (.invokestatic 58, 3) := dAt wdX4_dropJob_72 adX4_dropJob_72.2.2.2.2.2.2.1 rfl
theorem dX4_dropJob_83 : decode cX4_dropJob 83 = .ok (.putfield 23, 3) := dAt wdX4_dropJob_72 adX4_dropJob_72.2.2.2.2.2.2.2.1 rfl
theorem dX4_dropJob_86 : decode cX4_dropJob 86 = .ok (.return_, 1) := dAt wdX4_dropJob_72 adX4_dropJob_72.2.2.2.2.2.2.2.2 rfl
def bdX4_spike_0 : ByteArray := .mk #[42, 182, 0, 64, 42, 89, 180, 0, 32, 4, 96, 181, 0, 32, 177]
theorem wdX4_spike_0 : LocW cX4_spike 0 bdX4_spike_0 := loc_of (by decide +kernel)
theorem adX4_spike_0 : De bdX4_spike_0 0 (.aload_n 0) 1 ∧ De bdX4_spike_0 1 (.invokevirtual 64) 3 ∧ De bdX4_spike_0 4 (.aload_n 0) 1 ∧ De bdX4_spike_0 5 (.dup) 1 ∧ De bdX4_spike_0 6 (.getfield 32) 3 ∧ De bdX4_spike_0 9 (.iconst 1) 1 ∧ De bdX4_spike_0 10 (.iadd) 1 ∧ De bdX4_spike_0 11 (.putfield 32) 3 ∧ De bdX4_spike_0 14 (.return_) 1 := by decide +kernel
theorem dX4_spike_0 : decode cX4_spike 0 = .ok (.aload_n 0, 1) := dAt wdX4_spike_0 adX4_spike_0.1 rfl
theorem dX4_spike_1 : decode cX4_spike 1 = .ok (.invokevirtual 64, 3) := dAt wdX4_spike_0 adX4_spike_0.2.1 rfl
theorem dX4_spike_4 : decode cX4_spike 4 = .ok (.aload_n 0, 1) := dAt wdX4_spike_0 adX4_spike_0.2.2.1 rfl
theorem dX4_spike_5 : decode cX4_spike 5 = .ok (.dup, 1) := dAt wdX4_spike_0 adX4_spike_0.2.2.2.1 rfl
theorem dX4_spike_6 : decode cX4_spike 6 = .ok (.getfield 32, 3) := dAt wdX4_spike_0 adX4_spike_0.2.2.2.2.1 rfl
theorem dX4_spike_9 : decode cX4_spike 9 = .ok (.iconst 1, 1) := dAt wdX4_spike_0 adX4_spike_0.2.2.2.2.2.1 rfl
theorem dX4_spike_10 : decode cX4_spike 10 = .ok (.iadd, 1) := dAt wdX4_spike_0 adX4_spike_0.2.2.2.2.2.2.1 rfl
theorem dX4_spike_11 : decode cX4_spike 11 = .ok (.putfield 32, 3) := dAt wdX4_spike_0 adX4_spike_0.2.2.2.2.2.2.2.1 rfl
theorem dX4_spike_14 : decode cX4_spike 14 = .ok (.return_, 1) := dAt wdX4_spike_0 adX4_spike_0.2.2.2.2.2.2.2.2 rfl
def bdX4_cannotCast_0 : ByteArray := .mk #[3, 61, 28, 16, 27, 162, 0, 23, 43, 28, 46, 42, 180, 0, 9, 28, 46, 164, 0, 5, 4, 172, 132, 2, 1]
theorem wdX4_cannotCast_0 : LocW cX4_cannotCast 0 bdX4_cannotCast_0 := loc_of (by decide +kernel)
theorem adX4_cannotCast_0 : De bdX4_cannotCast_0 0 (.iconst 0) 1 ∧ De bdX4_cannotCast_0 1 (.istore_n 2) 1 ∧ De bdX4_cannotCast_0 2 (.iload_n 2) 1 ∧ De bdX4_cannotCast_0 3 (.bipush 27) 2 ∧ De bdX4_cannotCast_0 5 (.if_icmp .ge 23) 3 ∧ De bdX4_cannotCast_0 8 (.aload_n 1) 1 ∧ De bdX4_cannotCast_0 9 (.iload_n 2) 1 ∧ De bdX4_cannotCast_0 10 (.iaload) 1 ∧ De bdX4_cannotCast_0 11 (.aload_n 0) 1 ∧ De bdX4_cannotCast_0 12 (.getfield 9) 3 ∧ De bdX4_cannotCast_0 15 (.iload_n 2) 1 ∧ De bdX4_cannotCast_0 16 (.iaload) 1 ∧ De bdX4_cannotCast_0 17 (.if_icmp .le 5) 3 ∧ De bdX4_cannotCast_0 20 (.iconst 1) 1 ∧ De bdX4_cannotCast_0 21 (.ireturn) 1 ∧ De bdX4_cannotCast_0 22 (.iinc 2 1) 3 := by decide +kernel
theorem dX4_cannotCast_0 : decode cX4_cannotCast 0 = .ok (.iconst 0, 1) := dAt wdX4_cannotCast_0 adX4_cannotCast_0.1 rfl
theorem dX4_cannotCast_1 : decode cX4_cannotCast 1 = .ok (.istore_n 2, 1) := dAt wdX4_cannotCast_0 adX4_cannotCast_0.2.1 rfl
theorem dX4_cannotCast_2 : decode cX4_cannotCast 2 = .ok (.iload_n 2, 1) := dAt wdX4_cannotCast_0 adX4_cannotCast_0.2.2.1 rfl
theorem dX4_cannotCast_3 : decode cX4_cannotCast 3 = .ok (.bipush 27, 2) := dAt wdX4_cannotCast_0 adX4_cannotCast_0.2.2.2.1 rfl
theorem dX4_cannotCast_5 : decode cX4_cannotCast 5 = .ok (.if_icmp .ge 23, 3) := dAt wdX4_cannotCast_0 adX4_cannotCast_0.2.2.2.2.1 rfl
theorem dX4_cannotCast_8 : decode cX4_cannotCast 8 = .ok (.aload_n 1, 1) := dAt wdX4_cannotCast_0 adX4_cannotCast_0.2.2.2.2.2.1 rfl
theorem dX4_cannotCast_9 : decode cX4_cannotCast 9 = .ok (.iload_n 2, 1) := dAt wdX4_cannotCast_0 adX4_cannotCast_0.2.2.2.2.2.2.1 rfl
theorem dX4_cannotCast_10 : decode cX4_cannotCast 10 = .ok (.iaload, 1) := dAt wdX4_cannotCast_0 adX4_cannotCast_0.2.2.2.2.2.2.2.1 rfl
theorem dX4_cannotCast_11 : decode cX4_cannotCast 11 = .ok (.aload_n 0, 1) := dAt wdX4_cannotCast_0 adX4_cannotCast_0.2.2.2.2.2.2.2.2.1 rfl
theorem dX4_cannotCast_12 : decode cX4_cannotCast 12 = .ok (.getfield 9, 3) := dAt wdX4_cannotCast_0 adX4_cannotCast_0.2.2.2.2.2.2.2.2.2.1 rfl
theorem dX4_cannotCast_15 : decode cX4_cannotCast 15 = .ok (.iload_n 2, 1) := dAt wdX4_cannotCast_0 adX4_cannotCast_0.2.2.2.2.2.2.2.2.2.2.1 rfl
theorem dX4_cannotCast_16 : decode cX4_cannotCast 16 = .ok (.iaload, 1) := dAt wdX4_cannotCast_0 adX4_cannotCast_0.2.2.2.2.2.2.2.2.2.2.2.1 rfl
theorem dX4_cannotCast_17 : decode cX4_cannotCast 17 = .ok (.if_icmp .le 5, 3) := dAt wdX4_cannotCast_0 adX4_cannotCast_0.2.2.2.2.2.2.2.2.2.2.2.2.1 rfl
theorem dX4_cannotCast_20 : decode cX4_cannotCast 20 = .ok (.iconst 1, 1) := dAt wdX4_cannotCast_0 adX4_cannotCast_0.2.2.2.2.2.2.2.2.2.2.2.2.2.1 rfl
theorem dX4_cannotCast_21 : decode cX4_cannotCast 21 = .ok (.ireturn, 1) := dAt wdX4_cannotCast_0 adX4_cannotCast_0.2.2.2.2.2.2.2.2.2.2.2.2.2.2.1 rfl
theorem dX4_cannotCast_22 : decode cX4_cannotCast 22 = .ok (.iinc 2 1, 3) := dAt wdX4_cannotCast_0 adX4_cannotCast_0.2.2.2.2.2.2.2.2.2.2.2.2.2.2.2 rfl
def bdX4_cannotCast_25 : ByteArray := .mk #[167, 255, 233, 3, 172]
theorem wdX4_cannotCast_25 : LocW cX4_cannotCast 25 bdX4_cannotCast_25 := loc_of (by decide +kernel)
theorem adX4_cannotCast_25 : De bdX4_cannotCast_25 0 (.goto (-23)) 3 ∧ De bdX4_cannotCast_25 3 (.iconst 0) 1 ∧ De bdX4_cannotCast_25 4 (.ireturn) 1 := by decide +kernel
theorem dX4_cannotCast_25 : decode cX4_cannotCast 25 = .ok (.goto (-23), 3) := dAt wdX4_cannotCast_25 adX4_cannotCast_25.1 rfl
theorem dX4_cannotCast_28 : decode cX4_cannotCast 28 = .ok (.iconst 0, 1) := dAt wdX4_cannotCast_25 adX4_cannotCast_25.2.1 rfl
theorem dX4_cannotCast_29 : decode cX4_cannotCast 29 = .ok (.ireturn, 1) := dAt wdX4_cannotCast_25 adX4_cannotCast_25.2.2 rfl
def bdX4_isShort_0 : ByteArray := .mk #[3, 62, 29, 16, 27, 162, 0, 31, 43, 29, 46, 3, 42, 180, 0, 9, 29, 46, 44, 29, 46]
theorem wdX4_isShort_0 : LocW cX4_isShort 0 bdX4_isShort_0 := loc_of (by decide +kernel)
theorem adX4_isShort_0 : De bdX4_isShort_0 0 (.iconst 0) 1 ∧ De bdX4_isShort_0 1 (.istore_n 3) 1 ∧ De bdX4_isShort_0 2 (.iload_n 3) 1 ∧ De bdX4_isShort_0 3 (.bipush 27) 2 ∧ De bdX4_isShort_0 5 (.if_icmp .ge 31) 3 ∧ De bdX4_isShort_0 8 (.aload_n 1) 1 ∧ De bdX4_isShort_0 9 (.iload_n 3) 1 ∧ De bdX4_isShort_0 10 (.iaload) 1 ∧ De bdX4_isShort_0 11 (.iconst 0) 1 ∧ De bdX4_isShort_0 12 (.aload_n 0) 1 ∧ De bdX4_isShort_0 13 (.getfield 9) 3 ∧ De bdX4_isShort_0 16 (.iload_n 3) 1 ∧ De bdX4_isShort_0 17 (.iaload) 1 ∧ De bdX4_isShort_0 18 (.aload_n 2) 1 ∧ De bdX4_isShort_0 19 (.iload_n 3) 1 ∧ De bdX4_isShort_0 20 (.iaload) 1 := by decide +kernel
theorem dX4_isShort_0 : decode cX4_isShort 0 = .ok (.iconst 0, 1) := dAt wdX4_isShort_0 adX4_isShort_0.1 rfl
theorem dX4_isShort_1 : decode cX4_isShort 1 = .ok (.istore_n 3, 1) := dAt wdX4_isShort_0 adX4_isShort_0.2.1 rfl
theorem dX4_isShort_2 : decode cX4_isShort 2 = .ok (.iload_n 3, 1) := dAt wdX4_isShort_0 adX4_isShort_0.2.2.1 rfl
theorem dX4_isShort_3 : decode cX4_isShort 3 = .ok (.bipush 27, 2) := dAt wdX4_isShort_0 adX4_isShort_0.2.2.2.1 rfl
theorem dX4_isShort_5 : decode cX4_isShort 5 = .ok (.if_icmp .ge 31, 3) := dAt wdX4_isShort_0 adX4_isShort_0.2.2.2.2.1 rfl
theorem dX4_isShort_8 : decode cX4_isShort 8 = .ok (.aload_n 1, 1) := dAt wdX4_isShort_0 adX4_isShort_0.2.2.2.2.2.1 rfl
theorem dX4_isShort_9 : decode cX4_isShort 9 = .ok (.iload_n 3, 1) := dAt wdX4_isShort_0 adX4_isShort_0.2.2.2.2.2.2.1 rfl
theorem dX4_isShort_10 : decode cX4_isShort 10 = .ok (.iaload, 1) := dAt wdX4_isShort_0 adX4_isShort_0.2.2.2.2.2.2.2.1 rfl
theorem dX4_isShort_11 : decode cX4_isShort 11 = .ok (.iconst 0, 1) := dAt wdX4_isShort_0 adX4_isShort_0.2.2.2.2.2.2.2.2.1 rfl
theorem dX4_isShort_12 : decode cX4_isShort 12 = .ok (.aload_n 0, 1) := dAt wdX4_isShort_0 adX4_isShort_0.2.2.2.2.2.2.2.2.2.1 rfl
theorem dX4_isShort_13 : decode cX4_isShort 13 = .ok (.getfield 9, 3) := dAt wdX4_isShort_0 adX4_isShort_0.2.2.2.2.2.2.2.2.2.2.1 rfl
theorem dX4_isShort_16 : decode cX4_isShort 16 = .ok (.iload_n 3, 1) := dAt wdX4_isShort_0 adX4_isShort_0.2.2.2.2.2.2.2.2.2.2.2.1 rfl
theorem dX4_isShort_17 : decode cX4_isShort 17 = .ok (.iaload, 1) := dAt wdX4_isShort_0 adX4_isShort_0.2.2.2.2.2.2.2.2.2.2.2.2.1 rfl
theorem dX4_isShort_18 : decode cX4_isShort 18 = .ok (.aload_n 2, 1) := dAt wdX4_isShort_0 adX4_isShort_0.2.2.2.2.2.2.2.2.2.2.2.2.2.1 rfl
theorem dX4_isShort_19 : decode cX4_isShort 19 = .ok (.iload_n 3, 1) := dAt wdX4_isShort_0 adX4_isShort_0.2.2.2.2.2.2.2.2.2.2.2.2.2.2.1 rfl
theorem dX4_isShort_20 : decode cX4_isShort 20 = .ok (.iaload, 1) := dAt wdX4_isShort_0 adX4_isShort_0.2.2.2.2.2.2.2.2.2.2.2.2.2.2.2 rfl
def bdX4_isShort_21 : ByteArray := .mk #[100, 184, 0, 58, 164, 0, 5, 4, 172, 132, 3, 1, 167, 255, 225, 3, 172]
theorem wdX4_isShort_21 : LocW cX4_isShort 21 bdX4_isShort_21 := loc_of (by decide +kernel)
theorem adX4_isShort_21 : De bdX4_isShort_21 0 (.isub) 1 ∧ De bdX4_isShort_21 1 (.invokestatic 58) 3 ∧ De bdX4_isShort_21 4 (.if_icmp .le 5) 3 ∧ De bdX4_isShort_21 7 (.iconst 1) 1 ∧ De bdX4_isShort_21 8 (.ireturn) 1 ∧ De bdX4_isShort_21 9 (.iinc 3 1) 3 ∧ De bdX4_isShort_21 12 (.goto (-31)) 3 ∧ De bdX4_isShort_21 15 (.iconst 0) 1 ∧ De bdX4_isShort_21 16 (.ireturn) 1 := by decide +kernel
theorem dX4_isShort_21 : decode cX4_isShort 21 = .ok (.isub, 1) := dAt wdX4_isShort_21 adX4_isShort_21.1 rfl
theorem dX4_isShort_22 : decode cX4_isShort 22 = .ok (.invokestatic 58, 3) := dAt wdX4_isShort_21 adX4_isShort_21.2.1 rfl
theorem dX4_isShort_25 : decode cX4_isShort 25 = .ok (.if_icmp .le 5, 3) := dAt wdX4_isShort_21 adX4_isShort_21.2.2.1 rfl
theorem dX4_isShort_28 : decode cX4_isShort 28 = .ok (.iconst 1, 1) := dAt wdX4_isShort_21 adX4_isShort_21.2.2.2.1 rfl
theorem dX4_isShort_29 : decode cX4_isShort 29 = .ok (.ireturn, 1) := dAt wdX4_isShort_21 adX4_isShort_21.2.2.2.2.1 rfl
theorem dX4_isShort_30 : decode cX4_isShort 30 = .ok (.iinc 3 1, 3) := dAt wdX4_isShort_21 adX4_isShort_21.2.2.2.2.2.1 rfl
theorem dX4_isShort_33 : decode cX4_isShort 33 = .ok (.goto (-31), 3) := dAt wdX4_isShort_21 adX4_isShort_21.2.2.2.2.2.2.1 rfl
theorem dX4_isShort_36 : decode cX4_isShort 36 = .ok (.iconst 0, 1) := dAt wdX4_isShort_21 adX4_isShort_21.2.2.2.2.2.2.2.1 rfl
theorem dX4_isShort_37 : decode cX4_isShort 37 = .ok (.ireturn, 1) := dAt wdX4_isShort_21 adX4_isShort_21.2.2.2.2.2.2.2.2 rfl
def bdX4_hasJobOf_0 : ByteArray := .mk #[3, 61, 28, 42, 180, 0, 23, 162, 0, 21, 42, 180, 0, 35, 28, 46, 27, 160, 0, 5, 4, 172, 132, 2, 1, 167, 255, 233]
theorem wdX4_hasJobOf_0 : LocW cX4_hasJobOf 0 bdX4_hasJobOf_0 := loc_of (by decide +kernel)
theorem adX4_hasJobOf_0 : De bdX4_hasJobOf_0 0 (.iconst 0) 1 ∧ De bdX4_hasJobOf_0 1 (.istore_n 2) 1 ∧ De bdX4_hasJobOf_0 2 (.iload_n 2) 1 ∧ De bdX4_hasJobOf_0 3 (.aload_n 0) 1 ∧ De bdX4_hasJobOf_0 4 (.getfield 23) 3 ∧ De bdX4_hasJobOf_0 7 (.if_icmp .ge 21) 3 ∧ De bdX4_hasJobOf_0 10 (.aload_n 0) 1 ∧ De bdX4_hasJobOf_0 11 (.getfield 35) 3 ∧ De bdX4_hasJobOf_0 14 (.iload_n 2) 1 ∧ De bdX4_hasJobOf_0 15 (.iaload) 1 ∧ De bdX4_hasJobOf_0 16 (.iload_n 1) 1 ∧ De bdX4_hasJobOf_0 17 (.if_icmp .ne 5) 3 ∧ De bdX4_hasJobOf_0 20 (.iconst 1) 1 ∧ De bdX4_hasJobOf_0 21 (.ireturn) 1 ∧ De bdX4_hasJobOf_0 22 (.iinc 2 1) 3 ∧ De bdX4_hasJobOf_0 25 (.goto (-23)) 3 := by decide +kernel
theorem dX4_hasJobOf_0 : decode cX4_hasJobOf 0 = .ok (.iconst 0, 1) := dAt wdX4_hasJobOf_0 adX4_hasJobOf_0.1 rfl
theorem dX4_hasJobOf_1 : decode cX4_hasJobOf 1 = .ok (.istore_n 2, 1) := dAt wdX4_hasJobOf_0 adX4_hasJobOf_0.2.1 rfl
theorem dX4_hasJobOf_2 : decode cX4_hasJobOf 2 = .ok (.iload_n 2, 1) := dAt wdX4_hasJobOf_0 adX4_hasJobOf_0.2.2.1 rfl
theorem dX4_hasJobOf_3 : decode cX4_hasJobOf 3 = .ok (.aload_n 0, 1) := dAt wdX4_hasJobOf_0 adX4_hasJobOf_0.2.2.2.1 rfl
theorem dX4_hasJobOf_4 : decode cX4_hasJobOf 4 = .ok (.getfield 23, 3) := dAt wdX4_hasJobOf_0 adX4_hasJobOf_0.2.2.2.2.1 rfl
theorem dX4_hasJobOf_7 : decode cX4_hasJobOf 7 = .ok (.if_icmp .ge 21, 3) := dAt wdX4_hasJobOf_0 adX4_hasJobOf_0.2.2.2.2.2.1 rfl
theorem dX4_hasJobOf_10 : decode cX4_hasJobOf 10 = .ok (.aload_n 0, 1) := dAt wdX4_hasJobOf_0 adX4_hasJobOf_0.2.2.2.2.2.2.1 rfl
theorem dX4_hasJobOf_11 : decode cX4_hasJobOf 11 = .ok (.getfield 35, 3) := dAt wdX4_hasJobOf_0 adX4_hasJobOf_0.2.2.2.2.2.2.2.1 rfl
theorem dX4_hasJobOf_14 : decode cX4_hasJobOf 14 = .ok (.iload_n 2, 1) := dAt wdX4_hasJobOf_0 adX4_hasJobOf_0.2.2.2.2.2.2.2.2.1 rfl
theorem dX4_hasJobOf_15 : decode cX4_hasJobOf 15 = .ok (.iaload, 1) := dAt wdX4_hasJobOf_0 adX4_hasJobOf_0.2.2.2.2.2.2.2.2.2.1 rfl
theorem dX4_hasJobOf_16 : decode cX4_hasJobOf 16 = .ok (.iload_n 1, 1) := dAt wdX4_hasJobOf_0 adX4_hasJobOf_0.2.2.2.2.2.2.2.2.2.2.1 rfl
theorem dX4_hasJobOf_17 : decode cX4_hasJobOf 17 = .ok (.if_icmp .ne 5, 3) := dAt wdX4_hasJobOf_0 adX4_hasJobOf_0.2.2.2.2.2.2.2.2.2.2.2.1 rfl
theorem dX4_hasJobOf_20 : decode cX4_hasJobOf 20 = .ok (.iconst 1, 1) := dAt wdX4_hasJobOf_0 adX4_hasJobOf_0.2.2.2.2.2.2.2.2.2.2.2.2.1 rfl
theorem dX4_hasJobOf_21 : decode cX4_hasJobOf 21 = .ok (.ireturn, 1) := dAt wdX4_hasJobOf_0 adX4_hasJobOf_0.2.2.2.2.2.2.2.2.2.2.2.2.2.1 rfl
theorem dX4_hasJobOf_22 : decode cX4_hasJobOf 22 = .ok (.iinc 2 1, 3) := dAt wdX4_hasJobOf_0 adX4_hasJobOf_0.2.2.2.2.2.2.2.2.2.2.2.2.2.2.1 rfl
theorem dX4_hasJobOf_25 : decode cX4_hasJobOf 25 = .ok (.goto (-23), 3) := dAt wdX4_hasJobOf_0 adX4_hasJobOf_0.2.2.2.2.2.2.2.2.2.2.2.2.2.2.2 rfl
def bdX4_hasJobOf_28 : ByteArray := .mk #[3, 172]
theorem wdX4_hasJobOf_28 : LocW cX4_hasJobOf 28 bdX4_hasJobOf_28 := loc_of (by decide +kernel)
theorem adX4_hasJobOf_28 : De bdX4_hasJobOf_28 0 (.iconst 0) 1 ∧ De bdX4_hasJobOf_28 1 (.ireturn) 1 := by decide +kernel
theorem dX4_hasJobOf_28 : decode cX4_hasJobOf 28 = .ok (.iconst 0, 1) := dAt wdX4_hasJobOf_28 adX4_hasJobOf_28.1 rfl
theorem dX4_hasJobOf_29 : decode cX4_hasJobOf 29 = .ok (.ireturn, 1) := dAt wdX4_hasJobOf_28 adX4_hasJobOf_28.2 rfl
def bdX5_init_0 : ByteArray := .mk #[42, 183, 0, 3, 42, 17, 1, 224, 188, 8, 181, 0, 9, 42, 16, 41, 188, 10, 181, 0, 15, 42, 16, 40, 188, 4, 181, 0, 19, 42, 16, 40]
theorem wdX5_init_0 : LocW cX5_init 0 bdX5_init_0 := loc_of (by decide +kernel)
theorem adX5_init_0 : De bdX5_init_0 0 (.aload_n 0) 1 ∧ De bdX5_init_0 1 (.invokespecial 3) 3 ∧ De bdX5_init_0 4 (.aload_n 0) 1 ∧ De bdX5_init_0 5 (.sipush 480) 3 ∧ De bdX5_init_0 8 (.newarray .byte) 2 ∧ De bdX5_init_0 10 (.putfield 9) 3 ∧ De bdX5_init_0 13 (.aload_n 0) 1 ∧ De bdX5_init_0 14 (.bipush 41) 2 ∧ De bdX5_init_0 16 (.newarray .int) 2 ∧ De bdX5_init_0 18 (.putfield 15) 3 ∧ De bdX5_init_0 21 (.aload_n 0) 1 ∧ De bdX5_init_0 22 (.bipush 40) 2 ∧ De bdX5_init_0 24 (.newarray .boolean) 2 ∧ De bdX5_init_0 26 (.putfield 19) 3 ∧ De bdX5_init_0 29 (.aload_n 0) 1 ∧ De bdX5_init_0 30 (.bipush 40) 2 := by decide +kernel
theorem dX5_init_0 : decode cX5_init 0 = .ok (.aload_n 0, 1) := dAt wdX5_init_0 adX5_init_0.1 rfl
theorem dX5_init_1 : decode cX5_init 1 = .ok (.invokespecial 3, 3) := dAt wdX5_init_0 adX5_init_0.2.1 rfl
theorem dX5_init_4 : decode cX5_init 4 = .ok (.aload_n 0, 1) := dAt wdX5_init_0 adX5_init_0.2.2.1 rfl
theorem dX5_init_5 : decode cX5_init 5 = .ok (.sipush 480, 3) := dAt wdX5_init_0 adX5_init_0.2.2.2.1 rfl
theorem dX5_init_8 : decode cX5_init 8 = .ok (.newarray .byte, 2) := dAt wdX5_init_0 adX5_init_0.2.2.2.2.1 rfl
theorem dX5_init_10 : decode cX5_init 10 = .ok (.putfield 9, 3) := dAt wdX5_init_0 adX5_init_0.2.2.2.2.2.1 rfl
theorem dX5_init_13 : decode cX5_init 13 = .ok (.aload_n 0, 1) := dAt wdX5_init_0 adX5_init_0.2.2.2.2.2.2.1 rfl
theorem dX5_init_14 : decode cX5_init 14 = .ok (.bipush 41, 2) := dAt wdX5_init_0 adX5_init_0.2.2.2.2.2.2.2.1 rfl
theorem dX5_init_16 : decode cX5_init 16 = .ok (.newarray .int, 2) := dAt wdX5_init_0 adX5_init_0.2.2.2.2.2.2.2.2.1 rfl
theorem dX5_init_18 : decode cX5_init 18 = .ok (.putfield 15, 3) := dAt wdX5_init_0 adX5_init_0.2.2.2.2.2.2.2.2.2.1 rfl
theorem dX5_init_21 : decode cX5_init 21 = .ok (.aload_n 0, 1) := dAt wdX5_init_0 adX5_init_0.2.2.2.2.2.2.2.2.2.2.1 rfl
theorem dX5_init_22 : decode cX5_init 22 = .ok (.bipush 40, 2) := dAt wdX5_init_0 adX5_init_0.2.2.2.2.2.2.2.2.2.2.2.1 rfl
theorem dX5_init_24 : decode cX5_init 24 = .ok (.newarray .boolean, 2) := dAt wdX5_init_0 adX5_init_0.2.2.2.2.2.2.2.2.2.2.2.2.1 rfl
theorem dX5_init_26 : decode cX5_init 26 = .ok (.putfield 19, 3) := dAt wdX5_init_0 adX5_init_0.2.2.2.2.2.2.2.2.2.2.2.2.2.1 rfl
theorem dX5_init_29 : decode cX5_init 29 = .ok (.aload_n 0, 1) := dAt wdX5_init_0 adX5_init_0.2.2.2.2.2.2.2.2.2.2.2.2.2.2.1 rfl
theorem dX5_init_30 : decode cX5_init 30 = .ok (.bipush 40, 2) := dAt wdX5_init_0 adX5_init_0.2.2.2.2.2.2.2.2.2.2.2.2.2.2.2 rfl
def bdX5_init_32 : ByteArray := .mk #[188, 10, 181, 0, 23, 42, 16, 40, 188, 10, 181, 0, 26, 42, 3, 181, 0, 29, 42, 3, 181, 0, 33, 42, 3, 181, 0, 36, 42]
theorem wdX5_init_32 : LocW cX5_init 32 bdX5_init_32 := loc_of (by decide +kernel)
theorem adX5_init_32 : De bdX5_init_32 0 (.newarray .int) 2 ∧ De bdX5_init_32 2 (.putfield 23) 3 ∧ De bdX5_init_32 5 (.aload_n 0) 1 ∧ De bdX5_init_32 6 (.bipush 40) 2 ∧ De bdX5_init_32 8 (.newarray .int) 2 ∧ De bdX5_init_32 10 (.putfield 26) 3 ∧ De bdX5_init_32 13 (.aload_n 0) 1 ∧ De bdX5_init_32 14 (.iconst 0) 1 ∧ De bdX5_init_32 15 (.putfield 29) 3 ∧ De bdX5_init_32 18 (.aload_n 0) 1 ∧ De bdX5_init_32 19 (.iconst 0) 1 ∧ De bdX5_init_32 20 (.putfield 33) 3 ∧ De bdX5_init_32 23 (.aload_n 0) 1 ∧ De bdX5_init_32 24 (.iconst 0) 1 ∧ De bdX5_init_32 25 (.putfield 36) 3 ∧ De bdX5_init_32 28 (.aload_n 0) 1 := by decide +kernel
theorem dX5_init_32 : decode cX5_init 32 = .ok (.newarray .int, 2) := dAt wdX5_init_32 adX5_init_32.1 rfl
theorem dX5_init_34 : decode cX5_init 34 = .ok (.putfield 23, 3) := dAt wdX5_init_32 adX5_init_32.2.1 rfl
theorem dX5_init_37 : decode cX5_init 37 = .ok (.aload_n 0, 1) := dAt wdX5_init_32 adX5_init_32.2.2.1 rfl
theorem dX5_init_38 : decode cX5_init 38 = .ok (.bipush 40, 2) := dAt wdX5_init_32 adX5_init_32.2.2.2.1 rfl
theorem dX5_init_40 : decode cX5_init 40 = .ok (.newarray .int, 2) := dAt wdX5_init_32 adX5_init_32.2.2.2.2.1 rfl
theorem dX5_init_42 : decode cX5_init 42 = .ok (.putfield 26, 3) := dAt wdX5_init_32 adX5_init_32.2.2.2.2.2.1 rfl
theorem dX5_init_45 : decode cX5_init 45 = .ok (.aload_n 0, 1) := dAt wdX5_init_32 adX5_init_32.2.2.2.2.2.2.1 rfl
theorem dX5_init_46 : decode cX5_init 46 = .ok (.iconst 0, 1) := dAt wdX5_init_32 adX5_init_32.2.2.2.2.2.2.2.1 rfl
theorem dX5_init_47 : decode cX5_init 47 = .ok (.putfield 29, 3) := dAt wdX5_init_32 adX5_init_32.2.2.2.2.2.2.2.2.1 rfl
theorem dX5_init_50 : decode cX5_init 50 = .ok (.aload_n 0, 1) := dAt wdX5_init_32 adX5_init_32.2.2.2.2.2.2.2.2.2.1 rfl
theorem dX5_init_51 : decode cX5_init 51 = .ok (.iconst 0, 1) := dAt wdX5_init_32 adX5_init_32.2.2.2.2.2.2.2.2.2.2.1 rfl
theorem dX5_init_52 : decode cX5_init 52 = .ok (.putfield 33, 3) := dAt wdX5_init_32 adX5_init_32.2.2.2.2.2.2.2.2.2.2.2.1 rfl
theorem dX5_init_55 : decode cX5_init 55 = .ok (.aload_n 0, 1) := dAt wdX5_init_32 adX5_init_32.2.2.2.2.2.2.2.2.2.2.2.2.1 rfl
theorem dX5_init_56 : decode cX5_init 56 = .ok (.iconst 0, 1) := dAt wdX5_init_32 adX5_init_32.2.2.2.2.2.2.2.2.2.2.2.2.2.1 rfl
theorem dX5_init_57 : decode cX5_init 57 = .ok (.putfield 36, 3) := dAt wdX5_init_32 adX5_init_32.2.2.2.2.2.2.2.2.2.2.2.2.2.2.1 rfl
theorem dX5_init_60 : decode cX5_init 60 = .ok (.aload_n 0, 1) := dAt wdX5_init_32 adX5_init_32.2.2.2.2.2.2.2.2.2.2.2.2.2.2.2 rfl
def bdX5_init_61 : ByteArray := .mk #[3, 181, 0, 39, 42, 3, 181, 0, 42, 42, 3, 181, 0, 45, 42, 3, 181, 0, 49, 177]
theorem wdX5_init_61 : LocW cX5_init 61 bdX5_init_61 := loc_of (by decide +kernel)
theorem adX5_init_61 : De bdX5_init_61 0 (.iconst 0) 1 ∧ De bdX5_init_61 1 (.putfield 39) 3 ∧ De bdX5_init_61 4 (.aload_n 0) 1 ∧ De bdX5_init_61 5 (.iconst 0) 1 ∧ De bdX5_init_61 6 (.putfield 42) 3 ∧ De bdX5_init_61 9 (.aload_n 0) 1 ∧ De bdX5_init_61 10 (.iconst 0) 1 ∧ De bdX5_init_61 11 (.putfield 45) 3 ∧ De bdX5_init_61 14 (.aload_n 0) 1 ∧ De bdX5_init_61 15 (.iconst 0) 1 ∧ De bdX5_init_61 16 (.putfield 49) 3 ∧ De bdX5_init_61 19 (.return_) 1 := by decide +kernel
theorem dX5_init_61 : decode cX5_init 61 = .ok (.iconst 0, 1) := dAt wdX5_init_61 adX5_init_61.1 rfl
theorem dX5_init_62 : decode cX5_init 62 = .ok (.putfield 39, 3) := dAt wdX5_init_61 adX5_init_61.2.1 rfl
theorem dX5_init_65 : decode cX5_init 65 = .ok (.aload_n 0, 1) := dAt wdX5_init_61 adX5_init_61.2.2.1 rfl
theorem dX5_init_66 : decode cX5_init 66 = .ok (.iconst 0, 1) := dAt wdX5_init_61 adX5_init_61.2.2.2.1 rfl
theorem dX5_init_67 : decode cX5_init 67 = .ok (.putfield 42, 3) := dAt wdX5_init_61 adX5_init_61.2.2.2.2.1 rfl
theorem dX5_init_70 : decode cX5_init 70 = .ok (.aload_n 0, 1) := dAt wdX5_init_61 adX5_init_61.2.2.2.2.2.1 rfl
theorem dX5_init_71 : decode cX5_init 71 = .ok (.iconst 0, 1) := dAt wdX5_init_61 adX5_init_61.2.2.2.2.2.2.1 rfl
theorem dX5_init_72 : decode cX5_init 72 = .ok (.putfield 45, 3) := dAt wdX5_init_61 adX5_init_61.2.2.2.2.2.2.2.1 rfl
theorem dX5_init_75 : decode cX5_init 75 = .ok (.aload_n 0, 1) := dAt wdX5_init_61 adX5_init_61.2.2.2.2.2.2.2.2.1 rfl
theorem dX5_init_76 : decode cX5_init 76 = .ok (.iconst 0, 1) := dAt wdX5_init_61 adX5_init_61.2.2.2.2.2.2.2.2.2.1 rfl
theorem dX5_init_77 : decode cX5_init 77 = .ok (.putfield 49, 3) := dAt wdX5_init_61 adX5_init_61.2.2.2.2.2.2.2.2.2.2.1 rfl
theorem dX5_init_80 : decode cX5_init 80 = .ok (.return_, 1) := dAt wdX5_init_61 adX5_init_61.2.2.2.2.2.2.2.2.2.2.2 rfl
def bdX5_takeAll_0 : ByteArray := .mk #[42, 43, 182, 0, 52, 42, 43, 182, 0, 56, 42, 43, 180, 0, 36, 181, 0, 36, 42, 43, 180, 0, 39, 181, 0, 39, 42, 43]
theorem wdX5_takeAll_0 : LocW cX5_takeAll 0 bdX5_takeAll_0 := loc_of (by decide +kernel)
theorem adX5_takeAll_0 : De bdX5_takeAll_0 0 (.aload_n 0) 1 ∧ De bdX5_takeAll_0 1 (.aload_n 1) 1 ∧ De bdX5_takeAll_0 2 (.invokevirtual 52) 3 ∧ De bdX5_takeAll_0 5 (.aload_n 0) 1 ∧ De bdX5_takeAll_0 6 (.aload_n 1) 1 ∧ De bdX5_takeAll_0 7 (.invokevirtual 56) 3 ∧ De bdX5_takeAll_0 10 (.aload_n 0) 1 ∧ De bdX5_takeAll_0 11 (.aload_n 1) 1 ∧ De bdX5_takeAll_0 12 (.getfield 36) 3 ∧ De bdX5_takeAll_0 15 (.putfield 36) 3 ∧ De bdX5_takeAll_0 18 (.aload_n 0) 1 ∧ De bdX5_takeAll_0 19 (.aload_n 1) 1 ∧ De bdX5_takeAll_0 20 (.getfield 39) 3 ∧ De bdX5_takeAll_0 23 (.putfield 39) 3 ∧ De bdX5_takeAll_0 26 (.aload_n 0) 1 ∧ De bdX5_takeAll_0 27 (.aload_n 1) 1 := by decide +kernel
theorem dX5_takeAll_0 : decode cX5_takeAll 0 = .ok (.aload_n 0, 1) := dAt wdX5_takeAll_0 adX5_takeAll_0.1 rfl
theorem dX5_takeAll_1 : decode cX5_takeAll 1 = .ok (.aload_n 1, 1) := dAt wdX5_takeAll_0 adX5_takeAll_0.2.1 rfl
theorem dX5_takeAll_2 : decode cX5_takeAll 2 = .ok (.invokevirtual 52, 3) := dAt wdX5_takeAll_0 adX5_takeAll_0.2.2.1 rfl
theorem dX5_takeAll_5 : decode cX5_takeAll 5 = .ok (.aload_n 0, 1) := dAt wdX5_takeAll_0 adX5_takeAll_0.2.2.2.1 rfl
theorem dX5_takeAll_6 : decode cX5_takeAll 6 = .ok (.aload_n 1, 1) := dAt wdX5_takeAll_0 adX5_takeAll_0.2.2.2.2.1 rfl
theorem dX5_takeAll_7 : decode cX5_takeAll 7 = .ok (.invokevirtual 56, 3) := dAt wdX5_takeAll_0 adX5_takeAll_0.2.2.2.2.2.1 rfl
theorem dX5_takeAll_10 : decode cX5_takeAll 10 = .ok (.aload_n 0, 1) := dAt wdX5_takeAll_0 adX5_takeAll_0.2.2.2.2.2.2.1 rfl
theorem dX5_takeAll_11 : decode cX5_takeAll 11 = .ok (.aload_n 1, 1) := dAt wdX5_takeAll_0 adX5_takeAll_0.2.2.2.2.2.2.2.1 rfl
theorem dX5_takeAll_12 : decode cX5_takeAll 12 = .ok (.getfield 36, 3) := dAt wdX5_takeAll_0 adX5_takeAll_0.2.2.2.2.2.2.2.2.1 rfl
theorem dX5_takeAll_15 : decode cX5_takeAll 15 = .ok (.putfield 36, 3) := dAt wdX5_takeAll_0 adX5_takeAll_0.2.2.2.2.2.2.2.2.2.1 rfl
theorem dX5_takeAll_18 : decode cX5_takeAll 18 = .ok (.aload_n 0, 1) := dAt wdX5_takeAll_0 adX5_takeAll_0.2.2.2.2.2.2.2.2.2.2.1 rfl
theorem dX5_takeAll_19 : decode cX5_takeAll 19 = .ok (.aload_n 1, 1) := dAt wdX5_takeAll_0 adX5_takeAll_0.2.2.2.2.2.2.2.2.2.2.2.1 rfl
theorem dX5_takeAll_20 : decode cX5_takeAll 20 = .ok (.getfield 39, 3) := dAt wdX5_takeAll_0 adX5_takeAll_0.2.2.2.2.2.2.2.2.2.2.2.2.1 rfl
theorem dX5_takeAll_23 : decode cX5_takeAll 23 = .ok (.putfield 39, 3) := dAt wdX5_takeAll_0 adX5_takeAll_0.2.2.2.2.2.2.2.2.2.2.2.2.2.1 rfl
theorem dX5_takeAll_26 : decode cX5_takeAll 26 = .ok (.aload_n 0, 1) := dAt wdX5_takeAll_0 adX5_takeAll_0.2.2.2.2.2.2.2.2.2.2.2.2.2.2.1 rfl
theorem dX5_takeAll_27 : decode cX5_takeAll 27 = .ok (.aload_n 1, 1) := dAt wdX5_takeAll_0 adX5_takeAll_0.2.2.2.2.2.2.2.2.2.2.2.2.2.2.2 rfl
def bdX5_takeAll_28 : ByteArray := .mk #[180, 0, 45, 181, 0, 45, 42, 43, 180, 0, 49, 181, 0, 49, 177]
theorem wdX5_takeAll_28 : LocW cX5_takeAll 28 bdX5_takeAll_28 := loc_of (by decide +kernel)
theorem adX5_takeAll_28 : De bdX5_takeAll_28 0 (.getfield 45) 3 ∧ De bdX5_takeAll_28 3 (.putfield 45) 3 ∧ De bdX5_takeAll_28 6 (.aload_n 0) 1 ∧ De bdX5_takeAll_28 7 (.aload_n 1) 1 ∧ De bdX5_takeAll_28 8 (.getfield 49) 3 ∧ De bdX5_takeAll_28 11 (.putfield 49) 3 ∧ De bdX5_takeAll_28 14 (.return_) 1 := by decide +kernel
theorem dX5_takeAll_28 : decode cX5_takeAll 28 = .ok (.getfield 45, 3) := dAt wdX5_takeAll_28 adX5_takeAll_28.1 rfl
theorem dX5_takeAll_31 : decode cX5_takeAll 31 = .ok (.putfield 45, 3) := dAt wdX5_takeAll_28 adX5_takeAll_28.2.1 rfl
theorem dX5_takeAll_34 : decode cX5_takeAll 34 = .ok (.aload_n 0, 1) := dAt wdX5_takeAll_28 adX5_takeAll_28.2.2.1 rfl
theorem dX5_takeAll_35 : decode cX5_takeAll 35 = .ok (.aload_n 1, 1) := dAt wdX5_takeAll_28 adX5_takeAll_28.2.2.2.1 rfl
theorem dX5_takeAll_36 : decode cX5_takeAll 36 = .ok (.getfield 49, 3) := dAt wdX5_takeAll_28 adX5_takeAll_28.2.2.2.2.1 rfl
theorem dX5_takeAll_39 : decode cX5_takeAll 39 = .ok (.putfield 49, 3) := dAt wdX5_takeAll_28 adX5_takeAll_28.2.2.2.2.2.1 rfl
theorem dX5_takeAll_42 : decode cX5_takeAll 42 = .ok (.return_, 1) := dAt wdX5_takeAll_28 adX5_takeAll_28.2.2.2.2.2.2 rfl
def bdX5_takeCopy_0 : ByteArray := .mk #[43, 180, 0, 9, 3, 42, 180, 0, 9, 3, 42, 180, 0, 9, 190, 184, 0, 59, 43, 180, 0, 15, 3, 42, 180, 0, 15, 3]
theorem wdX5_takeCopy_0 : LocW cX5_takeCopy 0 bdX5_takeCopy_0 := loc_of (by decide +kernel)
theorem adX5_takeCopy_0 : De bdX5_takeCopy_0 0 (.aload_n 1) 1 ∧ De bdX5_takeCopy_0 1 (.getfield 9) 3 ∧ De bdX5_takeCopy_0 4 (.iconst 0) 1 ∧ De bdX5_takeCopy_0 5 (.aload_n 0) 1 ∧ De bdX5_takeCopy_0 6 (.getfield 9) 3 ∧ De bdX5_takeCopy_0 9 (.iconst 0) 1 ∧ De bdX5_takeCopy_0 10 (.aload_n 0) 1 ∧ De bdX5_takeCopy_0 11 (.getfield 9) 3 ∧ De bdX5_takeCopy_0 14 (.arraylength) 1 ∧ De bdX5_takeCopy_0 15 (.invokestatic 59) 3 ∧ De bdX5_takeCopy_0 18 (.aload_n 1) 1 ∧ De bdX5_takeCopy_0 19 (.getfield 15) 3 ∧ De bdX5_takeCopy_0 22 (.iconst 0) 1 ∧ De bdX5_takeCopy_0 23 (.aload_n 0) 1 ∧ De bdX5_takeCopy_0 24 (.getfield 15) 3 ∧ De bdX5_takeCopy_0 27 (.iconst 0) 1 := by decide +kernel
theorem dX5_takeCopy_0 : decode cX5_takeCopy 0 = .ok (.aload_n 1, 1) := dAt wdX5_takeCopy_0 adX5_takeCopy_0.1 rfl
theorem dX5_takeCopy_1 : decode cX5_takeCopy 1 = .ok (.getfield 9, 3) := dAt wdX5_takeCopy_0 adX5_takeCopy_0.2.1 rfl
theorem dX5_takeCopy_4 : decode cX5_takeCopy 4 = .ok (.iconst 0, 1) := dAt wdX5_takeCopy_0 adX5_takeCopy_0.2.2.1 rfl
theorem dX5_takeCopy_5 : decode cX5_takeCopy 5 = .ok (.aload_n 0, 1) := dAt wdX5_takeCopy_0 adX5_takeCopy_0.2.2.2.1 rfl
theorem dX5_takeCopy_6 : decode cX5_takeCopy 6 = .ok (.getfield 9, 3) := dAt wdX5_takeCopy_0 adX5_takeCopy_0.2.2.2.2.1 rfl
theorem dX5_takeCopy_9 : decode cX5_takeCopy 9 = .ok (.iconst 0, 1) := dAt wdX5_takeCopy_0 adX5_takeCopy_0.2.2.2.2.2.1 rfl
theorem dX5_takeCopy_10 : decode cX5_takeCopy 10 = .ok (.aload_n 0, 1) := dAt wdX5_takeCopy_0 adX5_takeCopy_0.2.2.2.2.2.2.1 rfl
theorem dX5_takeCopy_11 : decode cX5_takeCopy 11 = .ok (.getfield 9, 3) := dAt wdX5_takeCopy_0 adX5_takeCopy_0.2.2.2.2.2.2.2.1 rfl
theorem dX5_takeCopy_14 : decode cX5_takeCopy 14 = .ok (.arraylength, 1) := dAt wdX5_takeCopy_0 adX5_takeCopy_0.2.2.2.2.2.2.2.2.1 rfl
theorem dX5_takeCopy_15 : decode cX5_takeCopy 15 = .ok (.invokestatic 59, 3) := dAt wdX5_takeCopy_0 adX5_takeCopy_0.2.2.2.2.2.2.2.2.2.1 rfl
theorem dX5_takeCopy_18 : decode cX5_takeCopy 18 = .ok (.aload_n 1, 1) := dAt wdX5_takeCopy_0 adX5_takeCopy_0.2.2.2.2.2.2.2.2.2.2.1 rfl
theorem dX5_takeCopy_19 : decode cX5_takeCopy 19 = .ok (.getfield 15, 3) := dAt wdX5_takeCopy_0 adX5_takeCopy_0.2.2.2.2.2.2.2.2.2.2.2.1 rfl
theorem dX5_takeCopy_22 : decode cX5_takeCopy 22 = .ok (.iconst 0, 1) := dAt wdX5_takeCopy_0 adX5_takeCopy_0.2.2.2.2.2.2.2.2.2.2.2.2.1 rfl
theorem dX5_takeCopy_23 : decode cX5_takeCopy 23 = .ok (.aload_n 0, 1) := dAt wdX5_takeCopy_0 adX5_takeCopy_0.2.2.2.2.2.2.2.2.2.2.2.2.2.1 rfl
theorem dX5_takeCopy_24 : decode cX5_takeCopy 24 = .ok (.getfield 15, 3) := dAt wdX5_takeCopy_0 adX5_takeCopy_0.2.2.2.2.2.2.2.2.2.2.2.2.2.2.1 rfl
theorem dX5_takeCopy_27 : decode cX5_takeCopy 27 = .ok (.iconst 0, 1) := dAt wdX5_takeCopy_0 adX5_takeCopy_0.2.2.2.2.2.2.2.2.2.2.2.2.2.2.2 rfl
def bdX5_takeCopy_28 : ByteArray := .mk #[42, 180, 0, 15, 190, 184, 0, 59, 43, 180, 0, 19, 42, 180, 0, 19, 184, 0, 65, 42, 43, 180, 0, 29, 181, 0, 29, 42, 43, 180, 0, 33]
theorem wdX5_takeCopy_28 : LocW cX5_takeCopy 28 bdX5_takeCopy_28 := loc_of (by decide +kernel)
theorem adX5_takeCopy_28 : De bdX5_takeCopy_28 0 (.aload_n 0) 1 ∧ De bdX5_takeCopy_28 1 (.getfield 15) 3 ∧ De bdX5_takeCopy_28 4 (.arraylength) 1 ∧ De bdX5_takeCopy_28 5 (.invokestatic 59) 3 ∧ De bdX5_takeCopy_28 8 (.aload_n 1) 1 ∧ De bdX5_takeCopy_28 9 (.getfield 19) 3 ∧ De bdX5_takeCopy_28 12 (.aload_n 0) 1 ∧ De bdX5_takeCopy_28 13 (.getfield 19) 3 ∧ De bdX5_takeCopy_28 16 (.invokestatic 65) 3 ∧ De bdX5_takeCopy_28 19 (.aload_n 0) 1 ∧ De bdX5_takeCopy_28 20 (.aload_n 1) 1 ∧ De bdX5_takeCopy_28 21 (.getfield 29) 3 ∧ De bdX5_takeCopy_28 24 (.putfield 29) 3 ∧ De bdX5_takeCopy_28 27 (.aload_n 0) 1 ∧ De bdX5_takeCopy_28 28 (.aload_n 1) 1 ∧ De bdX5_takeCopy_28 29 (.getfield 33) 3 := by decide +kernel
theorem dX5_takeCopy_28 : decode cX5_takeCopy 28 = .ok (.aload_n 0, 1) := dAt wdX5_takeCopy_28 adX5_takeCopy_28.1 rfl
theorem dX5_takeCopy_29 : decode cX5_takeCopy 29 = .ok (.getfield 15, 3) := dAt wdX5_takeCopy_28 adX5_takeCopy_28.2.1 rfl
theorem dX5_takeCopy_32 : decode cX5_takeCopy 32 = .ok (.arraylength, 1) := dAt wdX5_takeCopy_28 adX5_takeCopy_28.2.2.1 rfl
theorem dX5_takeCopy_33 : decode cX5_takeCopy 33 = .ok (.invokestatic 59, 3) := dAt wdX5_takeCopy_28 adX5_takeCopy_28.2.2.2.1 rfl
theorem dX5_takeCopy_36 : decode cX5_takeCopy 36 = .ok (.aload_n 1, 1) := dAt wdX5_takeCopy_28 adX5_takeCopy_28.2.2.2.2.1 rfl
theorem dX5_takeCopy_37 : decode cX5_takeCopy 37 = .ok (.getfield 19, 3) := dAt wdX5_takeCopy_28 adX5_takeCopy_28.2.2.2.2.2.1 rfl
theorem dX5_takeCopy_40 : decode cX5_takeCopy 40 = .ok (.aload_n 0, 1) := dAt wdX5_takeCopy_28 adX5_takeCopy_28.2.2.2.2.2.2.1 rfl
theorem dX5_takeCopy_41 : decode cX5_takeCopy 41 = .ok (.getfield 19, 3) := dAt wdX5_takeCopy_28 adX5_takeCopy_28.2.2.2.2.2.2.2.1 rfl
theorem dX5_takeCopy_44 : decode cX5_takeCopy 44 = .ok (.invokestatic 65, 3) := dAt wdX5_takeCopy_28 adX5_takeCopy_28.2.2.2.2.2.2.2.2.1 rfl
theorem dX5_takeCopy_47 : decode cX5_takeCopy 47 = .ok (.aload_n 0, 1) := dAt wdX5_takeCopy_28 adX5_takeCopy_28.2.2.2.2.2.2.2.2.2.1 rfl
theorem dX5_takeCopy_48 : decode cX5_takeCopy 48 = .ok (.aload_n 1, 1) := dAt wdX5_takeCopy_28 adX5_takeCopy_28.2.2.2.2.2.2.2.2.2.2.1 rfl
theorem dX5_takeCopy_49 : decode cX5_takeCopy 49 = .ok (.getfield 29, 3) := dAt wdX5_takeCopy_28 adX5_takeCopy_28.2.2.2.2.2.2.2.2.2.2.2.1 rfl
theorem dX5_takeCopy_52 : decode cX5_takeCopy 52 = .ok (.putfield 29, 3) := dAt wdX5_takeCopy_28 adX5_takeCopy_28.2.2.2.2.2.2.2.2.2.2.2.2.1 rfl
theorem dX5_takeCopy_55 : decode cX5_takeCopy 55 = .ok (.aload_n 0, 1) := dAt wdX5_takeCopy_28 adX5_takeCopy_28.2.2.2.2.2.2.2.2.2.2.2.2.2.1 rfl
theorem dX5_takeCopy_56 : decode cX5_takeCopy 56 = .ok (.aload_n 1, 1) := dAt wdX5_takeCopy_28 adX5_takeCopy_28.2.2.2.2.2.2.2.2.2.2.2.2.2.2.1 rfl
theorem dX5_takeCopy_57 : decode cX5_takeCopy 57 = .ok (.getfield 33, 3) := dAt wdX5_takeCopy_28 adX5_takeCopy_28.2.2.2.2.2.2.2.2.2.2.2.2.2.2.2 rfl
def bdX5_takeCopy_60 : ByteArray := .mk #[181, 0, 33, 177]
theorem wdX5_takeCopy_60 : LocW cX5_takeCopy 60 bdX5_takeCopy_60 := loc_of (by decide +kernel)
theorem adX5_takeCopy_60 : De bdX5_takeCopy_60 0 (.putfield 33) 3 ∧ De bdX5_takeCopy_60 3 (.return_) 1 := by decide +kernel
theorem dX5_takeCopy_60 : decode cX5_takeCopy 60 = .ok (.putfield 33, 3) := dAt wdX5_takeCopy_60 adX5_takeCopy_60.1 rfl
theorem dX5_takeCopy_63 : decode cX5_takeCopy 63 = .ok (.return_, 1) := dAt wdX5_takeCopy_60 adX5_takeCopy_60.2 rfl
def bdX5_takeLines_0 : ByteArray := .mk #[43, 180, 0, 23, 3, 42, 180, 0, 23, 3, 42, 180, 0, 23, 190, 184, 0, 59, 43, 180, 0, 26, 3, 42, 180, 0, 26, 3]
theorem wdX5_takeLines_0 : LocW cX5_takeLines 0 bdX5_takeLines_0 := loc_of (by decide +kernel)
theorem adX5_takeLines_0 : De bdX5_takeLines_0 0 (.aload_n 1) 1 ∧ De bdX5_takeLines_0 1 (.getfield 23) 3 ∧ De bdX5_takeLines_0 4 (.iconst 0) 1 ∧ De bdX5_takeLines_0 5 (.aload_n 0) 1 ∧ De bdX5_takeLines_0 6 (.getfield 23) 3 ∧ De bdX5_takeLines_0 9 (.iconst 0) 1 ∧ De bdX5_takeLines_0 10 (.aload_n 0) 1 ∧ De bdX5_takeLines_0 11 (.getfield 23) 3 ∧ De bdX5_takeLines_0 14 (.arraylength) 1 ∧ De bdX5_takeLines_0 15 (.invokestatic 59) 3 ∧ De bdX5_takeLines_0 18 (.aload_n 1) 1 ∧ De bdX5_takeLines_0 19 (.getfield 26) 3 ∧ De bdX5_takeLines_0 22 (.iconst 0) 1 ∧ De bdX5_takeLines_0 23 (.aload_n 0) 1 ∧ De bdX5_takeLines_0 24 (.getfield 26) 3 ∧ De bdX5_takeLines_0 27 (.iconst 0) 1 := by decide +kernel
theorem dX5_takeLines_0 : decode cX5_takeLines 0 = .ok (.aload_n 1, 1) := dAt wdX5_takeLines_0 adX5_takeLines_0.1 rfl
theorem dX5_takeLines_1 : decode cX5_takeLines 1 = .ok (.getfield 23, 3) := dAt wdX5_takeLines_0 adX5_takeLines_0.2.1 rfl
theorem dX5_takeLines_4 : decode cX5_takeLines 4 = .ok (.iconst 0, 1) := dAt wdX5_takeLines_0 adX5_takeLines_0.2.2.1 rfl
theorem dX5_takeLines_5 : decode cX5_takeLines 5 = .ok (.aload_n 0, 1) := dAt wdX5_takeLines_0 adX5_takeLines_0.2.2.2.1 rfl
theorem dX5_takeLines_6 : decode cX5_takeLines 6 = .ok (.getfield 23, 3) := dAt wdX5_takeLines_0 adX5_takeLines_0.2.2.2.2.1 rfl
theorem dX5_takeLines_9 : decode cX5_takeLines 9 = .ok (.iconst 0, 1) := dAt wdX5_takeLines_0 adX5_takeLines_0.2.2.2.2.2.1 rfl
theorem dX5_takeLines_10 : decode cX5_takeLines 10 = .ok (.aload_n 0, 1) := dAt wdX5_takeLines_0 adX5_takeLines_0.2.2.2.2.2.2.1 rfl
theorem dX5_takeLines_11 : decode cX5_takeLines 11 = .ok (.getfield 23, 3) := dAt wdX5_takeLines_0 adX5_takeLines_0.2.2.2.2.2.2.2.1 rfl
theorem dX5_takeLines_14 : decode cX5_takeLines 14 = .ok (.arraylength, 1) := dAt wdX5_takeLines_0 adX5_takeLines_0.2.2.2.2.2.2.2.2.1 rfl
theorem dX5_takeLines_15 : decode cX5_takeLines 15 = .ok (.invokestatic 59, 3) := dAt wdX5_takeLines_0 adX5_takeLines_0.2.2.2.2.2.2.2.2.2.1 rfl
theorem dX5_takeLines_18 : decode cX5_takeLines 18 = .ok (.aload_n 1, 1) := dAt wdX5_takeLines_0 adX5_takeLines_0.2.2.2.2.2.2.2.2.2.2.1 rfl
theorem dX5_takeLines_19 : decode cX5_takeLines 19 = .ok (.getfield 26, 3) := dAt wdX5_takeLines_0 adX5_takeLines_0.2.2.2.2.2.2.2.2.2.2.2.1 rfl
theorem dX5_takeLines_22 : decode cX5_takeLines 22 = .ok (.iconst 0, 1) := dAt wdX5_takeLines_0 adX5_takeLines_0.2.2.2.2.2.2.2.2.2.2.2.2.1 rfl
theorem dX5_takeLines_23 : decode cX5_takeLines 23 = .ok (.aload_n 0, 1) := dAt wdX5_takeLines_0 adX5_takeLines_0.2.2.2.2.2.2.2.2.2.2.2.2.2.1 rfl
theorem dX5_takeLines_24 : decode cX5_takeLines 24 = .ok (.getfield 26, 3) := dAt wdX5_takeLines_0 adX5_takeLines_0.2.2.2.2.2.2.2.2.2.2.2.2.2.2.1 rfl
theorem dX5_takeLines_27 : decode cX5_takeLines 27 = .ok (.iconst 0, 1) := dAt wdX5_takeLines_0 adX5_takeLines_0.2.2.2.2.2.2.2.2.2.2.2.2.2.2.2 rfl
def bdX5_takeLines_28 : ByteArray := .mk #[42, 180, 0, 26, 190, 184, 0, 59, 42, 43, 180, 0, 42, 181, 0, 42, 177]
theorem wdX5_takeLines_28 : LocW cX5_takeLines 28 bdX5_takeLines_28 := loc_of (by decide +kernel)
theorem adX5_takeLines_28 : De bdX5_takeLines_28 0 (.aload_n 0) 1 ∧ De bdX5_takeLines_28 1 (.getfield 26) 3 ∧ De bdX5_takeLines_28 4 (.arraylength) 1 ∧ De bdX5_takeLines_28 5 (.invokestatic 59) 3 ∧ De bdX5_takeLines_28 8 (.aload_n 0) 1 ∧ De bdX5_takeLines_28 9 (.aload_n 1) 1 ∧ De bdX5_takeLines_28 10 (.getfield 42) 3 ∧ De bdX5_takeLines_28 13 (.putfield 42) 3 ∧ De bdX5_takeLines_28 16 (.return_) 1 := by decide +kernel
theorem dX5_takeLines_28 : decode cX5_takeLines 28 = .ok (.aload_n 0, 1) := dAt wdX5_takeLines_28 adX5_takeLines_28.1 rfl
theorem dX5_takeLines_29 : decode cX5_takeLines 29 = .ok (.getfield 26, 3) := dAt wdX5_takeLines_28 adX5_takeLines_28.2.1 rfl
theorem dX5_takeLines_32 : decode cX5_takeLines 32 = .ok (.arraylength, 1) := dAt wdX5_takeLines_28 adX5_takeLines_28.2.2.1 rfl
theorem dX5_takeLines_33 : decode cX5_takeLines 33 = .ok (.invokestatic 59, 3) := dAt wdX5_takeLines_28 adX5_takeLines_28.2.2.2.1 rfl
theorem dX5_takeLines_36 : decode cX5_takeLines 36 = .ok (.aload_n 0, 1) := dAt wdX5_takeLines_28 adX5_takeLines_28.2.2.2.2.1 rfl
theorem dX5_takeLines_37 : decode cX5_takeLines 37 = .ok (.aload_n 1, 1) := dAt wdX5_takeLines_28 adX5_takeLines_28.2.2.2.2.2.1 rfl
theorem dX5_takeLines_38 : decode cX5_takeLines 38 = .ok (.getfield 42, 3) := dAt wdX5_takeLines_28 adX5_takeLines_28.2.2.2.2.2.2.1 rfl
theorem dX5_takeLines_41 : decode cX5_takeLines 41 = .ok (.putfield 42, 3) := dAt wdX5_takeLines_28 adX5_takeLines_28.2.2.2.2.2.2.2.1 rfl
theorem dX5_takeLines_44 : decode cX5_takeLines 44 = .ok (.return_, 1) := dAt wdX5_takeLines_28 adX5_takeLines_28.2.2.2.2.2.2.2.2 rfl
def bdX5_empty_0 : ByteArray := .mk #[42, 3, 181, 0, 29, 42, 3, 181, 0, 33, 42, 27, 181, 0, 36, 42, 28, 181, 0, 39, 42, 3, 181, 0, 42, 42]
theorem wdX5_empty_0 : LocW cX5_empty 0 bdX5_empty_0 := loc_of (by decide +kernel)
theorem adX5_empty_0 : De bdX5_empty_0 0 (.aload_n 0) 1 ∧ De bdX5_empty_0 1 (.iconst 0) 1 ∧ De bdX5_empty_0 2 (.putfield 29) 3 ∧ De bdX5_empty_0 5 (.aload_n 0) 1 ∧ De bdX5_empty_0 6 (.iconst 0) 1 ∧ De bdX5_empty_0 7 (.putfield 33) 3 ∧ De bdX5_empty_0 10 (.aload_n 0) 1 ∧ De bdX5_empty_0 11 (.iload_n 1) 1 ∧ De bdX5_empty_0 12 (.putfield 36) 3 ∧ De bdX5_empty_0 15 (.aload_n 0) 1 ∧ De bdX5_empty_0 16 (.iload_n 2) 1 ∧ De bdX5_empty_0 17 (.putfield 39) 3 ∧ De bdX5_empty_0 20 (.aload_n 0) 1 ∧ De bdX5_empty_0 21 (.iconst 0) 1 ∧ De bdX5_empty_0 22 (.putfield 42) 3 ∧ De bdX5_empty_0 25 (.aload_n 0) 1 := by decide +kernel
theorem dX5_empty_0 : decode cX5_empty 0 = .ok (.aload_n 0, 1) := dAt wdX5_empty_0 adX5_empty_0.1 rfl
theorem dX5_empty_1 : decode cX5_empty 1 = .ok (.iconst 0, 1) := dAt wdX5_empty_0 adX5_empty_0.2.1 rfl
theorem dX5_empty_2 : decode cX5_empty 2 = .ok (.putfield 29, 3) := dAt wdX5_empty_0 adX5_empty_0.2.2.1 rfl
theorem dX5_empty_5 : decode cX5_empty 5 = .ok (.aload_n 0, 1) := dAt wdX5_empty_0 adX5_empty_0.2.2.2.1 rfl
theorem dX5_empty_6 : decode cX5_empty 6 = .ok (.iconst 0, 1) := dAt wdX5_empty_0 adX5_empty_0.2.2.2.2.1 rfl
theorem dX5_empty_7 : decode cX5_empty 7 = .ok (.putfield 33, 3) := dAt wdX5_empty_0 adX5_empty_0.2.2.2.2.2.1 rfl
theorem dX5_empty_10 : decode cX5_empty 10 = .ok (.aload_n 0, 1) := dAt wdX5_empty_0 adX5_empty_0.2.2.2.2.2.2.1 rfl
theorem dX5_empty_11 : decode cX5_empty 11 = .ok (.iload_n 1, 1) := dAt wdX5_empty_0 adX5_empty_0.2.2.2.2.2.2.2.1 rfl
theorem dX5_empty_12 : decode cX5_empty 12 = .ok (.putfield 36, 3) := dAt wdX5_empty_0 adX5_empty_0.2.2.2.2.2.2.2.2.1 rfl
theorem dX5_empty_15 : decode cX5_empty 15 = .ok (.aload_n 0, 1) := dAt wdX5_empty_0 adX5_empty_0.2.2.2.2.2.2.2.2.2.1 rfl
theorem dX5_empty_16 : decode cX5_empty 16 = .ok (.iload_n 2, 1) := dAt wdX5_empty_0 adX5_empty_0.2.2.2.2.2.2.2.2.2.2.1 rfl
theorem dX5_empty_17 : decode cX5_empty 17 = .ok (.putfield 39, 3) := dAt wdX5_empty_0 adX5_empty_0.2.2.2.2.2.2.2.2.2.2.2.1 rfl
theorem dX5_empty_20 : decode cX5_empty 20 = .ok (.aload_n 0, 1) := dAt wdX5_empty_0 adX5_empty_0.2.2.2.2.2.2.2.2.2.2.2.2.1 rfl
theorem dX5_empty_21 : decode cX5_empty 21 = .ok (.iconst 0, 1) := dAt wdX5_empty_0 adX5_empty_0.2.2.2.2.2.2.2.2.2.2.2.2.2.1 rfl
theorem dX5_empty_22 : decode cX5_empty 22 = .ok (.putfield 42, 3) := dAt wdX5_empty_0 adX5_empty_0.2.2.2.2.2.2.2.2.2.2.2.2.2.2.1 rfl
theorem dX5_empty_25 : decode cX5_empty 25 = .ok (.aload_n 0, 1) := dAt wdX5_empty_0 adX5_empty_0.2.2.2.2.2.2.2.2.2.2.2.2.2.2.2 rfl
def bdX5_empty_26 : ByteArray := .mk #[3, 181, 0, 45, 42, 3, 181, 0, 49, 177]
theorem wdX5_empty_26 : LocW cX5_empty 26 bdX5_empty_26 := loc_of (by decide +kernel)
theorem adX5_empty_26 : De bdX5_empty_26 0 (.iconst 0) 1 ∧ De bdX5_empty_26 1 (.putfield 45) 3 ∧ De bdX5_empty_26 4 (.aload_n 0) 1 ∧ De bdX5_empty_26 5 (.iconst 0) 1 ∧ De bdX5_empty_26 6 (.putfield 49) 3 ∧ De bdX5_empty_26 9 (.return_) 1 := by decide +kernel
theorem dX5_empty_26 : decode cX5_empty 26 = .ok (.iconst 0, 1) := dAt wdX5_empty_26 adX5_empty_26.1 rfl
theorem dX5_empty_27 : decode cX5_empty 27 = .ok (.putfield 45, 3) := dAt wdX5_empty_26 adX5_empty_26.2.1 rfl
theorem dX5_empty_30 : decode cX5_empty 30 = .ok (.aload_n 0, 1) := dAt wdX5_empty_26 adX5_empty_26.2.2.1 rfl
theorem dX5_empty_31 : decode cX5_empty 31 = .ok (.iconst 0, 1) := dAt wdX5_empty_26 adX5_empty_26.2.2.2.1 rfl
theorem dX5_empty_32 : decode cX5_empty 32 = .ok (.putfield 49, 3) := dAt wdX5_empty_26 adX5_empty_26.2.2.2.2.1 rfl
theorem dX5_empty_35 : decode cX5_empty 35 = .ok (.return_, 1) := dAt wdX5_empty_26 adX5_empty_26.2.2.2.2.2 rfl
def bdX5_addText_0 : ByteArray := .mk #[42, 180, 0, 15, 42, 180, 0, 29, 46, 54, 4, 3, 54, 5, 28, 54, 6, 21, 6, 29, 162, 0, 101, 21, 6, 43, 190]
theorem wdX5_addText_0 : LocW cX5_addText 0 bdX5_addText_0 := loc_of (by decide +kernel)
theorem adX5_addText_0 : De bdX5_addText_0 0 (.aload_n 0) 1 ∧ De bdX5_addText_0 1 (.getfield 15) 3 ∧ De bdX5_addText_0 4 (.aload_n 0) 1 ∧ De bdX5_addText_0 5 (.getfield 29) 3 ∧ De bdX5_addText_0 8 (.iaload) 1 ∧ De bdX5_addText_0 9 (.istore 4) 2 ∧ De bdX5_addText_0 11 (.iconst 0) 1 ∧ De bdX5_addText_0 12 (.istore 5) 2 ∧ De bdX5_addText_0 14 (.iload_n 2) 1 ∧ De bdX5_addText_0 15 (.istore 6) 2 ∧ De bdX5_addText_0 17 (.iload 6) 2 ∧ De bdX5_addText_0 19 (.iload_n 3) 1 ∧ De bdX5_addText_0 20 (.if_icmp .ge 101) 3 ∧ De bdX5_addText_0 23 (.iload 6) 2 ∧ De bdX5_addText_0 25 (.aload_n 1) 1 ∧ De bdX5_addText_0 26 (.arraylength) 1 := by decide +kernel
theorem dX5_addText_0 : decode cX5_addText 0 = .ok (.aload_n 0, 1) := dAt wdX5_addText_0 adX5_addText_0.1 rfl
theorem dX5_addText_1 : decode cX5_addText 1 = .ok (.getfield 15, 3) := dAt wdX5_addText_0 adX5_addText_0.2.1 rfl
theorem dX5_addText_4 : decode cX5_addText 4 = .ok (.aload_n 0, 1) := dAt wdX5_addText_0 adX5_addText_0.2.2.1 rfl
theorem dX5_addText_5 : decode cX5_addText 5 = .ok (.getfield 29, 3) := dAt wdX5_addText_0 adX5_addText_0.2.2.2.1 rfl
theorem dX5_addText_8 : decode cX5_addText 8 = .ok (.iaload, 1) := dAt wdX5_addText_0 adX5_addText_0.2.2.2.2.1 rfl
theorem dX5_addText_9 : decode cX5_addText 9 = .ok (.istore 4, 2) := dAt wdX5_addText_0 adX5_addText_0.2.2.2.2.2.1 rfl
theorem dX5_addText_11 : decode cX5_addText 11 = .ok (.iconst 0, 1) := dAt wdX5_addText_0 adX5_addText_0.2.2.2.2.2.2.1 rfl
theorem dX5_addText_12 : decode cX5_addText 12 = .ok (.istore 5, 2) := dAt wdX5_addText_0 adX5_addText_0.2.2.2.2.2.2.2.1 rfl
theorem dX5_addText_14 : decode cX5_addText 14 = .ok (.iload_n 2, 1) := dAt wdX5_addText_0 adX5_addText_0.2.2.2.2.2.2.2.2.1 rfl
theorem dX5_addText_15 : decode cX5_addText 15 = .ok (.istore 6, 2) := dAt wdX5_addText_0 adX5_addText_0.2.2.2.2.2.2.2.2.2.1 rfl
theorem dX5_addText_17 : decode cX5_addText 17 = .ok (.iload 6, 2) := dAt wdX5_addText_0 adX5_addText_0.2.2.2.2.2.2.2.2.2.2.1 rfl
theorem dX5_addText_19 : decode cX5_addText 19 = .ok (.iload_n 3, 1) := dAt wdX5_addText_0 adX5_addText_0.2.2.2.2.2.2.2.2.2.2.2.1 rfl
theorem dX5_addText_20 : decode cX5_addText 20 = .ok (.if_icmp .ge 101, 3) := dAt wdX5_addText_0 adX5_addText_0.2.2.2.2.2.2.2.2.2.2.2.2.1 rfl
theorem dX5_addText_23 : decode cX5_addText 23 = .ok (.iload 6, 2) := dAt wdX5_addText_0 adX5_addText_0.2.2.2.2.2.2.2.2.2.2.2.2.2.1 rfl
theorem dX5_addText_25 : decode cX5_addText 25 = .ok (.aload_n 1, 1) := dAt wdX5_addText_0 adX5_addText_0.2.2.2.2.2.2.2.2.2.2.2.2.2.2.1 rfl
theorem dX5_addText_26 : decode cX5_addText 26 = .ok (.arraylength, 1) := dAt wdX5_addText_0 adX5_addText_0.2.2.2.2.2.2.2.2.2.2.2.2.2.2.2 rfl
def bdX5_addText_27 : ByteArray := .mk #[162, 0, 94, 43, 21, 6, 51, 54, 7, 21, 7, 184, 0, 69, 153, 0, 38, 21, 4, 21, 5, 96, 42, 180, 0, 9, 190, 162, 0, 19, 42]
theorem wdX5_addText_27 : LocW cX5_addText 27 bdX5_addText_27 := loc_of (by decide +kernel)
theorem adX5_addText_27 : De bdX5_addText_27 0 (.if_icmp .ge 94) 3 ∧ De bdX5_addText_27 3 (.aload_n 1) 1 ∧ De bdX5_addText_27 4 (.iload 6) 2 ∧ De bdX5_addText_27 6 (.baload) 1 ∧ De bdX5_addText_27 7 (.istore 7) 2 ∧ De bdX5_addText_27 9 (.iload 7) 2 ∧ De bdX5_addText_27 11 (.invokestatic 69) 3 ∧ De bdX5_addText_27 14 (.ifCond .eq 38) 3 ∧ De bdX5_addText_27 17 (.iload 4) 2 ∧ De bdX5_addText_27 19 (.iload 5) 2 ∧ De bdX5_addText_27 21 (.iadd) 1 ∧ De bdX5_addText_27 22 (.aload_n 0) 1 ∧ De bdX5_addText_27 23 (.getfield 9) 3 ∧ De bdX5_addText_27 26 (.arraylength) 1 ∧ De bdX5_addText_27 27 (.if_icmp .ge 19) 3 ∧ De bdX5_addText_27 30 (.aload_n 0) 1 := by decide +kernel
theorem dX5_addText_27 : decode cX5_addText 27 = .ok (.if_icmp .ge 94, 3) := dAt wdX5_addText_27 adX5_addText_27.1 rfl
theorem dX5_addText_30 : decode cX5_addText 30 = .ok (.aload_n 1, 1) := dAt wdX5_addText_27 adX5_addText_27.2.1 rfl
theorem dX5_addText_31 : decode cX5_addText 31 = .ok (.iload 6, 2) := dAt wdX5_addText_27 adX5_addText_27.2.2.1 rfl
theorem dX5_addText_33 : decode cX5_addText 33 = .ok (.baload, 1) := dAt wdX5_addText_27 adX5_addText_27.2.2.2.1 rfl
theorem dX5_addText_34 : decode cX5_addText 34 = .ok (.istore 7, 2) := dAt wdX5_addText_27 adX5_addText_27.2.2.2.2.1 rfl
theorem dX5_addText_36 : decode cX5_addText 36 = .ok (.iload 7, 2) := dAt wdX5_addText_27 adX5_addText_27.2.2.2.2.2.1 rfl
theorem dX5_addText_38 : decode cX5_addText 38 = .ok (.invokestatic 69, 3) := dAt wdX5_addText_27 adX5_addText_27.2.2.2.2.2.2.1 rfl
theorem dX5_addText_41 : decode cX5_addText 41 = .ok (.ifCond .eq 38, 3) := dAt wdX5_addText_27 adX5_addText_27.2.2.2.2.2.2.2.1 rfl
theorem dX5_addText_44 : decode cX5_addText 44 = .ok (.iload 4, 2) := dAt wdX5_addText_27 adX5_addText_27.2.2.2.2.2.2.2.2.1 rfl
theorem dX5_addText_46 : decode cX5_addText 46 = .ok (.iload 5, 2) := dAt wdX5_addText_27 adX5_addText_27.2.2.2.2.2.2.2.2.2.1 rfl
theorem dX5_addText_48 : decode cX5_addText 48 = .ok (.iadd, 1) := dAt wdX5_addText_27 adX5_addText_27.2.2.2.2.2.2.2.2.2.2.1 rfl
theorem dX5_addText_49 : decode cX5_addText 49 = .ok (.aload_n 0, 1) := dAt wdX5_addText_27 adX5_addText_27.2.2.2.2.2.2.2.2.2.2.2.1 rfl
theorem dX5_addText_50 : decode cX5_addText 50 = .ok (.getfield 9, 3) := dAt wdX5_addText_27 adX5_addText_27.2.2.2.2.2.2.2.2.2.2.2.2.1 rfl
theorem dX5_addText_53 : decode cX5_addText 53 = .ok (.arraylength, 1) := dAt wdX5_addText_27 adX5_addText_27.2.2.2.2.2.2.2.2.2.2.2.2.2.1 rfl
theorem dX5_addText_54 : decode cX5_addText 54 = .ok (.if_icmp .ge 19, 3) := dAt wdX5_addText_27 adX5_addText_27.2.2.2.2.2.2.2.2.2.2.2.2.2.2.1 rfl
theorem dX5_addText_57 : decode cX5_addText 57 = .ok (.aload_n 0, 1) := dAt wdX5_addText_27 adX5_addText_27.2.2.2.2.2.2.2.2.2.2.2.2.2.2.2 rfl
def bdX5_addText_58 : ByteArray := .mk #[180, 0, 9, 21, 4, 21, 5, 96, 21, 7, 16, 97, 100, 145, 84, 132, 5, 1, 167, 0, 39, 21, 5, 158, 0, 34, 42, 21, 4, 21, 5]
theorem wdX5_addText_58 : LocW cX5_addText 58 bdX5_addText_58 := loc_of (by decide +kernel)
theorem adX5_addText_58 : De bdX5_addText_58 0 (.getfield 9) 3 ∧ De bdX5_addText_58 3 (.iload 4) 2 ∧ De bdX5_addText_58 5 (.iload 5) 2 ∧ De bdX5_addText_58 7 (.iadd) 1 ∧ De bdX5_addText_58 8 (.iload 7) 2 ∧ De bdX5_addText_58 10 (.bipush 97) 2 ∧ De bdX5_addText_58 12 (.isub) 1 ∧ De bdX5_addText_58 13 (.i2b) 1 ∧ De bdX5_addText_58 14 (.bastore) 1 ∧ De bdX5_addText_58 15 (.iinc 5 1) 3 ∧ De bdX5_addText_58 18 (.goto 39) 3 ∧ De bdX5_addText_58 21 (.iload 5) 2 ∧ De bdX5_addText_58 23 (.ifCond .le 34) 3 ∧ De bdX5_addText_58 26 (.aload_n 0) 1 ∧ De bdX5_addText_58 27 (.iload 4) 2 ∧ De bdX5_addText_58 29 (.iload 5) 2 := by decide +kernel
theorem dX5_addText_58 : decode cX5_addText 58 = .ok (.getfield 9, 3) := dAt wdX5_addText_58 adX5_addText_58.1 rfl
theorem dX5_addText_61 : decode cX5_addText 61 = .ok (.iload 4, 2) := dAt wdX5_addText_58 adX5_addText_58.2.1 rfl
theorem dX5_addText_63 : decode cX5_addText 63 = .ok (.iload 5, 2) := dAt wdX5_addText_58 adX5_addText_58.2.2.1 rfl
theorem dX5_addText_65 : decode cX5_addText 65 = .ok (.iadd, 1) := dAt wdX5_addText_58 adX5_addText_58.2.2.2.1 rfl
theorem dX5_addText_66 : decode cX5_addText 66 = .ok (.iload 7, 2) := dAt wdX5_addText_58 adX5_addText_58.2.2.2.2.1 rfl
theorem dX5_addText_68 : decode cX5_addText 68 = .ok (.bipush 97, 2) := dAt wdX5_addText_58 adX5_addText_58.2.2.2.2.2.1 rfl
theorem dX5_addText_70 : decode cX5_addText 70 = .ok (.isub, 1) := dAt wdX5_addText_58 adX5_addText_58.2.2.2.2.2.2.1 rfl
theorem dX5_addText_71 : decode cX5_addText 71 = .ok (.i2b, 1) := dAt wdX5_addText_58 adX5_addText_58.2.2.2.2.2.2.2.1 rfl
theorem dX5_addText_72 : decode cX5_addText 72 = .ok (.bastore, 1) := dAt wdX5_addText_58 adX5_addText_58.2.2.2.2.2.2.2.2.1 rfl
theorem dX5_addText_73 : decode cX5_addText 73 = .ok (.iinc 5 1, 3) := dAt wdX5_addText_58 adX5_addText_58.2.2.2.2.2.2.2.2.2.1 rfl
theorem dX5_addText_76 : decode cX5_addText 76 = .ok (.goto 39, 3) := dAt wdX5_addText_58 adX5_addText_58.2.2.2.2.2.2.2.2.2.2.1 rfl
theorem dX5_addText_79 : decode cX5_addText 79 = .ok (.iload 5, 2) := dAt wdX5_addText_58 adX5_addText_58.2.2.2.2.2.2.2.2.2.2.2.1 rfl
theorem dX5_addText_81 : decode cX5_addText 81 = .ok (.ifCond .le 34, 3) := dAt wdX5_addText_58 adX5_addText_58.2.2.2.2.2.2.2.2.2.2.2.2.1 rfl
theorem dX5_addText_84 : decode cX5_addText 84 = .ok (.aload_n 0, 1) := dAt wdX5_addText_58 adX5_addText_58.2.2.2.2.2.2.2.2.2.2.2.2.2.1 rfl
theorem dX5_addText_85 : decode cX5_addText 85 = .ok (.iload 4, 2) := dAt wdX5_addText_58 adX5_addText_58.2.2.2.2.2.2.2.2.2.2.2.2.2.2.1 rfl
theorem dX5_addText_87 : decode cX5_addText 87 = .ok (.iload 5, 2) := dAt wdX5_addText_58 adX5_addText_58.2.2.2.2.2.2.2.2.2.2.2.2.2.2.2 rfl
def bdX5_addText_89 : ByteArray := .mk #[96, 21, 7, 16, 45, 159, 0, 7, 4, 167, 0, 4, 3, 182, 0, 75, 21, 4, 21, 5, 96, 54, 4, 3, 54, 5, 132, 6, 1, 167, 255, 155]
theorem wdX5_addText_89 : LocW cX5_addText 89 bdX5_addText_89 := loc_of (by decide +kernel)
theorem adX5_addText_89 : De bdX5_addText_89 0 (.iadd) 1 ∧ De bdX5_addText_89 1 (.iload 7) 2 ∧ De bdX5_addText_89 3 (.bipush 45) 2 ∧ De bdX5_addText_89 5 (.if_icmp .eq 7) 3 ∧ De bdX5_addText_89 8 (.iconst 1) 1 ∧ De bdX5_addText_89 9 (.goto 4) 3 ∧ De bdX5_addText_89 12 (.iconst 0) 1 ∧ De bdX5_addText_89 13 (.invokevirtual 75) 3 ∧ De bdX5_addText_89 16 (.iload 4) 2 ∧ De bdX5_addText_89 18 (.iload 5) 2 ∧ De bdX5_addText_89 20 (.iadd) 1 ∧ De bdX5_addText_89 21 (.istore 4) 2 ∧ De bdX5_addText_89 23 (.iconst 0) 1 ∧ De bdX5_addText_89 24 (.istore 5) 2 ∧ De bdX5_addText_89 26 (.iinc 6 1) 3 ∧ De bdX5_addText_89 29 (.goto (-101)) 3 := by decide +kernel
theorem dX5_addText_89 : decode cX5_addText 89 = .ok (.iadd, 1) := dAt wdX5_addText_89 adX5_addText_89.1 rfl
theorem dX5_addText_90 : decode cX5_addText 90 = .ok (.iload 7, 2) := dAt wdX5_addText_89 adX5_addText_89.2.1 rfl
theorem dX5_addText_92 : decode cX5_addText 92 = .ok (.bipush 45, 2) := dAt wdX5_addText_89 adX5_addText_89.2.2.1 rfl
theorem dX5_addText_94 : decode cX5_addText 94 = .ok (.if_icmp .eq 7, 3) := dAt wdX5_addText_89 adX5_addText_89.2.2.2.1 rfl
theorem dX5_addText_97 : decode cX5_addText 97 = .ok (.iconst 1, 1) := dAt wdX5_addText_89 adX5_addText_89.2.2.2.2.1 rfl
theorem dX5_addText_98 : decode cX5_addText 98 = .ok (.goto 4, 3) := dAt wdX5_addText_89 adX5_addText_89.2.2.2.2.2.1 rfl
theorem dX5_addText_101 : decode cX5_addText 101 = .ok (.iconst 0, 1) := dAt wdX5_addText_89 adX5_addText_89.2.2.2.2.2.2.1 rfl
theorem dX5_addText_102 : decode cX5_addText 102 = .ok (.invokevirtual 75, 3) := dAt wdX5_addText_89 adX5_addText_89.2.2.2.2.2.2.2.1 rfl
theorem dX5_addText_105 : decode cX5_addText 105 = .ok (.iload 4, 2) := dAt wdX5_addText_89 adX5_addText_89.2.2.2.2.2.2.2.2.1 rfl
theorem dX5_addText_107 : decode cX5_addText 107 = .ok (.iload 5, 2) := dAt wdX5_addText_89 adX5_addText_89.2.2.2.2.2.2.2.2.2.1 rfl
theorem dX5_addText_109 : decode cX5_addText 109 = .ok (.iadd, 1) := dAt wdX5_addText_89 adX5_addText_89.2.2.2.2.2.2.2.2.2.2.1 rfl
theorem dX5_addText_110 : decode cX5_addText 110 = .ok (.istore 4, 2) := dAt wdX5_addText_89 adX5_addText_89.2.2.2.2.2.2.2.2.2.2.2.1 rfl
theorem dX5_addText_112 : decode cX5_addText 112 = .ok (.iconst 0, 1) := dAt wdX5_addText_89 adX5_addText_89.2.2.2.2.2.2.2.2.2.2.2.2.1 rfl
theorem dX5_addText_113 : decode cX5_addText 113 = .ok (.istore 5, 2) := dAt wdX5_addText_89 adX5_addText_89.2.2.2.2.2.2.2.2.2.2.2.2.2.1 rfl
theorem dX5_addText_115 : decode cX5_addText 115 = .ok (.iinc 6 1, 3) := dAt wdX5_addText_89 adX5_addText_89.2.2.2.2.2.2.2.2.2.2.2.2.2.2.1 rfl
theorem dX5_addText_118 : decode cX5_addText 118 = .ok (.goto (-101), 3) := dAt wdX5_addText_89 adX5_addText_89.2.2.2.2.2.2.2.2.2.2.2.2.2.2.2 rfl
def bdX5_addText_121 : ByteArray := .mk #[21, 5, 158, 0, 13, 42, 21, 4, 21, 5, 96, 4, 182, 0, 75, 177]
theorem wdX5_addText_121 : LocW cX5_addText 121 bdX5_addText_121 := loc_of (by decide +kernel)
theorem adX5_addText_121 : De bdX5_addText_121 0 (.iload 5) 2 ∧ De bdX5_addText_121 2 (.ifCond .le 13) 3 ∧ De bdX5_addText_121 5 (.aload_n 0) 1 ∧ De bdX5_addText_121 6 (.iload 4) 2 ∧ De bdX5_addText_121 8 (.iload 5) 2 ∧ De bdX5_addText_121 10 (.iadd) 1 ∧ De bdX5_addText_121 11 (.iconst 1) 1 ∧ De bdX5_addText_121 12 (.invokevirtual 75) 3 ∧ De bdX5_addText_121 15 (.return_) 1 := by decide +kernel
theorem dX5_addText_121 : decode cX5_addText 121 = .ok (.iload 5, 2) := dAt wdX5_addText_121 adX5_addText_121.1 rfl
theorem dX5_addText_123 : decode cX5_addText 123 = .ok (.ifCond .le 13, 3) := dAt wdX5_addText_121 adX5_addText_121.2.1 rfl
theorem dX5_addText_126 : decode cX5_addText 126 = .ok (.aload_n 0, 1) := dAt wdX5_addText_121 adX5_addText_121.2.2.1 rfl
theorem dX5_addText_127 : decode cX5_addText 127 = .ok (.iload 4, 2) := dAt wdX5_addText_121 adX5_addText_121.2.2.2.1 rfl
theorem dX5_addText_129 : decode cX5_addText 129 = .ok (.iload 5, 2) := dAt wdX5_addText_121 adX5_addText_121.2.2.2.2.1 rfl
theorem dX5_addText_131 : decode cX5_addText 131 = .ok (.iadd, 1) := dAt wdX5_addText_121 adX5_addText_121.2.2.2.2.2.1 rfl
theorem dX5_addText_132 : decode cX5_addText 132 = .ok (.iconst 1, 1) := dAt wdX5_addText_121 adX5_addText_121.2.2.2.2.2.2.1 rfl
theorem dX5_addText_133 : decode cX5_addText 133 = .ok (.invokevirtual 75, 3) := dAt wdX5_addText_121 adX5_addText_121.2.2.2.2.2.2.2.1 rfl
theorem dX5_addText_136 : decode cX5_addText 136 = .ok (.return_, 1) := dAt wdX5_addText_121 adX5_addText_121.2.2.2.2.2.2.2.2 rfl
def bdX5_addBit_0 : ByteArray := .mk #[42, 180, 0, 29, 16, 40, 162, 0, 12, 27, 42, 180, 0, 9, 190, 164, 0, 4, 177, 42, 180, 0, 19, 42, 180, 0, 29, 28, 84]
theorem wdX5_addBit_0 : LocW cX5_addBit 0 bdX5_addBit_0 := loc_of (by decide +kernel)
theorem adX5_addBit_0 : De bdX5_addBit_0 0 (.aload_n 0) 1 ∧ De bdX5_addBit_0 1 (.getfield 29) 3 ∧ De bdX5_addBit_0 4 (.bipush 40) 2 ∧ De bdX5_addBit_0 6 (.if_icmp .ge 12) 3 ∧ De bdX5_addBit_0 9 (.iload_n 1) 1 ∧ De bdX5_addBit_0 10 (.aload_n 0) 1 ∧ De bdX5_addBit_0 11 (.getfield 9) 3 ∧ De bdX5_addBit_0 14 (.arraylength) 1 ∧ De bdX5_addBit_0 15 (.if_icmp .le 4) 3 ∧ De bdX5_addBit_0 18 (.return_) 1 ∧ De bdX5_addBit_0 19 (.aload_n 0) 1 ∧ De bdX5_addBit_0 20 (.getfield 19) 3 ∧ De bdX5_addBit_0 23 (.aload_n 0) 1 ∧ De bdX5_addBit_0 24 (.getfield 29) 3 ∧ De bdX5_addBit_0 27 (.iload_n 2) 1 ∧ De bdX5_addBit_0 28 (.bastore) 1 := by decide +kernel
theorem dX5_addBit_0 : decode cX5_addBit 0 = .ok (.aload_n 0, 1) := dAt wdX5_addBit_0 adX5_addBit_0.1 rfl
theorem dX5_addBit_1 : decode cX5_addBit 1 = .ok (.getfield 29, 3) := dAt wdX5_addBit_0 adX5_addBit_0.2.1 rfl
theorem dX5_addBit_4 : decode cX5_addBit 4 = .ok (.bipush 40, 2) := dAt wdX5_addBit_0 adX5_addBit_0.2.2.1 rfl
theorem dX5_addBit_6 : decode cX5_addBit 6 = .ok (.if_icmp .ge 12, 3) := dAt wdX5_addBit_0 adX5_addBit_0.2.2.2.1 rfl
theorem dX5_addBit_9 : decode cX5_addBit 9 = .ok (.iload_n 1, 1) := dAt wdX5_addBit_0 adX5_addBit_0.2.2.2.2.1 rfl
theorem dX5_addBit_10 : decode cX5_addBit 10 = .ok (.aload_n 0, 1) := dAt wdX5_addBit_0 adX5_addBit_0.2.2.2.2.2.1 rfl
theorem dX5_addBit_11 : decode cX5_addBit 11 = .ok (.getfield 9, 3) := dAt wdX5_addBit_0 adX5_addBit_0.2.2.2.2.2.2.1 rfl
theorem dX5_addBit_14 : decode cX5_addBit 14 = .ok (.arraylength, 1) := dAt wdX5_addBit_0 adX5_addBit_0.2.2.2.2.2.2.2.1 rfl
theorem dX5_addBit_15 : decode cX5_addBit 15 = .ok (.if_icmp .le 4, 3) := dAt wdX5_addBit_0 adX5_addBit_0.2.2.2.2.2.2.2.2.1 rfl
theorem dX5_addBit_18 : decode cX5_addBit 18 = .ok (.return_, 1) := dAt wdX5_addBit_0 adX5_addBit_0.2.2.2.2.2.2.2.2.2.1 rfl
theorem dX5_addBit_19 : decode cX5_addBit 19 = .ok (.aload_n 0, 1) := dAt wdX5_addBit_0 adX5_addBit_0.2.2.2.2.2.2.2.2.2.2.1 rfl
theorem dX5_addBit_20 : decode cX5_addBit 20 = .ok (.getfield 19, 3) := dAt wdX5_addBit_0 adX5_addBit_0.2.2.2.2.2.2.2.2.2.2.2.1 rfl
theorem dX5_addBit_23 : decode cX5_addBit 23 = .ok (.aload_n 0, 1) := dAt wdX5_addBit_0 adX5_addBit_0.2.2.2.2.2.2.2.2.2.2.2.2.1 rfl
theorem dX5_addBit_24 : decode cX5_addBit 24 = .ok (.getfield 29, 3) := dAt wdX5_addBit_0 adX5_addBit_0.2.2.2.2.2.2.2.2.2.2.2.2.2.1 rfl
theorem dX5_addBit_27 : decode cX5_addBit 27 = .ok (.iload_n 2, 1) := dAt wdX5_addBit_0 adX5_addBit_0.2.2.2.2.2.2.2.2.2.2.2.2.2.2.1 rfl
theorem dX5_addBit_28 : decode cX5_addBit 28 = .ok (.bastore, 1) := dAt wdX5_addBit_0 adX5_addBit_0.2.2.2.2.2.2.2.2.2.2.2.2.2.2.2 rfl
def bdX5_addBit_29 : ByteArray := .mk #[42, 89, 180, 0, 29, 4, 96, 181, 0, 29, 42, 180, 0, 15, 42, 180, 0, 29, 27, 79, 42, 89, 180, 0, 33, 28]
theorem wdX5_addBit_29 : LocW cX5_addBit 29 bdX5_addBit_29 := loc_of (by decide +kernel)
theorem adX5_addBit_29 : De bdX5_addBit_29 0 (.aload_n 0) 1 ∧ De bdX5_addBit_29 1 (.dup) 1 ∧ De bdX5_addBit_29 2 (.getfield 29) 3 ∧ De bdX5_addBit_29 5 (.iconst 1) 1 ∧ De bdX5_addBit_29 6 (.iadd) 1 ∧ De bdX5_addBit_29 7 (.putfield 29) 3 ∧ De bdX5_addBit_29 10 (.aload_n 0) 1 ∧ De bdX5_addBit_29 11 (.getfield 15) 3 ∧ De bdX5_addBit_29 14 (.aload_n 0) 1 ∧ De bdX5_addBit_29 15 (.getfield 29) 3 ∧ De bdX5_addBit_29 18 (.iload_n 1) 1 ∧ De bdX5_addBit_29 19 (.iastore) 1 ∧ De bdX5_addBit_29 20 (.aload_n 0) 1 ∧ De bdX5_addBit_29 21 (.dup) 1 ∧ De bdX5_addBit_29 22 (.getfield 33) 3 ∧ De bdX5_addBit_29 25 (.iload_n 2) 1 := by decide +kernel
theorem dX5_addBit_29 : decode cX5_addBit 29 = .ok (.aload_n 0, 1) := dAt wdX5_addBit_29 adX5_addBit_29.1 rfl
theorem dX5_addBit_30 : decode cX5_addBit 30 = .ok (.dup, 1) := dAt wdX5_addBit_29 adX5_addBit_29.2.1 rfl
theorem dX5_addBit_31 : decode cX5_addBit 31 = .ok (.getfield 29, 3) := dAt wdX5_addBit_29 adX5_addBit_29.2.2.1 rfl
theorem dX5_addBit_34 : decode cX5_addBit 34 = .ok (.iconst 1, 1) := dAt wdX5_addBit_29 adX5_addBit_29.2.2.2.1 rfl
theorem dX5_addBit_35 : decode cX5_addBit 35 = .ok (.iadd, 1) := dAt wdX5_addBit_29 adX5_addBit_29.2.2.2.2.1 rfl
theorem dX5_addBit_36 : decode cX5_addBit 36 = .ok (.putfield 29, 3) := dAt wdX5_addBit_29 adX5_addBit_29.2.2.2.2.2.1 rfl
theorem dX5_addBit_39 : decode cX5_addBit 39 = .ok (.aload_n 0, 1) := dAt wdX5_addBit_29 adX5_addBit_29.2.2.2.2.2.2.1 rfl
theorem dX5_addBit_40 : decode cX5_addBit 40 = .ok (.getfield 15, 3) := dAt wdX5_addBit_29 adX5_addBit_29.2.2.2.2.2.2.2.1 rfl
theorem dX5_addBit_43 : decode cX5_addBit 43 = .ok (.aload_n 0, 1) := dAt wdX5_addBit_29 adX5_addBit_29.2.2.2.2.2.2.2.2.1 rfl
theorem dX5_addBit_44 : decode cX5_addBit 44 = .ok (.getfield 29, 3) := dAt wdX5_addBit_29 adX5_addBit_29.2.2.2.2.2.2.2.2.2.1 rfl
theorem dX5_addBit_47 : decode cX5_addBit 47 = .ok (.iload_n 1, 1) := dAt wdX5_addBit_29 adX5_addBit_29.2.2.2.2.2.2.2.2.2.2.1 rfl
theorem dX5_addBit_48 : decode cX5_addBit 48 = .ok (.iastore, 1) := dAt wdX5_addBit_29 adX5_addBit_29.2.2.2.2.2.2.2.2.2.2.2.1 rfl
theorem dX5_addBit_49 : decode cX5_addBit 49 = .ok (.aload_n 0, 1) := dAt wdX5_addBit_29 adX5_addBit_29.2.2.2.2.2.2.2.2.2.2.2.2.1 rfl
theorem dX5_addBit_50 : decode cX5_addBit 50 = .ok (.dup, 1) := dAt wdX5_addBit_29 adX5_addBit_29.2.2.2.2.2.2.2.2.2.2.2.2.2.1 rfl
theorem dX5_addBit_51 : decode cX5_addBit 51 = .ok (.getfield 33, 3) := dAt wdX5_addBit_29 adX5_addBit_29.2.2.2.2.2.2.2.2.2.2.2.2.2.2.1 rfl
theorem dX5_addBit_54 : decode cX5_addBit 54 = .ok (.iload_n 2, 1) := dAt wdX5_addBit_29 adX5_addBit_29.2.2.2.2.2.2.2.2.2.2.2.2.2.2.2 rfl
def bdX5_addBit_55 : ByteArray := .mk #[153, 0, 7, 4, 167, 0, 4, 3, 96, 181, 0, 33, 177]
theorem wdX5_addBit_55 : LocW cX5_addBit 55 bdX5_addBit_55 := loc_of (by decide +kernel)
theorem adX5_addBit_55 : De bdX5_addBit_55 0 (.ifCond .eq 7) 3 ∧ De bdX5_addBit_55 3 (.iconst 1) 1 ∧ De bdX5_addBit_55 4 (.goto 4) 3 ∧ De bdX5_addBit_55 7 (.iconst 0) 1 ∧ De bdX5_addBit_55 8 (.iadd) 1 ∧ De bdX5_addBit_55 9 (.putfield 33) 3 ∧ De bdX5_addBit_55 12 (.return_) 1 := by decide +kernel
theorem dX5_addBit_55 : decode cX5_addBit 55 = .ok (.ifCond .eq 7, 3) := dAt wdX5_addBit_55 adX5_addBit_55.1 rfl
theorem dX5_addBit_58 : decode cX5_addBit 58 = .ok (.iconst 1, 1) := dAt wdX5_addBit_55 adX5_addBit_55.2.1 rfl
theorem dX5_addBit_59 : decode cX5_addBit 59 = .ok (.goto 4, 3) := dAt wdX5_addBit_55 adX5_addBit_55.2.2.1 rfl
theorem dX5_addBit_62 : decode cX5_addBit 62 = .ok (.iconst 0, 1) := dAt wdX5_addBit_55 adX5_addBit_55.2.2.2.1 rfl
theorem dX5_addBit_63 : decode cX5_addBit 63 = .ok (.iadd, 1) := dAt wdX5_addBit_55 adX5_addBit_55.2.2.2.2.1 rfl
theorem dX5_addBit_64 : decode cX5_addBit 64 = .ok (.putfield 33, 3) := dAt wdX5_addBit_55 adX5_addBit_55.2.2.2.2.2.1 rfl
theorem dX5_addBit_67 : decode cX5_addBit 67 = .ok (.return_, 1) := dAt wdX5_addBit_55 adX5_addBit_55.2.2.2.2.2.2 rfl
def bdX5_addBits_0 : ByteArray := .mk #[28, 54, 4, 21, 4, 29, 162, 0, 118, 21, 4, 43, 180, 0, 29, 162, 0, 109, 42, 180, 0, 15, 42, 180, 0, 29, 46, 54, 5, 43]
theorem wdX5_addBits_0 : LocW cX5_addBits 0 bdX5_addBits_0 := loc_of (by decide +kernel)
theorem adX5_addBits_0 : De bdX5_addBits_0 0 (.iload_n 2) 1 ∧ De bdX5_addBits_0 1 (.istore 4) 2 ∧ De bdX5_addBits_0 3 (.iload 4) 2 ∧ De bdX5_addBits_0 5 (.iload_n 3) 1 ∧ De bdX5_addBits_0 6 (.if_icmp .ge 118) 3 ∧ De bdX5_addBits_0 9 (.iload 4) 2 ∧ De bdX5_addBits_0 11 (.aload_n 1) 1 ∧ De bdX5_addBits_0 12 (.getfield 29) 3 ∧ De bdX5_addBits_0 15 (.if_icmp .ge 109) 3 ∧ De bdX5_addBits_0 18 (.aload_n 0) 1 ∧ De bdX5_addBits_0 19 (.getfield 15) 3 ∧ De bdX5_addBits_0 22 (.aload_n 0) 1 ∧ De bdX5_addBits_0 23 (.getfield 29) 3 ∧ De bdX5_addBits_0 26 (.iaload) 1 ∧ De bdX5_addBits_0 27 (.istore 5) 2 ∧ De bdX5_addBits_0 29 (.aload_n 1) 1 := by decide +kernel
theorem dX5_addBits_0 : decode cX5_addBits 0 = .ok (.iload_n 2, 1) := dAt wdX5_addBits_0 adX5_addBits_0.1 rfl
theorem dX5_addBits_1 : decode cX5_addBits 1 = .ok (.istore 4, 2) := dAt wdX5_addBits_0 adX5_addBits_0.2.1 rfl
theorem dX5_addBits_3 : decode cX5_addBits 3 = .ok (.iload 4, 2) := dAt wdX5_addBits_0 adX5_addBits_0.2.2.1 rfl
theorem dX5_addBits_5 : decode cX5_addBits 5 = .ok (.iload_n 3, 1) := dAt wdX5_addBits_0 adX5_addBits_0.2.2.2.1 rfl
theorem dX5_addBits_6 : decode cX5_addBits 6 = .ok (.if_icmp .ge 118, 3) := dAt wdX5_addBits_0 adX5_addBits_0.2.2.2.2.1 rfl
theorem dX5_addBits_9 : decode cX5_addBits 9 = .ok (.iload 4, 2) := dAt wdX5_addBits_0 adX5_addBits_0.2.2.2.2.2.1 rfl
theorem dX5_addBits_11 : decode cX5_addBits 11 = .ok (.aload_n 1, 1) := dAt wdX5_addBits_0 adX5_addBits_0.2.2.2.2.2.2.1 rfl
theorem dX5_addBits_12 : decode cX5_addBits 12 = .ok (.getfield 29, 3) := dAt wdX5_addBits_0 adX5_addBits_0.2.2.2.2.2.2.2.1 rfl
theorem dX5_addBits_15 : decode cX5_addBits 15 = .ok (.if_icmp .ge 109, 3) := dAt wdX5_addBits_0 adX5_addBits_0.2.2.2.2.2.2.2.2.1 rfl
theorem dX5_addBits_18 : decode cX5_addBits 18 = .ok (.aload_n 0, 1) := dAt wdX5_addBits_0 adX5_addBits_0.2.2.2.2.2.2.2.2.2.1 rfl
theorem dX5_addBits_19 : decode cX5_addBits 19 = .ok (.getfield 15, 3) := dAt wdX5_addBits_0 adX5_addBits_0.2.2.2.2.2.2.2.2.2.2.1 rfl
theorem dX5_addBits_22 : decode cX5_addBits 22 = .ok (.aload_n 0, 1) := dAt wdX5_addBits_0 adX5_addBits_0.2.2.2.2.2.2.2.2.2.2.2.1 rfl
theorem dX5_addBits_23 : decode cX5_addBits 23 = .ok (.getfield 29, 3) := dAt wdX5_addBits_0 adX5_addBits_0.2.2.2.2.2.2.2.2.2.2.2.2.1 rfl
theorem dX5_addBits_26 : decode cX5_addBits 26 = .ok (.iaload, 1) := dAt wdX5_addBits_0 adX5_addBits_0.2.2.2.2.2.2.2.2.2.2.2.2.2.1 rfl
theorem dX5_addBits_27 : decode cX5_addBits 27 = .ok (.istore 5, 2) := dAt wdX5_addBits_0 adX5_addBits_0.2.2.2.2.2.2.2.2.2.2.2.2.2.2.1 rfl
theorem dX5_addBits_29 : decode cX5_addBits 29 = .ok (.aload_n 1, 1) := dAt wdX5_addBits_0 adX5_addBits_0.2.2.2.2.2.2.2.2.2.2.2.2.2.2.2 rfl
def bdX5_addBits_30 : ByteArray := .mk #[180, 0, 15, 21, 4, 4, 96, 46, 43, 180, 0, 15, 21, 4, 46, 100, 54, 6, 3, 54, 7, 21, 7, 21, 6, 162, 0, 47]
theorem wdX5_addBits_30 : LocW cX5_addBits 30 bdX5_addBits_30 := loc_of (by decide +kernel)
theorem adX5_addBits_30 : De bdX5_addBits_30 0 (.getfield 15) 3 ∧ De bdX5_addBits_30 3 (.iload 4) 2 ∧ De bdX5_addBits_30 5 (.iconst 1) 1 ∧ De bdX5_addBits_30 6 (.iadd) 1 ∧ De bdX5_addBits_30 7 (.iaload) 1 ∧ De bdX5_addBits_30 8 (.aload_n 1) 1 ∧ De bdX5_addBits_30 9 (.getfield 15) 3 ∧ De bdX5_addBits_30 12 (.iload 4) 2 ∧ De bdX5_addBits_30 14 (.iaload) 1 ∧ De bdX5_addBits_30 15 (.isub) 1 ∧ De bdX5_addBits_30 16 (.istore 6) 2 ∧ De bdX5_addBits_30 18 (.iconst 0) 1 ∧ De bdX5_addBits_30 19 (.istore 7) 2 ∧ De bdX5_addBits_30 21 (.iload 7) 2 ∧ De bdX5_addBits_30 23 (.iload 6) 2 ∧ De bdX5_addBits_30 25 (.if_icmp .ge 47) 3 := by decide +kernel
theorem dX5_addBits_30 : decode cX5_addBits 30 = .ok (.getfield 15, 3) := dAt wdX5_addBits_30 adX5_addBits_30.1 rfl
theorem dX5_addBits_33 : decode cX5_addBits 33 = .ok (.iload 4, 2) := dAt wdX5_addBits_30 adX5_addBits_30.2.1 rfl
theorem dX5_addBits_35 : decode cX5_addBits 35 = .ok (.iconst 1, 1) := dAt wdX5_addBits_30 adX5_addBits_30.2.2.1 rfl
theorem dX5_addBits_36 : decode cX5_addBits 36 = .ok (.iadd, 1) := dAt wdX5_addBits_30 adX5_addBits_30.2.2.2.1 rfl
theorem dX5_addBits_37 : decode cX5_addBits 37 = .ok (.iaload, 1) := dAt wdX5_addBits_30 adX5_addBits_30.2.2.2.2.1 rfl
theorem dX5_addBits_38 : decode cX5_addBits 38 = .ok (.aload_n 1, 1) := dAt wdX5_addBits_30 adX5_addBits_30.2.2.2.2.2.1 rfl
theorem dX5_addBits_39 : decode cX5_addBits 39 = .ok (.getfield 15, 3) := dAt wdX5_addBits_30 adX5_addBits_30.2.2.2.2.2.2.1 rfl
theorem dX5_addBits_42 : decode cX5_addBits 42 = .ok (.iload 4, 2) := dAt wdX5_addBits_30 adX5_addBits_30.2.2.2.2.2.2.2.1 rfl
theorem dX5_addBits_44 : decode cX5_addBits 44 = .ok (.iaload, 1) := dAt wdX5_addBits_30 adX5_addBits_30.2.2.2.2.2.2.2.2.1 rfl
theorem dX5_addBits_45 : decode cX5_addBits 45 = .ok (.isub, 1) := dAt wdX5_addBits_30 adX5_addBits_30.2.2.2.2.2.2.2.2.2.1 rfl
theorem dX5_addBits_46 : decode cX5_addBits 46 = .ok (.istore 6, 2) := dAt wdX5_addBits_30 adX5_addBits_30.2.2.2.2.2.2.2.2.2.2.1 rfl
theorem dX5_addBits_48 : decode cX5_addBits 48 = .ok (.iconst 0, 1) := dAt wdX5_addBits_30 adX5_addBits_30.2.2.2.2.2.2.2.2.2.2.2.1 rfl
theorem dX5_addBits_49 : decode cX5_addBits 49 = .ok (.istore 7, 2) := dAt wdX5_addBits_30 adX5_addBits_30.2.2.2.2.2.2.2.2.2.2.2.2.1 rfl
theorem dX5_addBits_51 : decode cX5_addBits 51 = .ok (.iload 7, 2) := dAt wdX5_addBits_30 adX5_addBits_30.2.2.2.2.2.2.2.2.2.2.2.2.2.1 rfl
theorem dX5_addBits_53 : decode cX5_addBits 53 = .ok (.iload 6, 2) := dAt wdX5_addBits_30 adX5_addBits_30.2.2.2.2.2.2.2.2.2.2.2.2.2.2.1 rfl
theorem dX5_addBits_55 : decode cX5_addBits 55 = .ok (.if_icmp .ge 47, 3) := dAt wdX5_addBits_30 adX5_addBits_30.2.2.2.2.2.2.2.2.2.2.2.2.2.2.2 rfl
def bdX5_addBits_58 : ByteArray := .mk #[21, 5, 21, 7, 96, 42, 180, 0, 9, 190, 162, 0, 34, 42, 180, 0, 9, 21, 5, 21, 7, 96, 43, 180, 0, 9, 43, 180, 0, 15]
theorem wdX5_addBits_58 : LocW cX5_addBits 58 bdX5_addBits_58 := loc_of (by decide +kernel)
theorem adX5_addBits_58 : De bdX5_addBits_58 0 (.iload 5) 2 ∧ De bdX5_addBits_58 2 (.iload 7) 2 ∧ De bdX5_addBits_58 4 (.iadd) 1 ∧ De bdX5_addBits_58 5 (.aload_n 0) 1 ∧ De bdX5_addBits_58 6 (.getfield 9) 3 ∧ De bdX5_addBits_58 9 (.arraylength) 1 ∧ De bdX5_addBits_58 10 (.if_icmp .ge 34) 3 ∧ De bdX5_addBits_58 13 (.aload_n 0) 1 ∧ De bdX5_addBits_58 14 (.getfield 9) 3 ∧ De bdX5_addBits_58 17 (.iload 5) 2 ∧ De bdX5_addBits_58 19 (.iload 7) 2 ∧ De bdX5_addBits_58 21 (.iadd) 1 ∧ De bdX5_addBits_58 22 (.aload_n 1) 1 ∧ De bdX5_addBits_58 23 (.getfield 9) 3 ∧ De bdX5_addBits_58 26 (.aload_n 1) 1 ∧ De bdX5_addBits_58 27 (.getfield 15) 3 := by decide +kernel
theorem dX5_addBits_58 : decode cX5_addBits 58 = .ok (.iload 5, 2) := dAt wdX5_addBits_58 adX5_addBits_58.1 rfl
theorem dX5_addBits_60 : decode cX5_addBits 60 = .ok (.iload 7, 2) := dAt wdX5_addBits_58 adX5_addBits_58.2.1 rfl
theorem dX5_addBits_62 : decode cX5_addBits 62 = .ok (.iadd, 1) := dAt wdX5_addBits_58 adX5_addBits_58.2.2.1 rfl
theorem dX5_addBits_63 : decode cX5_addBits 63 = .ok (.aload_n 0, 1) := dAt wdX5_addBits_58 adX5_addBits_58.2.2.2.1 rfl
theorem dX5_addBits_64 : decode cX5_addBits 64 = .ok (.getfield 9, 3) := dAt wdX5_addBits_58 adX5_addBits_58.2.2.2.2.1 rfl
theorem dX5_addBits_67 : decode cX5_addBits 67 = .ok (.arraylength, 1) := dAt wdX5_addBits_58 adX5_addBits_58.2.2.2.2.2.1 rfl
theorem dX5_addBits_68 : decode cX5_addBits 68 = .ok (.if_icmp .ge 34, 3) := dAt wdX5_addBits_58 adX5_addBits_58.2.2.2.2.2.2.1 rfl
theorem dX5_addBits_71 : decode cX5_addBits 71 = .ok (.aload_n 0, 1) := dAt wdX5_addBits_58 adX5_addBits_58.2.2.2.2.2.2.2.1 rfl
theorem dX5_addBits_72 : decode cX5_addBits 72 = .ok (.getfield 9, 3) := dAt wdX5_addBits_58 adX5_addBits_58.2.2.2.2.2.2.2.2.1 rfl
theorem dX5_addBits_75 : decode cX5_addBits 75 = .ok (.iload 5, 2) := dAt wdX5_addBits_58 adX5_addBits_58.2.2.2.2.2.2.2.2.2.1 rfl
theorem dX5_addBits_77 : decode cX5_addBits 77 = .ok (.iload 7, 2) := dAt wdX5_addBits_58 adX5_addBits_58.2.2.2.2.2.2.2.2.2.2.1 rfl
theorem dX5_addBits_79 : decode cX5_addBits 79 = .ok (.iadd, 1) := dAt wdX5_addBits_58 adX5_addBits_58.2.2.2.2.2.2.2.2.2.2.2.1 rfl
theorem dX5_addBits_80 : decode cX5_addBits 80 = .ok (.aload_n 1, 1) := dAt wdX5_addBits_58 adX5_addBits_58.2.2.2.2.2.2.2.2.2.2.2.2.1 rfl
theorem dX5_addBits_81 : decode cX5_addBits 81 = .ok (.getfield 9, 3) := dAt wdX5_addBits_58 adX5_addBits_58.2.2.2.2.2.2.2.2.2.2.2.2.2.1 rfl
theorem dX5_addBits_84 : decode cX5_addBits 84 = .ok (.aload_n 1, 1) := dAt wdX5_addBits_58 adX5_addBits_58.2.2.2.2.2.2.2.2.2.2.2.2.2.2.1 rfl
theorem dX5_addBits_85 : decode cX5_addBits 85 = .ok (.getfield 15, 3) := dAt wdX5_addBits_58 adX5_addBits_58.2.2.2.2.2.2.2.2.2.2.2.2.2.2.2 rfl
def bdX5_addBits_88 : ByteArray := .mk #[21, 4, 46, 21, 7, 96, 51, 84, 132, 7, 1, 167, 255, 208, 42, 21, 5, 21, 6, 96, 43, 180, 0, 19, 21, 4, 51]
theorem wdX5_addBits_88 : LocW cX5_addBits 88 bdX5_addBits_88 := loc_of (by decide +kernel)
theorem adX5_addBits_88 : De bdX5_addBits_88 0 (.iload 4) 2 ∧ De bdX5_addBits_88 2 (.iaload) 1 ∧ De bdX5_addBits_88 3 (.iload 7) 2 ∧ De bdX5_addBits_88 5 (.iadd) 1 ∧ De bdX5_addBits_88 6 (.baload) 1 ∧ De bdX5_addBits_88 7 (.bastore) 1 ∧ De bdX5_addBits_88 8 (.iinc 7 1) 3 ∧ De bdX5_addBits_88 11 (.goto (-48)) 3 ∧ De bdX5_addBits_88 14 (.aload_n 0) 1 ∧ De bdX5_addBits_88 15 (.iload 5) 2 ∧ De bdX5_addBits_88 17 (.iload 6) 2 ∧ De bdX5_addBits_88 19 (.iadd) 1 ∧ De bdX5_addBits_88 20 (.aload_n 1) 1 ∧ De bdX5_addBits_88 21 (.getfield 19) 3 ∧ De bdX5_addBits_88 24 (.iload 4) 2 ∧ De bdX5_addBits_88 26 (.baload) 1 := by decide +kernel
theorem dX5_addBits_88 : decode cX5_addBits 88 = .ok (.iload 4, 2) := dAt wdX5_addBits_88 adX5_addBits_88.1 rfl
theorem dX5_addBits_90 : decode cX5_addBits 90 = .ok (.iaload, 1) := dAt wdX5_addBits_88 adX5_addBits_88.2.1 rfl
theorem dX5_addBits_91 : decode cX5_addBits 91 = .ok (.iload 7, 2) := dAt wdX5_addBits_88 adX5_addBits_88.2.2.1 rfl
theorem dX5_addBits_93 : decode cX5_addBits 93 = .ok (.iadd, 1) := dAt wdX5_addBits_88 adX5_addBits_88.2.2.2.1 rfl
theorem dX5_addBits_94 : decode cX5_addBits 94 = .ok (.baload, 1) := dAt wdX5_addBits_88 adX5_addBits_88.2.2.2.2.1 rfl
theorem dX5_addBits_95 : decode cX5_addBits 95 = .ok (.bastore, 1) := dAt wdX5_addBits_88 adX5_addBits_88.2.2.2.2.2.1 rfl
theorem dX5_addBits_96 : decode cX5_addBits 96 = .ok (.iinc 7 1, 3) := dAt wdX5_addBits_88 adX5_addBits_88.2.2.2.2.2.2.1 rfl
theorem dX5_addBits_99 : decode cX5_addBits 99 = .ok (.goto (-48), 3) := dAt wdX5_addBits_88 adX5_addBits_88.2.2.2.2.2.2.2.1 rfl
theorem dX5_addBits_102 : decode cX5_addBits 102 = .ok (.aload_n 0, 1) := dAt wdX5_addBits_88 adX5_addBits_88.2.2.2.2.2.2.2.2.1 rfl
theorem dX5_addBits_103 : decode cX5_addBits 103 = .ok (.iload 5, 2) := dAt wdX5_addBits_88 adX5_addBits_88.2.2.2.2.2.2.2.2.2.1 rfl
theorem dX5_addBits_105 : decode cX5_addBits 105 = .ok (.iload 6, 2) := dAt wdX5_addBits_88 adX5_addBits_88.2.2.2.2.2.2.2.2.2.2.1 rfl
theorem dX5_addBits_107 : decode cX5_addBits 107 = .ok (.iadd, 1) := dAt wdX5_addBits_88 adX5_addBits_88.2.2.2.2.2.2.2.2.2.2.2.1 rfl
theorem dX5_addBits_108 : decode cX5_addBits 108 = .ok (.aload_n 1, 1) := dAt wdX5_addBits_88 adX5_addBits_88.2.2.2.2.2.2.2.2.2.2.2.2.1 rfl
theorem dX5_addBits_109 : decode cX5_addBits 109 = .ok (.getfield 19, 3) := dAt wdX5_addBits_88 adX5_addBits_88.2.2.2.2.2.2.2.2.2.2.2.2.2.1 rfl
theorem dX5_addBits_112 : decode cX5_addBits 112 = .ok (.iload 4, 2) := dAt wdX5_addBits_88 adX5_addBits_88.2.2.2.2.2.2.2.2.2.2.2.2.2.2.1 rfl
theorem dX5_addBits_114 : decode cX5_addBits 114 = .ok (.baload, 1) := dAt wdX5_addBits_88 adX5_addBits_88.2.2.2.2.2.2.2.2.2.2.2.2.2.2.2 rfl
def bdX5_addBits_115 : ByteArray := .mk #[182, 0, 75, 132, 4, 1, 167, 255, 138, 177]
theorem wdX5_addBits_115 : LocW cX5_addBits 115 bdX5_addBits_115 := loc_of (by decide +kernel)
theorem adX5_addBits_115 : De bdX5_addBits_115 0 (.invokevirtual 75) 3 ∧ De bdX5_addBits_115 3 (.iinc 4 1) 3 ∧ De bdX5_addBits_115 6 (.goto (-118)) 3 ∧ De bdX5_addBits_115 9 (.return_) 1 := by decide +kernel
theorem dX5_addBits_115 : decode cX5_addBits 115 = .ok (.invokevirtual 75, 3) := dAt wdX5_addBits_115 adX5_addBits_115.1 rfl
theorem dX5_addBits_118 : decode cX5_addBits 118 = .ok (.iinc 4 1, 3) := dAt wdX5_addBits_115 adX5_addBits_115.2.1 rfl
theorem dX5_addBits_121 : decode cX5_addBits 121 = .ok (.goto (-118), 3) := dAt wdX5_addBits_115 adX5_addBits_115.2.2.1 rfl
theorem dX5_addBits_124 : decode cX5_addBits 124 = .ok (.return_, 1) := dAt wdX5_addBits_115 adX5_addBits_115.2.2.2 rfl
def bdX5_putWord_0 : ByteArray := .mk #[42, 43, 180, 0, 36, 43, 180, 0, 39, 182, 0, 79, 43, 28, 182, 0, 83, 54, 5, 42, 43, 3, 21, 5, 182, 0, 87, 42]
theorem wdX5_putWord_0 : LocW cX5_putWord 0 bdX5_putWord_0 := loc_of (by decide +kernel)
theorem adX5_putWord_0 : De bdX5_putWord_0 0 (.aload_n 0) 1 ∧ De bdX5_putWord_0 1 (.aload_n 1) 1 ∧ De bdX5_putWord_0 2 (.getfield 36) 3 ∧ De bdX5_putWord_0 5 (.aload_n 1) 1 ∧ De bdX5_putWord_0 6 (.getfield 39) 3 ∧ De bdX5_putWord_0 9 (.invokevirtual 79) 3 ∧ De bdX5_putWord_0 12 (.aload_n 1) 1 ∧ De bdX5_putWord_0 13 (.iload_n 2) 1 ∧ De bdX5_putWord_0 14 (.invokevirtual 83) 3 ∧ De bdX5_putWord_0 17 (.istore 5) 2 ∧ De bdX5_putWord_0 19 (.aload_n 0) 1 ∧ De bdX5_putWord_0 20 (.aload_n 1) 1 ∧ De bdX5_putWord_0 21 (.iconst 0) 1 ∧ De bdX5_putWord_0 22 (.iload 5) 2 ∧ De bdX5_putWord_0 24 (.invokevirtual 87) 3 ∧ De bdX5_putWord_0 27 (.aload_n 0) 1 := by decide +kernel
theorem dX5_putWord_0 : decode cX5_putWord 0 = .ok (.aload_n 0, 1) := dAt wdX5_putWord_0 adX5_putWord_0.1 rfl
theorem dX5_putWord_1 : decode cX5_putWord 1 = .ok (.aload_n 1, 1) := dAt wdX5_putWord_0 adX5_putWord_0.2.1 rfl
theorem dX5_putWord_2 : decode cX5_putWord 2 = .ok (.getfield 36, 3) := dAt wdX5_putWord_0 adX5_putWord_0.2.2.1 rfl
theorem dX5_putWord_5 : decode cX5_putWord 5 = .ok (.aload_n 1, 1) := dAt wdX5_putWord_0 adX5_putWord_0.2.2.2.1 rfl
theorem dX5_putWord_6 : decode cX5_putWord 6 = .ok (.getfield 39, 3) := dAt wdX5_putWord_0 adX5_putWord_0.2.2.2.2.1 rfl
theorem dX5_putWord_9 : decode cX5_putWord 9 = .ok (.invokevirtual 79, 3) := dAt wdX5_putWord_0 adX5_putWord_0.2.2.2.2.2.1 rfl
theorem dX5_putWord_12 : decode cX5_putWord 12 = .ok (.aload_n 1, 1) := dAt wdX5_putWord_0 adX5_putWord_0.2.2.2.2.2.2.1 rfl
theorem dX5_putWord_13 : decode cX5_putWord 13 = .ok (.iload_n 2, 1) := dAt wdX5_putWord_0 adX5_putWord_0.2.2.2.2.2.2.2.1 rfl
theorem dX5_putWord_14 : decode cX5_putWord 14 = .ok (.invokevirtual 83, 3) := dAt wdX5_putWord_0 adX5_putWord_0.2.2.2.2.2.2.2.2.1 rfl
theorem dX5_putWord_17 : decode cX5_putWord 17 = .ok (.istore 5, 2) := dAt wdX5_putWord_0 adX5_putWord_0.2.2.2.2.2.2.2.2.2.1 rfl
theorem dX5_putWord_19 : decode cX5_putWord 19 = .ok (.aload_n 0, 1) := dAt wdX5_putWord_0 adX5_putWord_0.2.2.2.2.2.2.2.2.2.2.1 rfl
theorem dX5_putWord_20 : decode cX5_putWord 20 = .ok (.aload_n 1, 1) := dAt wdX5_putWord_0 adX5_putWord_0.2.2.2.2.2.2.2.2.2.2.2.1 rfl
theorem dX5_putWord_21 : decode cX5_putWord 21 = .ok (.iconst 0, 1) := dAt wdX5_putWord_0 adX5_putWord_0.2.2.2.2.2.2.2.2.2.2.2.2.1 rfl
theorem dX5_putWord_22 : decode cX5_putWord 22 = .ok (.iload 5, 2) := dAt wdX5_putWord_0 adX5_putWord_0.2.2.2.2.2.2.2.2.2.2.2.2.2.1 rfl
theorem dX5_putWord_24 : decode cX5_putWord 24 = .ok (.invokevirtual 87, 3) := dAt wdX5_putWord_0 adX5_putWord_0.2.2.2.2.2.2.2.2.2.2.2.2.2.2.1 rfl
theorem dX5_putWord_27 : decode cX5_putWord 27 = .ok (.aload_n 0, 1) := dAt wdX5_putWord_0 adX5_putWord_0.2.2.2.2.2.2.2.2.2.2.2.2.2.2.2 rfl
def bdX5_putWord_28 : ByteArray := .mk #[45, 3, 21, 4, 182, 0, 91, 42, 43, 21, 5, 43, 28, 182, 0, 95, 96, 43, 180, 0, 29, 182, 0, 87, 177]
theorem wdX5_putWord_28 : LocW cX5_putWord 28 bdX5_putWord_28 := loc_of (by decide +kernel)
theorem adX5_putWord_28 : De bdX5_putWord_28 0 (.aload_n 3) 1 ∧ De bdX5_putWord_28 1 (.iconst 0) 1 ∧ De bdX5_putWord_28 2 (.iload 4) 2 ∧ De bdX5_putWord_28 4 (.invokevirtual 91) 3 ∧ De bdX5_putWord_28 7 (.aload_n 0) 1 ∧ De bdX5_putWord_28 8 (.aload_n 1) 1 ∧ De bdX5_putWord_28 9 (.iload 5) 2 ∧ De bdX5_putWord_28 11 (.aload_n 1) 1 ∧ De bdX5_putWord_28 12 (.iload_n 2) 1 ∧ De bdX5_putWord_28 13 (.invokevirtual 95) 3 ∧ De bdX5_putWord_28 16 (.iadd) 1 ∧ De bdX5_putWord_28 17 (.aload_n 1) 1 ∧ De bdX5_putWord_28 18 (.getfield 29) 3 ∧ De bdX5_putWord_28 21 (.invokevirtual 87) 3 ∧ De bdX5_putWord_28 24 (.return_) 1 := by decide +kernel
theorem dX5_putWord_28 : decode cX5_putWord 28 = .ok (.aload_n 3, 1) := dAt wdX5_putWord_28 adX5_putWord_28.1 rfl
theorem dX5_putWord_29 : decode cX5_putWord 29 = .ok (.iconst 0, 1) := dAt wdX5_putWord_28 adX5_putWord_28.2.1 rfl
theorem dX5_putWord_30 : decode cX5_putWord 30 = .ok (.iload 4, 2) := dAt wdX5_putWord_28 adX5_putWord_28.2.2.1 rfl
theorem dX5_putWord_32 : decode cX5_putWord 32 = .ok (.invokevirtual 91, 3) := dAt wdX5_putWord_28 adX5_putWord_28.2.2.2.1 rfl
theorem dX5_putWord_35 : decode cX5_putWord 35 = .ok (.aload_n 0, 1) := dAt wdX5_putWord_28 adX5_putWord_28.2.2.2.2.1 rfl
theorem dX5_putWord_36 : decode cX5_putWord 36 = .ok (.aload_n 1, 1) := dAt wdX5_putWord_28 adX5_putWord_28.2.2.2.2.2.1 rfl
theorem dX5_putWord_37 : decode cX5_putWord 37 = .ok (.iload 5, 2) := dAt wdX5_putWord_28 adX5_putWord_28.2.2.2.2.2.2.1 rfl
theorem dX5_putWord_39 : decode cX5_putWord 39 = .ok (.aload_n 1, 1) := dAt wdX5_putWord_28 adX5_putWord_28.2.2.2.2.2.2.2.1 rfl
theorem dX5_putWord_40 : decode cX5_putWord 40 = .ok (.iload_n 2, 1) := dAt wdX5_putWord_28 adX5_putWord_28.2.2.2.2.2.2.2.2.1 rfl
theorem dX5_putWord_41 : decode cX5_putWord 41 = .ok (.invokevirtual 95, 3) := dAt wdX5_putWord_28 adX5_putWord_28.2.2.2.2.2.2.2.2.2.1 rfl
theorem dX5_putWord_44 : decode cX5_putWord 44 = .ok (.iadd, 1) := dAt wdX5_putWord_28 adX5_putWord_28.2.2.2.2.2.2.2.2.2.2.1 rfl
theorem dX5_putWord_45 : decode cX5_putWord 45 = .ok (.aload_n 1, 1) := dAt wdX5_putWord_28 adX5_putWord_28.2.2.2.2.2.2.2.2.2.2.2.1 rfl
theorem dX5_putWord_46 : decode cX5_putWord 46 = .ok (.getfield 29, 3) := dAt wdX5_putWord_28 adX5_putWord_28.2.2.2.2.2.2.2.2.2.2.2.2.1 rfl
theorem dX5_putWord_49 : decode cX5_putWord 49 = .ok (.invokevirtual 87, 3) := dAt wdX5_putWord_28 adX5_putWord_28.2.2.2.2.2.2.2.2.2.2.2.2.2.1 rfl
theorem dX5_putWord_52 : decode cX5_putWord 52 = .ok (.return_, 1) := dAt wdX5_putWord_28 adX5_putWord_28.2.2.2.2.2.2.2.2.2.2.2.2.2.2 rfl
def bdX5_firstBit_0 : ByteArray := .mk #[3, 61, 3, 62, 29, 42, 180, 0, 29, 162, 0, 33, 28, 27, 160, 0, 5, 29, 172, 28, 42, 180, 0, 19]
theorem wdX5_firstBit_0 : LocW cX5_firstBit 0 bdX5_firstBit_0 := loc_of (by decide +kernel)
theorem adX5_firstBit_0 : De bdX5_firstBit_0 0 (.iconst 0) 1 ∧ De bdX5_firstBit_0 1 (.istore_n 2) 1 ∧ De bdX5_firstBit_0 2 (.iconst 0) 1 ∧ De bdX5_firstBit_0 3 (.istore_n 3) 1 ∧ De bdX5_firstBit_0 4 (.iload_n 3) 1 ∧ De bdX5_firstBit_0 5 (.aload_n 0) 1 ∧ De bdX5_firstBit_0 6 (.getfield 29) 3 ∧ De bdX5_firstBit_0 9 (.if_icmp .ge 33) 3 ∧ De bdX5_firstBit_0 12 (.iload_n 2) 1 ∧ De bdX5_firstBit_0 13 (.iload_n 1) 1 ∧ De bdX5_firstBit_0 14 (.if_icmp .ne 5) 3 ∧ De bdX5_firstBit_0 17 (.iload_n 3) 1 ∧ De bdX5_firstBit_0 18 (.ireturn) 1 ∧ De bdX5_firstBit_0 19 (.iload_n 2) 1 ∧ De bdX5_firstBit_0 20 (.aload_n 0) 1 ∧ De bdX5_firstBit_0 21 (.getfield 19) 3 := by decide +kernel
theorem dX5_firstBit_0 : decode cX5_firstBit 0 = .ok (.iconst 0, 1) := dAt wdX5_firstBit_0 adX5_firstBit_0.1 rfl
theorem dX5_firstBit_1 : decode cX5_firstBit 1 = .ok (.istore_n 2, 1) := dAt wdX5_firstBit_0 adX5_firstBit_0.2.1 rfl
theorem dX5_firstBit_2 : decode cX5_firstBit 2 = .ok (.iconst 0, 1) := dAt wdX5_firstBit_0 adX5_firstBit_0.2.2.1 rfl
theorem dX5_firstBit_3 : decode cX5_firstBit 3 = .ok (.istore_n 3, 1) := dAt wdX5_firstBit_0 adX5_firstBit_0.2.2.2.1 rfl
theorem dX5_firstBit_4 : decode cX5_firstBit 4 = .ok (.iload_n 3, 1) := dAt wdX5_firstBit_0 adX5_firstBit_0.2.2.2.2.1 rfl
theorem dX5_firstBit_5 : decode cX5_firstBit 5 = .ok (.aload_n 0, 1) := dAt wdX5_firstBit_0 adX5_firstBit_0.2.2.2.2.2.1 rfl
theorem dX5_firstBit_6 : decode cX5_firstBit 6 = .ok (.getfield 29, 3) := dAt wdX5_firstBit_0 adX5_firstBit_0.2.2.2.2.2.2.1 rfl
theorem dX5_firstBit_9 : decode cX5_firstBit 9 = .ok (.if_icmp .ge 33, 3) := dAt wdX5_firstBit_0 adX5_firstBit_0.2.2.2.2.2.2.2.1 rfl
theorem dX5_firstBit_12 : decode cX5_firstBit 12 = .ok (.iload_n 2, 1) := dAt wdX5_firstBit_0 adX5_firstBit_0.2.2.2.2.2.2.2.2.1 rfl
theorem dX5_firstBit_13 : decode cX5_firstBit 13 = .ok (.iload_n 1, 1) := dAt wdX5_firstBit_0 adX5_firstBit_0.2.2.2.2.2.2.2.2.2.1 rfl
theorem dX5_firstBit_14 : decode cX5_firstBit 14 = .ok (.if_icmp .ne 5, 3) := dAt wdX5_firstBit_0 adX5_firstBit_0.2.2.2.2.2.2.2.2.2.2.1 rfl
theorem dX5_firstBit_17 : decode cX5_firstBit 17 = .ok (.iload_n 3, 1) := dAt wdX5_firstBit_0 adX5_firstBit_0.2.2.2.2.2.2.2.2.2.2.2.1 rfl
theorem dX5_firstBit_18 : decode cX5_firstBit 18 = .ok (.ireturn, 1) := dAt wdX5_firstBit_0 adX5_firstBit_0.2.2.2.2.2.2.2.2.2.2.2.2.1 rfl
theorem dX5_firstBit_19 : decode cX5_firstBit 19 = .ok (.iload_n 2, 1) := dAt wdX5_firstBit_0 adX5_firstBit_0.2.2.2.2.2.2.2.2.2.2.2.2.2.1 rfl
theorem dX5_firstBit_20 : decode cX5_firstBit 20 = .ok (.aload_n 0, 1) := dAt wdX5_firstBit_0 adX5_firstBit_0.2.2.2.2.2.2.2.2.2.2.2.2.2.2.1 rfl
theorem dX5_firstBit_21 : decode cX5_firstBit 21 = .ok (.getfield 19, 3) := dAt wdX5_firstBit_0 adX5_firstBit_0.2.2.2.2.2.2.2.2.2.2.2.2.2.2.2 rfl
def bdX5_firstBit_24 : ByteArray := .mk #[29, 51, 153, 0, 7, 4, 167, 0, 4, 3, 96, 61, 132, 3, 1, 167, 255, 221, 42, 180, 0, 29, 172]
theorem wdX5_firstBit_24 : LocW cX5_firstBit 24 bdX5_firstBit_24 := loc_of (by decide +kernel)
theorem adX5_firstBit_24 : De bdX5_firstBit_24 0 (.iload_n 3) 1 ∧ De bdX5_firstBit_24 1 (.baload) 1 ∧ De bdX5_firstBit_24 2 (.ifCond .eq 7) 3 ∧ De bdX5_firstBit_24 5 (.iconst 1) 1 ∧ De bdX5_firstBit_24 6 (.goto 4) 3 ∧ De bdX5_firstBit_24 9 (.iconst 0) 1 ∧ De bdX5_firstBit_24 10 (.iadd) 1 ∧ De bdX5_firstBit_24 11 (.istore_n 2) 1 ∧ De bdX5_firstBit_24 12 (.iinc 3 1) 3 ∧ De bdX5_firstBit_24 15 (.goto (-35)) 3 ∧ De bdX5_firstBit_24 18 (.aload_n 0) 1 ∧ De bdX5_firstBit_24 19 (.getfield 29) 3 ∧ De bdX5_firstBit_24 22 (.ireturn) 1 := by decide +kernel
theorem dX5_firstBit_24 : decode cX5_firstBit 24 = .ok (.iload_n 3, 1) := dAt wdX5_firstBit_24 adX5_firstBit_24.1 rfl
theorem dX5_firstBit_25 : decode cX5_firstBit 25 = .ok (.baload, 1) := dAt wdX5_firstBit_24 adX5_firstBit_24.2.1 rfl
theorem dX5_firstBit_26 : decode cX5_firstBit 26 = .ok (.ifCond .eq 7, 3) := dAt wdX5_firstBit_24 adX5_firstBit_24.2.2.1 rfl
theorem dX5_firstBit_29 : decode cX5_firstBit 29 = .ok (.iconst 1, 1) := dAt wdX5_firstBit_24 adX5_firstBit_24.2.2.2.1 rfl
theorem dX5_firstBit_30 : decode cX5_firstBit 30 = .ok (.goto 4, 3) := dAt wdX5_firstBit_24 adX5_firstBit_24.2.2.2.2.1 rfl
theorem dX5_firstBit_33 : decode cX5_firstBit 33 = .ok (.iconst 0, 1) := dAt wdX5_firstBit_24 adX5_firstBit_24.2.2.2.2.2.1 rfl
theorem dX5_firstBit_34 : decode cX5_firstBit 34 = .ok (.iadd, 1) := dAt wdX5_firstBit_24 adX5_firstBit_24.2.2.2.2.2.2.1 rfl
theorem dX5_firstBit_35 : decode cX5_firstBit 35 = .ok (.istore_n 2, 1) := dAt wdX5_firstBit_24 adX5_firstBit_24.2.2.2.2.2.2.2.1 rfl
theorem dX5_firstBit_36 : decode cX5_firstBit 36 = .ok (.iinc 3 1, 3) := dAt wdX5_firstBit_24 adX5_firstBit_24.2.2.2.2.2.2.2.2.1 rfl
theorem dX5_firstBit_39 : decode cX5_firstBit 39 = .ok (.goto (-35), 3) := dAt wdX5_firstBit_24 adX5_firstBit_24.2.2.2.2.2.2.2.2.2.1 rfl
theorem dX5_firstBit_42 : decode cX5_firstBit 42 = .ok (.aload_n 0, 1) := dAt wdX5_firstBit_24 adX5_firstBit_24.2.2.2.2.2.2.2.2.2.2.1 rfl
theorem dX5_firstBit_43 : decode cX5_firstBit 43 = .ok (.getfield 29, 3) := dAt wdX5_firstBit_24 adX5_firstBit_24.2.2.2.2.2.2.2.2.2.2.2.1 rfl
theorem dX5_firstBit_46 : decode cX5_firstBit 46 = .ok (.ireturn, 1) := dAt wdX5_firstBit_24 adX5_firstBit_24.2.2.2.2.2.2.2.2.2.2.2.2 rfl
def bdX5_bitsOfWord_0 : ByteArray := .mk #[42, 27, 4, 96, 182, 0, 83, 42, 27, 182, 0, 83, 100, 172]
theorem wdX5_bitsOfWord_0 : LocW cX5_bitsOfWord 0 bdX5_bitsOfWord_0 := loc_of (by decide +kernel)
theorem adX5_bitsOfWord_0 : De bdX5_bitsOfWord_0 0 (.aload_n 0) 1 ∧ De bdX5_bitsOfWord_0 1 (.iload_n 1) 1 ∧ De bdX5_bitsOfWord_0 2 (.iconst 1) 1 ∧ De bdX5_bitsOfWord_0 3 (.iadd) 1 ∧ De bdX5_bitsOfWord_0 4 (.invokevirtual 83) 3 ∧ De bdX5_bitsOfWord_0 7 (.aload_n 0) 1 ∧ De bdX5_bitsOfWord_0 8 (.iload_n 1) 1 ∧ De bdX5_bitsOfWord_0 9 (.invokevirtual 83) 3 ∧ De bdX5_bitsOfWord_0 12 (.isub) 1 ∧ De bdX5_bitsOfWord_0 13 (.ireturn) 1 := by decide +kernel
theorem dX5_bitsOfWord_0 : decode cX5_bitsOfWord 0 = .ok (.aload_n 0, 1) := dAt wdX5_bitsOfWord_0 adX5_bitsOfWord_0.1 rfl
theorem dX5_bitsOfWord_1 : decode cX5_bitsOfWord 1 = .ok (.iload_n 1, 1) := dAt wdX5_bitsOfWord_0 adX5_bitsOfWord_0.2.1 rfl
theorem dX5_bitsOfWord_2 : decode cX5_bitsOfWord 2 = .ok (.iconst 1, 1) := dAt wdX5_bitsOfWord_0 adX5_bitsOfWord_0.2.2.1 rfl
theorem dX5_bitsOfWord_3 : decode cX5_bitsOfWord 3 = .ok (.iadd, 1) := dAt wdX5_bitsOfWord_0 adX5_bitsOfWord_0.2.2.2.1 rfl
theorem dX5_bitsOfWord_4 : decode cX5_bitsOfWord 4 = .ok (.invokevirtual 83, 3) := dAt wdX5_bitsOfWord_0 adX5_bitsOfWord_0.2.2.2.2.1 rfl
theorem dX5_bitsOfWord_7 : decode cX5_bitsOfWord 7 = .ok (.aload_n 0, 1) := dAt wdX5_bitsOfWord_0 adX5_bitsOfWord_0.2.2.2.2.2.1 rfl
theorem dX5_bitsOfWord_8 : decode cX5_bitsOfWord 8 = .ok (.iload_n 1, 1) := dAt wdX5_bitsOfWord_0 adX5_bitsOfWord_0.2.2.2.2.2.2.1 rfl
theorem dX5_bitsOfWord_9 : decode cX5_bitsOfWord 9 = .ok (.invokevirtual 83, 3) := dAt wdX5_bitsOfWord_0 adX5_bitsOfWord_0.2.2.2.2.2.2.2.1 rfl
theorem dX5_bitsOfWord_12 : decode cX5_bitsOfWord 12 = .ok (.isub, 1) := dAt wdX5_bitsOfWord_0 adX5_bitsOfWord_0.2.2.2.2.2.2.2.2.1 rfl
theorem dX5_bitsOfWord_13 : decode cX5_bitsOfWord 13 = .ok (.ireturn, 1) := dAt wdX5_bitsOfWord_0 adX5_bitsOfWord_0.2.2.2.2.2.2.2.2.2 rfl
def bdX5_hasLine_0 : ByteArray := .mk #[27, 155, 0, 15, 27, 42, 180, 0, 42, 162, 0, 7, 4, 167, 0, 4, 3, 172]
theorem wdX5_hasLine_0 : LocW cX5_hasLine 0 bdX5_hasLine_0 := loc_of (by decide +kernel)
theorem adX5_hasLine_0 : De bdX5_hasLine_0 0 (.iload_n 1) 1 ∧ De bdX5_hasLine_0 1 (.ifCond .lt 15) 3 ∧ De bdX5_hasLine_0 4 (.iload_n 1) 1 ∧ De bdX5_hasLine_0 5 (.aload_n 0) 1 ∧ De bdX5_hasLine_0 6 (.getfield 42) 3 ∧ De bdX5_hasLine_0 9 (.if_icmp .ge 7) 3 ∧ De bdX5_hasLine_0 12 (.iconst 1) 1 ∧ De bdX5_hasLine_0 13 (.goto 4) 3 ∧ De bdX5_hasLine_0 16 (.iconst 0) 1 ∧ De bdX5_hasLine_0 17 (.ireturn) 1 := by decide +kernel
theorem dX5_hasLine_0 : decode cX5_hasLine 0 = .ok (.iload_n 1, 1) := dAt wdX5_hasLine_0 adX5_hasLine_0.1 rfl
theorem dX5_hasLine_1 : decode cX5_hasLine 1 = .ok (.ifCond .lt 15, 3) := dAt wdX5_hasLine_0 adX5_hasLine_0.2.1 rfl
theorem dX5_hasLine_4 : decode cX5_hasLine 4 = .ok (.iload_n 1, 1) := dAt wdX5_hasLine_0 adX5_hasLine_0.2.2.1 rfl
theorem dX5_hasLine_5 : decode cX5_hasLine 5 = .ok (.aload_n 0, 1) := dAt wdX5_hasLine_0 adX5_hasLine_0.2.2.2.1 rfl
theorem dX5_hasLine_6 : decode cX5_hasLine 6 = .ok (.getfield 42, 3) := dAt wdX5_hasLine_0 adX5_hasLine_0.2.2.2.2.1 rfl
theorem dX5_hasLine_9 : decode cX5_hasLine 9 = .ok (.if_icmp .ge 7, 3) := dAt wdX5_hasLine_0 adX5_hasLine_0.2.2.2.2.2.1 rfl
theorem dX5_hasLine_12 : decode cX5_hasLine 12 = .ok (.iconst 1, 1) := dAt wdX5_hasLine_0 adX5_hasLine_0.2.2.2.2.2.2.1 rfl
theorem dX5_hasLine_13 : decode cX5_hasLine 13 = .ok (.goto 4, 3) := dAt wdX5_hasLine_0 adX5_hasLine_0.2.2.2.2.2.2.2.1 rfl
theorem dX5_hasLine_16 : decode cX5_hasLine 16 = .ok (.iconst 0, 1) := dAt wdX5_hasLine_0 adX5_hasLine_0.2.2.2.2.2.2.2.2.1 rfl
theorem dX5_hasLine_17 : decode cX5_hasLine 17 = .ok (.ireturn, 1) := dAt wdX5_hasLine_0 adX5_hasLine_0.2.2.2.2.2.2.2.2.2 rfl
def bdX5_lineOf_0 : ByteArray := .mk #[3, 61, 28, 42, 180, 0, 42, 162, 0, 21, 42, 180, 0, 23, 28, 46, 27, 161, 0, 5, 28, 172, 132, 2, 1, 167, 255, 233]
theorem wdX5_lineOf_0 : LocW cX5_lineOf 0 bdX5_lineOf_0 := loc_of (by decide +kernel)
theorem adX5_lineOf_0 : De bdX5_lineOf_0 0 (.iconst 0) 1 ∧ De bdX5_lineOf_0 1 (.istore_n 2) 1 ∧ De bdX5_lineOf_0 2 (.iload_n 2) 1 ∧ De bdX5_lineOf_0 3 (.aload_n 0) 1 ∧ De bdX5_lineOf_0 4 (.getfield 42) 3 ∧ De bdX5_lineOf_0 7 (.if_icmp .ge 21) 3 ∧ De bdX5_lineOf_0 10 (.aload_n 0) 1 ∧ De bdX5_lineOf_0 11 (.getfield 23) 3 ∧ De bdX5_lineOf_0 14 (.iload_n 2) 1 ∧ De bdX5_lineOf_0 15 (.iaload) 1 ∧ De bdX5_lineOf_0 16 (.iload_n 1) 1 ∧ De bdX5_lineOf_0 17 (.if_icmp .lt 5) 3 ∧ De bdX5_lineOf_0 20 (.iload_n 2) 1 ∧ De bdX5_lineOf_0 21 (.ireturn) 1 ∧ De bdX5_lineOf_0 22 (.iinc 2 1) 3 ∧ De bdX5_lineOf_0 25 (.goto (-23)) 3 := by decide +kernel
theorem dX5_lineOf_0 : decode cX5_lineOf 0 = .ok (.iconst 0, 1) := dAt wdX5_lineOf_0 adX5_lineOf_0.1 rfl
theorem dX5_lineOf_1 : decode cX5_lineOf 1 = .ok (.istore_n 2, 1) := dAt wdX5_lineOf_0 adX5_lineOf_0.2.1 rfl
theorem dX5_lineOf_2 : decode cX5_lineOf 2 = .ok (.iload_n 2, 1) := dAt wdX5_lineOf_0 adX5_lineOf_0.2.2.1 rfl
theorem dX5_lineOf_3 : decode cX5_lineOf 3 = .ok (.aload_n 0, 1) := dAt wdX5_lineOf_0 adX5_lineOf_0.2.2.2.1 rfl
theorem dX5_lineOf_4 : decode cX5_lineOf 4 = .ok (.getfield 42, 3) := dAt wdX5_lineOf_0 adX5_lineOf_0.2.2.2.2.1 rfl
theorem dX5_lineOf_7 : decode cX5_lineOf 7 = .ok (.if_icmp .ge 21, 3) := dAt wdX5_lineOf_0 adX5_lineOf_0.2.2.2.2.2.1 rfl
theorem dX5_lineOf_10 : decode cX5_lineOf 10 = .ok (.aload_n 0, 1) := dAt wdX5_lineOf_0 adX5_lineOf_0.2.2.2.2.2.2.1 rfl
theorem dX5_lineOf_11 : decode cX5_lineOf 11 = .ok (.getfield 23, 3) := dAt wdX5_lineOf_0 adX5_lineOf_0.2.2.2.2.2.2.2.1 rfl
theorem dX5_lineOf_14 : decode cX5_lineOf 14 = .ok (.iload_n 2, 1) := dAt wdX5_lineOf_0 adX5_lineOf_0.2.2.2.2.2.2.2.2.1 rfl
theorem dX5_lineOf_15 : decode cX5_lineOf 15 = .ok (.iaload, 1) := dAt wdX5_lineOf_0 adX5_lineOf_0.2.2.2.2.2.2.2.2.2.1 rfl
theorem dX5_lineOf_16 : decode cX5_lineOf 16 = .ok (.iload_n 1, 1) := dAt wdX5_lineOf_0 adX5_lineOf_0.2.2.2.2.2.2.2.2.2.2.1 rfl
theorem dX5_lineOf_17 : decode cX5_lineOf 17 = .ok (.if_icmp .lt 5, 3) := dAt wdX5_lineOf_0 adX5_lineOf_0.2.2.2.2.2.2.2.2.2.2.2.1 rfl
theorem dX5_lineOf_20 : decode cX5_lineOf 20 = .ok (.iload_n 2, 1) := dAt wdX5_lineOf_0 adX5_lineOf_0.2.2.2.2.2.2.2.2.2.2.2.2.1 rfl
theorem dX5_lineOf_21 : decode cX5_lineOf 21 = .ok (.ireturn, 1) := dAt wdX5_lineOf_0 adX5_lineOf_0.2.2.2.2.2.2.2.2.2.2.2.2.2.1 rfl
theorem dX5_lineOf_22 : decode cX5_lineOf 22 = .ok (.iinc 2 1, 3) := dAt wdX5_lineOf_0 adX5_lineOf_0.2.2.2.2.2.2.2.2.2.2.2.2.2.2.1 rfl
theorem dX5_lineOf_25 : decode cX5_lineOf 25 = .ok (.goto (-23), 3) := dAt wdX5_lineOf_0 adX5_lineOf_0.2.2.2.2.2.2.2.2.2.2.2.2.2.2.2 rfl
def bdX5_lineOf_28 : ByteArray := .mk #[42, 180, 0, 42, 172]
theorem wdX5_lineOf_28 : LocW cX5_lineOf 28 bdX5_lineOf_28 := loc_of (by decide +kernel)
theorem adX5_lineOf_28 : De bdX5_lineOf_28 0 (.aload_n 0) 1 ∧ De bdX5_lineOf_28 1 (.getfield 42) 3 ∧ De bdX5_lineOf_28 4 (.ireturn) 1 := by decide +kernel
theorem dX5_lineOf_28 : decode cX5_lineOf 28 = .ok (.aload_n 0, 1) := dAt wdX5_lineOf_28 adX5_lineOf_28.1 rfl
theorem dX5_lineOf_29 : decode cX5_lineOf 29 = .ok (.getfield 42, 3) := dAt wdX5_lineOf_28 adX5_lineOf_28.2.1 rfl
theorem dX5_lineOf_32 : decode cX5_lineOf 32 = .ok (.ireturn, 1) := dAt wdX5_lineOf_28 adX5_lineOf_28.2.2 rfl
def bdX5_firstBitOfLine_0 : ByteArray := .mk #[27, 158, 0, 24, 27, 42, 180, 0, 42, 163, 0, 16, 42, 180, 0, 23, 27, 4, 100, 46, 4, 96, 167, 0, 4, 3]
theorem wdX5_firstBitOfLine_0 : LocW cX5_firstBitOfLine 0 bdX5_firstBitOfLine_0 := loc_of (by decide +kernel)
theorem adX5_firstBitOfLine_0 : De bdX5_firstBitOfLine_0 0 (.iload_n 1) 1 ∧ De bdX5_firstBitOfLine_0 1 (.ifCond .le 24) 3 ∧ De bdX5_firstBitOfLine_0 4 (.iload_n 1) 1 ∧ De bdX5_firstBitOfLine_0 5 (.aload_n 0) 1 ∧ De bdX5_firstBitOfLine_0 6 (.getfield 42) 3 ∧ De bdX5_firstBitOfLine_0 9 (.if_icmp .gt 16) 3 ∧ De bdX5_firstBitOfLine_0 12 (.aload_n 0) 1 ∧ De bdX5_firstBitOfLine_0 13 (.getfield 23) 3 ∧ De bdX5_firstBitOfLine_0 16 (.iload_n 1) 1 ∧ De bdX5_firstBitOfLine_0 17 (.iconst 1) 1 ∧ De bdX5_firstBitOfLine_0 18 (.isub) 1 ∧ De bdX5_firstBitOfLine_0 19 (.iaload) 1 ∧ De bdX5_firstBitOfLine_0 20 (.iconst 1) 1 ∧ De bdX5_firstBitOfLine_0 21 (.iadd) 1 ∧ De bdX5_firstBitOfLine_0 22 (.goto 4) 3 ∧ De bdX5_firstBitOfLine_0 25 (.iconst 0) 1 := by decide +kernel
theorem dX5_firstBitOfLine_0 : decode cX5_firstBitOfLine 0 = .ok (.iload_n 1, 1) := dAt wdX5_firstBitOfLine_0 adX5_firstBitOfLine_0.1 rfl
theorem dX5_firstBitOfLine_1 : decode cX5_firstBitOfLine 1 = .ok (.ifCond .le 24, 3) := dAt wdX5_firstBitOfLine_0 adX5_firstBitOfLine_0.2.1 rfl
theorem dX5_firstBitOfLine_4 : decode cX5_firstBitOfLine 4 = .ok (.iload_n 1, 1) := dAt wdX5_firstBitOfLine_0 adX5_firstBitOfLine_0.2.2.1 rfl
theorem dX5_firstBitOfLine_5 : decode cX5_firstBitOfLine 5 = .ok (.aload_n 0, 1) := dAt wdX5_firstBitOfLine_0 adX5_firstBitOfLine_0.2.2.2.1 rfl
theorem dX5_firstBitOfLine_6 : decode cX5_firstBitOfLine 6 = .ok (.getfield 42, 3) := dAt wdX5_firstBitOfLine_0 adX5_firstBitOfLine_0.2.2.2.2.1 rfl
theorem dX5_firstBitOfLine_9 : decode cX5_firstBitOfLine 9 = .ok (.if_icmp .gt 16, 3) := dAt wdX5_firstBitOfLine_0 adX5_firstBitOfLine_0.2.2.2.2.2.1 rfl
theorem dX5_firstBitOfLine_12 : decode cX5_firstBitOfLine 12 = .ok (.aload_n 0, 1) := dAt wdX5_firstBitOfLine_0 adX5_firstBitOfLine_0.2.2.2.2.2.2.1 rfl
theorem dX5_firstBitOfLine_13 : decode cX5_firstBitOfLine 13 = .ok (.getfield 23, 3) := dAt wdX5_firstBitOfLine_0 adX5_firstBitOfLine_0.2.2.2.2.2.2.2.1 rfl
theorem dX5_firstBitOfLine_16 : decode cX5_firstBitOfLine 16 = .ok (.iload_n 1, 1) := dAt wdX5_firstBitOfLine_0 adX5_firstBitOfLine_0.2.2.2.2.2.2.2.2.1 rfl
theorem dX5_firstBitOfLine_17 : decode cX5_firstBitOfLine 17 = .ok (.iconst 1, 1) := dAt wdX5_firstBitOfLine_0 adX5_firstBitOfLine_0.2.2.2.2.2.2.2.2.2.1 rfl
theorem dX5_firstBitOfLine_18 : decode cX5_firstBitOfLine 18 = .ok (.isub, 1) := dAt wdX5_firstBitOfLine_0 adX5_firstBitOfLine_0.2.2.2.2.2.2.2.2.2.2.1 rfl
theorem dX5_firstBitOfLine_19 : decode cX5_firstBitOfLine 19 = .ok (.iaload, 1) := dAt wdX5_firstBitOfLine_0 adX5_firstBitOfLine_0.2.2.2.2.2.2.2.2.2.2.2.1 rfl
theorem dX5_firstBitOfLine_20 : decode cX5_firstBitOfLine 20 = .ok (.iconst 1, 1) := dAt wdX5_firstBitOfLine_0 adX5_firstBitOfLine_0.2.2.2.2.2.2.2.2.2.2.2.2.1 rfl
theorem dX5_firstBitOfLine_21 : decode cX5_firstBitOfLine 21 = .ok (.iadd, 1) := dAt wdX5_firstBitOfLine_0 adX5_firstBitOfLine_0.2.2.2.2.2.2.2.2.2.2.2.2.2.1 rfl
theorem dX5_firstBitOfLine_22 : decode cX5_firstBitOfLine 22 = .ok (.goto 4, 3) := dAt wdX5_firstBitOfLine_0 adX5_firstBitOfLine_0.2.2.2.2.2.2.2.2.2.2.2.2.2.2.1 rfl
theorem dX5_firstBitOfLine_25 : decode cX5_firstBitOfLine 25 = .ok (.iconst 0, 1) := dAt wdX5_firstBitOfLine_0 adX5_firstBitOfLine_0.2.2.2.2.2.2.2.2.2.2.2.2.2.2.2 rfl
def bdX5_firstBitOfLine_26 : ByteArray := .mk #[172]
theorem wdX5_firstBitOfLine_26 : LocW cX5_firstBitOfLine 26 bdX5_firstBitOfLine_26 := loc_of (by decide +kernel)
theorem adX5_firstBitOfLine_26 : De bdX5_firstBitOfLine_26 0 (.ireturn) 1 := by decide +kernel
theorem dX5_firstBitOfLine_26 : decode cX5_firstBitOfLine 26 = .ok (.ireturn, 1) := dAt wdX5_firstBitOfLine_26 adX5_firstBitOfLine_26 rfl
def bdX5_spell_0 : ByteArray := .mk #[42, 27, 182, 0, 98, 154, 0, 5, 3, 172, 42, 180, 0, 23, 27, 46, 42, 180, 0, 29, 4, 100, 184, 0, 101, 62]
theorem wdX5_spell_0 : LocW cX5_spell 0 bdX5_spell_0 := loc_of (by decide +kernel)
theorem adX5_spell_0 : De bdX5_spell_0 0 (.aload_n 0) 1 ∧ De bdX5_spell_0 1 (.iload_n 1) 1 ∧ De bdX5_spell_0 2 (.invokevirtual 98) 3 ∧ De bdX5_spell_0 5 (.ifCond .ne 5) 3 ∧ De bdX5_spell_0 8 (.iconst 0) 1 ∧ De bdX5_spell_0 9 (.ireturn) 1 ∧ De bdX5_spell_0 10 (.aload_n 0) 1 ∧ De bdX5_spell_0 11 (.getfield 23) 3 ∧ De bdX5_spell_0 14 (.iload_n 1) 1 ∧ De bdX5_spell_0 15 (.iaload) 1 ∧ De bdX5_spell_0 16 (.aload_n 0) 1 ∧ De bdX5_spell_0 17 (.getfield 29) 3 ∧ De bdX5_spell_0 20 (.iconst 1) 1 ∧ De bdX5_spell_0 21 (.isub) 1 ∧ De bdX5_spell_0 22 (.invokestatic 101) 3 ∧ De bdX5_spell_0 25 (.istore_n 3) 1 := by decide +kernel
theorem dX5_spell_0 : decode cX5_spell 0 = .ok (.aload_n 0, 1) := dAt wdX5_spell_0 adX5_spell_0.1 rfl
theorem dX5_spell_1 : decode cX5_spell 1 = .ok (.iload_n 1, 1) := dAt wdX5_spell_0 adX5_spell_0.2.1 rfl
theorem dX5_spell_2 : decode cX5_spell 2 = .ok (.invokevirtual 98, 3) := dAt wdX5_spell_0 adX5_spell_0.2.2.1 rfl
theorem dX5_spell_5 : decode cX5_spell 5 = .ok (.ifCond .ne 5, 3) := dAt wdX5_spell_0 adX5_spell_0.2.2.2.1 rfl
theorem dX5_spell_8 : decode cX5_spell 8 = .ok (.iconst 0, 1) := dAt wdX5_spell_0 adX5_spell_0.2.2.2.2.1 rfl
theorem dX5_spell_9 : decode cX5_spell 9 = .ok (.ireturn, 1) := dAt wdX5_spell_0 adX5_spell_0.2.2.2.2.2.1 rfl
theorem dX5_spell_10 : decode cX5_spell 10 = .ok (.aload_n 0, 1) := dAt wdX5_spell_0 adX5_spell_0.2.2.2.2.2.2.1 rfl
theorem dX5_spell_11 : decode cX5_spell 11 = .ok (.getfield 23, 3) := dAt wdX5_spell_0 adX5_spell_0.2.2.2.2.2.2.2.1 rfl
theorem dX5_spell_14 : decode cX5_spell 14 = .ok (.iload_n 1, 1) := dAt wdX5_spell_0 adX5_spell_0.2.2.2.2.2.2.2.2.1 rfl
theorem dX5_spell_15 : decode cX5_spell 15 = .ok (.iaload, 1) := dAt wdX5_spell_0 adX5_spell_0.2.2.2.2.2.2.2.2.2.1 rfl
theorem dX5_spell_16 : decode cX5_spell 16 = .ok (.aload_n 0, 1) := dAt wdX5_spell_0 adX5_spell_0.2.2.2.2.2.2.2.2.2.2.1 rfl
theorem dX5_spell_17 : decode cX5_spell 17 = .ok (.getfield 29, 3) := dAt wdX5_spell_0 adX5_spell_0.2.2.2.2.2.2.2.2.2.2.2.1 rfl
theorem dX5_spell_20 : decode cX5_spell 20 = .ok (.iconst 1, 1) := dAt wdX5_spell_0 adX5_spell_0.2.2.2.2.2.2.2.2.2.2.2.2.1 rfl
theorem dX5_spell_21 : decode cX5_spell 21 = .ok (.isub, 1) := dAt wdX5_spell_0 adX5_spell_0.2.2.2.2.2.2.2.2.2.2.2.2.2.1 rfl
theorem dX5_spell_22 : decode cX5_spell 22 = .ok (.invokestatic 101, 3) := dAt wdX5_spell_0 adX5_spell_0.2.2.2.2.2.2.2.2.2.2.2.2.2.2.1 rfl
theorem dX5_spell_25 : decode cX5_spell 25 = .ok (.istore_n 3, 1) := dAt wdX5_spell_0 adX5_spell_0.2.2.2.2.2.2.2.2.2.2.2.2.2.2.2 rfl
def bdX5_spell_26 : ByteArray := .mk #[3, 54, 4, 42, 27, 182, 0, 107, 54, 5, 21, 5, 29, 163, 0, 146, 42, 180, 0, 15, 21, 5, 46, 54, 6, 21, 6, 42]
theorem wdX5_spell_26 : LocW cX5_spell 26 bdX5_spell_26 := loc_of (by decide +kernel)
theorem adX5_spell_26 : De bdX5_spell_26 0 (.iconst 0) 1 ∧ De bdX5_spell_26 1 (.istore 4) 2 ∧ De bdX5_spell_26 3 (.aload_n 0) 1 ∧ De bdX5_spell_26 4 (.iload_n 1) 1 ∧ De bdX5_spell_26 5 (.invokevirtual 107) 3 ∧ De bdX5_spell_26 8 (.istore 5) 2 ∧ De bdX5_spell_26 10 (.iload 5) 2 ∧ De bdX5_spell_26 12 (.iload_n 3) 1 ∧ De bdX5_spell_26 13 (.if_icmp .gt 146) 3 ∧ De bdX5_spell_26 16 (.aload_n 0) 1 ∧ De bdX5_spell_26 17 (.getfield 15) 3 ∧ De bdX5_spell_26 20 (.iload 5) 2 ∧ De bdX5_spell_26 22 (.iaload) 1 ∧ De bdX5_spell_26 23 (.istore 6) 2 ∧ De bdX5_spell_26 25 (.iload 6) 2 ∧ De bdX5_spell_26 27 (.aload_n 0) 1 := by decide +kernel
theorem dX5_spell_26 : decode cX5_spell 26 = .ok (.iconst 0, 1) := dAt wdX5_spell_26 adX5_spell_26.1 rfl
theorem dX5_spell_27 : decode cX5_spell 27 = .ok (.istore 4, 2) := dAt wdX5_spell_26 adX5_spell_26.2.1 rfl
theorem dX5_spell_29 : decode cX5_spell 29 = .ok (.aload_n 0, 1) := dAt wdX5_spell_26 adX5_spell_26.2.2.1 rfl
theorem dX5_spell_30 : decode cX5_spell 30 = .ok (.iload_n 1, 1) := dAt wdX5_spell_26 adX5_spell_26.2.2.2.1 rfl
theorem dX5_spell_31 : decode cX5_spell 31 = .ok (.invokevirtual 107, 3) := dAt wdX5_spell_26 adX5_spell_26.2.2.2.2.1 rfl
theorem dX5_spell_34 : decode cX5_spell 34 = .ok (.istore 5, 2) := dAt wdX5_spell_26 adX5_spell_26.2.2.2.2.2.1 rfl
theorem dX5_spell_36 : decode cX5_spell 36 = .ok (.iload 5, 2) := dAt wdX5_spell_26 adX5_spell_26.2.2.2.2.2.2.1 rfl
theorem dX5_spell_38 : decode cX5_spell 38 = .ok (.iload_n 3, 1) := dAt wdX5_spell_26 adX5_spell_26.2.2.2.2.2.2.2.1 rfl
theorem dX5_spell_39 : decode cX5_spell 39 = .ok (.if_icmp .gt 146, 3) := dAt wdX5_spell_26 adX5_spell_26.2.2.2.2.2.2.2.2.1 rfl
theorem dX5_spell_42 : decode cX5_spell 42 = .ok (.aload_n 0, 1) := dAt wdX5_spell_26 adX5_spell_26.2.2.2.2.2.2.2.2.2.1 rfl
theorem dX5_spell_43 : decode cX5_spell 43 = .ok (.getfield 15, 3) := dAt wdX5_spell_26 adX5_spell_26.2.2.2.2.2.2.2.2.2.2.1 rfl
theorem dX5_spell_46 : decode cX5_spell 46 = .ok (.iload 5, 2) := dAt wdX5_spell_26 adX5_spell_26.2.2.2.2.2.2.2.2.2.2.2.1 rfl
theorem dX5_spell_48 : decode cX5_spell 48 = .ok (.iaload, 1) := dAt wdX5_spell_26 adX5_spell_26.2.2.2.2.2.2.2.2.2.2.2.2.1 rfl
theorem dX5_spell_49 : decode cX5_spell 49 = .ok (.istore 6, 2) := dAt wdX5_spell_26 adX5_spell_26.2.2.2.2.2.2.2.2.2.2.2.2.2.1 rfl
theorem dX5_spell_51 : decode cX5_spell 51 = .ok (.iload 6, 2) := dAt wdX5_spell_26 adX5_spell_26.2.2.2.2.2.2.2.2.2.2.2.2.2.2.1 rfl
theorem dX5_spell_53 : decode cX5_spell 53 = .ok (.aload_n 0, 1) := dAt wdX5_spell_26 adX5_spell_26.2.2.2.2.2.2.2.2.2.2.2.2.2.2.2 rfl
def bdX5_spell_54 : ByteArray := .mk #[180, 0, 15, 21, 5, 4, 96, 46, 162, 0, 34, 21, 4, 44, 190, 162, 0, 27, 44, 21, 4, 16, 97, 42, 180, 0, 9, 21, 6]
theorem wdX5_spell_54 : LocW cX5_spell 54 bdX5_spell_54 := loc_of (by decide +kernel)
theorem adX5_spell_54 : De bdX5_spell_54 0 (.getfield 15) 3 ∧ De bdX5_spell_54 3 (.iload 5) 2 ∧ De bdX5_spell_54 5 (.iconst 1) 1 ∧ De bdX5_spell_54 6 (.iadd) 1 ∧ De bdX5_spell_54 7 (.iaload) 1 ∧ De bdX5_spell_54 8 (.if_icmp .ge 34) 3 ∧ De bdX5_spell_54 11 (.iload 4) 2 ∧ De bdX5_spell_54 13 (.aload_n 2) 1 ∧ De bdX5_spell_54 14 (.arraylength) 1 ∧ De bdX5_spell_54 15 (.if_icmp .ge 27) 3 ∧ De bdX5_spell_54 18 (.aload_n 2) 1 ∧ De bdX5_spell_54 19 (.iload 4) 2 ∧ De bdX5_spell_54 21 (.bipush 97) 2 ∧ De bdX5_spell_54 23 (.aload_n 0) 1 ∧ De bdX5_spell_54 24 (.getfield 9) 3 ∧ De bdX5_spell_54 27 (.iload 6) 2 := by decide +kernel
theorem dX5_spell_54 : decode cX5_spell 54 = .ok (.getfield 15, 3) := dAt wdX5_spell_54 adX5_spell_54.1 rfl
theorem dX5_spell_57 : decode cX5_spell 57 = .ok (.iload 5, 2) := dAt wdX5_spell_54 adX5_spell_54.2.1 rfl
theorem dX5_spell_59 : decode cX5_spell 59 = .ok (.iconst 1, 1) := dAt wdX5_spell_54 adX5_spell_54.2.2.1 rfl
theorem dX5_spell_60 : decode cX5_spell 60 = .ok (.iadd, 1) := dAt wdX5_spell_54 adX5_spell_54.2.2.2.1 rfl
theorem dX5_spell_61 : decode cX5_spell 61 = .ok (.iaload, 1) := dAt wdX5_spell_54 adX5_spell_54.2.2.2.2.1 rfl
theorem dX5_spell_62 : decode cX5_spell 62 = .ok (.if_icmp .ge 34, 3) := dAt wdX5_spell_54 adX5_spell_54.2.2.2.2.2.1 rfl
theorem dX5_spell_65 : decode cX5_spell 65 = .ok (.iload 4, 2) := dAt wdX5_spell_54 adX5_spell_54.2.2.2.2.2.2.1 rfl
theorem dX5_spell_67 : decode cX5_spell 67 = .ok (.aload_n 2, 1) := dAt wdX5_spell_54 adX5_spell_54.2.2.2.2.2.2.2.1 rfl
theorem dX5_spell_68 : decode cX5_spell 68 = .ok (.arraylength, 1) := dAt wdX5_spell_54 adX5_spell_54.2.2.2.2.2.2.2.2.1 rfl
theorem dX5_spell_69 : decode cX5_spell 69 = .ok (.if_icmp .ge 27, 3) := dAt wdX5_spell_54 adX5_spell_54.2.2.2.2.2.2.2.2.2.1 rfl
theorem dX5_spell_72 : decode cX5_spell 72 = .ok (.aload_n 2, 1) := dAt wdX5_spell_54 adX5_spell_54.2.2.2.2.2.2.2.2.2.2.1 rfl
theorem dX5_spell_73 : decode cX5_spell 73 = .ok (.iload 4, 2) := dAt wdX5_spell_54 adX5_spell_54.2.2.2.2.2.2.2.2.2.2.2.1 rfl
theorem dX5_spell_75 : decode cX5_spell 75 = .ok (.bipush 97, 2) := dAt wdX5_spell_54 adX5_spell_54.2.2.2.2.2.2.2.2.2.2.2.2.1 rfl
theorem dX5_spell_77 : decode cX5_spell 77 = .ok (.aload_n 0, 1) := dAt wdX5_spell_54 adX5_spell_54.2.2.2.2.2.2.2.2.2.2.2.2.2.1 rfl
theorem dX5_spell_78 : decode cX5_spell 78 = .ok (.getfield 9, 3) := dAt wdX5_spell_54 adX5_spell_54.2.2.2.2.2.2.2.2.2.2.2.2.2.2.1 rfl
theorem dX5_spell_81 : decode cX5_spell 81 = .ok (.iload 6, 2) := dAt wdX5_spell_54 adX5_spell_54.2.2.2.2.2.2.2.2.2.2.2.2.2.2.2 rfl
def bdX5_spell_83 : ByteArray := .mk #[51, 96, 145, 84, 132, 4, 1, 132, 6, 1, 167, 255, 214, 21, 5, 29, 162, 0, 17, 42, 180, 0, 19, 21, 5, 51, 153, 0, 7, 4]
theorem wdX5_spell_83 : LocW cX5_spell 83 bdX5_spell_83 := loc_of (by decide +kernel)
theorem adX5_spell_83 : De bdX5_spell_83 0 (.baload) 1 ∧ De bdX5_spell_83 1 (.iadd) 1 ∧ De bdX5_spell_83 2 (.i2b) 1 ∧ De bdX5_spell_83 3 (.bastore) 1 ∧ De bdX5_spell_83 4 (.iinc 4 1) 3 ∧ De bdX5_spell_83 7 (.iinc 6 1) 3 ∧ De bdX5_spell_83 10 (.goto (-42)) 3 ∧ De bdX5_spell_83 13 (.iload 5) 2 ∧ De bdX5_spell_83 15 (.iload_n 3) 1 ∧ De bdX5_spell_83 16 (.if_icmp .ge 17) 3 ∧ De bdX5_spell_83 19 (.aload_n 0) 1 ∧ De bdX5_spell_83 20 (.getfield 19) 3 ∧ De bdX5_spell_83 23 (.iload 5) 2 ∧ De bdX5_spell_83 25 (.baload) 1 ∧ De bdX5_spell_83 26 (.ifCond .eq 7) 3 ∧ De bdX5_spell_83 29 (.iconst 1) 1 := by decide +kernel
theorem dX5_spell_83 : decode cX5_spell 83 = .ok (.baload, 1) := dAt wdX5_spell_83 adX5_spell_83.1 rfl
theorem dX5_spell_84 : decode cX5_spell 84 = .ok (.iadd, 1) := dAt wdX5_spell_83 adX5_spell_83.2.1 rfl
theorem dX5_spell_85 : decode cX5_spell 85 = .ok (.i2b, 1) := dAt wdX5_spell_83 adX5_spell_83.2.2.1 rfl
theorem dX5_spell_86 : decode cX5_spell 86 = .ok (.bastore, 1) := dAt wdX5_spell_83 adX5_spell_83.2.2.2.1 rfl
theorem dX5_spell_87 : decode cX5_spell 87 = .ok (.iinc 4 1, 3) := dAt wdX5_spell_83 adX5_spell_83.2.2.2.2.1 rfl
theorem dX5_spell_90 : decode cX5_spell 90 = .ok (.iinc 6 1, 3) := dAt wdX5_spell_83 adX5_spell_83.2.2.2.2.2.1 rfl
theorem dX5_spell_93 : decode cX5_spell 93 = .ok (.goto (-42), 3) := dAt wdX5_spell_83 adX5_spell_83.2.2.2.2.2.2.1 rfl
theorem dX5_spell_96 : decode cX5_spell 96 = .ok (.iload 5, 2) := dAt wdX5_spell_83 adX5_spell_83.2.2.2.2.2.2.2.1 rfl
theorem dX5_spell_98 : decode cX5_spell 98 = .ok (.iload_n 3, 1) := dAt wdX5_spell_83 adX5_spell_83.2.2.2.2.2.2.2.2.1 rfl
theorem dX5_spell_99 : decode cX5_spell 99 = .ok (.if_icmp .ge 17, 3) := dAt wdX5_spell_83 adX5_spell_83.2.2.2.2.2.2.2.2.2.1 rfl
theorem dX5_spell_102 : decode cX5_spell 102 = .ok (.aload_n 0, 1) := dAt wdX5_spell_83 adX5_spell_83.2.2.2.2.2.2.2.2.2.2.1 rfl
theorem dX5_spell_103 : decode cX5_spell 103 = .ok (.getfield 19, 3) := dAt wdX5_spell_83 adX5_spell_83.2.2.2.2.2.2.2.2.2.2.2.1 rfl
theorem dX5_spell_106 : decode cX5_spell 106 = .ok (.iload 5, 2) := dAt wdX5_spell_83 adX5_spell_83.2.2.2.2.2.2.2.2.2.2.2.2.1 rfl
theorem dX5_spell_108 : decode cX5_spell 108 = .ok (.baload, 1) := dAt wdX5_spell_83 adX5_spell_83.2.2.2.2.2.2.2.2.2.2.2.2.2.1 rfl
theorem dX5_spell_109 : decode cX5_spell 109 = .ok (.ifCond .eq 7, 3) := dAt wdX5_spell_83 adX5_spell_83.2.2.2.2.2.2.2.2.2.2.2.2.2.2.1 rfl
theorem dX5_spell_112 : decode cX5_spell 112 = .ok (.iconst 1, 1) := dAt wdX5_spell_83 adX5_spell_83.2.2.2.2.2.2.2.2.2.2.2.2.2.2.2 rfl
def bdX5_spell_113 : ByteArray := .mk #[167, 0, 4, 3, 54, 6, 21, 5, 29, 160, 0, 17, 42, 180, 0, 19, 21, 5, 51, 154, 0, 7, 4, 167, 0, 4, 3, 54, 7, 21, 6]
theorem wdX5_spell_113 : LocW cX5_spell 113 bdX5_spell_113 := loc_of (by decide +kernel)
theorem adX5_spell_113 : De bdX5_spell_113 0 (.goto 4) 3 ∧ De bdX5_spell_113 3 (.iconst 0) 1 ∧ De bdX5_spell_113 4 (.istore 6) 2 ∧ De bdX5_spell_113 6 (.iload 5) 2 ∧ De bdX5_spell_113 8 (.iload_n 3) 1 ∧ De bdX5_spell_113 9 (.if_icmp .ne 17) 3 ∧ De bdX5_spell_113 12 (.aload_n 0) 1 ∧ De bdX5_spell_113 13 (.getfield 19) 3 ∧ De bdX5_spell_113 16 (.iload 5) 2 ∧ De bdX5_spell_113 18 (.baload) 1 ∧ De bdX5_spell_113 19 (.ifCond .ne 7) 3 ∧ De bdX5_spell_113 22 (.iconst 1) 1 ∧ De bdX5_spell_113 23 (.goto 4) 3 ∧ De bdX5_spell_113 26 (.iconst 0) 1 ∧ De bdX5_spell_113 27 (.istore 7) 2 ∧ De bdX5_spell_113 29 (.iload 6) 2 := by decide +kernel
theorem dX5_spell_113 : decode cX5_spell 113 = .ok (.goto 4, 3) := dAt wdX5_spell_113 adX5_spell_113.1 rfl
theorem dX5_spell_116 : decode cX5_spell 116 = .ok (.iconst 0, 1) := dAt wdX5_spell_113 adX5_spell_113.2.1 rfl
theorem dX5_spell_117 : decode cX5_spell 117 = .ok (.istore 6, 2) := dAt wdX5_spell_113 adX5_spell_113.2.2.1 rfl
theorem dX5_spell_119 : decode cX5_spell 119 = .ok (.iload 5, 2) := dAt wdX5_spell_113 adX5_spell_113.2.2.2.1 rfl
theorem dX5_spell_121 : decode cX5_spell 121 = .ok (.iload_n 3, 1) := dAt wdX5_spell_113 adX5_spell_113.2.2.2.2.1 rfl
theorem dX5_spell_122 : decode cX5_spell 122 = .ok (.if_icmp .ne 17, 3) := dAt wdX5_spell_113 adX5_spell_113.2.2.2.2.2.1 rfl
theorem dX5_spell_125 : decode cX5_spell 125 = .ok (.aload_n 0, 1) := dAt wdX5_spell_113 adX5_spell_113.2.2.2.2.2.2.1 rfl
theorem dX5_spell_126 : decode cX5_spell 126 = .ok (.getfield 19, 3) := dAt wdX5_spell_113 adX5_spell_113.2.2.2.2.2.2.2.1 rfl
theorem dX5_spell_129 : decode cX5_spell 129 = .ok (.iload 5, 2) := dAt wdX5_spell_113 adX5_spell_113.2.2.2.2.2.2.2.2.1 rfl
theorem dX5_spell_131 : decode cX5_spell 131 = .ok (.baload, 1) := dAt wdX5_spell_113 adX5_spell_113.2.2.2.2.2.2.2.2.2.1 rfl
theorem dX5_spell_132 : decode cX5_spell 132 = .ok (.ifCond .ne 7, 3) := dAt wdX5_spell_113 adX5_spell_113.2.2.2.2.2.2.2.2.2.2.1 rfl
theorem dX5_spell_135 : decode cX5_spell 135 = .ok (.iconst 1, 1) := dAt wdX5_spell_113 adX5_spell_113.2.2.2.2.2.2.2.2.2.2.2.1 rfl
theorem dX5_spell_136 : decode cX5_spell 136 = .ok (.goto 4, 3) := dAt wdX5_spell_113 adX5_spell_113.2.2.2.2.2.2.2.2.2.2.2.2.1 rfl
theorem dX5_spell_139 : decode cX5_spell 139 = .ok (.iconst 0, 1) := dAt wdX5_spell_113 adX5_spell_113.2.2.2.2.2.2.2.2.2.2.2.2.2.1 rfl
theorem dX5_spell_140 : decode cX5_spell 140 = .ok (.istore 7, 2) := dAt wdX5_spell_113 adX5_spell_113.2.2.2.2.2.2.2.2.2.2.2.2.2.2.1 rfl
theorem dX5_spell_142 : decode cX5_spell 142 = .ok (.iload 6, 2) := dAt wdX5_spell_113 adX5_spell_113.2.2.2.2.2.2.2.2.2.2.2.2.2.2.2 rfl
def bdX5_spell_144 : ByteArray := .mk #[154, 0, 8, 21, 7, 153, 0, 30, 21, 4, 44, 190, 162, 0, 23, 44, 21, 4, 21, 6, 153, 0, 8, 16, 32, 167, 0, 5, 16, 45, 145, 84]
theorem wdX5_spell_144 : LocW cX5_spell 144 bdX5_spell_144 := loc_of (by decide +kernel)
theorem adX5_spell_144 : De bdX5_spell_144 0 (.ifCond .ne 8) 3 ∧ De bdX5_spell_144 3 (.iload 7) 2 ∧ De bdX5_spell_144 5 (.ifCond .eq 30) 3 ∧ De bdX5_spell_144 8 (.iload 4) 2 ∧ De bdX5_spell_144 10 (.aload_n 2) 1 ∧ De bdX5_spell_144 11 (.arraylength) 1 ∧ De bdX5_spell_144 12 (.if_icmp .ge 23) 3 ∧ De bdX5_spell_144 15 (.aload_n 2) 1 ∧ De bdX5_spell_144 16 (.iload 4) 2 ∧ De bdX5_spell_144 18 (.iload 6) 2 ∧ De bdX5_spell_144 20 (.ifCond .eq 8) 3 ∧ De bdX5_spell_144 23 (.bipush 32) 2 ∧ De bdX5_spell_144 25 (.goto 5) 3 ∧ De bdX5_spell_144 28 (.bipush 45) 2 ∧ De bdX5_spell_144 30 (.i2b) 1 ∧ De bdX5_spell_144 31 (.bastore) 1 := by decide +kernel
theorem dX5_spell_144 : decode cX5_spell 144 = .ok (.ifCond .ne 8, 3) := dAt wdX5_spell_144 adX5_spell_144.1 rfl
theorem dX5_spell_147 : decode cX5_spell 147 = .ok (.iload 7, 2) := dAt wdX5_spell_144 adX5_spell_144.2.1 rfl
theorem dX5_spell_149 : decode cX5_spell 149 = .ok (.ifCond .eq 30, 3) := dAt wdX5_spell_144 adX5_spell_144.2.2.1 rfl
theorem dX5_spell_152 : decode cX5_spell 152 = .ok (.iload 4, 2) := dAt wdX5_spell_144 adX5_spell_144.2.2.2.1 rfl
theorem dX5_spell_154 : decode cX5_spell 154 = .ok (.aload_n 2, 1) := dAt wdX5_spell_144 adX5_spell_144.2.2.2.2.1 rfl
theorem dX5_spell_155 : decode cX5_spell 155 = .ok (.arraylength, 1) := dAt wdX5_spell_144 adX5_spell_144.2.2.2.2.2.1 rfl
theorem dX5_spell_156 : decode cX5_spell 156 = .ok (.if_icmp .ge 23, 3) := dAt wdX5_spell_144 adX5_spell_144.2.2.2.2.2.2.1 rfl
theorem dX5_spell_159 : decode cX5_spell 159 = .ok (.aload_n 2, 1) := dAt wdX5_spell_144 adX5_spell_144.2.2.2.2.2.2.2.1 rfl
theorem dX5_spell_160 : decode cX5_spell 160 = .ok (.iload 4, 2) := dAt wdX5_spell_144 adX5_spell_144.2.2.2.2.2.2.2.2.1 rfl
theorem dX5_spell_162 : decode cX5_spell 162 = .ok (.iload 6, 2) := dAt wdX5_spell_144 adX5_spell_144.2.2.2.2.2.2.2.2.2.1 rfl
theorem dX5_spell_164 : decode cX5_spell 164 = .ok (.ifCond .eq 8, 3) := dAt wdX5_spell_144 adX5_spell_144.2.2.2.2.2.2.2.2.2.2.1 rfl
theorem dX5_spell_167 : decode cX5_spell 167 = .ok (.bipush 32, 2) := dAt wdX5_spell_144 adX5_spell_144.2.2.2.2.2.2.2.2.2.2.2.1 rfl
theorem dX5_spell_169 : decode cX5_spell 169 = .ok (.goto 5, 3) := dAt wdX5_spell_144 adX5_spell_144.2.2.2.2.2.2.2.2.2.2.2.2.1 rfl
theorem dX5_spell_172 : decode cX5_spell 172 = .ok (.bipush 45, 2) := dAt wdX5_spell_144 adX5_spell_144.2.2.2.2.2.2.2.2.2.2.2.2.2.1 rfl
theorem dX5_spell_174 : decode cX5_spell 174 = .ok (.i2b, 1) := dAt wdX5_spell_144 adX5_spell_144.2.2.2.2.2.2.2.2.2.2.2.2.2.2.1 rfl
theorem dX5_spell_175 : decode cX5_spell 175 = .ok (.bastore, 1) := dAt wdX5_spell_144 adX5_spell_144.2.2.2.2.2.2.2.2.2.2.2.2.2.2.2 rfl
def bdX5_spell_176 : ByteArray := .mk #[132, 4, 1, 132, 5, 1, 167, 255, 110, 21, 4, 172]
theorem wdX5_spell_176 : LocW cX5_spell 176 bdX5_spell_176 := loc_of (by decide +kernel)
theorem adX5_spell_176 : De bdX5_spell_176 0 (.iinc 4 1) 3 ∧ De bdX5_spell_176 3 (.iinc 5 1) 3 ∧ De bdX5_spell_176 6 (.goto (-146)) 3 ∧ De bdX5_spell_176 9 (.iload 4) 2 ∧ De bdX5_spell_176 11 (.ireturn) 1 := by decide +kernel
theorem dX5_spell_176 : decode cX5_spell 176 = .ok (.iinc 4 1, 3) := dAt wdX5_spell_176 adX5_spell_176.1 rfl
theorem dX5_spell_179 : decode cX5_spell 179 = .ok (.iinc 5 1, 3) := dAt wdX5_spell_176 adX5_spell_176.2.1 rfl
theorem dX5_spell_182 : decode cX5_spell 182 = .ok (.goto (-146), 3) := dAt wdX5_spell_176 adX5_spell_176.2.2.1 rfl
theorem dX5_spell_185 : decode cX5_spell 185 = .ok (.iload 4, 2) := dAt wdX5_spell_176 adX5_spell_176.2.2.2.1 rfl
theorem dX5_spell_187 : decode cX5_spell 187 = .ok (.ireturn, 1) := dAt wdX5_spell_176 adX5_spell_176.2.2.2.2 rfl
def bdX6_init_0 : ByteArray := .mk #[42, 183, 0, 3, 42, 3, 181, 0, 9, 42, 8, 188, 10, 181, 0, 15, 42, 8, 188, 10, 181, 0, 19, 42, 16, 32, 188, 10]
theorem wdX6_init_0 : LocW cX6_init 0 bdX6_init_0 := loc_of (by decide +kernel)
theorem adX6_init_0 : De bdX6_init_0 0 (.aload_n 0) 1 ∧ De bdX6_init_0 1 (.invokespecial 3) 3 ∧ De bdX6_init_0 4 (.aload_n 0) 1 ∧ De bdX6_init_0 5 (.iconst 0) 1 ∧ De bdX6_init_0 6 (.putfield 9) 3 ∧ De bdX6_init_0 9 (.aload_n 0) 1 ∧ De bdX6_init_0 10 (.iconst 5) 1 ∧ De bdX6_init_0 11 (.newarray .int) 2 ∧ De bdX6_init_0 13 (.putfield 15) 3 ∧ De bdX6_init_0 16 (.aload_n 0) 1 ∧ De bdX6_init_0 17 (.iconst 5) 1 ∧ De bdX6_init_0 18 (.newarray .int) 2 ∧ De bdX6_init_0 20 (.putfield 19) 3 ∧ De bdX6_init_0 23 (.aload_n 0) 1 ∧ De bdX6_init_0 24 (.bipush 32) 2 ∧ De bdX6_init_0 26 (.newarray .int) 2 := by decide +kernel
theorem dX6_init_0 : decode cX6_init 0 = .ok (.aload_n 0, 1) := dAt wdX6_init_0 adX6_init_0.1 rfl
theorem dX6_init_1 : decode cX6_init 1 = .ok (.invokespecial 3, 3) := dAt wdX6_init_0 adX6_init_0.2.1 rfl
theorem dX6_init_4 : decode cX6_init 4 = .ok (.aload_n 0, 1) := dAt wdX6_init_0 adX6_init_0.2.2.1 rfl
theorem dX6_init_5 : decode cX6_init 5 = .ok (.iconst 0, 1) := dAt wdX6_init_0 adX6_init_0.2.2.2.1 rfl
theorem dX6_init_6 : decode cX6_init 6 = .ok (.putfield 9, 3) := dAt wdX6_init_0 adX6_init_0.2.2.2.2.1 rfl
theorem dX6_init_9 : decode cX6_init 9 = .ok (.aload_n 0, 1) := dAt wdX6_init_0 adX6_init_0.2.2.2.2.2.1 rfl
theorem dX6_init_10 : decode cX6_init 10 = .ok (.iconst 5, 1) := dAt wdX6_init_0 adX6_init_0.2.2.2.2.2.2.1 rfl
theorem dX6_init_11 : decode cX6_init 11 = .ok (.newarray .int, 2) := dAt wdX6_init_0 adX6_init_0.2.2.2.2.2.2.2.1 rfl
theorem dX6_init_13 : decode cX6_init 13 = .ok (.putfield 15, 3) := dAt wdX6_init_0 adX6_init_0.2.2.2.2.2.2.2.2.1 rfl
theorem dX6_init_16 : decode cX6_init 16 = .ok (.aload_n 0, 1) := dAt wdX6_init_0 adX6_init_0.2.2.2.2.2.2.2.2.2.1 rfl
theorem dX6_init_17 : decode cX6_init 17 = .ok (.iconst 5, 1) := dAt wdX6_init_0 adX6_init_0.2.2.2.2.2.2.2.2.2.2.1 rfl
theorem dX6_init_18 : decode cX6_init 18 = .ok (.newarray .int, 2) := dAt wdX6_init_0 adX6_init_0.2.2.2.2.2.2.2.2.2.2.2.1 rfl
theorem dX6_init_20 : decode cX6_init 20 = .ok (.putfield 19, 3) := dAt wdX6_init_0 adX6_init_0.2.2.2.2.2.2.2.2.2.2.2.2.1 rfl
theorem dX6_init_23 : decode cX6_init 23 = .ok (.aload_n 0, 1) := dAt wdX6_init_0 adX6_init_0.2.2.2.2.2.2.2.2.2.2.2.2.2.1 rfl
theorem dX6_init_24 : decode cX6_init 24 = .ok (.bipush 32, 2) := dAt wdX6_init_0 adX6_init_0.2.2.2.2.2.2.2.2.2.2.2.2.2.2.1 rfl
theorem dX6_init_26 : decode cX6_init 26 = .ok (.newarray .int, 2) := dAt wdX6_init_0 adX6_init_0.2.2.2.2.2.2.2.2.2.2.2.2.2.2.2 rfl
def bdX6_init_28 : ByteArray := .mk #[181, 0, 22, 42, 16, 32, 188, 10, 181, 0, 25, 177]
theorem wdX6_init_28 : LocW cX6_init 28 bdX6_init_28 := loc_of (by decide +kernel)
theorem adX6_init_28 : De bdX6_init_28 0 (.putfield 22) 3 ∧ De bdX6_init_28 3 (.aload_n 0) 1 ∧ De bdX6_init_28 4 (.bipush 32) 2 ∧ De bdX6_init_28 6 (.newarray .int) 2 ∧ De bdX6_init_28 8 (.putfield 25) 3 ∧ De bdX6_init_28 11 (.return_) 1 := by decide +kernel
theorem dX6_init_28 : decode cX6_init 28 = .ok (.putfield 22, 3) := dAt wdX6_init_28 adX6_init_28.1 rfl
theorem dX6_init_31 : decode cX6_init 31 = .ok (.aload_n 0, 1) := dAt wdX6_init_28 adX6_init_28.2.1 rfl
theorem dX6_init_32 : decode cX6_init 32 = .ok (.bipush 32, 2) := dAt wdX6_init_28 adX6_init_28.2.2.1 rfl
theorem dX6_init_34 : decode cX6_init 34 = .ok (.newarray .int, 2) := dAt wdX6_init_28 adX6_init_28.2.2.2.1 rfl
theorem dX6_init_36 : decode cX6_init 36 = .ok (.putfield 25, 3) := dAt wdX6_init_28 adX6_init_28.2.2.2.2.1 rfl
theorem dX6_init_39 : decode cX6_init 39 = .ok (.return_, 1) := dAt wdX6_init_28 adX6_init_28.2.2.2.2.2 rfl
def bdX6_leastLate_0 : ByteArray := .mk #[42, 43, 182, 0, 28, 4, 42, 180, 0, 9, 120, 61, 3, 62, 29, 28, 162, 0, 25, 42, 180, 0, 25, 29]
theorem wdX6_leastLate_0 : LocW cX6_leastLate 0 bdX6_leastLate_0 := loc_of (by decide +kernel)
theorem adX6_leastLate_0 : De bdX6_leastLate_0 0 (.aload_n 0) 1 ∧ De bdX6_leastLate_0 1 (.aload_n 1) 1 ∧ De bdX6_leastLate_0 2 (.invokevirtual 28) 3 ∧ De bdX6_leastLate_0 5 (.iconst 1) 1 ∧ De bdX6_leastLate_0 6 (.aload_n 0) 1 ∧ De bdX6_leastLate_0 7 (.getfield 9) 3 ∧ De bdX6_leastLate_0 10 (.ishl) 1 ∧ De bdX6_leastLate_0 11 (.istore_n 2) 1 ∧ De bdX6_leastLate_0 12 (.iconst 0) 1 ∧ De bdX6_leastLate_0 13 (.istore_n 3) 1 ∧ De bdX6_leastLate_0 14 (.iload_n 3) 1 ∧ De bdX6_leastLate_0 15 (.iload_n 2) 1 ∧ De bdX6_leastLate_0 16 (.if_icmp .ge 25) 3 ∧ De bdX6_leastLate_0 19 (.aload_n 0) 1 ∧ De bdX6_leastLate_0 20 (.getfield 25) 3 ∧ De bdX6_leastLate_0 23 (.iload_n 3) 1 := by decide +kernel
theorem dX6_leastLate_0 : decode cX6_leastLate 0 = .ok (.aload_n 0, 1) := dAt wdX6_leastLate_0 adX6_leastLate_0.1 rfl
theorem dX6_leastLate_1 : decode cX6_leastLate 1 = .ok (.aload_n 1, 1) := dAt wdX6_leastLate_0 adX6_leastLate_0.2.1 rfl
theorem dX6_leastLate_2 : decode cX6_leastLate 2 = .ok (.invokevirtual 28, 3) := dAt wdX6_leastLate_0 adX6_leastLate_0.2.2.1 rfl
theorem dX6_leastLate_5 : decode cX6_leastLate 5 = .ok (.iconst 1, 1) := dAt wdX6_leastLate_0 adX6_leastLate_0.2.2.2.1 rfl
theorem dX6_leastLate_6 : decode cX6_leastLate 6 = .ok (.aload_n 0, 1) := dAt wdX6_leastLate_0 adX6_leastLate_0.2.2.2.2.1 rfl
theorem dX6_leastLate_7 : decode cX6_leastLate 7 = .ok (.getfield 9, 3) := dAt wdX6_leastLate_0 adX6_leastLate_0.2.2.2.2.2.1 rfl
theorem dX6_leastLate_10 : decode cX6_leastLate 10 = .ok (.ishl, 1) := dAt wdX6_leastLate_0 adX6_leastLate_0.2.2.2.2.2.2.1 rfl
theorem dX6_leastLate_11 : decode cX6_leastLate 11 = .ok (.istore_n 2, 1) := dAt wdX6_leastLate_0 adX6_leastLate_0.2.2.2.2.2.2.2.1 rfl
theorem dX6_leastLate_12 : decode cX6_leastLate 12 = .ok (.iconst 0, 1) := dAt wdX6_leastLate_0 adX6_leastLate_0.2.2.2.2.2.2.2.2.1 rfl
theorem dX6_leastLate_13 : decode cX6_leastLate 13 = .ok (.istore_n 3, 1) := dAt wdX6_leastLate_0 adX6_leastLate_0.2.2.2.2.2.2.2.2.2.1 rfl
theorem dX6_leastLate_14 : decode cX6_leastLate 14 = .ok (.iload_n 3, 1) := dAt wdX6_leastLate_0 adX6_leastLate_0.2.2.2.2.2.2.2.2.2.2.1 rfl
theorem dX6_leastLate_15 : decode cX6_leastLate 15 = .ok (.iload_n 2, 1) := dAt wdX6_leastLate_0 adX6_leastLate_0.2.2.2.2.2.2.2.2.2.2.2.1 rfl
theorem dX6_leastLate_16 : decode cX6_leastLate 16 = .ok (.if_icmp .ge 25, 3) := dAt wdX6_leastLate_0 adX6_leastLate_0.2.2.2.2.2.2.2.2.2.2.2.2.1 rfl
theorem dX6_leastLate_19 : decode cX6_leastLate 19 = .ok (.aload_n 0, 1) := dAt wdX6_leastLate_0 adX6_leastLate_0.2.2.2.2.2.2.2.2.2.2.2.2.2.1 rfl
theorem dX6_leastLate_20 : decode cX6_leastLate 20 = .ok (.getfield 25, 3) := dAt wdX6_leastLate_0 adX6_leastLate_0.2.2.2.2.2.2.2.2.2.2.2.2.2.2.1 rfl
theorem dX6_leastLate_23 : decode cX6_leastLate 23 = .ok (.iload_n 3, 1) := dAt wdX6_leastLate_0 adX6_leastLate_0.2.2.2.2.2.2.2.2.2.2.2.2.2.2.2 rfl
def bdX6_leastLate_24 : ByteArray := .mk #[29, 154, 0, 7, 3, 167, 0, 5, 18, 32, 79, 132, 3, 1, 167, 255, 232, 3, 62, 29, 43, 180, 0, 33, 162, 0, 50, 43, 29]
theorem wdX6_leastLate_24 : LocW cX6_leastLate 24 bdX6_leastLate_24 := loc_of (by decide +kernel)
theorem adX6_leastLate_24 : De bdX6_leastLate_24 0 (.iload_n 3) 1 ∧ De bdX6_leastLate_24 1 (.ifCond .ne 7) 3 ∧ De bdX6_leastLate_24 4 (.iconst 0) 1 ∧ De bdX6_leastLate_24 5 (.goto 5) 3 ∧ De bdX6_leastLate_24 8 (.ldc 32) 2 ∧ De bdX6_leastLate_24 10 (.iastore) 1 ∧ De bdX6_leastLate_24 11 (.iinc 3 1) 3 ∧ De bdX6_leastLate_24 14 (.goto (-24)) 3 ∧ De bdX6_leastLate_24 17 (.iconst 0) 1 ∧ De bdX6_leastLate_24 18 (.istore_n 3) 1 ∧ De bdX6_leastLate_24 19 (.iload_n 3) 1 ∧ De bdX6_leastLate_24 20 (.aload_n 1) 1 ∧ De bdX6_leastLate_24 21 (.getfield 33) 3 ∧ De bdX6_leastLate_24 24 (.if_icmp .ge 50) 3 ∧ De bdX6_leastLate_24 27 (.aload_n 1) 1 ∧ De bdX6_leastLate_24 28 (.iload_n 3) 1 := by decide +kernel
theorem dX6_leastLate_24 : decode cX6_leastLate 24 = .ok (.iload_n 3, 1) := dAt wdX6_leastLate_24 adX6_leastLate_24.1 rfl
theorem dX6_leastLate_25 : decode cX6_leastLate 25 = .ok (.ifCond .ne 7, 3) := dAt wdX6_leastLate_24 adX6_leastLate_24.2.1 rfl
theorem dX6_leastLate_28 : decode cX6_leastLate 28 = .ok (.iconst 0, 1) := dAt wdX6_leastLate_24 adX6_leastLate_24.2.2.1 rfl
theorem dX6_leastLate_29 : decode cX6_leastLate 29 = .ok (.goto 5, 3) := dAt wdX6_leastLate_24 adX6_leastLate_24.2.2.2.1 rfl
theorem dX6_leastLate_32 : decode cX6_leastLate 32 = .ok (.ldc 32, 2) := dAt wdX6_leastLate_24 adX6_leastLate_24.2.2.2.2.1 rfl
theorem dX6_leastLate_34 : decode cX6_leastLate 34 = .ok (.iastore, 1) := dAt wdX6_leastLate_24 adX6_leastLate_24.2.2.2.2.2.1 rfl
theorem dX6_leastLate_35 : decode cX6_leastLate 35 = .ok (.iinc 3 1, 3) := dAt wdX6_leastLate_24 adX6_leastLate_24.2.2.2.2.2.2.1 rfl
theorem dX6_leastLate_38 : decode cX6_leastLate 38 = .ok (.goto (-24), 3) := dAt wdX6_leastLate_24 adX6_leastLate_24.2.2.2.2.2.2.2.1 rfl
theorem dX6_leastLate_41 : decode cX6_leastLate 41 = .ok (.iconst 0, 1) := dAt wdX6_leastLate_24 adX6_leastLate_24.2.2.2.2.2.2.2.2.1 rfl
theorem dX6_leastLate_42 : decode cX6_leastLate 42 = .ok (.istore_n 3, 1) := dAt wdX6_leastLate_24 adX6_leastLate_24.2.2.2.2.2.2.2.2.2.1 rfl
theorem dX6_leastLate_43 : decode cX6_leastLate 43 = .ok (.iload_n 3, 1) := dAt wdX6_leastLate_24 adX6_leastLate_24.2.2.2.2.2.2.2.2.2.2.1 rfl
theorem dX6_leastLate_44 : decode cX6_leastLate 44 = .ok (.aload_n 1, 1) := dAt wdX6_leastLate_24 adX6_leastLate_24.2.2.2.2.2.2.2.2.2.2.2.1 rfl
theorem dX6_leastLate_45 : decode cX6_leastLate 45 = .ok (.getfield 33, 3) := dAt wdX6_leastLate_24 adX6_leastLate_24.2.2.2.2.2.2.2.2.2.2.2.2.1 rfl
theorem dX6_leastLate_48 : decode cX6_leastLate 48 = .ok (.if_icmp .ge 50, 3) := dAt wdX6_leastLate_24 adX6_leastLate_24.2.2.2.2.2.2.2.2.2.2.2.2.2.1 rfl
theorem dX6_leastLate_51 : decode cX6_leastLate 51 = .ok (.aload_n 1, 1) := dAt wdX6_leastLate_24 adX6_leastLate_24.2.2.2.2.2.2.2.2.2.2.2.2.2.2.1 rfl
theorem dX6_leastLate_52 : decode cX6_leastLate 52 = .ok (.iload_n 3, 1) := dAt wdX6_leastLate_24 adX6_leastLate_24.2.2.2.2.2.2.2.2.2.2.2.2.2.2.2 rfl
def bdX6_leastLate_53 : ByteArray := .mk #[182, 0, 38, 58, 4, 25, 4, 198, 0, 32, 25, 4, 180, 0, 42, 154, 0, 24, 42, 43, 180, 0, 48, 43, 25, 4, 182, 0, 51, 96, 28, 182, 0, 55]
theorem wdX6_leastLate_53 : LocW cX6_leastLate 53 bdX6_leastLate_53 := loc_of (by decide +kernel)
theorem adX6_leastLate_53 : De bdX6_leastLate_53 0 (.invokevirtual 38) 3 ∧ De bdX6_leastLate_53 3 (.astore 4) 2 ∧ De bdX6_leastLate_53 5 (.aload 4) 2 ∧ De bdX6_leastLate_53 7 (.ifnull 32) 3 ∧ De bdX6_leastLate_53 10 (.aload 4) 2 ∧ De bdX6_leastLate_53 12 (.getfield 42) 3 ∧ De bdX6_leastLate_53 15 (.ifCond .ne 24) 3 ∧ De bdX6_leastLate_53 18 (.aload_n 0) 1 ∧ De bdX6_leastLate_53 19 (.aload_n 1) 1 ∧ De bdX6_leastLate_53 20 (.getfield 48) 3 ∧ De bdX6_leastLate_53 23 (.aload_n 1) 1 ∧ De bdX6_leastLate_53 24 (.aload 4) 2 ∧ De bdX6_leastLate_53 26 (.invokevirtual 51) 3 ∧ De bdX6_leastLate_53 29 (.iadd) 1 ∧ De bdX6_leastLate_53 30 (.iload_n 2) 1 ∧ De bdX6_leastLate_53 31 (.invokevirtual 55) 3 := by decide +kernel
theorem dX6_leastLate_53 : decode cX6_leastLate 53 = .ok (.invokevirtual 38, 3) := dAt wdX6_leastLate_53 adX6_leastLate_53.1 rfl
theorem dX6_leastLate_56 : decode cX6_leastLate 56 = .ok (.astore 4, 2) := dAt wdX6_leastLate_53 adX6_leastLate_53.2.1 rfl
theorem dX6_leastLate_58 : decode cX6_leastLate 58 = .ok (.aload 4, 2) := dAt wdX6_leastLate_53 adX6_leastLate_53.2.2.1 rfl
theorem dX6_leastLate_60 : decode cX6_leastLate 60 = .ok (.ifnull 32, 3) := dAt wdX6_leastLate_53 adX6_leastLate_53.2.2.2.1 rfl
theorem dX6_leastLate_63 : decode cX6_leastLate 63 = .ok (.aload 4, 2) := dAt wdX6_leastLate_53 adX6_leastLate_53.2.2.2.2.1 rfl
theorem dX6_leastLate_65 : decode cX6_leastLate 65 = .ok (.getfield 42, 3) := dAt wdX6_leastLate_53 adX6_leastLate_53.2.2.2.2.2.1 rfl
theorem dX6_leastLate_68 : decode cX6_leastLate 68 = .ok (.ifCond .ne 24, 3) := dAt wdX6_leastLate_53 adX6_leastLate_53.2.2.2.2.2.2.1 rfl
theorem dX6_leastLate_71 : decode cX6_leastLate 71 = .ok (.aload_n 0, 1) := dAt wdX6_leastLate_53 adX6_leastLate_53.2.2.2.2.2.2.2.1 rfl
theorem dX6_leastLate_72 : decode cX6_leastLate 72 = .ok (.aload_n 1, 1) := dAt wdX6_leastLate_53 adX6_leastLate_53.2.2.2.2.2.2.2.2.1 rfl
theorem dX6_leastLate_73 : decode cX6_leastLate 73 = .ok (.getfield 48, 3) := dAt wdX6_leastLate_53 adX6_leastLate_53.2.2.2.2.2.2.2.2.2.1 rfl
theorem dX6_leastLate_76 : decode cX6_leastLate 76 = .ok (.aload_n 1, 1) := dAt wdX6_leastLate_53 adX6_leastLate_53.2.2.2.2.2.2.2.2.2.2.1 rfl
theorem dX6_leastLate_77 : decode cX6_leastLate 77 = .ok (.aload 4, 2) := dAt wdX6_leastLate_53 adX6_leastLate_53.2.2.2.2.2.2.2.2.2.2.2.1 rfl
theorem dX6_leastLate_79 : decode cX6_leastLate 79 = .ok (.invokevirtual 51, 3) := dAt wdX6_leastLate_53 adX6_leastLate_53.2.2.2.2.2.2.2.2.2.2.2.2.1 rfl
theorem dX6_leastLate_82 : decode cX6_leastLate 82 = .ok (.iadd, 1) := dAt wdX6_leastLate_53 adX6_leastLate_53.2.2.2.2.2.2.2.2.2.2.2.2.2.1 rfl
theorem dX6_leastLate_83 : decode cX6_leastLate 83 = .ok (.iload_n 2, 1) := dAt wdX6_leastLate_53 adX6_leastLate_53.2.2.2.2.2.2.2.2.2.2.2.2.2.2.1 rfl
theorem dX6_leastLate_84 : decode cX6_leastLate 84 = .ok (.invokevirtual 55, 3) := dAt wdX6_leastLate_53 adX6_leastLate_53.2.2.2.2.2.2.2.2.2.2.2.2.2.2.2 rfl
def bdX6_leastLate_87 : ByteArray := .mk #[42, 28, 182, 0, 59, 132, 3, 1, 167, 255, 204, 42, 180, 0, 25, 28, 4, 100, 46, 18, 32, 161, 0, 7, 2, 167, 0, 11, 42]
theorem wdX6_leastLate_87 : LocW cX6_leastLate 87 bdX6_leastLate_87 := loc_of (by decide +kernel)
theorem adX6_leastLate_87 : De bdX6_leastLate_87 0 (.aload_n 0) 1 ∧ De bdX6_leastLate_87 1 (.iload_n 2) 1 ∧ De bdX6_leastLate_87 2 (.invokevirtual 59) 3 ∧ De bdX6_leastLate_87 5 (.iinc 3 1) 3 ∧ De bdX6_leastLate_87 8 (.goto (-52)) 3 ∧ De bdX6_leastLate_87 11 (.aload_n 0) 1 ∧ De bdX6_leastLate_87 12 (.getfield 25) 3 ∧ De bdX6_leastLate_87 15 (.iload_n 2) 1 ∧ De bdX6_leastLate_87 16 (.iconst 1) 1 ∧ De bdX6_leastLate_87 17 (.isub) 1 ∧ De bdX6_leastLate_87 18 (.iaload) 1 ∧ De bdX6_leastLate_87 19 (.ldc 32) 2 ∧ De bdX6_leastLate_87 21 (.if_icmp .lt 7) 3 ∧ De bdX6_leastLate_87 24 (.iconst (-1)) 1 ∧ De bdX6_leastLate_87 25 (.goto 11) 3 ∧ De bdX6_leastLate_87 28 (.aload_n 0) 1 := by decide +kernel
theorem dX6_leastLate_87 : decode cX6_leastLate 87 = .ok (.aload_n 0, 1) := dAt wdX6_leastLate_87 adX6_leastLate_87.1 rfl
theorem dX6_leastLate_88 : decode cX6_leastLate 88 = .ok (.iload_n 2, 1) := dAt wdX6_leastLate_87 adX6_leastLate_87.2.1 rfl
theorem dX6_leastLate_89 : decode cX6_leastLate 89 = .ok (.invokevirtual 59, 3) := dAt wdX6_leastLate_87 adX6_leastLate_87.2.2.1 rfl
theorem dX6_leastLate_92 : decode cX6_leastLate 92 = .ok (.iinc 3 1, 3) := dAt wdX6_leastLate_87 adX6_leastLate_87.2.2.2.1 rfl
theorem dX6_leastLate_95 : decode cX6_leastLate 95 = .ok (.goto (-52), 3) := dAt wdX6_leastLate_87 adX6_leastLate_87.2.2.2.2.1 rfl
theorem dX6_leastLate_98 : decode cX6_leastLate 98 = .ok (.aload_n 0, 1) := dAt wdX6_leastLate_87 adX6_leastLate_87.2.2.2.2.2.1 rfl
theorem dX6_leastLate_99 : decode cX6_leastLate 99 = .ok (.getfield 25, 3) := dAt wdX6_leastLate_87 adX6_leastLate_87.2.2.2.2.2.2.1 rfl
theorem dX6_leastLate_102 : decode cX6_leastLate 102 = .ok (.iload_n 2, 1) := dAt wdX6_leastLate_87 adX6_leastLate_87.2.2.2.2.2.2.2.1 rfl
theorem dX6_leastLate_103 : decode cX6_leastLate 103 = .ok (.iconst 1, 1) := dAt wdX6_leastLate_87 adX6_leastLate_87.2.2.2.2.2.2.2.2.1 rfl
theorem dX6_leastLate_104 : decode cX6_leastLate 104 = .ok (.isub, 1) := dAt wdX6_leastLate_87 adX6_leastLate_87.2.2.2.2.2.2.2.2.2.1 rfl
theorem dX6_leastLate_105 : decode cX6_leastLate 105 = .ok (.iaload, 1) := dAt wdX6_leastLate_87 adX6_leastLate_87.2.2.2.2.2.2.2.2.2.2.1 rfl
theorem dX6_leastLate_106 : decode cX6_leastLate 106 = .ok (.ldc 32, 2) := dAt wdX6_leastLate_87 adX6_leastLate_87.2.2.2.2.2.2.2.2.2.2.2.1 rfl
theorem dX6_leastLate_108 : decode cX6_leastLate 108 = .ok (.if_icmp .lt 7, 3) := dAt wdX6_leastLate_87 adX6_leastLate_87.2.2.2.2.2.2.2.2.2.2.2.2.1 rfl
theorem dX6_leastLate_111 : decode cX6_leastLate 111 = .ok (.iconst (-1), 1) := dAt wdX6_leastLate_87 adX6_leastLate_87.2.2.2.2.2.2.2.2.2.2.2.2.2.1 rfl
theorem dX6_leastLate_112 : decode cX6_leastLate 112 = .ok (.goto 11, 3) := dAt wdX6_leastLate_87 adX6_leastLate_87.2.2.2.2.2.2.2.2.2.2.2.2.2.2.1 rfl
theorem dX6_leastLate_115 : decode cX6_leastLate 115 = .ok (.aload_n 0, 1) := dAt wdX6_leastLate_87 adX6_leastLate_87.2.2.2.2.2.2.2.2.2.2.2.2.2.2.2 rfl
def bdX6_leastLate_116 : ByteArray := .mk #[180, 0, 25, 28, 4, 100, 46, 172]
theorem wdX6_leastLate_116 : LocW cX6_leastLate 116 bdX6_leastLate_116 := loc_of (by decide +kernel)
theorem adX6_leastLate_116 : De bdX6_leastLate_116 0 (.getfield 25) 3 ∧ De bdX6_leastLate_116 3 (.iload_n 2) 1 ∧ De bdX6_leastLate_116 4 (.iconst 1) 1 ∧ De bdX6_leastLate_116 5 (.isub) 1 ∧ De bdX6_leastLate_116 6 (.iaload) 1 ∧ De bdX6_leastLate_116 7 (.ireturn) 1 := by decide +kernel
theorem dX6_leastLate_116 : decode cX6_leastLate 116 = .ok (.getfield 25, 3) := dAt wdX6_leastLate_116 adX6_leastLate_116.1 rfl
theorem dX6_leastLate_119 : decode cX6_leastLate 119 = .ok (.iload_n 2, 1) := dAt wdX6_leastLate_116 adX6_leastLate_116.2.1 rfl
theorem dX6_leastLate_120 : decode cX6_leastLate 120 = .ok (.iconst 1, 1) := dAt wdX6_leastLate_116 adX6_leastLate_116.2.2.1 rfl
theorem dX6_leastLate_121 : decode cX6_leastLate 121 = .ok (.isub, 1) := dAt wdX6_leastLate_116 adX6_leastLate_116.2.2.2.1 rfl
theorem dX6_leastLate_122 : decode cX6_leastLate 122 = .ok (.iaload, 1) := dAt wdX6_leastLate_116 adX6_leastLate_116.2.2.2.2.1 rfl
theorem dX6_leastLate_123 : decode cX6_leastLate 123 = .ok (.ireturn, 1) := dAt wdX6_leastLate_116 adX6_leastLate_116.2.2.2.2.2 rfl
def bdX6_loadParts_0 : ByteArray := .mk #[42, 3, 181, 0, 9, 3, 61, 28, 8, 43, 180, 0, 63, 104, 162, 0, 92, 42, 180, 0, 9, 8, 162, 0, 84, 43]
theorem wdX6_loadParts_0 : LocW cX6_loadParts 0 bdX6_loadParts_0 := loc_of (by decide +kernel)
theorem adX6_loadParts_0 : De bdX6_loadParts_0 0 (.aload_n 0) 1 ∧ De bdX6_loadParts_0 1 (.iconst 0) 1 ∧ De bdX6_loadParts_0 2 (.putfield 9) 3 ∧ De bdX6_loadParts_0 5 (.iconst 0) 1 ∧ De bdX6_loadParts_0 6 (.istore_n 2) 1 ∧ De bdX6_loadParts_0 7 (.iload_n 2) 1 ∧ De bdX6_loadParts_0 8 (.iconst 5) 1 ∧ De bdX6_loadParts_0 9 (.aload_n 1) 1 ∧ De bdX6_loadParts_0 10 (.getfield 63) 3 ∧ De bdX6_loadParts_0 13 (.imul) 1 ∧ De bdX6_loadParts_0 14 (.if_icmp .ge 92) 3 ∧ De bdX6_loadParts_0 17 (.aload_n 0) 1 ∧ De bdX6_loadParts_0 18 (.getfield 9) 3 ∧ De bdX6_loadParts_0 21 (.iconst 5) 1 ∧ De bdX6_loadParts_0 22 (.if_icmp .ge 84) 3 ∧ De bdX6_loadParts_0 25 (.aload_n 1) 1 := by decide +kernel
theorem dX6_loadParts_0 : decode cX6_loadParts 0 = .ok (.aload_n 0, 1) := dAt wdX6_loadParts_0 adX6_loadParts_0.1 rfl
theorem dX6_loadParts_1 : decode cX6_loadParts 1 = .ok (.iconst 0, 1) := dAt wdX6_loadParts_0 adX6_loadParts_0.2.1 rfl
theorem dX6_loadParts_2 : decode cX6_loadParts 2 = .ok (.putfield 9, 3) := dAt wdX6_loadParts_0 adX6_loadParts_0.2.2.1 rfl
theorem dX6_loadParts_5 : decode cX6_loadParts 5 = .ok (.iconst 0, 1) := dAt wdX6_loadParts_0 adX6_loadParts_0.2.2.2.1 rfl
theorem dX6_loadParts_6 : decode cX6_loadParts 6 = .ok (.istore_n 2, 1) := dAt wdX6_loadParts_0 adX6_loadParts_0.2.2.2.2.1 rfl
theorem dX6_loadParts_7 : decode cX6_loadParts 7 = .ok (.iload_n 2, 1) := dAt wdX6_loadParts_0 adX6_loadParts_0.2.2.2.2.2.1 rfl
theorem dX6_loadParts_8 : decode cX6_loadParts 8 = .ok (.iconst 5, 1) := dAt wdX6_loadParts_0 adX6_loadParts_0.2.2.2.2.2.2.1 rfl
theorem dX6_loadParts_9 : decode cX6_loadParts 9 = .ok (.aload_n 1, 1) := dAt wdX6_loadParts_0 adX6_loadParts_0.2.2.2.2.2.2.2.1 rfl
theorem dX6_loadParts_10 : decode cX6_loadParts 10 = .ok (.getfield 63, 3) := dAt wdX6_loadParts_0 adX6_loadParts_0.2.2.2.2.2.2.2.2.1 rfl
theorem dX6_loadParts_13 : decode cX6_loadParts 13 = .ok (.imul, 1) := dAt wdX6_loadParts_0 adX6_loadParts_0.2.2.2.2.2.2.2.2.2.1 rfl
theorem dX6_loadParts_14 : decode cX6_loadParts 14 = .ok (.if_icmp .ge 92, 3) := dAt wdX6_loadParts_0 adX6_loadParts_0.2.2.2.2.2.2.2.2.2.2.1 rfl
theorem dX6_loadParts_17 : decode cX6_loadParts 17 = .ok (.aload_n 0, 1) := dAt wdX6_loadParts_0 adX6_loadParts_0.2.2.2.2.2.2.2.2.2.2.2.1 rfl
theorem dX6_loadParts_18 : decode cX6_loadParts 18 = .ok (.getfield 9, 3) := dAt wdX6_loadParts_0 adX6_loadParts_0.2.2.2.2.2.2.2.2.2.2.2.2.1 rfl
theorem dX6_loadParts_21 : decode cX6_loadParts 21 = .ok (.iconst 5, 1) := dAt wdX6_loadParts_0 adX6_loadParts_0.2.2.2.2.2.2.2.2.2.2.2.2.2.1 rfl
theorem dX6_loadParts_22 : decode cX6_loadParts 22 = .ok (.if_icmp .ge 84, 3) := dAt wdX6_loadParts_0 adX6_loadParts_0.2.2.2.2.2.2.2.2.2.2.2.2.2.2.1 rfl
theorem dX6_loadParts_25 : decode cX6_loadParts 25 = .ok (.aload_n 1, 1) := dAt wdX6_loadParts_0 adX6_loadParts_0.2.2.2.2.2.2.2.2.2.2.2.2.2.2.2 rfl
def bdX6_loadParts_26 : ByteArray := .mk #[28, 182, 0, 66, 78, 45, 198, 0, 68, 45, 180, 0, 70, 153, 0, 6, 167, 0, 58, 43, 45, 43, 180, 0, 48, 182, 0, 75, 3, 182, 0, 79]
theorem wdX6_loadParts_26 : LocW cX6_loadParts 26 bdX6_loadParts_26 := loc_of (by decide +kernel)
theorem adX6_loadParts_26 : De bdX6_loadParts_26 0 (.iload_n 2) 1 ∧ De bdX6_loadParts_26 1 (.invokevirtual 66) 3 ∧ De bdX6_loadParts_26 4 (.astore_n 3) 1 ∧ De bdX6_loadParts_26 5 (.aload_n 3) 1 ∧ De bdX6_loadParts_26 6 (.ifnull 68) 3 ∧ De bdX6_loadParts_26 9 (.aload_n 3) 1 ∧ De bdX6_loadParts_26 10 (.getfield 70) 3 ∧ De bdX6_loadParts_26 13 (.ifCond .eq 6) 3 ∧ De bdX6_loadParts_26 16 (.goto 58) 3 ∧ De bdX6_loadParts_26 19 (.aload_n 1) 1 ∧ De bdX6_loadParts_26 20 (.aload_n 3) 1 ∧ De bdX6_loadParts_26 21 (.aload_n 1) 1 ∧ De bdX6_loadParts_26 22 (.getfield 48) 3 ∧ De bdX6_loadParts_26 25 (.invokevirtual 75) 3 ∧ De bdX6_loadParts_26 28 (.iconst 0) 1 ∧ De bdX6_loadParts_26 29 (.invokevirtual 79) 3 := by decide +kernel
theorem dX6_loadParts_26 : decode cX6_loadParts 26 = .ok (.iload_n 2, 1) := dAt wdX6_loadParts_26 adX6_loadParts_26.1 rfl
theorem dX6_loadParts_27 : decode cX6_loadParts 27 = .ok (.invokevirtual 66, 3) := dAt wdX6_loadParts_26 adX6_loadParts_26.2.1 rfl
theorem dX6_loadParts_30 : decode cX6_loadParts 30 = .ok (.astore_n 3, 1) := dAt wdX6_loadParts_26 adX6_loadParts_26.2.2.1 rfl
theorem dX6_loadParts_31 : decode cX6_loadParts 31 = .ok (.aload_n 3, 1) := dAt wdX6_loadParts_26 adX6_loadParts_26.2.2.2.1 rfl
theorem dX6_loadParts_32 : decode cX6_loadParts 32 = .ok (.ifnull 68, 3) := dAt wdX6_loadParts_26 adX6_loadParts_26.2.2.2.2.1 rfl
theorem dX6_loadParts_35 : decode cX6_loadParts 35 = .ok (.aload_n 3, 1) := dAt wdX6_loadParts_26 adX6_loadParts_26.2.2.2.2.2.1 rfl
theorem dX6_loadParts_36 : decode cX6_loadParts 36 = .ok (.getfield 70, 3) := dAt wdX6_loadParts_26 adX6_loadParts_26.2.2.2.2.2.2.1 rfl
theorem dX6_loadParts_39 : decode cX6_loadParts 39 = .ok (.ifCond .eq 6, 3) := dAt wdX6_loadParts_26 adX6_loadParts_26.2.2.2.2.2.2.2.1 rfl
theorem dX6_loadParts_42 : decode cX6_loadParts 42 = .ok (.goto 58, 3) := dAt wdX6_loadParts_26 adX6_loadParts_26.2.2.2.2.2.2.2.2.1 rfl
theorem dX6_loadParts_45 : decode cX6_loadParts 45 = .ok (.aload_n 1, 1) := dAt wdX6_loadParts_26 adX6_loadParts_26.2.2.2.2.2.2.2.2.2.1 rfl
theorem dX6_loadParts_46 : decode cX6_loadParts 46 = .ok (.aload_n 3, 1) := dAt wdX6_loadParts_26 adX6_loadParts_26.2.2.2.2.2.2.2.2.2.2.1 rfl
theorem dX6_loadParts_47 : decode cX6_loadParts 47 = .ok (.aload_n 1, 1) := dAt wdX6_loadParts_26 adX6_loadParts_26.2.2.2.2.2.2.2.2.2.2.2.1 rfl
theorem dX6_loadParts_48 : decode cX6_loadParts 48 = .ok (.getfield 48, 3) := dAt wdX6_loadParts_26 adX6_loadParts_26.2.2.2.2.2.2.2.2.2.2.2.2.1 rfl
theorem dX6_loadParts_51 : decode cX6_loadParts 51 = .ok (.invokevirtual 75, 3) := dAt wdX6_loadParts_26 adX6_loadParts_26.2.2.2.2.2.2.2.2.2.2.2.2.2.1 rfl
theorem dX6_loadParts_54 : decode cX6_loadParts 54 = .ok (.iconst 0, 1) := dAt wdX6_loadParts_26 adX6_loadParts_26.2.2.2.2.2.2.2.2.2.2.2.2.2.2.1 rfl
theorem dX6_loadParts_55 : decode cX6_loadParts 55 = .ok (.invokevirtual 79, 3) := dAt wdX6_loadParts_26 adX6_loadParts_26.2.2.2.2.2.2.2.2.2.2.2.2.2.2.2 rfl
def bdX6_loadParts_58 : ByteArray := .mk #[54, 4, 21, 4, 2, 159, 0, 37, 42, 180, 0, 15, 42, 180, 0, 9, 21, 4, 79, 42, 180, 0, 19, 42, 180, 0, 9, 45, 180, 0, 85]
theorem wdX6_loadParts_58 : LocW cX6_loadParts 58 bdX6_loadParts_58 := loc_of (by decide +kernel)
theorem adX6_loadParts_58 : De bdX6_loadParts_58 0 (.istore 4) 2 ∧ De bdX6_loadParts_58 2 (.iload 4) 2 ∧ De bdX6_loadParts_58 4 (.iconst (-1)) 1 ∧ De bdX6_loadParts_58 5 (.if_icmp .eq 37) 3 ∧ De bdX6_loadParts_58 8 (.aload_n 0) 1 ∧ De bdX6_loadParts_58 9 (.getfield 15) 3 ∧ De bdX6_loadParts_58 12 (.aload_n 0) 1 ∧ De bdX6_loadParts_58 13 (.getfield 9) 3 ∧ De bdX6_loadParts_58 16 (.iload 4) 2 ∧ De bdX6_loadParts_58 18 (.iastore) 1 ∧ De bdX6_loadParts_58 19 (.aload_n 0) 1 ∧ De bdX6_loadParts_58 20 (.getfield 19) 3 ∧ De bdX6_loadParts_58 23 (.aload_n 0) 1 ∧ De bdX6_loadParts_58 24 (.getfield 9) 3 ∧ De bdX6_loadParts_58 27 (.aload_n 3) 1 ∧ De bdX6_loadParts_58 28 (.getfield 85) 3 := by decide +kernel
theorem dX6_loadParts_58 : decode cX6_loadParts 58 = .ok (.istore 4, 2) := dAt wdX6_loadParts_58 adX6_loadParts_58.1 rfl
theorem dX6_loadParts_60 : decode cX6_loadParts 60 = .ok (.iload 4, 2) := dAt wdX6_loadParts_58 adX6_loadParts_58.2.1 rfl
theorem dX6_loadParts_62 : decode cX6_loadParts 62 = .ok (.iconst (-1), 1) := dAt wdX6_loadParts_58 adX6_loadParts_58.2.2.1 rfl
theorem dX6_loadParts_63 : decode cX6_loadParts 63 = .ok (.if_icmp .eq 37, 3) := dAt wdX6_loadParts_58 adX6_loadParts_58.2.2.2.1 rfl
theorem dX6_loadParts_66 : decode cX6_loadParts 66 = .ok (.aload_n 0, 1) := dAt wdX6_loadParts_58 adX6_loadParts_58.2.2.2.2.1 rfl
theorem dX6_loadParts_67 : decode cX6_loadParts 67 = .ok (.getfield 15, 3) := dAt wdX6_loadParts_58 adX6_loadParts_58.2.2.2.2.2.1 rfl
theorem dX6_loadParts_70 : decode cX6_loadParts 70 = .ok (.aload_n 0, 1) := dAt wdX6_loadParts_58 adX6_loadParts_58.2.2.2.2.2.2.1 rfl
theorem dX6_loadParts_71 : decode cX6_loadParts 71 = .ok (.getfield 9, 3) := dAt wdX6_loadParts_58 adX6_loadParts_58.2.2.2.2.2.2.2.1 rfl
theorem dX6_loadParts_74 : decode cX6_loadParts 74 = .ok (.iload 4, 2) := dAt wdX6_loadParts_58 adX6_loadParts_58.2.2.2.2.2.2.2.2.1 rfl
theorem dX6_loadParts_76 : decode cX6_loadParts 76 = .ok (.iastore, 1) := dAt wdX6_loadParts_58 adX6_loadParts_58.2.2.2.2.2.2.2.2.2.1 rfl
theorem dX6_loadParts_77 : decode cX6_loadParts 77 = .ok (.aload_n 0, 1) := dAt wdX6_loadParts_58 adX6_loadParts_58.2.2.2.2.2.2.2.2.2.2.1 rfl
theorem dX6_loadParts_78 : decode cX6_loadParts 78 = .ok (.getfield 19, 3) := dAt wdX6_loadParts_58 adX6_loadParts_58.2.2.2.2.2.2.2.2.2.2.2.1 rfl
theorem dX6_loadParts_81 : decode cX6_loadParts 81 = .ok (.aload_n 0, 1) := dAt wdX6_loadParts_58 adX6_loadParts_58.2.2.2.2.2.2.2.2.2.2.2.2.1 rfl
theorem dX6_loadParts_82 : decode cX6_loadParts 82 = .ok (.getfield 9, 3) := dAt wdX6_loadParts_58 adX6_loadParts_58.2.2.2.2.2.2.2.2.2.2.2.2.2.1 rfl
theorem dX6_loadParts_85 : decode cX6_loadParts 85 = .ok (.aload_n 3, 1) := dAt wdX6_loadParts_58 adX6_loadParts_58.2.2.2.2.2.2.2.2.2.2.2.2.2.2.1 rfl
theorem dX6_loadParts_86 : decode cX6_loadParts 86 = .ok (.getfield 85, 3) := dAt wdX6_loadParts_58 adX6_loadParts_58.2.2.2.2.2.2.2.2.2.2.2.2.2.2.2 rfl
def bdX6_loadParts_89 : ByteArray := .mk #[79, 42, 89, 180, 0, 9, 4, 96, 181, 0, 9, 132, 2, 1, 167, 255, 160, 177]
theorem wdX6_loadParts_89 : LocW cX6_loadParts 89 bdX6_loadParts_89 := loc_of (by decide +kernel)
theorem adX6_loadParts_89 : De bdX6_loadParts_89 0 (.iastore) 1 ∧ De bdX6_loadParts_89 1 (.aload_n 0) 1 ∧ De bdX6_loadParts_89 2 (.dup) 1 ∧ De bdX6_loadParts_89 3 (.getfield 9) 3 ∧ De bdX6_loadParts_89 6 (.iconst 1) 1 ∧ De bdX6_loadParts_89 7 (.iadd) 1 ∧ De bdX6_loadParts_89 8 (.putfield 9) 3 ∧ De bdX6_loadParts_89 11 (.iinc 2 1) 3 ∧ De bdX6_loadParts_89 14 (.goto (-96)) 3 ∧ De bdX6_loadParts_89 17 (.return_) 1 := by decide +kernel
theorem dX6_loadParts_89 : decode cX6_loadParts 89 = .ok (.iastore, 1) := dAt wdX6_loadParts_89 adX6_loadParts_89.1 rfl
theorem dX6_loadParts_90 : decode cX6_loadParts 90 = .ok (.aload_n 0, 1) := dAt wdX6_loadParts_89 adX6_loadParts_89.2.1 rfl
theorem dX6_loadParts_91 : decode cX6_loadParts 91 = .ok (.dup, 1) := dAt wdX6_loadParts_89 adX6_loadParts_89.2.2.1 rfl
theorem dX6_loadParts_92 : decode cX6_loadParts 92 = .ok (.getfield 9, 3) := dAt wdX6_loadParts_89 adX6_loadParts_89.2.2.2.1 rfl
theorem dX6_loadParts_95 : decode cX6_loadParts 95 = .ok (.iconst 1, 1) := dAt wdX6_loadParts_89 adX6_loadParts_89.2.2.2.2.1 rfl
theorem dX6_loadParts_96 : decode cX6_loadParts 96 = .ok (.iadd, 1) := dAt wdX6_loadParts_89 adX6_loadParts_89.2.2.2.2.2.1 rfl
theorem dX6_loadParts_97 : decode cX6_loadParts 97 = .ok (.putfield 9, 3) := dAt wdX6_loadParts_89 adX6_loadParts_89.2.2.2.2.2.2.1 rfl
theorem dX6_loadParts_100 : decode cX6_loadParts 100 = .ok (.iinc 2 1, 3) := dAt wdX6_loadParts_89 adX6_loadParts_89.2.2.2.2.2.2.2.1 rfl
theorem dX6_loadParts_103 : decode cX6_loadParts 103 = .ok (.goto (-96), 3) := dAt wdX6_loadParts_89 adX6_loadParts_89.2.2.2.2.2.2.2.2.1 rfl
theorem dX6_loadParts_106 : decode cX6_loadParts 106 = .ok (.return_, 1) := dAt wdX6_loadParts_89 adX6_loadParts_89.2.2.2.2.2.2.2.2.2 rfl
def bdX6_findOwn_0 : ByteArray := .mk #[42, 180, 0, 22, 3, 3, 79, 4, 62, 29, 28, 162, 0, 131, 27, 54, 4, 3, 54, 5, 21, 5, 42]
theorem wdX6_findOwn_0 : LocW cX6_findOwn 0 bdX6_findOwn_0 := loc_of (by decide +kernel)
theorem adX6_findOwn_0 : De bdX6_findOwn_0 0 (.aload_n 0) 1 ∧ De bdX6_findOwn_0 1 (.getfield 22) 3 ∧ De bdX6_findOwn_0 4 (.iconst 0) 1 ∧ De bdX6_findOwn_0 5 (.iconst 0) 1 ∧ De bdX6_findOwn_0 6 (.iastore) 1 ∧ De bdX6_findOwn_0 7 (.iconst 1) 1 ∧ De bdX6_findOwn_0 8 (.istore_n 3) 1 ∧ De bdX6_findOwn_0 9 (.iload_n 3) 1 ∧ De bdX6_findOwn_0 10 (.iload_n 2) 1 ∧ De bdX6_findOwn_0 11 (.if_icmp .ge 131) 3 ∧ De bdX6_findOwn_0 14 (.iload_n 1) 1 ∧ De bdX6_findOwn_0 15 (.istore 4) 2 ∧ De bdX6_findOwn_0 17 (.iconst 0) 1 ∧ De bdX6_findOwn_0 18 (.istore 5) 2 ∧ De bdX6_findOwn_0 20 (.iload 5) 2 ∧ De bdX6_findOwn_0 22 (.aload_n 0) 1 := by decide +kernel
theorem dX6_findOwn_0 : decode cX6_findOwn 0 = .ok (.aload_n 0, 1) := dAt wdX6_findOwn_0 adX6_findOwn_0.1 rfl
theorem dX6_findOwn_1 : decode cX6_findOwn 1 = .ok (.getfield 22, 3) := dAt wdX6_findOwn_0 adX6_findOwn_0.2.1 rfl
theorem dX6_findOwn_4 : decode cX6_findOwn 4 = .ok (.iconst 0, 1) := dAt wdX6_findOwn_0 adX6_findOwn_0.2.2.1 rfl
theorem dX6_findOwn_5 : decode cX6_findOwn 5 = .ok (.iconst 0, 1) := dAt wdX6_findOwn_0 adX6_findOwn_0.2.2.2.1 rfl
theorem dX6_findOwn_6 : decode cX6_findOwn 6 = .ok (.iastore, 1) := dAt wdX6_findOwn_0 adX6_findOwn_0.2.2.2.2.1 rfl
theorem dX6_findOwn_7 : decode cX6_findOwn 7 = .ok (.iconst 1, 1) := dAt wdX6_findOwn_0 adX6_findOwn_0.2.2.2.2.2.1 rfl
theorem dX6_findOwn_8 : decode cX6_findOwn 8 = .ok (.istore_n 3, 1) := dAt wdX6_findOwn_0 adX6_findOwn_0.2.2.2.2.2.2.1 rfl
theorem dX6_findOwn_9 : decode cX6_findOwn 9 = .ok (.iload_n 3, 1) := dAt wdX6_findOwn_0 adX6_findOwn_0.2.2.2.2.2.2.2.1 rfl
theorem dX6_findOwn_10 : decode cX6_findOwn 10 = .ok (.iload_n 2, 1) := dAt wdX6_findOwn_0 adX6_findOwn_0.2.2.2.2.2.2.2.2.1 rfl
theorem dX6_findOwn_11 : decode cX6_findOwn 11 = .ok (.if_icmp .ge 131, 3) := dAt wdX6_findOwn_0 adX6_findOwn_0.2.2.2.2.2.2.2.2.2.1 rfl
theorem dX6_findOwn_14 : decode cX6_findOwn 14 = .ok (.iload_n 1, 1) := dAt wdX6_findOwn_0 adX6_findOwn_0.2.2.2.2.2.2.2.2.2.2.1 rfl
theorem dX6_findOwn_15 : decode cX6_findOwn 15 = .ok (.istore 4, 2) := dAt wdX6_findOwn_0 adX6_findOwn_0.2.2.2.2.2.2.2.2.2.2.2.1 rfl
theorem dX6_findOwn_17 : decode cX6_findOwn 17 = .ok (.iconst 0, 1) := dAt wdX6_findOwn_0 adX6_findOwn_0.2.2.2.2.2.2.2.2.2.2.2.2.1 rfl
theorem dX6_findOwn_18 : decode cX6_findOwn 18 = .ok (.istore 5, 2) := dAt wdX6_findOwn_0 adX6_findOwn_0.2.2.2.2.2.2.2.2.2.2.2.2.2.1 rfl
theorem dX6_findOwn_20 : decode cX6_findOwn 20 = .ok (.iload 5, 2) := dAt wdX6_findOwn_0 adX6_findOwn_0.2.2.2.2.2.2.2.2.2.2.2.2.2.2.1 rfl
theorem dX6_findOwn_22 : decode cX6_findOwn 22 = .ok (.aload_n 0, 1) := dAt wdX6_findOwn_0 adX6_findOwn_0.2.2.2.2.2.2.2.2.2.2.2.2.2.2.2 rfl
def bdX6_findOwn_23 : ByteArray := .mk #[180, 0, 9, 162, 0, 34, 21, 4, 29, 21, 5, 122, 4, 126, 153, 0, 13, 42, 180, 0, 15, 21, 5, 46, 167, 0, 4, 3, 96]
theorem wdX6_findOwn_23 : LocW cX6_findOwn 23 bdX6_findOwn_23 := loc_of (by decide +kernel)
theorem adX6_findOwn_23 : De bdX6_findOwn_23 0 (.getfield 9) 3 ∧ De bdX6_findOwn_23 3 (.if_icmp .ge 34) 3 ∧ De bdX6_findOwn_23 6 (.iload 4) 2 ∧ De bdX6_findOwn_23 8 (.iload_n 3) 1 ∧ De bdX6_findOwn_23 9 (.iload 5) 2 ∧ De bdX6_findOwn_23 11 (.ishr) 1 ∧ De bdX6_findOwn_23 12 (.iconst 1) 1 ∧ De bdX6_findOwn_23 13 (.iand) 1 ∧ De bdX6_findOwn_23 14 (.ifCond .eq 13) 3 ∧ De bdX6_findOwn_23 17 (.aload_n 0) 1 ∧ De bdX6_findOwn_23 18 (.getfield 15) 3 ∧ De bdX6_findOwn_23 21 (.iload 5) 2 ∧ De bdX6_findOwn_23 23 (.iaload) 1 ∧ De bdX6_findOwn_23 24 (.goto 4) 3 ∧ De bdX6_findOwn_23 27 (.iconst 0) 1 ∧ De bdX6_findOwn_23 28 (.iadd) 1 := by decide +kernel
theorem dX6_findOwn_23 : decode cX6_findOwn 23 = .ok (.getfield 9, 3) := dAt wdX6_findOwn_23 adX6_findOwn_23.1 rfl
theorem dX6_findOwn_26 : decode cX6_findOwn 26 = .ok (.if_icmp .ge 34, 3) := dAt wdX6_findOwn_23 adX6_findOwn_23.2.1 rfl
theorem dX6_findOwn_29 : decode cX6_findOwn 29 = .ok (.iload 4, 2) := dAt wdX6_findOwn_23 adX6_findOwn_23.2.2.1 rfl
theorem dX6_findOwn_31 : decode cX6_findOwn 31 = .ok (.iload_n 3, 1) := dAt wdX6_findOwn_23 adX6_findOwn_23.2.2.2.1 rfl
theorem dX6_findOwn_32 : decode cX6_findOwn 32 = .ok (.iload 5, 2) := dAt wdX6_findOwn_23 adX6_findOwn_23.2.2.2.2.1 rfl
theorem dX6_findOwn_34 : decode cX6_findOwn 34 = .ok (.ishr, 1) := dAt wdX6_findOwn_23 adX6_findOwn_23.2.2.2.2.2.1 rfl
theorem dX6_findOwn_35 : decode cX6_findOwn 35 = .ok (.iconst 1, 1) := dAt wdX6_findOwn_23 adX6_findOwn_23.2.2.2.2.2.2.1 rfl
theorem dX6_findOwn_36 : decode cX6_findOwn 36 = .ok (.iand, 1) := dAt wdX6_findOwn_23 adX6_findOwn_23.2.2.2.2.2.2.2.1 rfl
theorem dX6_findOwn_37 : decode cX6_findOwn 37 = .ok (.ifCond .eq 13, 3) := dAt wdX6_findOwn_23 adX6_findOwn_23.2.2.2.2.2.2.2.2.1 rfl
theorem dX6_findOwn_40 : decode cX6_findOwn 40 = .ok (.aload_n 0, 1) := dAt wdX6_findOwn_23 adX6_findOwn_23.2.2.2.2.2.2.2.2.2.1 rfl
theorem dX6_findOwn_41 : decode cX6_findOwn 41 = .ok (.getfield 15, 3) := dAt wdX6_findOwn_23 adX6_findOwn_23.2.2.2.2.2.2.2.2.2.2.1 rfl
theorem dX6_findOwn_44 : decode cX6_findOwn 44 = .ok (.iload 5, 2) := dAt wdX6_findOwn_23 adX6_findOwn_23.2.2.2.2.2.2.2.2.2.2.2.1 rfl
theorem dX6_findOwn_46 : decode cX6_findOwn 46 = .ok (.iaload, 1) := dAt wdX6_findOwn_23 adX6_findOwn_23.2.2.2.2.2.2.2.2.2.2.2.2.1 rfl
theorem dX6_findOwn_47 : decode cX6_findOwn 47 = .ok (.goto 4, 3) := dAt wdX6_findOwn_23 adX6_findOwn_23.2.2.2.2.2.2.2.2.2.2.2.2.2.1 rfl
theorem dX6_findOwn_50 : decode cX6_findOwn 50 = .ok (.iconst 0, 1) := dAt wdX6_findOwn_23 adX6_findOwn_23.2.2.2.2.2.2.2.2.2.2.2.2.2.2.1 rfl
theorem dX6_findOwn_51 : decode cX6_findOwn 51 = .ok (.iadd, 1) := dAt wdX6_findOwn_23 adX6_findOwn_23.2.2.2.2.2.2.2.2.2.2.2.2.2.2.2 rfl
def bdX6_findOwn_52 : ByteArray := .mk #[54, 4, 132, 5, 1, 167, 255, 219, 42, 180, 0, 22, 29, 18, 32, 79, 3, 54, 5, 21, 5, 42, 180, 0, 9, 162, 0, 59, 29, 21, 5]
theorem wdX6_findOwn_52 : LocW cX6_findOwn 52 bdX6_findOwn_52 := loc_of (by decide +kernel)
theorem adX6_findOwn_52 : De bdX6_findOwn_52 0 (.istore 4) 2 ∧ De bdX6_findOwn_52 2 (.iinc 5 1) 3 ∧ De bdX6_findOwn_52 5 (.goto (-37)) 3 ∧ De bdX6_findOwn_52 8 (.aload_n 0) 1 ∧ De bdX6_findOwn_52 9 (.getfield 22) 3 ∧ De bdX6_findOwn_52 12 (.iload_n 3) 1 ∧ De bdX6_findOwn_52 13 (.ldc 32) 2 ∧ De bdX6_findOwn_52 15 (.iastore) 1 ∧ De bdX6_findOwn_52 16 (.iconst 0) 1 ∧ De bdX6_findOwn_52 17 (.istore 5) 2 ∧ De bdX6_findOwn_52 19 (.iload 5) 2 ∧ De bdX6_findOwn_52 21 (.aload_n 0) 1 ∧ De bdX6_findOwn_52 22 (.getfield 9) 3 ∧ De bdX6_findOwn_52 25 (.if_icmp .ge 59) 3 ∧ De bdX6_findOwn_52 28 (.iload_n 3) 1 ∧ De bdX6_findOwn_52 29 (.iload 5) 2 := by decide +kernel
theorem dX6_findOwn_52 : decode cX6_findOwn 52 = .ok (.istore 4, 2) := dAt wdX6_findOwn_52 adX6_findOwn_52.1 rfl
theorem dX6_findOwn_54 : decode cX6_findOwn 54 = .ok (.iinc 5 1, 3) := dAt wdX6_findOwn_52 adX6_findOwn_52.2.1 rfl
theorem dX6_findOwn_57 : decode cX6_findOwn 57 = .ok (.goto (-37), 3) := dAt wdX6_findOwn_52 adX6_findOwn_52.2.2.1 rfl
theorem dX6_findOwn_60 : decode cX6_findOwn 60 = .ok (.aload_n 0, 1) := dAt wdX6_findOwn_52 adX6_findOwn_52.2.2.2.1 rfl
theorem dX6_findOwn_61 : decode cX6_findOwn 61 = .ok (.getfield 22, 3) := dAt wdX6_findOwn_52 adX6_findOwn_52.2.2.2.2.1 rfl
theorem dX6_findOwn_64 : decode cX6_findOwn 64 = .ok (.iload_n 3, 1) := dAt wdX6_findOwn_52 adX6_findOwn_52.2.2.2.2.2.1 rfl
theorem dX6_findOwn_65 : decode cX6_findOwn 65 = .ok (.ldc 32, 2) := dAt wdX6_findOwn_52 adX6_findOwn_52.2.2.2.2.2.2.1 rfl
theorem dX6_findOwn_67 : decode cX6_findOwn 67 = .ok (.iastore, 1) := dAt wdX6_findOwn_52 adX6_findOwn_52.2.2.2.2.2.2.2.1 rfl
theorem dX6_findOwn_68 : decode cX6_findOwn 68 = .ok (.iconst 0, 1) := dAt wdX6_findOwn_52 adX6_findOwn_52.2.2.2.2.2.2.2.2.1 rfl
theorem dX6_findOwn_69 : decode cX6_findOwn 69 = .ok (.istore 5, 2) := dAt wdX6_findOwn_52 adX6_findOwn_52.2.2.2.2.2.2.2.2.2.1 rfl
theorem dX6_findOwn_71 : decode cX6_findOwn 71 = .ok (.iload 5, 2) := dAt wdX6_findOwn_52 adX6_findOwn_52.2.2.2.2.2.2.2.2.2.2.1 rfl
theorem dX6_findOwn_73 : decode cX6_findOwn 73 = .ok (.aload_n 0, 1) := dAt wdX6_findOwn_52 adX6_findOwn_52.2.2.2.2.2.2.2.2.2.2.2.1 rfl
theorem dX6_findOwn_74 : decode cX6_findOwn 74 = .ok (.getfield 9, 3) := dAt wdX6_findOwn_52 adX6_findOwn_52.2.2.2.2.2.2.2.2.2.2.2.2.1 rfl
theorem dX6_findOwn_77 : decode cX6_findOwn 77 = .ok (.if_icmp .ge 59, 3) := dAt wdX6_findOwn_52 adX6_findOwn_52.2.2.2.2.2.2.2.2.2.2.2.2.2.1 rfl
theorem dX6_findOwn_80 : decode cX6_findOwn 80 = .ok (.iload_n 3, 1) := dAt wdX6_findOwn_52 adX6_findOwn_52.2.2.2.2.2.2.2.2.2.2.2.2.2.2.1 rfl
theorem dX6_findOwn_81 : decode cX6_findOwn 81 = .ok (.iload 5, 2) := dAt wdX6_findOwn_52 adX6_findOwn_52.2.2.2.2.2.2.2.2.2.2.2.2.2.2.2 rfl
def bdX6_findOwn_83 : ByteArray := .mk #[122, 4, 126, 153, 0, 44, 42, 180, 0, 22, 29, 42, 180, 0, 22, 29, 46, 42, 180, 0, 22, 29, 4, 21, 5]
theorem wdX6_findOwn_83 : LocW cX6_findOwn 83 bdX6_findOwn_83 := loc_of (by decide +kernel)
theorem adX6_findOwn_83 : De bdX6_findOwn_83 0 (.ishr) 1 ∧ De bdX6_findOwn_83 1 (.iconst 1) 1 ∧ De bdX6_findOwn_83 2 (.iand) 1 ∧ De bdX6_findOwn_83 3 (.ifCond .eq 44) 3 ∧ De bdX6_findOwn_83 6 (.aload_n 0) 1 ∧ De bdX6_findOwn_83 7 (.getfield 22) 3 ∧ De bdX6_findOwn_83 10 (.iload_n 3) 1 ∧ De bdX6_findOwn_83 11 (.aload_n 0) 1 ∧ De bdX6_findOwn_83 12 (.getfield 22) 3 ∧ De bdX6_findOwn_83 15 (.iload_n 3) 1 ∧ De bdX6_findOwn_83 16 (.iaload) 1 ∧ De bdX6_findOwn_83 17 (.aload_n 0) 1 ∧ De bdX6_findOwn_83 18 (.getfield 22) 3 ∧ De bdX6_findOwn_83 21 (.iload_n 3) 1 ∧ De bdX6_findOwn_83 22 (.iconst 1) 1 ∧ De bdX6_findOwn_83 23 (.iload 5) 2 := by decide +kernel
theorem dX6_findOwn_83 : decode cX6_findOwn 83 = .ok (.ishr, 1) := dAt wdX6_findOwn_83 adX6_findOwn_83.1 rfl
theorem dX6_findOwn_84 : decode cX6_findOwn 84 = .ok (.iconst 1, 1) := dAt wdX6_findOwn_83 adX6_findOwn_83.2.1 rfl
theorem dX6_findOwn_85 : decode cX6_findOwn 85 = .ok (.iand, 1) := dAt wdX6_findOwn_83 adX6_findOwn_83.2.2.1 rfl
theorem dX6_findOwn_86 : decode cX6_findOwn 86 = .ok (.ifCond .eq 44, 3) := dAt wdX6_findOwn_83 adX6_findOwn_83.2.2.2.1 rfl
theorem dX6_findOwn_89 : decode cX6_findOwn 89 = .ok (.aload_n 0, 1) := dAt wdX6_findOwn_83 adX6_findOwn_83.2.2.2.2.1 rfl
theorem dX6_findOwn_90 : decode cX6_findOwn 90 = .ok (.getfield 22, 3) := dAt wdX6_findOwn_83 adX6_findOwn_83.2.2.2.2.2.1 rfl
theorem dX6_findOwn_93 : decode cX6_findOwn 93 = .ok (.iload_n 3, 1) := dAt wdX6_findOwn_83 adX6_findOwn_83.2.2.2.2.2.2.1 rfl
theorem dX6_findOwn_94 : decode cX6_findOwn 94 = .ok (.aload_n 0, 1) := dAt wdX6_findOwn_83 adX6_findOwn_83.2.2.2.2.2.2.2.1 rfl
theorem dX6_findOwn_95 : decode cX6_findOwn 95 = .ok (.getfield 22, 3) := dAt wdX6_findOwn_83 adX6_findOwn_83.2.2.2.2.2.2.2.2.1 rfl
theorem dX6_findOwn_98 : decode cX6_findOwn 98 = .ok (.iload_n 3, 1) := dAt wdX6_findOwn_83 adX6_findOwn_83.2.2.2.2.2.2.2.2.2.1 rfl
theorem dX6_findOwn_99 : decode cX6_findOwn 99 = .ok (.iaload, 1) := dAt wdX6_findOwn_83 adX6_findOwn_83.2.2.2.2.2.2.2.2.2.2.1 rfl
theorem dX6_findOwn_100 : decode cX6_findOwn 100 = .ok (.aload_n 0, 1) := dAt wdX6_findOwn_83 adX6_findOwn_83.2.2.2.2.2.2.2.2.2.2.2.1 rfl
theorem dX6_findOwn_101 : decode cX6_findOwn 101 = .ok (.getfield 22, 3) := dAt wdX6_findOwn_83 adX6_findOwn_83.2.2.2.2.2.2.2.2.2.2.2.2.1 rfl
theorem dX6_findOwn_104 : decode cX6_findOwn 104 = .ok (.iload_n 3, 1) := dAt wdX6_findOwn_83 adX6_findOwn_83.2.2.2.2.2.2.2.2.2.2.2.2.2.1 rfl
theorem dX6_findOwn_105 : decode cX6_findOwn 105 = .ok (.iconst 1, 1) := dAt wdX6_findOwn_83 adX6_findOwn_83.2.2.2.2.2.2.2.2.2.2.2.2.2.2.1 rfl
theorem dX6_findOwn_106 : decode cX6_findOwn 106 = .ok (.iload 5, 2) := dAt wdX6_findOwn_83 adX6_findOwn_83.2.2.2.2.2.2.2.2.2.2.2.2.2.2.2 rfl
def bdX6_findOwn_108 : ByteArray := .mk #[120, 130, 46, 3, 21, 4, 42, 180, 0, 19, 21, 5, 46, 100, 184, 0, 88, 96, 184, 0, 94, 79, 132, 5, 1, 167, 255, 194]
theorem wdX6_findOwn_108 : LocW cX6_findOwn 108 bdX6_findOwn_108 := loc_of (by decide +kernel)
theorem adX6_findOwn_108 : De bdX6_findOwn_108 0 (.ishl) 1 ∧ De bdX6_findOwn_108 1 (.ixor) 1 ∧ De bdX6_findOwn_108 2 (.iaload) 1 ∧ De bdX6_findOwn_108 3 (.iconst 0) 1 ∧ De bdX6_findOwn_108 4 (.iload 4) 2 ∧ De bdX6_findOwn_108 6 (.aload_n 0) 1 ∧ De bdX6_findOwn_108 7 (.getfield 19) 3 ∧ De bdX6_findOwn_108 10 (.iload 5) 2 ∧ De bdX6_findOwn_108 12 (.iaload) 1 ∧ De bdX6_findOwn_108 13 (.isub) 1 ∧ De bdX6_findOwn_108 14 (.invokestatic 88) 3 ∧ De bdX6_findOwn_108 17 (.iadd) 1 ∧ De bdX6_findOwn_108 18 (.invokestatic 94) 3 ∧ De bdX6_findOwn_108 21 (.iastore) 1 ∧ De bdX6_findOwn_108 22 (.iinc 5 1) 3 ∧ De bdX6_findOwn_108 25 (.goto (-62)) 3 := by decide +kernel
theorem dX6_findOwn_108 : decode cX6_findOwn 108 = .ok (.ishl, 1) := dAt wdX6_findOwn_108 adX6_findOwn_108.1 rfl
theorem dX6_findOwn_109 : decode cX6_findOwn 109 = .ok (.ixor, 1) := dAt wdX6_findOwn_108 adX6_findOwn_108.2.1 rfl
theorem dX6_findOwn_110 : decode cX6_findOwn 110 = .ok (.iaload, 1) := dAt wdX6_findOwn_108 adX6_findOwn_108.2.2.1 rfl
theorem dX6_findOwn_111 : decode cX6_findOwn 111 = .ok (.iconst 0, 1) := dAt wdX6_findOwn_108 adX6_findOwn_108.2.2.2.1 rfl
theorem dX6_findOwn_112 : decode cX6_findOwn 112 = .ok (.iload 4, 2) := dAt wdX6_findOwn_108 adX6_findOwn_108.2.2.2.2.1 rfl
theorem dX6_findOwn_114 : decode cX6_findOwn 114 = .ok (.aload_n 0, 1) := dAt wdX6_findOwn_108 adX6_findOwn_108.2.2.2.2.2.1 rfl
theorem dX6_findOwn_115 : decode cX6_findOwn 115 = .ok (.getfield 19, 3) := dAt wdX6_findOwn_108 adX6_findOwn_108.2.2.2.2.2.2.1 rfl
theorem dX6_findOwn_118 : decode cX6_findOwn 118 = .ok (.iload 5, 2) := dAt wdX6_findOwn_108 adX6_findOwn_108.2.2.2.2.2.2.2.1 rfl
theorem dX6_findOwn_120 : decode cX6_findOwn 120 = .ok (.iaload, 1) := dAt wdX6_findOwn_108 adX6_findOwn_108.2.2.2.2.2.2.2.2.1 rfl
theorem dX6_findOwn_121 : decode cX6_findOwn 121 = .ok (.isub, 1) := dAt wdX6_findOwn_108 adX6_findOwn_108.2.2.2.2.2.2.2.2.2.1 rfl
theorem dX6_findOwn_122 : decode cX6_findOwn 122 = .ok (.invokestatic 88, 3) := dAt wdX6_findOwn_108 adX6_findOwn_108.2.2.2.2.2.2.2.2.2.2.1 rfl
theorem dX6_findOwn_125 : decode cX6_findOwn 125 = .ok (.iadd, 1) := dAt wdX6_findOwn_108 adX6_findOwn_108.2.2.2.2.2.2.2.2.2.2.2.1 rfl
theorem dX6_findOwn_126 : decode cX6_findOwn 126 = .ok (.invokestatic 94, 3) := dAt wdX6_findOwn_108 adX6_findOwn_108.2.2.2.2.2.2.2.2.2.2.2.2.1 rfl
theorem dX6_findOwn_129 : decode cX6_findOwn 129 = .ok (.iastore, 1) := dAt wdX6_findOwn_108 adX6_findOwn_108.2.2.2.2.2.2.2.2.2.2.2.2.2.1 rfl
theorem dX6_findOwn_130 : decode cX6_findOwn 130 = .ok (.iinc 5 1, 3) := dAt wdX6_findOwn_108 adX6_findOwn_108.2.2.2.2.2.2.2.2.2.2.2.2.2.2.1 rfl
theorem dX6_findOwn_133 : decode cX6_findOwn 133 = .ok (.goto (-62), 3) := dAt wdX6_findOwn_108 adX6_findOwn_108.2.2.2.2.2.2.2.2.2.2.2.2.2.2.2 rfl
def bdX6_findOwn_136 : ByteArray := .mk #[132, 3, 1, 167, 255, 126, 177]
theorem wdX6_findOwn_136 : LocW cX6_findOwn 136 bdX6_findOwn_136 := loc_of (by decide +kernel)
theorem adX6_findOwn_136 : De bdX6_findOwn_136 0 (.iinc 3 1) 3 ∧ De bdX6_findOwn_136 3 (.goto (-130)) 3 ∧ De bdX6_findOwn_136 6 (.return_) 1 := by decide +kernel
theorem dX6_findOwn_136 : decode cX6_findOwn 136 = .ok (.iinc 3 1, 3) := dAt wdX6_findOwn_136 adX6_findOwn_136.1 rfl
theorem dX6_findOwn_139 : decode cX6_findOwn 139 = .ok (.goto (-130), 3) := dAt wdX6_findOwn_136 adX6_findOwn_136.2.1 rfl
theorem dX6_findOwn_142 : decode cX6_findOwn 142 = .ok (.return_, 1) := dAt wdX6_findOwn_136 adX6_findOwn_136.2.2 rfl
def bdX6_shareWithOwn_0 : ByteArray := .mk #[27, 4, 100, 61, 28, 158, 0, 54, 28, 62, 29, 158, 0, 42, 42, 180, 0, 25, 28, 42, 180, 0, 25, 28]
theorem wdX6_shareWithOwn_0 : LocW cX6_shareWithOwn 0 bdX6_shareWithOwn_0 := loc_of (by decide +kernel)
theorem adX6_shareWithOwn_0 : De bdX6_shareWithOwn_0 0 (.iload_n 1) 1 ∧ De bdX6_shareWithOwn_0 1 (.iconst 1) 1 ∧ De bdX6_shareWithOwn_0 2 (.isub) 1 ∧ De bdX6_shareWithOwn_0 3 (.istore_n 2) 1 ∧ De bdX6_shareWithOwn_0 4 (.iload_n 2) 1 ∧ De bdX6_shareWithOwn_0 5 (.ifCond .le 54) 3 ∧ De bdX6_shareWithOwn_0 8 (.iload_n 2) 1 ∧ De bdX6_shareWithOwn_0 9 (.istore_n 3) 1 ∧ De bdX6_shareWithOwn_0 10 (.iload_n 3) 1 ∧ De bdX6_shareWithOwn_0 11 (.ifCond .le 42) 3 ∧ De bdX6_shareWithOwn_0 14 (.aload_n 0) 1 ∧ De bdX6_shareWithOwn_0 15 (.getfield 25) 3 ∧ De bdX6_shareWithOwn_0 18 (.iload_n 2) 1 ∧ De bdX6_shareWithOwn_0 19 (.aload_n 0) 1 ∧ De bdX6_shareWithOwn_0 20 (.getfield 25) 3 ∧ De bdX6_shareWithOwn_0 23 (.iload_n 2) 1 := by decide +kernel
theorem dX6_shareWithOwn_0 : decode cX6_shareWithOwn 0 = .ok (.iload_n 1, 1) := dAt wdX6_shareWithOwn_0 adX6_shareWithOwn_0.1 rfl
theorem dX6_shareWithOwn_1 : decode cX6_shareWithOwn 1 = .ok (.iconst 1, 1) := dAt wdX6_shareWithOwn_0 adX6_shareWithOwn_0.2.1 rfl
theorem dX6_shareWithOwn_2 : decode cX6_shareWithOwn 2 = .ok (.isub, 1) := dAt wdX6_shareWithOwn_0 adX6_shareWithOwn_0.2.2.1 rfl
theorem dX6_shareWithOwn_3 : decode cX6_shareWithOwn 3 = .ok (.istore_n 2, 1) := dAt wdX6_shareWithOwn_0 adX6_shareWithOwn_0.2.2.2.1 rfl
theorem dX6_shareWithOwn_4 : decode cX6_shareWithOwn 4 = .ok (.iload_n 2, 1) := dAt wdX6_shareWithOwn_0 adX6_shareWithOwn_0.2.2.2.2.1 rfl
theorem dX6_shareWithOwn_5 : decode cX6_shareWithOwn 5 = .ok (.ifCond .le 54, 3) := dAt wdX6_shareWithOwn_0 adX6_shareWithOwn_0.2.2.2.2.2.1 rfl
theorem dX6_shareWithOwn_8 : decode cX6_shareWithOwn 8 = .ok (.iload_n 2, 1) := dAt wdX6_shareWithOwn_0 adX6_shareWithOwn_0.2.2.2.2.2.2.1 rfl
theorem dX6_shareWithOwn_9 : decode cX6_shareWithOwn 9 = .ok (.istore_n 3, 1) := dAt wdX6_shareWithOwn_0 adX6_shareWithOwn_0.2.2.2.2.2.2.2.1 rfl
theorem dX6_shareWithOwn_10 : decode cX6_shareWithOwn 10 = .ok (.iload_n 3, 1) := dAt wdX6_shareWithOwn_0 adX6_shareWithOwn_0.2.2.2.2.2.2.2.2.1 rfl
theorem dX6_shareWithOwn_11 : decode cX6_shareWithOwn 11 = .ok (.ifCond .le 42, 3) := dAt wdX6_shareWithOwn_0 adX6_shareWithOwn_0.2.2.2.2.2.2.2.2.2.1 rfl
theorem dX6_shareWithOwn_14 : decode cX6_shareWithOwn 14 = .ok (.aload_n 0, 1) := dAt wdX6_shareWithOwn_0 adX6_shareWithOwn_0.2.2.2.2.2.2.2.2.2.2.1 rfl
theorem dX6_shareWithOwn_15 : decode cX6_shareWithOwn 15 = .ok (.getfield 25, 3) := dAt wdX6_shareWithOwn_0 adX6_shareWithOwn_0.2.2.2.2.2.2.2.2.2.2.2.1 rfl
theorem dX6_shareWithOwn_18 : decode cX6_shareWithOwn 18 = .ok (.iload_n 2, 1) := dAt wdX6_shareWithOwn_0 adX6_shareWithOwn_0.2.2.2.2.2.2.2.2.2.2.2.2.1 rfl
theorem dX6_shareWithOwn_19 : decode cX6_shareWithOwn 19 = .ok (.aload_n 0, 1) := dAt wdX6_shareWithOwn_0 adX6_shareWithOwn_0.2.2.2.2.2.2.2.2.2.2.2.2.2.1 rfl
theorem dX6_shareWithOwn_20 : decode cX6_shareWithOwn 20 = .ok (.getfield 25, 3) := dAt wdX6_shareWithOwn_0 adX6_shareWithOwn_0.2.2.2.2.2.2.2.2.2.2.2.2.2.2.1 rfl
theorem dX6_shareWithOwn_23 : decode cX6_shareWithOwn 23 = .ok (.iload_n 2, 1) := dAt wdX6_shareWithOwn_0 adX6_shareWithOwn_0.2.2.2.2.2.2.2.2.2.2.2.2.2.2.2 rfl
def bdX6_shareWithOwn_24 : ByteArray := .mk #[46, 42, 180, 0, 25, 28, 29, 130, 46, 42, 180, 0, 22, 29, 46, 96, 184, 0, 94, 79, 29, 4]
theorem wdX6_shareWithOwn_24 : LocW cX6_shareWithOwn 24 bdX6_shareWithOwn_24 := loc_of (by decide +kernel)
theorem adX6_shareWithOwn_24 : De bdX6_shareWithOwn_24 0 (.iaload) 1 ∧ De bdX6_shareWithOwn_24 1 (.aload_n 0) 1 ∧ De bdX6_shareWithOwn_24 2 (.getfield 25) 3 ∧ De bdX6_shareWithOwn_24 5 (.iload_n 2) 1 ∧ De bdX6_shareWithOwn_24 6 (.iload_n 3) 1 ∧ De bdX6_shareWithOwn_24 7 (.ixor) 1 ∧ De bdX6_shareWithOwn_24 8 (.iaload) 1 ∧ De bdX6_shareWithOwn_24 9 (.aload_n 0) 1 ∧ De bdX6_shareWithOwn_24 10 (.getfield 22) 3 ∧ De bdX6_shareWithOwn_24 13 (.iload_n 3) 1 ∧ De bdX6_shareWithOwn_24 14 (.iaload) 1 ∧ De bdX6_shareWithOwn_24 15 (.iadd) 1 ∧ De bdX6_shareWithOwn_24 16 (.invokestatic 94) 3 ∧ De bdX6_shareWithOwn_24 19 (.iastore) 1 ∧ De bdX6_shareWithOwn_24 20 (.iload_n 3) 1 ∧ De bdX6_shareWithOwn_24 21 (.iconst 1) 1 := by decide +kernel
theorem dX6_shareWithOwn_24 : decode cX6_shareWithOwn 24 = .ok (.iaload, 1) := dAt wdX6_shareWithOwn_24 adX6_shareWithOwn_24.1 rfl
theorem dX6_shareWithOwn_25 : decode cX6_shareWithOwn 25 = .ok (.aload_n 0, 1) := dAt wdX6_shareWithOwn_24 adX6_shareWithOwn_24.2.1 rfl
theorem dX6_shareWithOwn_26 : decode cX6_shareWithOwn 26 = .ok (.getfield 25, 3) := dAt wdX6_shareWithOwn_24 adX6_shareWithOwn_24.2.2.1 rfl
theorem dX6_shareWithOwn_29 : decode cX6_shareWithOwn 29 = .ok (.iload_n 2, 1) := dAt wdX6_shareWithOwn_24 adX6_shareWithOwn_24.2.2.2.1 rfl
theorem dX6_shareWithOwn_30 : decode cX6_shareWithOwn 30 = .ok (.iload_n 3, 1) := dAt wdX6_shareWithOwn_24 adX6_shareWithOwn_24.2.2.2.2.1 rfl
theorem dX6_shareWithOwn_31 : decode cX6_shareWithOwn 31 = .ok (.ixor, 1) := dAt wdX6_shareWithOwn_24 adX6_shareWithOwn_24.2.2.2.2.2.1 rfl
theorem dX6_shareWithOwn_32 : decode cX6_shareWithOwn 32 = .ok (.iaload, 1) := dAt wdX6_shareWithOwn_24 adX6_shareWithOwn_24.2.2.2.2.2.2.1 rfl
theorem dX6_shareWithOwn_33 : decode cX6_shareWithOwn 33 = .ok (.aload_n 0, 1) := dAt wdX6_shareWithOwn_24 adX6_shareWithOwn_24.2.2.2.2.2.2.2.1 rfl
theorem dX6_shareWithOwn_34 : decode cX6_shareWithOwn 34 = .ok (.getfield 22, 3) := dAt wdX6_shareWithOwn_24 adX6_shareWithOwn_24.2.2.2.2.2.2.2.2.1 rfl
theorem dX6_shareWithOwn_37 : decode cX6_shareWithOwn 37 = .ok (.iload_n 3, 1) := dAt wdX6_shareWithOwn_24 adX6_shareWithOwn_24.2.2.2.2.2.2.2.2.2.1 rfl
theorem dX6_shareWithOwn_38 : decode cX6_shareWithOwn 38 = .ok (.iaload, 1) := dAt wdX6_shareWithOwn_24 adX6_shareWithOwn_24.2.2.2.2.2.2.2.2.2.2.1 rfl
theorem dX6_shareWithOwn_39 : decode cX6_shareWithOwn 39 = .ok (.iadd, 1) := dAt wdX6_shareWithOwn_24 adX6_shareWithOwn_24.2.2.2.2.2.2.2.2.2.2.2.1 rfl
theorem dX6_shareWithOwn_40 : decode cX6_shareWithOwn 40 = .ok (.invokestatic 94, 3) := dAt wdX6_shareWithOwn_24 adX6_shareWithOwn_24.2.2.2.2.2.2.2.2.2.2.2.2.1 rfl
theorem dX6_shareWithOwn_43 : decode cX6_shareWithOwn 43 = .ok (.iastore, 1) := dAt wdX6_shareWithOwn_24 adX6_shareWithOwn_24.2.2.2.2.2.2.2.2.2.2.2.2.2.1 rfl
theorem dX6_shareWithOwn_44 : decode cX6_shareWithOwn 44 = .ok (.iload_n 3, 1) := dAt wdX6_shareWithOwn_24 adX6_shareWithOwn_24.2.2.2.2.2.2.2.2.2.2.2.2.2.2.1 rfl
theorem dX6_shareWithOwn_45 : decode cX6_shareWithOwn 45 = .ok (.iconst 1, 1) := dAt wdX6_shareWithOwn_24 adX6_shareWithOwn_24.2.2.2.2.2.2.2.2.2.2.2.2.2.2.2 rfl
def bdX6_shareWithOwn_46 : ByteArray := .mk #[100, 28, 126, 62, 167, 255, 216, 132, 2, 255, 167, 255, 204, 177]
theorem wdX6_shareWithOwn_46 : LocW cX6_shareWithOwn 46 bdX6_shareWithOwn_46 := loc_of (by decide +kernel)
theorem adX6_shareWithOwn_46 : De bdX6_shareWithOwn_46 0 (.isub) 1 ∧ De bdX6_shareWithOwn_46 1 (.iload_n 2) 1 ∧ De bdX6_shareWithOwn_46 2 (.iand) 1 ∧ De bdX6_shareWithOwn_46 3 (.istore_n 3) 1 ∧ De bdX6_shareWithOwn_46 4 (.goto (-40)) 3 ∧ De bdX6_shareWithOwn_46 7 (.iinc 2 (-1)) 3 ∧ De bdX6_shareWithOwn_46 10 (.goto (-52)) 3 ∧ De bdX6_shareWithOwn_46 13 (.return_) 1 := by decide +kernel
theorem dX6_shareWithOwn_46 : decode cX6_shareWithOwn 46 = .ok (.isub, 1) := dAt wdX6_shareWithOwn_46 adX6_shareWithOwn_46.1 rfl
theorem dX6_shareWithOwn_47 : decode cX6_shareWithOwn 47 = .ok (.iload_n 2, 1) := dAt wdX6_shareWithOwn_46 adX6_shareWithOwn_46.2.1 rfl
theorem dX6_shareWithOwn_48 : decode cX6_shareWithOwn 48 = .ok (.iand, 1) := dAt wdX6_shareWithOwn_46 adX6_shareWithOwn_46.2.2.1 rfl
theorem dX6_shareWithOwn_49 : decode cX6_shareWithOwn 49 = .ok (.istore_n 3, 1) := dAt wdX6_shareWithOwn_46 adX6_shareWithOwn_46.2.2.2.1 rfl
theorem dX6_shareWithOwn_50 : decode cX6_shareWithOwn 50 = .ok (.goto (-40), 3) := dAt wdX6_shareWithOwn_46 adX6_shareWithOwn_46.2.2.2.2.1 rfl
theorem dX6_shareWithOwn_53 : decode cX6_shareWithOwn 53 = .ok (.iinc 2 (-1), 3) := dAt wdX6_shareWithOwn_46 adX6_shareWithOwn_46.2.2.2.2.2.1 rfl
theorem dX6_shareWithOwn_56 : decode cX6_shareWithOwn 56 = .ok (.goto (-52), 3) := dAt wdX6_shareWithOwn_46 adX6_shareWithOwn_46.2.2.2.2.2.2.1 rfl
theorem dX6_shareWithOwn_59 : decode cX6_shareWithOwn 59 = .ok (.return_, 1) := dAt wdX6_shareWithOwn_46 adX6_shareWithOwn_46.2.2.2.2.2.2.2 rfl
def bdX7_init_0 : ByteArray := .mk #[42, 183, 0, 3, 42, 3, 181, 0, 9, 42, 16, 54, 188, 10, 181, 0, 15, 42, 16, 10, 189, 0, 19, 181, 0, 21, 42, 3, 181, 0, 25]
theorem wdX7_init_0 : LocW cX7_init 0 bdX7_init_0 := loc_of (by decide +kernel)
theorem adX7_init_0 : De bdX7_init_0 0 (.aload_n 0) 1 ∧ De bdX7_init_0 1 (.invokespecial 3) 3 ∧ De bdX7_init_0 4 (.aload_n 0) 1 ∧ De bdX7_init_0 5 (.iconst 0) 1 ∧ De bdX7_init_0 6 (.putfield 9) 3 ∧ De bdX7_init_0 9 (.aload_n 0) 1 ∧ De bdX7_init_0 10 (.bipush 54) 2 ∧ De bdX7_init_0 12 (.newarray .int) 2 ∧ De bdX7_init_0 14 (.putfield 15) 3 ∧ De bdX7_init_0 17 (.aload_n 0) 1 ∧ De bdX7_init_0 18 (.bipush 10) 2 ∧ De bdX7_init_0 20 (.anewarray 19) 3 ∧ De bdX7_init_0 23 (.putfield 21) 3 ∧ De bdX7_init_0 26 (.aload_n 0) 1 ∧ De bdX7_init_0 27 (.iconst 0) 1 ∧ De bdX7_init_0 28 (.putfield 25) 3 := by decide +kernel
theorem dX7_init_0 : decode cX7_init 0 = .ok (.aload_n 0, 1) := dAt wdX7_init_0 adX7_init_0.1 rfl
theorem dX7_init_1 : decode cX7_init 1 = .ok (.invokespecial 3, 3) := dAt wdX7_init_0 adX7_init_0.2.1 rfl
theorem dX7_init_4 : decode cX7_init 4 = .ok (.aload_n 0, 1) := dAt wdX7_init_0 adX7_init_0.2.2.1 rfl
theorem dX7_init_5 : decode cX7_init 5 = .ok (.iconst 0, 1) := dAt wdX7_init_0 adX7_init_0.2.2.2.1 rfl
theorem dX7_init_6 : decode cX7_init 6 = .ok (.putfield 9, 3) := dAt wdX7_init_0 adX7_init_0.2.2.2.2.1 rfl
theorem dX7_init_9 : decode cX7_init 9 = .ok (.aload_n 0, 1) := dAt wdX7_init_0 adX7_init_0.2.2.2.2.2.1 rfl
theorem dX7_init_10 : decode cX7_init 10 = .ok (.bipush 54, 2) := dAt wdX7_init_0 adX7_init_0.2.2.2.2.2.2.1 rfl
theorem dX7_init_12 : decode cX7_init 12 = .ok (.newarray .int, 2) := dAt wdX7_init_0 adX7_init_0.2.2.2.2.2.2.2.1 rfl
theorem dX7_init_14 : decode cX7_init 14 = .ok (.putfield 15, 3) := dAt wdX7_init_0 adX7_init_0.2.2.2.2.2.2.2.2.1 rfl
theorem dX7_init_17 : decode cX7_init 17 = .ok (.aload_n 0, 1) := dAt wdX7_init_0 adX7_init_0.2.2.2.2.2.2.2.2.2.1 rfl
theorem dX7_init_18 : decode cX7_init 18 = .ok (.bipush 10, 2) := dAt wdX7_init_0 adX7_init_0.2.2.2.2.2.2.2.2.2.2.1 rfl
theorem dX7_init_20 : decode cX7_init 20 = .ok (.anewarray 19, 3) := dAt wdX7_init_0 adX7_init_0.2.2.2.2.2.2.2.2.2.2.2.1 rfl
theorem dX7_init_23 : decode cX7_init 23 = .ok (.putfield 21, 3) := dAt wdX7_init_0 adX7_init_0.2.2.2.2.2.2.2.2.2.2.2.2.1 rfl
theorem dX7_init_26 : decode cX7_init 26 = .ok (.aload_n 0, 1) := dAt wdX7_init_0 adX7_init_0.2.2.2.2.2.2.2.2.2.2.2.2.2.1 rfl
theorem dX7_init_27 : decode cX7_init 27 = .ok (.iconst 0, 1) := dAt wdX7_init_0 adX7_init_0.2.2.2.2.2.2.2.2.2.2.2.2.2.2.1 rfl
theorem dX7_init_28 : decode cX7_init 28 = .ok (.putfield 25, 3) := dAt wdX7_init_0 adX7_init_0.2.2.2.2.2.2.2.2.2.2.2.2.2.2.2 rfl
def bdX7_init_31 : ByteArray := .mk #[42, 187, 0, 19, 89, 183, 0, 28, 181, 0, 29, 42, 16, 100, 189, 0, 33, 181, 0, 35, 42, 16, 20, 188, 10, 181, 0, 39, 42, 3, 181, 0, 42]
theorem wdX7_init_31 : LocW cX7_init 31 bdX7_init_31 := loc_of (by decide +kernel)
theorem adX7_init_31 : De bdX7_init_31 0 (.aload_n 0) 1 ∧ De bdX7_init_31 1 (.new 19) 3 ∧ De bdX7_init_31 4 (.dup) 1 ∧ De bdX7_init_31 5 (.invokespecial 28) 3 ∧ De bdX7_init_31 8 (.putfield 29) 3 ∧ De bdX7_init_31 11 (.aload_n 0) 1 ∧ De bdX7_init_31 12 (.bipush 100) 2 ∧ De bdX7_init_31 14 (.anewarray 33) 3 ∧ De bdX7_init_31 17 (.putfield 35) 3 ∧ De bdX7_init_31 20 (.aload_n 0) 1 ∧ De bdX7_init_31 21 (.bipush 20) 2 ∧ De bdX7_init_31 23 (.newarray .int) 2 ∧ De bdX7_init_31 25 (.putfield 39) 3 ∧ De bdX7_init_31 28 (.aload_n 0) 1 ∧ De bdX7_init_31 29 (.iconst 0) 1 ∧ De bdX7_init_31 30 (.putfield 42) 3 := by decide +kernel
theorem dX7_init_31 : decode cX7_init 31 = .ok (.aload_n 0, 1) := dAt wdX7_init_31 adX7_init_31.1 rfl
theorem dX7_init_32 : decode cX7_init 32 = .ok (.new 19, 3) := dAt wdX7_init_31 adX7_init_31.2.1 rfl
theorem dX7_init_35 : decode cX7_init 35 = .ok (.dup, 1) := dAt wdX7_init_31 adX7_init_31.2.2.1 rfl
theorem dX7_init_36 : decode cX7_init 36 = .ok (.invokespecial 28, 3) := dAt wdX7_init_31 adX7_init_31.2.2.2.1 rfl
theorem dX7_init_39 : decode cX7_init 39 = .ok (.putfield 29, 3) := dAt wdX7_init_31 adX7_init_31.2.2.2.2.1 rfl
theorem dX7_init_42 : decode cX7_init 42 = .ok (.aload_n 0, 1) := dAt wdX7_init_31 adX7_init_31.2.2.2.2.2.1 rfl
theorem dX7_init_43 : decode cX7_init 43 = .ok (.bipush 100, 2) := dAt wdX7_init_31 adX7_init_31.2.2.2.2.2.2.1 rfl
theorem dX7_init_45 : decode cX7_init 45 = .ok (.anewarray 33, 3) := dAt wdX7_init_31 adX7_init_31.2.2.2.2.2.2.2.1 rfl
theorem dX7_init_48 : decode cX7_init 48 = .ok (.putfield 35, 3) := dAt wdX7_init_31 adX7_init_31.2.2.2.2.2.2.2.2.1 rfl
theorem dX7_init_51 : decode cX7_init 51 = .ok (.aload_n 0, 1) := dAt wdX7_init_31 adX7_init_31.2.2.2.2.2.2.2.2.2.1 rfl
theorem dX7_init_52 : decode cX7_init 52 = .ok (.bipush 20, 2) := dAt wdX7_init_31 adX7_init_31.2.2.2.2.2.2.2.2.2.2.1 rfl
theorem dX7_init_54 : decode cX7_init 54 = .ok (.newarray .int, 2) := dAt wdX7_init_31 adX7_init_31.2.2.2.2.2.2.2.2.2.2.2.1 rfl
theorem dX7_init_56 : decode cX7_init 56 = .ok (.putfield 39, 3) := dAt wdX7_init_31 adX7_init_31.2.2.2.2.2.2.2.2.2.2.2.2.1 rfl
theorem dX7_init_59 : decode cX7_init 59 = .ok (.aload_n 0, 1) := dAt wdX7_init_31 adX7_init_31.2.2.2.2.2.2.2.2.2.2.2.2.2.1 rfl
theorem dX7_init_60 : decode cX7_init 60 = .ok (.iconst 0, 1) := dAt wdX7_init_31 adX7_init_31.2.2.2.2.2.2.2.2.2.2.2.2.2.2.1 rfl
theorem dX7_init_61 : decode cX7_init 61 = .ok (.putfield 42, 3) := dAt wdX7_init_31 adX7_init_31.2.2.2.2.2.2.2.2.2.2.2.2.2.2.2 rfl
def bdX7_init_64 : ByteArray := .mk #[42, 7, 189, 0, 45, 181, 0, 47, 42, 3, 181, 0, 51, 42, 17, 1, 44, 189, 0, 54, 181, 0, 56, 42, 3, 181, 0, 60, 42, 16, 32]
theorem wdX7_init_64 : LocW cX7_init 64 bdX7_init_64 := loc_of (by decide +kernel)
theorem adX7_init_64 : De bdX7_init_64 0 (.aload_n 0) 1 ∧ De bdX7_init_64 1 (.iconst 4) 1 ∧ De bdX7_init_64 2 (.anewarray 45) 3 ∧ De bdX7_init_64 5 (.putfield 47) 3 ∧ De bdX7_init_64 8 (.aload_n 0) 1 ∧ De bdX7_init_64 9 (.iconst 0) 1 ∧ De bdX7_init_64 10 (.putfield 51) 3 ∧ De bdX7_init_64 13 (.aload_n 0) 1 ∧ De bdX7_init_64 14 (.sipush 300) 3 ∧ De bdX7_init_64 17 (.anewarray 54) 3 ∧ De bdX7_init_64 20 (.putfield 56) 3 ∧ De bdX7_init_64 23 (.aload_n 0) 1 ∧ De bdX7_init_64 24 (.iconst 0) 1 ∧ De bdX7_init_64 25 (.putfield 60) 3 ∧ De bdX7_init_64 28 (.aload_n 0) 1 ∧ De bdX7_init_64 29 (.bipush 32) 2 := by decide +kernel
theorem dX7_init_64 : decode cX7_init 64 = .ok (.aload_n 0, 1) := dAt wdX7_init_64 adX7_init_64.1 rfl
theorem dX7_init_65 : decode cX7_init 65 = .ok (.iconst 4, 1) := dAt wdX7_init_64 adX7_init_64.2.1 rfl
theorem dX7_init_66 : decode cX7_init 66 = .ok (.anewarray 45, 3) := dAt wdX7_init_64 adX7_init_64.2.2.1 rfl
theorem dX7_init_69 : decode cX7_init 69 = .ok (.putfield 47, 3) := dAt wdX7_init_64 adX7_init_64.2.2.2.1 rfl
theorem dX7_init_72 : decode cX7_init 72 = .ok (.aload_n 0, 1) := dAt wdX7_init_64 adX7_init_64.2.2.2.2.1 rfl
theorem dX7_init_73 : decode cX7_init 73 = .ok (.iconst 0, 1) := dAt wdX7_init_64 adX7_init_64.2.2.2.2.2.1 rfl
theorem dX7_init_74 : decode cX7_init 74 = .ok (.putfield 51, 3) := dAt wdX7_init_64 adX7_init_64.2.2.2.2.2.2.1 rfl
theorem dX7_init_77 : decode cX7_init 77 = .ok (.aload_n 0, 1) := dAt wdX7_init_64 adX7_init_64.2.2.2.2.2.2.2.1 rfl
theorem dX7_init_78 : decode cX7_init 78 = .ok (.sipush 300, 3) := dAt wdX7_init_64 adX7_init_64.2.2.2.2.2.2.2.2.1 rfl
theorem dX7_init_81 : decode cX7_init 81 = .ok (.anewarray 54, 3) := dAt wdX7_init_64 adX7_init_64.2.2.2.2.2.2.2.2.2.1 rfl
theorem dX7_init_84 : decode cX7_init 84 = .ok (.putfield 56, 3) := dAt wdX7_init_64 adX7_init_64.2.2.2.2.2.2.2.2.2.2.1 rfl
theorem dX7_init_87 : decode cX7_init 87 = .ok (.aload_n 0, 1) := dAt wdX7_init_64 adX7_init_64.2.2.2.2.2.2.2.2.2.2.2.1 rfl
theorem dX7_init_88 : decode cX7_init 88 = .ok (.iconst 0, 1) := dAt wdX7_init_64 adX7_init_64.2.2.2.2.2.2.2.2.2.2.2.2.1 rfl
theorem dX7_init_89 : decode cX7_init 89 = .ok (.putfield 60, 3) := dAt wdX7_init_64 adX7_init_64.2.2.2.2.2.2.2.2.2.2.2.2.2.1 rfl
theorem dX7_init_92 : decode cX7_init 92 = .ok (.aload_n 0, 1) := dAt wdX7_init_64 adX7_init_64.2.2.2.2.2.2.2.2.2.2.2.2.2.2.1 rfl
theorem dX7_init_93 : decode cX7_init 93 = .ok (.bipush 32, 2) := dAt wdX7_init_64 adX7_init_64.2.2.2.2.2.2.2.2.2.2.2.2.2.2.2 rfl
def bdX7_init_95 : ByteArray := .mk #[188, 10, 181, 0, 63, 42, 16, 32, 188, 10, 181, 0, 66, 42, 187, 0, 69, 89, 183, 0, 71, 181, 0, 72, 42, 16, 9, 188, 10, 181, 0, 76, 42]
theorem wdX7_init_95 : LocW cX7_init 95 bdX7_init_95 := loc_of (by decide +kernel)
theorem adX7_init_95 : De bdX7_init_95 0 (.newarray .int) 2 ∧ De bdX7_init_95 2 (.putfield 63) 3 ∧ De bdX7_init_95 5 (.aload_n 0) 1 ∧ De bdX7_init_95 6 (.bipush 32) 2 ∧ De bdX7_init_95 8 (.newarray .int) 2 ∧ De bdX7_init_95 10 (.putfield 66) 3 ∧ De bdX7_init_95 13 (.aload_n 0) 1 ∧ De bdX7_init_95 14 (.new 69) 3 ∧ De bdX7_init_95 17 (.dup) 1 ∧ De bdX7_init_95 18 (.invokespecial 71) 3 ∧ De bdX7_init_95 21 (.putfield 72) 3 ∧ De bdX7_init_95 24 (.aload_n 0) 1 ∧ De bdX7_init_95 25 (.bipush 9) 2 ∧ De bdX7_init_95 27 (.newarray .int) 2 ∧ De bdX7_init_95 29 (.putfield 76) 3 ∧ De bdX7_init_95 32 (.aload_n 0) 1 := by decide +kernel
theorem dX7_init_95 : decode cX7_init 95 = .ok (.newarray .int, 2) := dAt wdX7_init_95 adX7_init_95.1 rfl
theorem dX7_init_97 : decode cX7_init 97 = .ok (.putfield 63, 3) := dAt wdX7_init_95 adX7_init_95.2.1 rfl
theorem dX7_init_100 : decode cX7_init 100 = .ok (.aload_n 0, 1) := dAt wdX7_init_95 adX7_init_95.2.2.1 rfl
theorem dX7_init_101 : decode cX7_init 101 = .ok (.bipush 32, 2) := dAt wdX7_init_95 adX7_init_95.2.2.2.1 rfl
theorem dX7_init_103 : decode cX7_init 103 = .ok (.newarray .int, 2) := dAt wdX7_init_95 adX7_init_95.2.2.2.2.1 rfl
theorem dX7_init_105 : decode cX7_init 105 = .ok (.putfield 66, 3) := dAt wdX7_init_95 adX7_init_95.2.2.2.2.2.1 rfl
theorem dX7_init_108 : decode cX7_init 108 = .ok (.aload_n 0, 1) := dAt wdX7_init_95 adX7_init_95.2.2.2.2.2.2.1 rfl
theorem dX7_init_109 : decode cX7_init 109 = .ok (.new 69, 3) := dAt wdX7_init_95 adX7_init_95.2.2.2.2.2.2.2.1 rfl
theorem dX7_init_112 : decode cX7_init 112 = .ok (.dup, 1) := dAt wdX7_init_95 adX7_init_95.2.2.2.2.2.2.2.2.1 rfl
theorem dX7_init_113 : decode cX7_init 113 = .ok (.invokespecial 71, 3) := dAt wdX7_init_95 adX7_init_95.2.2.2.2.2.2.2.2.2.1 rfl
theorem dX7_init_116 : decode cX7_init 116 = .ok (.putfield 72, 3) := dAt wdX7_init_95 adX7_init_95.2.2.2.2.2.2.2.2.2.2.1 rfl
theorem dX7_init_119 : decode cX7_init 119 = .ok (.aload_n 0, 1) := dAt wdX7_init_95 adX7_init_95.2.2.2.2.2.2.2.2.2.2.2.1 rfl
theorem dX7_init_120 : decode cX7_init 120 = .ok (.bipush 9, 2) := dAt wdX7_init_95 adX7_init_95.2.2.2.2.2.2.2.2.2.2.2.2.1 rfl
theorem dX7_init_122 : decode cX7_init 122 = .ok (.newarray .int, 2) := dAt wdX7_init_95 adX7_init_95.2.2.2.2.2.2.2.2.2.2.2.2.2.1 rfl
theorem dX7_init_124 : decode cX7_init 124 = .ok (.putfield 76, 3) := dAt wdX7_init_95 adX7_init_95.2.2.2.2.2.2.2.2.2.2.2.2.2.2.1 rfl
theorem dX7_init_127 : decode cX7_init 127 = .ok (.aload_n 0, 1) := dAt wdX7_init_95 adX7_init_95.2.2.2.2.2.2.2.2.2.2.2.2.2.2.2 rfl
def bdX7_init_128 : ByteArray := .mk #[16, 27, 188, 10, 181, 0, 79, 42, 16, 27, 188, 10, 181, 0, 82, 42, 17, 2, 0, 188, 8, 181, 0, 85, 42, 17, 2, 0, 188, 8, 181, 0, 89, 3]
theorem wdX7_init_128 : LocW cX7_init 128 bdX7_init_128 := loc_of (by decide +kernel)
theorem adX7_init_128 : De bdX7_init_128 0 (.bipush 27) 2 ∧ De bdX7_init_128 2 (.newarray .int) 2 ∧ De bdX7_init_128 4 (.putfield 79) 3 ∧ De bdX7_init_128 7 (.aload_n 0) 1 ∧ De bdX7_init_128 8 (.bipush 27) 2 ∧ De bdX7_init_128 10 (.newarray .int) 2 ∧ De bdX7_init_128 12 (.putfield 82) 3 ∧ De bdX7_init_128 15 (.aload_n 0) 1 ∧ De bdX7_init_128 16 (.sipush 512) 3 ∧ De bdX7_init_128 19 (.newarray .byte) 2 ∧ De bdX7_init_128 21 (.putfield 85) 3 ∧ De bdX7_init_128 24 (.aload_n 0) 1 ∧ De bdX7_init_128 25 (.sipush 512) 3 ∧ De bdX7_init_128 28 (.newarray .byte) 2 ∧ De bdX7_init_128 30 (.putfield 89) 3 ∧ De bdX7_init_128 33 (.iconst 0) 1 := by decide +kernel
theorem dX7_init_128 : decode cX7_init 128 = .ok (.bipush 27, 2) := dAt wdX7_init_128 adX7_init_128.1 rfl
theorem dX7_init_130 : decode cX7_init 130 = .ok (.newarray .int, 2) := dAt wdX7_init_128 adX7_init_128.2.1 rfl
theorem dX7_init_132 : decode cX7_init 132 = .ok (.putfield 79, 3) := dAt wdX7_init_128 adX7_init_128.2.2.1 rfl
theorem dX7_init_135 : decode cX7_init 135 = .ok (.aload_n 0, 1) := dAt wdX7_init_128 adX7_init_128.2.2.2.1 rfl
theorem dX7_init_136 : decode cX7_init 136 = .ok (.bipush 27, 2) := dAt wdX7_init_128 adX7_init_128.2.2.2.2.1 rfl
theorem dX7_init_138 : decode cX7_init 138 = .ok (.newarray .int, 2) := dAt wdX7_init_128 adX7_init_128.2.2.2.2.2.1 rfl
theorem dX7_init_140 : decode cX7_init 140 = .ok (.putfield 82, 3) := dAt wdX7_init_128 adX7_init_128.2.2.2.2.2.2.1 rfl
theorem dX7_init_143 : decode cX7_init 143 = .ok (.aload_n 0, 1) := dAt wdX7_init_128 adX7_init_128.2.2.2.2.2.2.2.1 rfl
theorem dX7_init_144 : decode cX7_init 144 = .ok (.sipush 512, 3) := dAt wdX7_init_128 adX7_init_128.2.2.2.2.2.2.2.2.1 rfl
theorem dX7_init_147 : decode cX7_init 147 = .ok (.newarray .byte, 2) := dAt wdX7_init_128 adX7_init_128.2.2.2.2.2.2.2.2.2.1 rfl
theorem dX7_init_149 : decode cX7_init 149 = .ok (.putfield 85, 3) := dAt wdX7_init_128 adX7_init_128.2.2.2.2.2.2.2.2.2.2.1 rfl
theorem dX7_init_152 : decode cX7_init 152 = .ok (.aload_n 0, 1) := dAt wdX7_init_128 adX7_init_128.2.2.2.2.2.2.2.2.2.2.2.1 rfl
theorem dX7_init_153 : decode cX7_init 153 = .ok (.sipush 512, 3) := dAt wdX7_init_128 adX7_init_128.2.2.2.2.2.2.2.2.2.2.2.2.1 rfl
theorem dX7_init_156 : decode cX7_init 156 = .ok (.newarray .byte, 2) := dAt wdX7_init_128 adX7_init_128.2.2.2.2.2.2.2.2.2.2.2.2.2.1 rfl
theorem dX7_init_158 : decode cX7_init 158 = .ok (.putfield 89, 3) := dAt wdX7_init_128 adX7_init_128.2.2.2.2.2.2.2.2.2.2.2.2.2.2.1 rfl
theorem dX7_init_161 : decode cX7_init 161 = .ok (.iconst 0, 1) := dAt wdX7_init_128 adX7_init_128.2.2.2.2.2.2.2.2.2.2.2.2.2.2.2 rfl
def bdX7_init_162 : ByteArray := .mk #[60, 27, 42, 180, 0, 15, 190, 162, 0, 16, 42, 180, 0, 15, 27, 7, 79, 132, 1, 1, 167, 255, 237, 177]
theorem wdX7_init_162 : LocW cX7_init 162 bdX7_init_162 := loc_of (by decide +kernel)
theorem adX7_init_162 : De bdX7_init_162 0 (.istore_n 1) 1 ∧ De bdX7_init_162 1 (.iload_n 1) 1 ∧ De bdX7_init_162 2 (.aload_n 0) 1 ∧ De bdX7_init_162 3 (.getfield 15) 3 ∧ De bdX7_init_162 6 (.arraylength) 1 ∧ De bdX7_init_162 7 (.if_icmp .ge 16) 3 ∧ De bdX7_init_162 10 (.aload_n 0) 1 ∧ De bdX7_init_162 11 (.getfield 15) 3 ∧ De bdX7_init_162 14 (.iload_n 1) 1 ∧ De bdX7_init_162 15 (.iconst 4) 1 ∧ De bdX7_init_162 16 (.iastore) 1 ∧ De bdX7_init_162 17 (.iinc 1 1) 3 ∧ De bdX7_init_162 20 (.goto (-19)) 3 ∧ De bdX7_init_162 23 (.return_) 1 := by decide +kernel
theorem dX7_init_162 : decode cX7_init 162 = .ok (.istore_n 1, 1) := dAt wdX7_init_162 adX7_init_162.1 rfl
theorem dX7_init_163 : decode cX7_init 163 = .ok (.iload_n 1, 1) := dAt wdX7_init_162 adX7_init_162.2.1 rfl
theorem dX7_init_164 : decode cX7_init 164 = .ok (.aload_n 0, 1) := dAt wdX7_init_162 adX7_init_162.2.2.1 rfl
theorem dX7_init_165 : decode cX7_init 165 = .ok (.getfield 15, 3) := dAt wdX7_init_162 adX7_init_162.2.2.2.1 rfl
theorem dX7_init_168 : decode cX7_init 168 = .ok (.arraylength, 1) := dAt wdX7_init_162 adX7_init_162.2.2.2.2.1 rfl
theorem dX7_init_169 : decode cX7_init 169 = .ok (.if_icmp .ge 16, 3) := dAt wdX7_init_162 adX7_init_162.2.2.2.2.2.1 rfl
theorem dX7_init_172 : decode cX7_init 172 = .ok (.aload_n 0, 1) := dAt wdX7_init_162 adX7_init_162.2.2.2.2.2.2.1 rfl
theorem dX7_init_173 : decode cX7_init 173 = .ok (.getfield 15, 3) := dAt wdX7_init_162 adX7_init_162.2.2.2.2.2.2.2.1 rfl
theorem dX7_init_176 : decode cX7_init 176 = .ok (.iload_n 1, 1) := dAt wdX7_init_162 adX7_init_162.2.2.2.2.2.2.2.2.1 rfl
theorem dX7_init_177 : decode cX7_init 177 = .ok (.iconst 4, 1) := dAt wdX7_init_162 adX7_init_162.2.2.2.2.2.2.2.2.2.1 rfl
theorem dX7_init_178 : decode cX7_init 178 = .ok (.iastore, 1) := dAt wdX7_init_162 adX7_init_162.2.2.2.2.2.2.2.2.2.2.1 rfl
theorem dX7_init_179 : decode cX7_init 179 = .ok (.iinc 1 1, 3) := dAt wdX7_init_162 adX7_init_162.2.2.2.2.2.2.2.2.2.2.2.1 rfl
theorem dX7_init_182 : decode cX7_init 182 = .ok (.goto (-19), 3) := dAt wdX7_init_162 adX7_init_162.2.2.2.2.2.2.2.2.2.2.2.2.1 rfl
theorem dX7_init_185 : decode cX7_init 185 = .ok (.return_, 1) := dAt wdX7_init_162 adX7_init_162.2.2.2.2.2.2.2.2.2.2.2.2.2 rfl
def bdX7_takeAll_0 : ByteArray := .mk #[42, 43, 180, 0, 9, 181, 0, 9, 43, 180, 0, 15, 3, 42, 180, 0, 15, 3, 42, 180, 0, 15, 190, 184, 0, 92, 43, 180, 0, 39]
theorem wdX7_takeAll_0 : LocW cX7_takeAll 0 bdX7_takeAll_0 := loc_of (by decide +kernel)
theorem adX7_takeAll_0 : De bdX7_takeAll_0 0 (.aload_n 0) 1 ∧ De bdX7_takeAll_0 1 (.aload_n 1) 1 ∧ De bdX7_takeAll_0 2 (.getfield 9) 3 ∧ De bdX7_takeAll_0 5 (.putfield 9) 3 ∧ De bdX7_takeAll_0 8 (.aload_n 1) 1 ∧ De bdX7_takeAll_0 9 (.getfield 15) 3 ∧ De bdX7_takeAll_0 12 (.iconst 0) 1 ∧ De bdX7_takeAll_0 13 (.aload_n 0) 1 ∧ De bdX7_takeAll_0 14 (.getfield 15) 3 ∧ De bdX7_takeAll_0 17 (.iconst 0) 1 ∧ De bdX7_takeAll_0 18 (.aload_n 0) 1 ∧ De bdX7_takeAll_0 19 (.getfield 15) 3 ∧ De bdX7_takeAll_0 22 (.arraylength) 1 ∧ De bdX7_takeAll_0 23 (.invokestatic 92) 3 ∧ De bdX7_takeAll_0 26 (.aload_n 1) 1 ∧ De bdX7_takeAll_0 27 (.getfield 39) 3 := by decide +kernel
theorem dX7_takeAll_0 : decode cX7_takeAll 0 = .ok (.aload_n 0, 1) := dAt wdX7_takeAll_0 adX7_takeAll_0.1 rfl
theorem dX7_takeAll_1 : decode cX7_takeAll 1 = .ok (.aload_n 1, 1) := dAt wdX7_takeAll_0 adX7_takeAll_0.2.1 rfl
theorem dX7_takeAll_2 : decode cX7_takeAll 2 = .ok (.getfield 9, 3) := dAt wdX7_takeAll_0 adX7_takeAll_0.2.2.1 rfl
theorem dX7_takeAll_5 : decode cX7_takeAll 5 = .ok (.putfield 9, 3) := dAt wdX7_takeAll_0 adX7_takeAll_0.2.2.2.1 rfl
theorem dX7_takeAll_8 : decode cX7_takeAll 8 = .ok (.aload_n 1, 1) := dAt wdX7_takeAll_0 adX7_takeAll_0.2.2.2.2.1 rfl
theorem dX7_takeAll_9 : decode cX7_takeAll 9 = .ok (.getfield 15, 3) := dAt wdX7_takeAll_0 adX7_takeAll_0.2.2.2.2.2.1 rfl
theorem dX7_takeAll_12 : decode cX7_takeAll 12 = .ok (.iconst 0, 1) := dAt wdX7_takeAll_0 adX7_takeAll_0.2.2.2.2.2.2.1 rfl
theorem dX7_takeAll_13 : decode cX7_takeAll 13 = .ok (.aload_n 0, 1) := dAt wdX7_takeAll_0 adX7_takeAll_0.2.2.2.2.2.2.2.1 rfl
theorem dX7_takeAll_14 : decode cX7_takeAll 14 = .ok (.getfield 15, 3) := dAt wdX7_takeAll_0 adX7_takeAll_0.2.2.2.2.2.2.2.2.1 rfl
theorem dX7_takeAll_17 : decode cX7_takeAll 17 = .ok (.iconst 0, 1) := dAt wdX7_takeAll_0 adX7_takeAll_0.2.2.2.2.2.2.2.2.2.1 rfl
theorem dX7_takeAll_18 : decode cX7_takeAll 18 = .ok (.aload_n 0, 1) := dAt wdX7_takeAll_0 adX7_takeAll_0.2.2.2.2.2.2.2.2.2.2.1 rfl
theorem dX7_takeAll_19 : decode cX7_takeAll 19 = .ok (.getfield 15, 3) := dAt wdX7_takeAll_0 adX7_takeAll_0.2.2.2.2.2.2.2.2.2.2.2.1 rfl
theorem dX7_takeAll_22 : decode cX7_takeAll 22 = .ok (.arraylength, 1) := dAt wdX7_takeAll_0 adX7_takeAll_0.2.2.2.2.2.2.2.2.2.2.2.2.1 rfl
theorem dX7_takeAll_23 : decode cX7_takeAll 23 = .ok (.invokestatic 92, 3) := dAt wdX7_takeAll_0 adX7_takeAll_0.2.2.2.2.2.2.2.2.2.2.2.2.2.1 rfl
theorem dX7_takeAll_26 : decode cX7_takeAll 26 = .ok (.aload_n 1, 1) := dAt wdX7_takeAll_0 adX7_takeAll_0.2.2.2.2.2.2.2.2.2.2.2.2.2.2.1 rfl
theorem dX7_takeAll_27 : decode cX7_takeAll 27 = .ok (.getfield 39, 3) := dAt wdX7_takeAll_0 adX7_takeAll_0.2.2.2.2.2.2.2.2.2.2.2.2.2.2.2 rfl
def bdX7_takeAll_30 : ByteArray := .mk #[3, 42, 180, 0, 39, 3, 42, 180, 0, 39, 190, 184, 0, 92, 43, 180, 0, 63, 3, 42, 180, 0, 63, 3, 42, 180, 0, 63]
theorem wdX7_takeAll_30 : LocW cX7_takeAll 30 bdX7_takeAll_30 := loc_of (by decide +kernel)
theorem adX7_takeAll_30 : De bdX7_takeAll_30 0 (.iconst 0) 1 ∧ De bdX7_takeAll_30 1 (.aload_n 0) 1 ∧ De bdX7_takeAll_30 2 (.getfield 39) 3 ∧ De bdX7_takeAll_30 5 (.iconst 0) 1 ∧ De bdX7_takeAll_30 6 (.aload_n 0) 1 ∧ De bdX7_takeAll_30 7 (.getfield 39) 3 ∧ De bdX7_takeAll_30 10 (.arraylength) 1 ∧ De bdX7_takeAll_30 11 (.invokestatic 92) 3 ∧ De bdX7_takeAll_30 14 (.aload_n 1) 1 ∧ De bdX7_takeAll_30 15 (.getfield 63) 3 ∧ De bdX7_takeAll_30 18 (.iconst 0) 1 ∧ De bdX7_takeAll_30 19 (.aload_n 0) 1 ∧ De bdX7_takeAll_30 20 (.getfield 63) 3 ∧ De bdX7_takeAll_30 23 (.iconst 0) 1 ∧ De bdX7_takeAll_30 24 (.aload_n 0) 1 ∧ De bdX7_takeAll_30 25 (.getfield 63) 3 := by decide +kernel
theorem dX7_takeAll_30 : decode cX7_takeAll 30 = .ok (.iconst 0, 1) := dAt wdX7_takeAll_30 adX7_takeAll_30.1 rfl
theorem dX7_takeAll_31 : decode cX7_takeAll 31 = .ok (.aload_n 0, 1) := dAt wdX7_takeAll_30 adX7_takeAll_30.2.1 rfl
theorem dX7_takeAll_32 : decode cX7_takeAll 32 = .ok (.getfield 39, 3) := dAt wdX7_takeAll_30 adX7_takeAll_30.2.2.1 rfl
theorem dX7_takeAll_35 : decode cX7_takeAll 35 = .ok (.iconst 0, 1) := dAt wdX7_takeAll_30 adX7_takeAll_30.2.2.2.1 rfl
theorem dX7_takeAll_36 : decode cX7_takeAll 36 = .ok (.aload_n 0, 1) := dAt wdX7_takeAll_30 adX7_takeAll_30.2.2.2.2.1 rfl
theorem dX7_takeAll_37 : decode cX7_takeAll 37 = .ok (.getfield 39, 3) := dAt wdX7_takeAll_30 adX7_takeAll_30.2.2.2.2.2.1 rfl
theorem dX7_takeAll_40 : decode cX7_takeAll 40 = .ok (.arraylength, 1) := dAt wdX7_takeAll_30 adX7_takeAll_30.2.2.2.2.2.2.1 rfl
theorem dX7_takeAll_41 : decode cX7_takeAll 41 = .ok (.invokestatic 92, 3) := dAt wdX7_takeAll_30 adX7_takeAll_30.2.2.2.2.2.2.2.1 rfl
theorem dX7_takeAll_44 : decode cX7_takeAll 44 = .ok (.aload_n 1, 1) := dAt wdX7_takeAll_30 adX7_takeAll_30.2.2.2.2.2.2.2.2.1 rfl
theorem dX7_takeAll_45 : decode cX7_takeAll 45 = .ok (.getfield 63, 3) := dAt wdX7_takeAll_30 adX7_takeAll_30.2.2.2.2.2.2.2.2.2.1 rfl
theorem dX7_takeAll_48 : decode cX7_takeAll 48 = .ok (.iconst 0, 1) := dAt wdX7_takeAll_30 adX7_takeAll_30.2.2.2.2.2.2.2.2.2.2.1 rfl
theorem dX7_takeAll_49 : decode cX7_takeAll 49 = .ok (.aload_n 0, 1) := dAt wdX7_takeAll_30 adX7_takeAll_30.2.2.2.2.2.2.2.2.2.2.2.1 rfl
theorem dX7_takeAll_50 : decode cX7_takeAll 50 = .ok (.getfield 63, 3) := dAt wdX7_takeAll_30 adX7_takeAll_30.2.2.2.2.2.2.2.2.2.2.2.2.1 rfl
theorem dX7_takeAll_53 : decode cX7_takeAll 53 = .ok (.iconst 0, 1) := dAt wdX7_takeAll_30 adX7_takeAll_30.2.2.2.2.2.2.2.2.2.2.2.2.2.1 rfl
theorem dX7_takeAll_54 : decode cX7_takeAll 54 = .ok (.aload_n 0, 1) := dAt wdX7_takeAll_30 adX7_takeAll_30.2.2.2.2.2.2.2.2.2.2.2.2.2.2.1 rfl
theorem dX7_takeAll_55 : decode cX7_takeAll 55 = .ok (.getfield 63, 3) := dAt wdX7_takeAll_30 adX7_takeAll_30.2.2.2.2.2.2.2.2.2.2.2.2.2.2.2 rfl
def bdX7_takeAll_58 : ByteArray := .mk #[190, 184, 0, 92, 43, 180, 0, 66, 3, 42, 180, 0, 66, 3, 42, 180, 0, 66, 190, 184, 0, 92, 42, 43, 180, 0, 42, 181, 0, 42]
theorem wdX7_takeAll_58 : LocW cX7_takeAll 58 bdX7_takeAll_58 := loc_of (by decide +kernel)
theorem adX7_takeAll_58 : De bdX7_takeAll_58 0 (.arraylength) 1 ∧ De bdX7_takeAll_58 1 (.invokestatic 92) 3 ∧ De bdX7_takeAll_58 4 (.aload_n 1) 1 ∧ De bdX7_takeAll_58 5 (.getfield 66) 3 ∧ De bdX7_takeAll_58 8 (.iconst 0) 1 ∧ De bdX7_takeAll_58 9 (.aload_n 0) 1 ∧ De bdX7_takeAll_58 10 (.getfield 66) 3 ∧ De bdX7_takeAll_58 13 (.iconst 0) 1 ∧ De bdX7_takeAll_58 14 (.aload_n 0) 1 ∧ De bdX7_takeAll_58 15 (.getfield 66) 3 ∧ De bdX7_takeAll_58 18 (.arraylength) 1 ∧ De bdX7_takeAll_58 19 (.invokestatic 92) 3 ∧ De bdX7_takeAll_58 22 (.aload_n 0) 1 ∧ De bdX7_takeAll_58 23 (.aload_n 1) 1 ∧ De bdX7_takeAll_58 24 (.getfield 42) 3 ∧ De bdX7_takeAll_58 27 (.putfield 42) 3 := by decide +kernel
theorem dX7_takeAll_58 : decode cX7_takeAll 58 = .ok (.arraylength, 1) := dAt wdX7_takeAll_58 adX7_takeAll_58.1 rfl
theorem dX7_takeAll_59 : decode cX7_takeAll 59 = .ok (.invokestatic 92, 3) := dAt wdX7_takeAll_58 adX7_takeAll_58.2.1 rfl
theorem dX7_takeAll_62 : decode cX7_takeAll 62 = .ok (.aload_n 1, 1) := dAt wdX7_takeAll_58 adX7_takeAll_58.2.2.1 rfl
theorem dX7_takeAll_63 : decode cX7_takeAll 63 = .ok (.getfield 66, 3) := dAt wdX7_takeAll_58 adX7_takeAll_58.2.2.2.1 rfl
theorem dX7_takeAll_66 : decode cX7_takeAll 66 = .ok (.iconst 0, 1) := dAt wdX7_takeAll_58 adX7_takeAll_58.2.2.2.2.1 rfl
theorem dX7_takeAll_67 : decode cX7_takeAll 67 = .ok (.aload_n 0, 1) := dAt wdX7_takeAll_58 adX7_takeAll_58.2.2.2.2.2.1 rfl
theorem dX7_takeAll_68 : decode cX7_takeAll 68 = .ok (.getfield 66, 3) := dAt wdX7_takeAll_58 adX7_takeAll_58.2.2.2.2.2.2.1 rfl
theorem dX7_takeAll_71 : decode cX7_takeAll 71 = .ok (.iconst 0, 1) := dAt wdX7_takeAll_58 adX7_takeAll_58.2.2.2.2.2.2.2.1 rfl
theorem dX7_takeAll_72 : decode cX7_takeAll 72 = .ok (.aload_n 0, 1) := dAt wdX7_takeAll_58 adX7_takeAll_58.2.2.2.2.2.2.2.2.1 rfl
theorem dX7_takeAll_73 : decode cX7_takeAll 73 = .ok (.getfield 66, 3) := dAt wdX7_takeAll_58 adX7_takeAll_58.2.2.2.2.2.2.2.2.2.1 rfl
theorem dX7_takeAll_76 : decode cX7_takeAll 76 = .ok (.arraylength, 1) := dAt wdX7_takeAll_58 adX7_takeAll_58.2.2.2.2.2.2.2.2.2.2.1 rfl
theorem dX7_takeAll_77 : decode cX7_takeAll 77 = .ok (.invokestatic 92, 3) := dAt wdX7_takeAll_58 adX7_takeAll_58.2.2.2.2.2.2.2.2.2.2.2.1 rfl
theorem dX7_takeAll_80 : decode cX7_takeAll 80 = .ok (.aload_n 0, 1) := dAt wdX7_takeAll_58 adX7_takeAll_58.2.2.2.2.2.2.2.2.2.2.2.2.1 rfl
theorem dX7_takeAll_81 : decode cX7_takeAll 81 = .ok (.aload_n 1, 1) := dAt wdX7_takeAll_58 adX7_takeAll_58.2.2.2.2.2.2.2.2.2.2.2.2.2.1 rfl
theorem dX7_takeAll_82 : decode cX7_takeAll 82 = .ok (.getfield 42, 3) := dAt wdX7_takeAll_58 adX7_takeAll_58.2.2.2.2.2.2.2.2.2.2.2.2.2.2.1 rfl
theorem dX7_takeAll_85 : decode cX7_takeAll 85 = .ok (.putfield 42, 3) := dAt wdX7_takeAll_58 adX7_takeAll_58.2.2.2.2.2.2.2.2.2.2.2.2.2.2.2 rfl
def bdX7_takeAll_88 : ByteArray := .mk #[42, 43, 180, 0, 25, 181, 0, 25, 42, 43, 180, 0, 51, 181, 0, 51, 42, 43, 180, 0, 60, 181, 0, 60, 3, 61, 28, 42]
theorem wdX7_takeAll_88 : LocW cX7_takeAll 88 bdX7_takeAll_88 := loc_of (by decide +kernel)
theorem adX7_takeAll_88 : De bdX7_takeAll_88 0 (.aload_n 0) 1 ∧ De bdX7_takeAll_88 1 (.aload_n 1) 1 ∧ De bdX7_takeAll_88 2 (.getfield 25) 3 ∧ De bdX7_takeAll_88 5 (.putfield 25) 3 ∧ De bdX7_takeAll_88 8 (.aload_n 0) 1 ∧ De bdX7_takeAll_88 9 (.aload_n 1) 1 ∧ De bdX7_takeAll_88 10 (.getfield 51) 3 ∧ De bdX7_takeAll_88 13 (.putfield 51) 3 ∧ De bdX7_takeAll_88 16 (.aload_n 0) 1 ∧ De bdX7_takeAll_88 17 (.aload_n 1) 1 ∧ De bdX7_takeAll_88 18 (.getfield 60) 3 ∧ De bdX7_takeAll_88 21 (.putfield 60) 3 ∧ De bdX7_takeAll_88 24 (.iconst 0) 1 ∧ De bdX7_takeAll_88 25 (.istore_n 2) 1 ∧ De bdX7_takeAll_88 26 (.iload_n 2) 1 ∧ De bdX7_takeAll_88 27 (.aload_n 0) 1 := by decide +kernel
theorem dX7_takeAll_88 : decode cX7_takeAll 88 = .ok (.aload_n 0, 1) := dAt wdX7_takeAll_88 adX7_takeAll_88.1 rfl
theorem dX7_takeAll_89 : decode cX7_takeAll 89 = .ok (.aload_n 1, 1) := dAt wdX7_takeAll_88 adX7_takeAll_88.2.1 rfl
theorem dX7_takeAll_90 : decode cX7_takeAll 90 = .ok (.getfield 25, 3) := dAt wdX7_takeAll_88 adX7_takeAll_88.2.2.1 rfl
theorem dX7_takeAll_93 : decode cX7_takeAll 93 = .ok (.putfield 25, 3) := dAt wdX7_takeAll_88 adX7_takeAll_88.2.2.2.1 rfl
theorem dX7_takeAll_96 : decode cX7_takeAll 96 = .ok (.aload_n 0, 1) := dAt wdX7_takeAll_88 adX7_takeAll_88.2.2.2.2.1 rfl
theorem dX7_takeAll_97 : decode cX7_takeAll 97 = .ok (.aload_n 1, 1) := dAt wdX7_takeAll_88 adX7_takeAll_88.2.2.2.2.2.1 rfl
theorem dX7_takeAll_98 : decode cX7_takeAll 98 = .ok (.getfield 51, 3) := dAt wdX7_takeAll_88 adX7_takeAll_88.2.2.2.2.2.2.1 rfl
theorem dX7_takeAll_101 : decode cX7_takeAll 101 = .ok (.putfield 51, 3) := dAt wdX7_takeAll_88 adX7_takeAll_88.2.2.2.2.2.2.2.1 rfl
theorem dX7_takeAll_104 : decode cX7_takeAll 104 = .ok (.aload_n 0, 1) := dAt wdX7_takeAll_88 adX7_takeAll_88.2.2.2.2.2.2.2.2.1 rfl
theorem dX7_takeAll_105 : decode cX7_takeAll 105 = .ok (.aload_n 1, 1) := dAt wdX7_takeAll_88 adX7_takeAll_88.2.2.2.2.2.2.2.2.2.1 rfl
theorem dX7_takeAll_106 : decode cX7_takeAll 106 = .ok (.getfield 60, 3) := dAt wdX7_takeAll_88 adX7_takeAll_88.2.2.2.2.2.2.2.2.2.2.1 rfl
theorem dX7_takeAll_109 : decode cX7_takeAll 109 = .ok (.putfield 60, 3) := dAt wdX7_takeAll_88 adX7_takeAll_88.2.2.2.2.2.2.2.2.2.2.2.1 rfl
theorem dX7_takeAll_112 : decode cX7_takeAll 112 = .ok (.iconst 0, 1) := dAt wdX7_takeAll_88 adX7_takeAll_88.2.2.2.2.2.2.2.2.2.2.2.2.1 rfl
theorem dX7_takeAll_113 : decode cX7_takeAll 113 = .ok (.istore_n 2, 1) := dAt wdX7_takeAll_88 adX7_takeAll_88.2.2.2.2.2.2.2.2.2.2.2.2.2.1 rfl
theorem dX7_takeAll_114 : decode cX7_takeAll 114 = .ok (.iload_n 2, 1) := dAt wdX7_takeAll_88 adX7_takeAll_88.2.2.2.2.2.2.2.2.2.2.2.2.2.2.1 rfl
theorem dX7_takeAll_115 : decode cX7_takeAll 115 = .ok (.aload_n 0, 1) := dAt wdX7_takeAll_88 adX7_takeAll_88.2.2.2.2.2.2.2.2.2.2.2.2.2.2.2 rfl
def bdX7_takeAll_116 : ByteArray := .mk #[180, 0, 25, 162, 0, 22, 42, 28, 182, 0, 98, 43, 28, 182, 0, 98, 182, 0, 102, 132, 2, 1, 167, 255, 232, 3, 61, 28, 42, 180, 0, 51]
theorem wdX7_takeAll_116 : LocW cX7_takeAll 116 bdX7_takeAll_116 := loc_of (by decide +kernel)
theorem adX7_takeAll_116 : De bdX7_takeAll_116 0 (.getfield 25) 3 ∧ De bdX7_takeAll_116 3 (.if_icmp .ge 22) 3 ∧ De bdX7_takeAll_116 6 (.aload_n 0) 1 ∧ De bdX7_takeAll_116 7 (.iload_n 2) 1 ∧ De bdX7_takeAll_116 8 (.invokevirtual 98) 3 ∧ De bdX7_takeAll_116 11 (.aload_n 1) 1 ∧ De bdX7_takeAll_116 12 (.iload_n 2) 1 ∧ De bdX7_takeAll_116 13 (.invokevirtual 98) 3 ∧ De bdX7_takeAll_116 16 (.invokevirtual 102) 3 ∧ De bdX7_takeAll_116 19 (.iinc 2 1) 3 ∧ De bdX7_takeAll_116 22 (.goto (-24)) 3 ∧ De bdX7_takeAll_116 25 (.iconst 0) 1 ∧ De bdX7_takeAll_116 26 (.istore_n 2) 1 ∧ De bdX7_takeAll_116 27 (.iload_n 2) 1 ∧ De bdX7_takeAll_116 28 (.aload_n 0) 1 ∧ De bdX7_takeAll_116 29 (.getfield 51) 3 := by decide +kernel
theorem dX7_takeAll_116 : decode cX7_takeAll 116 = .ok (.getfield 25, 3) := dAt wdX7_takeAll_116 adX7_takeAll_116.1 rfl
theorem dX7_takeAll_119 : decode cX7_takeAll 119 = .ok (.if_icmp .ge 22, 3) := dAt wdX7_takeAll_116 adX7_takeAll_116.2.1 rfl
theorem dX7_takeAll_122 : decode cX7_takeAll 122 = .ok (.aload_n 0, 1) := dAt wdX7_takeAll_116 adX7_takeAll_116.2.2.1 rfl
theorem dX7_takeAll_123 : decode cX7_takeAll 123 = .ok (.iload_n 2, 1) := dAt wdX7_takeAll_116 adX7_takeAll_116.2.2.2.1 rfl
theorem dX7_takeAll_124 : decode cX7_takeAll 124 = .ok (.invokevirtual 98, 3) := dAt wdX7_takeAll_116 adX7_takeAll_116.2.2.2.2.1 rfl
theorem dX7_takeAll_127 : decode cX7_takeAll 127 = .ok (.aload_n 1, 1) := dAt wdX7_takeAll_116 adX7_takeAll_116.2.2.2.2.2.1 rfl
theorem dX7_takeAll_128 : decode cX7_takeAll 128 = .ok (.iload_n 2, 1) := dAt wdX7_takeAll_116 adX7_takeAll_116.2.2.2.2.2.2.1 rfl
theorem dX7_takeAll_129 : decode cX7_takeAll 129 = .ok (.invokevirtual 98, 3) := dAt wdX7_takeAll_116 adX7_takeAll_116.2.2.2.2.2.2.2.1 rfl
theorem dX7_takeAll_132 : decode cX7_takeAll 132 = .ok (.invokevirtual 102, 3) := dAt wdX7_takeAll_116 adX7_takeAll_116.2.2.2.2.2.2.2.2.1 rfl
theorem dX7_takeAll_135 : decode cX7_takeAll 135 = .ok (.iinc 2 1, 3) := dAt wdX7_takeAll_116 adX7_takeAll_116.2.2.2.2.2.2.2.2.2.1 rfl
theorem dX7_takeAll_138 : decode cX7_takeAll 138 = .ok (.goto (-24), 3) := dAt wdX7_takeAll_116 adX7_takeAll_116.2.2.2.2.2.2.2.2.2.2.1 rfl
theorem dX7_takeAll_141 : decode cX7_takeAll 141 = .ok (.iconst 0, 1) := dAt wdX7_takeAll_116 adX7_takeAll_116.2.2.2.2.2.2.2.2.2.2.2.1 rfl
theorem dX7_takeAll_142 : decode cX7_takeAll 142 = .ok (.istore_n 2, 1) := dAt wdX7_takeAll_116 adX7_takeAll_116.2.2.2.2.2.2.2.2.2.2.2.2.1 rfl
theorem dX7_takeAll_143 : decode cX7_takeAll 143 = .ok (.iload_n 2, 1) := dAt wdX7_takeAll_116 adX7_takeAll_116.2.2.2.2.2.2.2.2.2.2.2.2.2.1 rfl
theorem dX7_takeAll_144 : decode cX7_takeAll 144 = .ok (.aload_n 0, 1) := dAt wdX7_takeAll_116 adX7_takeAll_116.2.2.2.2.2.2.2.2.2.2.2.2.2.2.1 rfl
theorem dX7_takeAll_145 : decode cX7_takeAll 145 = .ok (.getfield 51, 3) := dAt wdX7_takeAll_116 adX7_takeAll_116.2.2.2.2.2.2.2.2.2.2.2.2.2.2.2 rfl
def bdX7_takeAll_148 : ByteArray := .mk #[162, 0, 22, 42, 28, 182, 0, 106, 43, 28, 182, 0, 106, 182, 0, 110, 132, 2, 1, 167, 255, 232, 3, 61, 28, 42, 180, 0, 60, 162, 0, 22]
theorem wdX7_takeAll_148 : LocW cX7_takeAll 148 bdX7_takeAll_148 := loc_of (by decide +kernel)
theorem adX7_takeAll_148 : De bdX7_takeAll_148 0 (.if_icmp .ge 22) 3 ∧ De bdX7_takeAll_148 3 (.aload_n 0) 1 ∧ De bdX7_takeAll_148 4 (.iload_n 2) 1 ∧ De bdX7_takeAll_148 5 (.invokevirtual 106) 3 ∧ De bdX7_takeAll_148 8 (.aload_n 1) 1 ∧ De bdX7_takeAll_148 9 (.iload_n 2) 1 ∧ De bdX7_takeAll_148 10 (.invokevirtual 106) 3 ∧ De bdX7_takeAll_148 13 (.invokevirtual 110) 3 ∧ De bdX7_takeAll_148 16 (.iinc 2 1) 3 ∧ De bdX7_takeAll_148 19 (.goto (-24)) 3 ∧ De bdX7_takeAll_148 22 (.iconst 0) 1 ∧ De bdX7_takeAll_148 23 (.istore_n 2) 1 ∧ De bdX7_takeAll_148 24 (.iload_n 2) 1 ∧ De bdX7_takeAll_148 25 (.aload_n 0) 1 ∧ De bdX7_takeAll_148 26 (.getfield 60) 3 ∧ De bdX7_takeAll_148 29 (.if_icmp .ge 22) 3 := by decide +kernel
theorem dX7_takeAll_148 : decode cX7_takeAll 148 = .ok (.if_icmp .ge 22, 3) := dAt wdX7_takeAll_148 adX7_takeAll_148.1 rfl
theorem dX7_takeAll_151 : decode cX7_takeAll 151 = .ok (.aload_n 0, 1) := dAt wdX7_takeAll_148 adX7_takeAll_148.2.1 rfl
theorem dX7_takeAll_152 : decode cX7_takeAll 152 = .ok (.iload_n 2, 1) := dAt wdX7_takeAll_148 adX7_takeAll_148.2.2.1 rfl
theorem dX7_takeAll_153 : decode cX7_takeAll 153 = .ok (.invokevirtual 106, 3) := dAt wdX7_takeAll_148 adX7_takeAll_148.2.2.2.1 rfl
theorem dX7_takeAll_156 : decode cX7_takeAll 156 = .ok (.aload_n 1, 1) := dAt wdX7_takeAll_148 adX7_takeAll_148.2.2.2.2.1 rfl
theorem dX7_takeAll_157 : decode cX7_takeAll 157 = .ok (.iload_n 2, 1) := dAt wdX7_takeAll_148 adX7_takeAll_148.2.2.2.2.2.1 rfl
theorem dX7_takeAll_158 : decode cX7_takeAll 158 = .ok (.invokevirtual 106, 3) := dAt wdX7_takeAll_148 adX7_takeAll_148.2.2.2.2.2.2.1 rfl
theorem dX7_takeAll_161 : decode cX7_takeAll 161 = .ok (.invokevirtual 110, 3) := dAt wdX7_takeAll_148 adX7_takeAll_148.2.2.2.2.2.2.2.1 rfl
theorem dX7_takeAll_164 : decode cX7_takeAll 164 = .ok (.iinc 2 1, 3) := dAt wdX7_takeAll_148 adX7_takeAll_148.2.2.2.2.2.2.2.2.1 rfl
theorem dX7_takeAll_167 : decode cX7_takeAll 167 = .ok (.goto (-24), 3) := dAt wdX7_takeAll_148 adX7_takeAll_148.2.2.2.2.2.2.2.2.2.1 rfl
theorem dX7_takeAll_170 : decode cX7_takeAll 170 = .ok (.iconst 0, 1) := dAt wdX7_takeAll_148 adX7_takeAll_148.2.2.2.2.2.2.2.2.2.2.1 rfl
theorem dX7_takeAll_171 : decode cX7_takeAll 171 = .ok (.istore_n 2, 1) := dAt wdX7_takeAll_148 adX7_takeAll_148.2.2.2.2.2.2.2.2.2.2.2.1 rfl
theorem dX7_takeAll_172 : decode cX7_takeAll 172 = .ok (.iload_n 2, 1) := dAt wdX7_takeAll_148 adX7_takeAll_148.2.2.2.2.2.2.2.2.2.2.2.2.1 rfl
theorem dX7_takeAll_173 : decode cX7_takeAll 173 = .ok (.aload_n 0, 1) := dAt wdX7_takeAll_148 adX7_takeAll_148.2.2.2.2.2.2.2.2.2.2.2.2.2.1 rfl
theorem dX7_takeAll_174 : decode cX7_takeAll 174 = .ok (.getfield 60, 3) := dAt wdX7_takeAll_148 adX7_takeAll_148.2.2.2.2.2.2.2.2.2.2.2.2.2.2.1 rfl
theorem dX7_takeAll_177 : decode cX7_takeAll 177 = .ok (.if_icmp .ge 22, 3) := dAt wdX7_takeAll_148 adX7_takeAll_148.2.2.2.2.2.2.2.2.2.2.2.2.2.2.2 rfl
def bdX7_takeAll_180 : ByteArray := .mk #[42, 28, 182, 0, 113, 43, 28, 182, 0, 113, 182, 0, 117, 132, 2, 1, 167, 255, 232, 3, 61, 28, 42, 180, 0, 35, 190, 162, 0, 28]
theorem wdX7_takeAll_180 : LocW cX7_takeAll 180 bdX7_takeAll_180 := loc_of (by decide +kernel)
theorem adX7_takeAll_180 : De bdX7_takeAll_180 0 (.aload_n 0) 1 ∧ De bdX7_takeAll_180 1 (.iload_n 2) 1 ∧ De bdX7_takeAll_180 2 (.invokevirtual 113) 3 ∧ De bdX7_takeAll_180 5 (.aload_n 1) 1 ∧ De bdX7_takeAll_180 6 (.iload_n 2) 1 ∧ De bdX7_takeAll_180 7 (.invokevirtual 113) 3 ∧ De bdX7_takeAll_180 10 (.invokevirtual 117) 3 ∧ De bdX7_takeAll_180 13 (.iinc 2 1) 3 ∧ De bdX7_takeAll_180 16 (.goto (-24)) 3 ∧ De bdX7_takeAll_180 19 (.iconst 0) 1 ∧ De bdX7_takeAll_180 20 (.istore_n 2) 1 ∧ De bdX7_takeAll_180 21 (.iload_n 2) 1 ∧ De bdX7_takeAll_180 22 (.aload_n 0) 1 ∧ De bdX7_takeAll_180 23 (.getfield 35) 3 ∧ De bdX7_takeAll_180 26 (.arraylength) 1 ∧ De bdX7_takeAll_180 27 (.if_icmp .ge 28) 3 := by decide +kernel
theorem dX7_takeAll_180 : decode cX7_takeAll 180 = .ok (.aload_n 0, 1) := dAt wdX7_takeAll_180 adX7_takeAll_180.1 rfl
theorem dX7_takeAll_181 : decode cX7_takeAll 181 = .ok (.iload_n 2, 1) := dAt wdX7_takeAll_180 adX7_takeAll_180.2.1 rfl
theorem dX7_takeAll_182 : decode cX7_takeAll 182 = .ok (.invokevirtual 113, 3) := dAt wdX7_takeAll_180 adX7_takeAll_180.2.2.1 rfl
theorem dX7_takeAll_185 : decode cX7_takeAll 185 = .ok (.aload_n 1, 1) := dAt wdX7_takeAll_180 adX7_takeAll_180.2.2.2.1 rfl
theorem dX7_takeAll_186 : decode cX7_takeAll 186 = .ok (.iload_n 2, 1) := dAt wdX7_takeAll_180 adX7_takeAll_180.2.2.2.2.1 rfl
theorem dX7_takeAll_187 : decode cX7_takeAll 187 = .ok (.invokevirtual 113, 3) := dAt wdX7_takeAll_180 adX7_takeAll_180.2.2.2.2.2.1 rfl
theorem dX7_takeAll_190 : decode cX7_takeAll 190 = .ok (.invokevirtual 117, 3) := dAt wdX7_takeAll_180 adX7_takeAll_180.2.2.2.2.2.2.1 rfl
theorem dX7_takeAll_193 : decode cX7_takeAll 193 = .ok (.iinc 2 1, 3) := dAt wdX7_takeAll_180 adX7_takeAll_180.2.2.2.2.2.2.2.1 rfl
theorem dX7_takeAll_196 : decode cX7_takeAll 196 = .ok (.goto (-24), 3) := dAt wdX7_takeAll_180 adX7_takeAll_180.2.2.2.2.2.2.2.2.1 rfl
theorem dX7_takeAll_199 : decode cX7_takeAll 199 = .ok (.iconst 0, 1) := dAt wdX7_takeAll_180 adX7_takeAll_180.2.2.2.2.2.2.2.2.2.1 rfl
theorem dX7_takeAll_200 : decode cX7_takeAll 200 = .ok (.istore_n 2, 1) := dAt wdX7_takeAll_180 adX7_takeAll_180.2.2.2.2.2.2.2.2.2.2.1 rfl
theorem dX7_takeAll_201 : decode cX7_takeAll 201 = .ok (.iload_n 2, 1) := dAt wdX7_takeAll_180 adX7_takeAll_180.2.2.2.2.2.2.2.2.2.2.2.1 rfl
theorem dX7_takeAll_202 : decode cX7_takeAll 202 = .ok (.aload_n 0, 1) := dAt wdX7_takeAll_180 adX7_takeAll_180.2.2.2.2.2.2.2.2.2.2.2.2.1 rfl
theorem dX7_takeAll_203 : decode cX7_takeAll 203 = .ok (.getfield 35, 3) := dAt wdX7_takeAll_180 adX7_takeAll_180.2.2.2.2.2.2.2.2.2.2.2.2.2.1 rfl
theorem dX7_takeAll_206 : decode cX7_takeAll 206 = .ok (.arraylength, 1) := dAt wdX7_takeAll_180 adX7_takeAll_180.2.2.2.2.2.2.2.2.2.2.2.2.2.2.1 rfl
theorem dX7_takeAll_207 : decode cX7_takeAll 207 = .ok (.if_icmp .ge 28, 3) := dAt wdX7_takeAll_180 adX7_takeAll_180.2.2.2.2.2.2.2.2.2.2.2.2.2.2.2 rfl
def bdX7_takeAll_210 : ByteArray := .mk #[43, 28, 182, 0, 120, 78, 45, 198, 0, 12, 42, 28, 182, 0, 124, 45, 182, 0, 127, 132, 2, 1, 167, 255, 225, 177]
theorem wdX7_takeAll_210 : LocW cX7_takeAll 210 bdX7_takeAll_210 := loc_of (by decide +kernel)
theorem adX7_takeAll_210 : De bdX7_takeAll_210 0 (.aload_n 1) 1 ∧ De bdX7_takeAll_210 1 (.iload_n 2) 1 ∧ De bdX7_takeAll_210 2 (.invokevirtual 120) 3 ∧ De bdX7_takeAll_210 5 (.astore_n 3) 1 ∧ De bdX7_takeAll_210 6 (.aload_n 3) 1 ∧ De bdX7_takeAll_210 7 (.ifnull 12) 3 ∧ De bdX7_takeAll_210 10 (.aload_n 0) 1 ∧ De bdX7_takeAll_210 11 (.iload_n 2) 1 ∧ De bdX7_takeAll_210 12 (.invokevirtual 124) 3 ∧ De bdX7_takeAll_210 15 (.aload_n 3) 1 ∧ De bdX7_takeAll_210 16 (.invokevirtual 127) 3 ∧ De bdX7_takeAll_210 19 (.iinc 2 1) 3 ∧ De bdX7_takeAll_210 22 (.goto (-31)) 3 ∧ De bdX7_takeAll_210 25 (.return_) 1 := by decide +kernel
theorem dX7_takeAll_210 : decode cX7_takeAll 210 = .ok (.aload_n 1, 1) := dAt wdX7_takeAll_210 adX7_takeAll_210.1 rfl
theorem dX7_takeAll_211 : decode cX7_takeAll 211 = .ok (.iload_n 2, 1) := dAt wdX7_takeAll_210 adX7_takeAll_210.2.1 rfl
theorem dX7_takeAll_212 : decode cX7_takeAll 212 = .ok (.invokevirtual 120, 3) := dAt wdX7_takeAll_210 adX7_takeAll_210.2.2.1 rfl
theorem dX7_takeAll_215 : decode cX7_takeAll 215 = .ok (.astore_n 3, 1) := dAt wdX7_takeAll_210 adX7_takeAll_210.2.2.2.1 rfl
theorem dX7_takeAll_216 : decode cX7_takeAll 216 = .ok (.aload_n 3, 1) := dAt wdX7_takeAll_210 adX7_takeAll_210.2.2.2.2.1 rfl
theorem dX7_takeAll_217 : decode cX7_takeAll 217 = .ok (.ifnull 12, 3) := dAt wdX7_takeAll_210 adX7_takeAll_210.2.2.2.2.2.1 rfl
theorem dX7_takeAll_220 : decode cX7_takeAll 220 = .ok (.aload_n 0, 1) := dAt wdX7_takeAll_210 adX7_takeAll_210.2.2.2.2.2.2.1 rfl
theorem dX7_takeAll_221 : decode cX7_takeAll 221 = .ok (.iload_n 2, 1) := dAt wdX7_takeAll_210 adX7_takeAll_210.2.2.2.2.2.2.2.1 rfl
theorem dX7_takeAll_222 : decode cX7_takeAll 222 = .ok (.invokevirtual 124, 3) := dAt wdX7_takeAll_210 adX7_takeAll_210.2.2.2.2.2.2.2.2.1 rfl
theorem dX7_takeAll_225 : decode cX7_takeAll 225 = .ok (.aload_n 3, 1) := dAt wdX7_takeAll_210 adX7_takeAll_210.2.2.2.2.2.2.2.2.2.1 rfl
theorem dX7_takeAll_226 : decode cX7_takeAll 226 = .ok (.invokevirtual 127, 3) := dAt wdX7_takeAll_210 adX7_takeAll_210.2.2.2.2.2.2.2.2.2.2.1 rfl
theorem dX7_takeAll_229 : decode cX7_takeAll 229 = .ok (.iinc 2 1, 3) := dAt wdX7_takeAll_210 adX7_takeAll_210.2.2.2.2.2.2.2.2.2.2.2.1 rfl
theorem dX7_takeAll_232 : decode cX7_takeAll 232 = .ok (.goto (-31), 3) := dAt wdX7_takeAll_210 adX7_takeAll_210.2.2.2.2.2.2.2.2.2.2.2.2.1 rfl
theorem dX7_takeAll_235 : decode cX7_takeAll 235 = .ok (.return_, 1) := dAt wdX7_takeAll_210 adX7_takeAll_210.2.2.2.2.2.2.2.2.2.2.2.2.2 rfl
def bdX7_ownStyle_0 : ByteArray := .mk #[27, 155, 0, 12, 27, 42, 180, 0, 21, 190, 161, 0, 8, 42, 180, 0, 29, 176, 42, 180, 0, 21, 27, 50, 199, 0, 16, 42]
theorem wdX7_ownStyle_0 : LocW cX7_ownStyle 0 bdX7_ownStyle_0 := loc_of (by decide +kernel)
theorem adX7_ownStyle_0 : De bdX7_ownStyle_0 0 (.iload_n 1) 1 ∧ De bdX7_ownStyle_0 1 (.ifCond .lt 12) 3 ∧ De bdX7_ownStyle_0 4 (.iload_n 1) 1 ∧ De bdX7_ownStyle_0 5 (.aload_n 0) 1 ∧ De bdX7_ownStyle_0 6 (.getfield 21) 3 ∧ De bdX7_ownStyle_0 9 (.arraylength) 1 ∧ De bdX7_ownStyle_0 10 (.if_icmp .lt 8) 3 ∧ De bdX7_ownStyle_0 13 (.aload_n 0) 1 ∧ De bdX7_ownStyle_0 14 (.getfield 29) 3 ∧ De bdX7_ownStyle_0 17 (.areturn) 1 ∧ De bdX7_ownStyle_0 18 (.aload_n 0) 1 ∧ De bdX7_ownStyle_0 19 (.getfield 21) 3 ∧ De bdX7_ownStyle_0 22 (.iload_n 1) 1 ∧ De bdX7_ownStyle_0 23 (.aaload) 1 ∧ De bdX7_ownStyle_0 24 (.ifnonnull 16) 3 ∧ De bdX7_ownStyle_0 27 (.aload_n 0) 1 := by decide +kernel
theorem dX7_ownStyle_0 : decode cX7_ownStyle 0 = .ok (.iload_n 1, 1) := dAt wdX7_ownStyle_0 adX7_ownStyle_0.1 rfl
theorem dX7_ownStyle_1 : decode cX7_ownStyle 1 = .ok (.ifCond .lt 12, 3) := dAt wdX7_ownStyle_0 adX7_ownStyle_0.2.1 rfl
theorem dX7_ownStyle_4 : decode cX7_ownStyle 4 = .ok (.iload_n 1, 1) := dAt wdX7_ownStyle_0 adX7_ownStyle_0.2.2.1 rfl
theorem dX7_ownStyle_5 : decode cX7_ownStyle 5 = .ok (.aload_n 0, 1) := dAt wdX7_ownStyle_0 adX7_ownStyle_0.2.2.2.1 rfl
theorem dX7_ownStyle_6 : decode cX7_ownStyle 6 = .ok (.getfield 21, 3) := dAt wdX7_ownStyle_0 adX7_ownStyle_0.2.2.2.2.1 rfl
theorem dX7_ownStyle_9 : decode cX7_ownStyle 9 = .ok (.arraylength, 1) := dAt wdX7_ownStyle_0 adX7_ownStyle_0.2.2.2.2.2.1 rfl
theorem dX7_ownStyle_10 : decode cX7_ownStyle 10 = .ok (.if_icmp .lt 8, 3) := dAt wdX7_ownStyle_0 adX7_ownStyle_0.2.2.2.2.2.2.1 rfl
theorem dX7_ownStyle_13 : decode cX7_ownStyle 13 = .ok (.aload_n 0, 1) := dAt wdX7_ownStyle_0 adX7_ownStyle_0.2.2.2.2.2.2.2.1 rfl
theorem dX7_ownStyle_14 : decode cX7_ownStyle 14 = .ok (.getfield 29, 3) := dAt wdX7_ownStyle_0 adX7_ownStyle_0.2.2.2.2.2.2.2.2.1 rfl
theorem dX7_ownStyle_17 : decode cX7_ownStyle 17 = .ok (.areturn, 1) := dAt wdX7_ownStyle_0 adX7_ownStyle_0.2.2.2.2.2.2.2.2.2.1 rfl
theorem dX7_ownStyle_18 : decode cX7_ownStyle 18 = .ok (.aload_n 0, 1) := dAt wdX7_ownStyle_0 adX7_ownStyle_0.2.2.2.2.2.2.2.2.2.2.1 rfl
theorem dX7_ownStyle_19 : decode cX7_ownStyle 19 = .ok (.getfield 21, 3) := dAt wdX7_ownStyle_0 adX7_ownStyle_0.2.2.2.2.2.2.2.2.2.2.2.1 rfl
theorem dX7_ownStyle_22 : decode cX7_ownStyle 22 = .ok (.iload_n 1, 1) := dAt wdX7_ownStyle_0 adX7_ownStyle_0.2.2.2.2.2.2.2.2.2.2.2.2.1 rfl
theorem dX7_ownStyle_23 : decode cX7_ownStyle 23 = .ok (.aaload, 1) := dAt wdX7_ownStyle_0 adX7_ownStyle_0.2.2.2.2.2.2.2.2.2.2.2.2.2.1 rfl
theorem dX7_ownStyle_24 : decode cX7_ownStyle 24 = .ok (.ifnonnull 16, 3) := dAt wdX7_ownStyle_0 adX7_ownStyle_0.2.2.2.2.2.2.2.2.2.2.2.2.2.2.1 rfl
theorem dX7_ownStyle_27 : decode cX7_ownStyle 27 = .ok (.aload_n 0, 1) := dAt wdX7_ownStyle_0 adX7_ownStyle_0.2.2.2.2.2.2.2.2.2.2.2.2.2.2.2 rfl
def bdX7_ownStyle_28 : ByteArray := .mk #[180, 0, 21, 27, 187, 0, 19, 89, 183, 0, 28, 83, 42, 180, 0, 21, 27, 50, 176]
theorem wdX7_ownStyle_28 : LocW cX7_ownStyle 28 bdX7_ownStyle_28 := loc_of (by decide +kernel)
theorem adX7_ownStyle_28 : De bdX7_ownStyle_28 0 (.getfield 21) 3 ∧ De bdX7_ownStyle_28 3 (.iload_n 1) 1 ∧ De bdX7_ownStyle_28 4 (.new 19) 3 ∧ De bdX7_ownStyle_28 7 (.dup) 1 ∧ De bdX7_ownStyle_28 8 (.invokespecial 28) 3 ∧ De bdX7_ownStyle_28 11 (.aastore) 1 ∧ De bdX7_ownStyle_28 12 (.aload_n 0) 1 ∧ De bdX7_ownStyle_28 13 (.getfield 21) 3 ∧ De bdX7_ownStyle_28 16 (.iload_n 1) 1 ∧ De bdX7_ownStyle_28 17 (.aaload) 1 ∧ De bdX7_ownStyle_28 18 (.areturn) 1 := by decide +kernel
theorem dX7_ownStyle_28 : decode cX7_ownStyle 28 = .ok (.getfield 21, 3) := dAt wdX7_ownStyle_28 adX7_ownStyle_28.1 rfl
theorem dX7_ownStyle_31 : decode cX7_ownStyle 31 = .ok (.iload_n 1, 1) := dAt wdX7_ownStyle_28 adX7_ownStyle_28.2.1 rfl
theorem dX7_ownStyle_32 : decode cX7_ownStyle 32 = .ok (.new 19, 3) := dAt wdX7_ownStyle_28 adX7_ownStyle_28.2.2.1 rfl
theorem dX7_ownStyle_35 : decode cX7_ownStyle 35 = .ok (.dup, 1) := dAt wdX7_ownStyle_28 adX7_ownStyle_28.2.2.2.1 rfl
theorem dX7_ownStyle_36 : decode cX7_ownStyle 36 = .ok (.invokespecial 28, 3) := dAt wdX7_ownStyle_28 adX7_ownStyle_28.2.2.2.2.1 rfl
theorem dX7_ownStyle_39 : decode cX7_ownStyle 39 = .ok (.aastore, 1) := dAt wdX7_ownStyle_28 adX7_ownStyle_28.2.2.2.2.2.1 rfl
theorem dX7_ownStyle_40 : decode cX7_ownStyle 40 = .ok (.aload_n 0, 1) := dAt wdX7_ownStyle_28 adX7_ownStyle_28.2.2.2.2.2.2.1 rfl
theorem dX7_ownStyle_41 : decode cX7_ownStyle 41 = .ok (.getfield 21, 3) := dAt wdX7_ownStyle_28 adX7_ownStyle_28.2.2.2.2.2.2.2.1 rfl
theorem dX7_ownStyle_44 : decode cX7_ownStyle 44 = .ok (.iload_n 1, 1) := dAt wdX7_ownStyle_28 adX7_ownStyle_28.2.2.2.2.2.2.2.2.1 rfl
theorem dX7_ownStyle_45 : decode cX7_ownStyle 45 = .ok (.aaload, 1) := dAt wdX7_ownStyle_28 adX7_ownStyle_28.2.2.2.2.2.2.2.2.2.1 rfl
theorem dX7_ownStyle_46 : decode cX7_ownStyle 46 = .ok (.areturn, 1) := dAt wdX7_ownStyle_28 adX7_ownStyle_28.2.2.2.2.2.2.2.2.2.2 rfl
def bdX7_ownPart_0 : ByteArray := .mk #[27, 155, 0, 12, 27, 42, 180, 0, 35, 190, 161, 0, 11, 187, 0, 33, 89, 183, 0, 130, 176, 42, 180, 0, 35, 27, 50, 199, 0, 16]
theorem wdX7_ownPart_0 : LocW cX7_ownPart 0 bdX7_ownPart_0 := loc_of (by decide +kernel)
theorem adX7_ownPart_0 : De bdX7_ownPart_0 0 (.iload_n 1) 1 ∧ De bdX7_ownPart_0 1 (.ifCond .lt 12) 3 ∧ De bdX7_ownPart_0 4 (.iload_n 1) 1 ∧ De bdX7_ownPart_0 5 (.aload_n 0) 1 ∧ De bdX7_ownPart_0 6 (.getfield 35) 3 ∧ De bdX7_ownPart_0 9 (.arraylength) 1 ∧ De bdX7_ownPart_0 10 (.if_icmp .lt 11) 3 ∧ De bdX7_ownPart_0 13 (.new 33) 3 ∧ De bdX7_ownPart_0 16 (.dup) 1 ∧ De bdX7_ownPart_0 17 (.invokespecial 130) 3 ∧ De bdX7_ownPart_0 20 (.areturn) 1 ∧ De bdX7_ownPart_0 21 (.aload_n 0) 1 ∧ De bdX7_ownPart_0 22 (.getfield 35) 3 ∧ De bdX7_ownPart_0 25 (.iload_n 1) 1 ∧ De bdX7_ownPart_0 26 (.aaload) 1 ∧ De bdX7_ownPart_0 27 (.ifnonnull 16) 3 := by decide +kernel
theorem dX7_ownPart_0 : decode cX7_ownPart 0 = .ok (.iload_n 1, 1) := dAt wdX7_ownPart_0 adX7_ownPart_0.1 rfl
theorem dX7_ownPart_1 : decode cX7_ownPart 1 = .ok (.ifCond .lt 12, 3) := dAt wdX7_ownPart_0 adX7_ownPart_0.2.1 rfl
theorem dX7_ownPart_4 : decode cX7_ownPart 4 = .ok (.iload_n 1, 1) := dAt wdX7_ownPart_0 adX7_ownPart_0.2.2.1 rfl
theorem dX7_ownPart_5 : decode cX7_ownPart 5 = .ok (.aload_n 0, 1) := dAt wdX7_ownPart_0 adX7_ownPart_0.2.2.2.1 rfl
theorem dX7_ownPart_6 : decode cX7_ownPart 6 = .ok (.getfield 35, 3) := dAt wdX7_ownPart_0 adX7_ownPart_0.2.2.2.2.1 rfl
theorem dX7_ownPart_9 : decode cX7_ownPart 9 = .ok (.arraylength, 1) := dAt wdX7_ownPart_0 adX7_ownPart_0.2.2.2.2.2.1 rfl
theorem dX7_ownPart_10 : decode cX7_ownPart 10 = .ok (.if_icmp .lt 11, 3) := dAt wdX7_ownPart_0 adX7_ownPart_0.2.2.2.2.2.2.1 rfl
theorem dX7_ownPart_13 : decode cX7_ownPart 13 = .ok (.new 33, 3) := dAt wdX7_ownPart_0 adX7_ownPart_0.2.2.2.2.2.2.2.1 rfl
theorem dX7_ownPart_16 : decode cX7_ownPart 16 = .ok (.dup, 1) := dAt wdX7_ownPart_0 adX7_ownPart_0.2.2.2.2.2.2.2.2.1 rfl
theorem dX7_ownPart_17 : decode cX7_ownPart 17 = .ok (.invokespecial 130, 3) := dAt wdX7_ownPart_0 adX7_ownPart_0.2.2.2.2.2.2.2.2.2.1 rfl
theorem dX7_ownPart_20 : decode cX7_ownPart 20 = .ok (.areturn, 1) := dAt wdX7_ownPart_0 adX7_ownPart_0.2.2.2.2.2.2.2.2.2.2.1 rfl
theorem dX7_ownPart_21 : decode cX7_ownPart 21 = .ok (.aload_n 0, 1) := dAt wdX7_ownPart_0 adX7_ownPart_0.2.2.2.2.2.2.2.2.2.2.2.1 rfl
theorem dX7_ownPart_22 : decode cX7_ownPart 22 = .ok (.getfield 35, 3) := dAt wdX7_ownPart_0 adX7_ownPart_0.2.2.2.2.2.2.2.2.2.2.2.2.1 rfl
theorem dX7_ownPart_25 : decode cX7_ownPart 25 = .ok (.iload_n 1, 1) := dAt wdX7_ownPart_0 adX7_ownPart_0.2.2.2.2.2.2.2.2.2.2.2.2.2.1 rfl
theorem dX7_ownPart_26 : decode cX7_ownPart 26 = .ok (.aaload, 1) := dAt wdX7_ownPart_0 adX7_ownPart_0.2.2.2.2.2.2.2.2.2.2.2.2.2.2.1 rfl
theorem dX7_ownPart_27 : decode cX7_ownPart 27 = .ok (.ifnonnull 16, 3) := dAt wdX7_ownPart_0 adX7_ownPart_0.2.2.2.2.2.2.2.2.2.2.2.2.2.2.2 rfl
def bdX7_ownPart_30 : ByteArray := .mk #[42, 180, 0, 35, 27, 187, 0, 33, 89, 183, 0, 130, 83, 42, 180, 0, 35, 27, 50, 176]
theorem wdX7_ownPart_30 : LocW cX7_ownPart 30 bdX7_ownPart_30 := loc_of (by decide +kernel)
theorem adX7_ownPart_30 : De bdX7_ownPart_30 0 (.aload_n 0) 1 ∧ De bdX7_ownPart_30 1 (.getfield 35) 3 ∧ De bdX7_ownPart_30 4 (.iload_n 1) 1 ∧ De bdX7_ownPart_30 5 (.new 33) 3 ∧ De bdX7_ownPart_30 8 (.dup) 1 ∧ De bdX7_ownPart_30 9 (.invokespecial 130) 3 ∧ De bdX7_ownPart_30 12 (.aastore) 1 ∧ De bdX7_ownPart_30 13 (.aload_n 0) 1 ∧ De bdX7_ownPart_30 14 (.getfield 35) 3 ∧ De bdX7_ownPart_30 17 (.iload_n 1) 1 ∧ De bdX7_ownPart_30 18 (.aaload) 1 ∧ De bdX7_ownPart_30 19 (.areturn) 1 := by decide +kernel
theorem dX7_ownPart_30 : decode cX7_ownPart 30 = .ok (.aload_n 0, 1) := dAt wdX7_ownPart_30 adX7_ownPart_30.1 rfl
theorem dX7_ownPart_31 : decode cX7_ownPart 31 = .ok (.getfield 35, 3) := dAt wdX7_ownPart_30 adX7_ownPart_30.2.1 rfl
theorem dX7_ownPart_34 : decode cX7_ownPart 34 = .ok (.iload_n 1, 1) := dAt wdX7_ownPart_30 adX7_ownPart_30.2.2.1 rfl
theorem dX7_ownPart_35 : decode cX7_ownPart 35 = .ok (.new 33, 3) := dAt wdX7_ownPart_30 adX7_ownPart_30.2.2.2.1 rfl
theorem dX7_ownPart_38 : decode cX7_ownPart 38 = .ok (.dup, 1) := dAt wdX7_ownPart_30 adX7_ownPart_30.2.2.2.2.1 rfl
theorem dX7_ownPart_39 : decode cX7_ownPart 39 = .ok (.invokespecial 130, 3) := dAt wdX7_ownPart_30 adX7_ownPart_30.2.2.2.2.2.1 rfl
theorem dX7_ownPart_42 : decode cX7_ownPart 42 = .ok (.aastore, 1) := dAt wdX7_ownPart_30 adX7_ownPart_30.2.2.2.2.2.2.1 rfl
theorem dX7_ownPart_43 : decode cX7_ownPart 43 = .ok (.aload_n 0, 1) := dAt wdX7_ownPart_30 adX7_ownPart_30.2.2.2.2.2.2.2.1 rfl
theorem dX7_ownPart_44 : decode cX7_ownPart 44 = .ok (.getfield 35, 3) := dAt wdX7_ownPart_30 adX7_ownPart_30.2.2.2.2.2.2.2.2.1 rfl
theorem dX7_ownPart_47 : decode cX7_ownPart 47 = .ok (.iload_n 1, 1) := dAt wdX7_ownPart_30 adX7_ownPart_30.2.2.2.2.2.2.2.2.2.1 rfl
theorem dX7_ownPart_48 : decode cX7_ownPart 48 = .ok (.aaload, 1) := dAt wdX7_ownPart_30 adX7_ownPart_30.2.2.2.2.2.2.2.2.2.2.1 rfl
theorem dX7_ownPart_49 : decode cX7_ownPart 49 = .ok (.areturn, 1) := dAt wdX7_ownPart_30 adX7_ownPart_30.2.2.2.2.2.2.2.2.2.2.2 rfl
def bdX7_ownMachine_0 : ByteArray := .mk #[27, 155, 0, 12, 27, 42, 180, 0, 47, 190, 161, 0, 11, 187, 0, 45, 89, 183, 0, 131, 176, 42, 180, 0, 47, 27, 50, 199, 0, 16]
theorem wdX7_ownMachine_0 : LocW cX7_ownMachine 0 bdX7_ownMachine_0 := loc_of (by decide +kernel)
theorem adX7_ownMachine_0 : De bdX7_ownMachine_0 0 (.iload_n 1) 1 ∧ De bdX7_ownMachine_0 1 (.ifCond .lt 12) 3 ∧ De bdX7_ownMachine_0 4 (.iload_n 1) 1 ∧ De bdX7_ownMachine_0 5 (.aload_n 0) 1 ∧ De bdX7_ownMachine_0 6 (.getfield 47) 3 ∧ De bdX7_ownMachine_0 9 (.arraylength) 1 ∧ De bdX7_ownMachine_0 10 (.if_icmp .lt 11) 3 ∧ De bdX7_ownMachine_0 13 (.new 45) 3 ∧ De bdX7_ownMachine_0 16 (.dup) 1 ∧ De bdX7_ownMachine_0 17 (.invokespecial 131) 3 ∧ De bdX7_ownMachine_0 20 (.areturn) 1 ∧ De bdX7_ownMachine_0 21 (.aload_n 0) 1 ∧ De bdX7_ownMachine_0 22 (.getfield 47) 3 ∧ De bdX7_ownMachine_0 25 (.iload_n 1) 1 ∧ De bdX7_ownMachine_0 26 (.aaload) 1 ∧ De bdX7_ownMachine_0 27 (.ifnonnull 16) 3 := by decide +kernel
theorem dX7_ownMachine_0 : decode cX7_ownMachine 0 = .ok (.iload_n 1, 1) := dAt wdX7_ownMachine_0 adX7_ownMachine_0.1 rfl
theorem dX7_ownMachine_1 : decode cX7_ownMachine 1 = .ok (.ifCond .lt 12, 3) := dAt wdX7_ownMachine_0 adX7_ownMachine_0.2.1 rfl
theorem dX7_ownMachine_4 : decode cX7_ownMachine 4 = .ok (.iload_n 1, 1) := dAt wdX7_ownMachine_0 adX7_ownMachine_0.2.2.1 rfl
theorem dX7_ownMachine_5 : decode cX7_ownMachine 5 = .ok (.aload_n 0, 1) := dAt wdX7_ownMachine_0 adX7_ownMachine_0.2.2.2.1 rfl
theorem dX7_ownMachine_6 : decode cX7_ownMachine 6 = .ok (.getfield 47, 3) := dAt wdX7_ownMachine_0 adX7_ownMachine_0.2.2.2.2.1 rfl
theorem dX7_ownMachine_9 : decode cX7_ownMachine 9 = .ok (.arraylength, 1) := dAt wdX7_ownMachine_0 adX7_ownMachine_0.2.2.2.2.2.1 rfl
theorem dX7_ownMachine_10 : decode cX7_ownMachine 10 = .ok (.if_icmp .lt 11, 3) := dAt wdX7_ownMachine_0 adX7_ownMachine_0.2.2.2.2.2.2.1 rfl
theorem dX7_ownMachine_13 : decode cX7_ownMachine 13 = .ok (.new 45, 3) := dAt wdX7_ownMachine_0 adX7_ownMachine_0.2.2.2.2.2.2.2.1 rfl
theorem dX7_ownMachine_16 : decode cX7_ownMachine 16 = .ok (.dup, 1) := dAt wdX7_ownMachine_0 adX7_ownMachine_0.2.2.2.2.2.2.2.2.1 rfl
theorem dX7_ownMachine_17 : decode cX7_ownMachine 17 = .ok (.invokespecial 131, 3) := dAt wdX7_ownMachine_0 adX7_ownMachine_0.2.2.2.2.2.2.2.2.2.1 rfl
theorem dX7_ownMachine_20 : decode cX7_ownMachine 20 = .ok (.areturn, 1) := dAt wdX7_ownMachine_0 adX7_ownMachine_0.2.2.2.2.2.2.2.2.2.2.1 rfl
theorem dX7_ownMachine_21 : decode cX7_ownMachine 21 = .ok (.aload_n 0, 1) := dAt wdX7_ownMachine_0 adX7_ownMachine_0.2.2.2.2.2.2.2.2.2.2.2.1 rfl
theorem dX7_ownMachine_22 : decode cX7_ownMachine 22 = .ok (.getfield 47, 3) := dAt wdX7_ownMachine_0 adX7_ownMachine_0.2.2.2.2.2.2.2.2.2.2.2.2.1 rfl
theorem dX7_ownMachine_25 : decode cX7_ownMachine 25 = .ok (.iload_n 1, 1) := dAt wdX7_ownMachine_0 adX7_ownMachine_0.2.2.2.2.2.2.2.2.2.2.2.2.2.1 rfl
theorem dX7_ownMachine_26 : decode cX7_ownMachine 26 = .ok (.aaload, 1) := dAt wdX7_ownMachine_0 adX7_ownMachine_0.2.2.2.2.2.2.2.2.2.2.2.2.2.2.1 rfl
theorem dX7_ownMachine_27 : decode cX7_ownMachine 27 = .ok (.ifnonnull 16, 3) := dAt wdX7_ownMachine_0 adX7_ownMachine_0.2.2.2.2.2.2.2.2.2.2.2.2.2.2.2 rfl
def bdX7_ownMachine_30 : ByteArray := .mk #[42, 180, 0, 47, 27, 187, 0, 45, 89, 183, 0, 131, 83, 42, 180, 0, 47, 27, 50, 176]
theorem wdX7_ownMachine_30 : LocW cX7_ownMachine 30 bdX7_ownMachine_30 := loc_of (by decide +kernel)
theorem adX7_ownMachine_30 : De bdX7_ownMachine_30 0 (.aload_n 0) 1 ∧ De bdX7_ownMachine_30 1 (.getfield 47) 3 ∧ De bdX7_ownMachine_30 4 (.iload_n 1) 1 ∧ De bdX7_ownMachine_30 5 (.new 45) 3 ∧ De bdX7_ownMachine_30 8 (.dup) 1 ∧ De bdX7_ownMachine_30 9 (.invokespecial 131) 3 ∧ De bdX7_ownMachine_30 12 (.aastore) 1 ∧ De bdX7_ownMachine_30 13 (.aload_n 0) 1 ∧ De bdX7_ownMachine_30 14 (.getfield 47) 3 ∧ De bdX7_ownMachine_30 17 (.iload_n 1) 1 ∧ De bdX7_ownMachine_30 18 (.aaload) 1 ∧ De bdX7_ownMachine_30 19 (.areturn) 1 := by decide +kernel
theorem dX7_ownMachine_30 : decode cX7_ownMachine 30 = .ok (.aload_n 0, 1) := dAt wdX7_ownMachine_30 adX7_ownMachine_30.1 rfl
theorem dX7_ownMachine_31 : decode cX7_ownMachine 31 = .ok (.getfield 47, 3) := dAt wdX7_ownMachine_30 adX7_ownMachine_30.2.1 rfl
theorem dX7_ownMachine_34 : decode cX7_ownMachine 34 = .ok (.iload_n 1, 1) := dAt wdX7_ownMachine_30 adX7_ownMachine_30.2.2.1 rfl
theorem dX7_ownMachine_35 : decode cX7_ownMachine 35 = .ok (.new 45, 3) := dAt wdX7_ownMachine_30 adX7_ownMachine_30.2.2.2.1 rfl
theorem dX7_ownMachine_38 : decode cX7_ownMachine 38 = .ok (.dup, 1) := dAt wdX7_ownMachine_30 adX7_ownMachine_30.2.2.2.2.1 rfl
theorem dX7_ownMachine_39 : decode cX7_ownMachine 39 = .ok (.invokespecial 131, 3) := dAt wdX7_ownMachine_30 adX7_ownMachine_30.2.2.2.2.2.1 rfl
theorem dX7_ownMachine_42 : decode cX7_ownMachine 42 = .ok (.aastore, 1) := dAt wdX7_ownMachine_30 adX7_ownMachine_30.2.2.2.2.2.2.1 rfl
theorem dX7_ownMachine_43 : decode cX7_ownMachine 43 = .ok (.aload_n 0, 1) := dAt wdX7_ownMachine_30 adX7_ownMachine_30.2.2.2.2.2.2.2.1 rfl
theorem dX7_ownMachine_44 : decode cX7_ownMachine 44 = .ok (.getfield 47, 3) := dAt wdX7_ownMachine_30 adX7_ownMachine_30.2.2.2.2.2.2.2.2.1 rfl
theorem dX7_ownMachine_47 : decode cX7_ownMachine 47 = .ok (.iload_n 1, 1) := dAt wdX7_ownMachine_30 adX7_ownMachine_30.2.2.2.2.2.2.2.2.2.1 rfl
theorem dX7_ownMachine_48 : decode cX7_ownMachine 48 = .ok (.aaload, 1) := dAt wdX7_ownMachine_30 adX7_ownMachine_30.2.2.2.2.2.2.2.2.2.2.1 rfl
theorem dX7_ownMachine_49 : decode cX7_ownMachine 49 = .ok (.areturn, 1) := dAt wdX7_ownMachine_30 adX7_ownMachine_30.2.2.2.2.2.2.2.2.2.2.2 rfl
def bdX7_ownSlug_0 : ByteArray := .mk #[27, 155, 0, 12, 27, 42, 180, 0, 56, 190, 161, 0, 11, 187, 0, 54, 89, 183, 0, 132, 176, 42, 180, 0, 56, 27, 50, 199, 0, 16]
theorem wdX7_ownSlug_0 : LocW cX7_ownSlug 0 bdX7_ownSlug_0 := loc_of (by decide +kernel)
theorem adX7_ownSlug_0 : De bdX7_ownSlug_0 0 (.iload_n 1) 1 ∧ De bdX7_ownSlug_0 1 (.ifCond .lt 12) 3 ∧ De bdX7_ownSlug_0 4 (.iload_n 1) 1 ∧ De bdX7_ownSlug_0 5 (.aload_n 0) 1 ∧ De bdX7_ownSlug_0 6 (.getfield 56) 3 ∧ De bdX7_ownSlug_0 9 (.arraylength) 1 ∧ De bdX7_ownSlug_0 10 (.if_icmp .lt 11) 3 ∧ De bdX7_ownSlug_0 13 (.new 54) 3 ∧ De bdX7_ownSlug_0 16 (.dup) 1 ∧ De bdX7_ownSlug_0 17 (.invokespecial 132) 3 ∧ De bdX7_ownSlug_0 20 (.areturn) 1 ∧ De bdX7_ownSlug_0 21 (.aload_n 0) 1 ∧ De bdX7_ownSlug_0 22 (.getfield 56) 3 ∧ De bdX7_ownSlug_0 25 (.iload_n 1) 1 ∧ De bdX7_ownSlug_0 26 (.aaload) 1 ∧ De bdX7_ownSlug_0 27 (.ifnonnull 16) 3 := by decide +kernel
theorem dX7_ownSlug_0 : decode cX7_ownSlug 0 = .ok (.iload_n 1, 1) := dAt wdX7_ownSlug_0 adX7_ownSlug_0.1 rfl
theorem dX7_ownSlug_1 : decode cX7_ownSlug 1 = .ok (.ifCond .lt 12, 3) := dAt wdX7_ownSlug_0 adX7_ownSlug_0.2.1 rfl
theorem dX7_ownSlug_4 : decode cX7_ownSlug 4 = .ok (.iload_n 1, 1) := dAt wdX7_ownSlug_0 adX7_ownSlug_0.2.2.1 rfl
theorem dX7_ownSlug_5 : decode cX7_ownSlug 5 = .ok (.aload_n 0, 1) := dAt wdX7_ownSlug_0 adX7_ownSlug_0.2.2.2.1 rfl
theorem dX7_ownSlug_6 : decode cX7_ownSlug 6 = .ok (.getfield 56, 3) := dAt wdX7_ownSlug_0 adX7_ownSlug_0.2.2.2.2.1 rfl
theorem dX7_ownSlug_9 : decode cX7_ownSlug 9 = .ok (.arraylength, 1) := dAt wdX7_ownSlug_0 adX7_ownSlug_0.2.2.2.2.2.1 rfl
theorem dX7_ownSlug_10 : decode cX7_ownSlug 10 = .ok (.if_icmp .lt 11, 3) := dAt wdX7_ownSlug_0 adX7_ownSlug_0.2.2.2.2.2.2.1 rfl
theorem dX7_ownSlug_13 : decode cX7_ownSlug 13 = .ok (.new 54, 3) := dAt wdX7_ownSlug_0 adX7_ownSlug_0.2.2.2.2.2.2.2.1 rfl
theorem dX7_ownSlug_16 : decode cX7_ownSlug 16 = .ok (.dup, 1) := dAt wdX7_ownSlug_0 adX7_ownSlug_0.2.2.2.2.2.2.2.2.1 rfl
theorem dX7_ownSlug_17 : decode cX7_ownSlug 17 = .ok (.invokespecial 132, 3) := dAt wdX7_ownSlug_0 adX7_ownSlug_0.2.2.2.2.2.2.2.2.2.1 rfl
theorem dX7_ownSlug_20 : decode cX7_ownSlug 20 = .ok (.areturn, 1) := dAt wdX7_ownSlug_0 adX7_ownSlug_0.2.2.2.2.2.2.2.2.2.2.1 rfl
theorem dX7_ownSlug_21 : decode cX7_ownSlug 21 = .ok (.aload_n 0, 1) := dAt wdX7_ownSlug_0 adX7_ownSlug_0.2.2.2.2.2.2.2.2.2.2.2.1 rfl
theorem dX7_ownSlug_22 : decode cX7_ownSlug 22 = .ok (.getfield 56, 3) := dAt wdX7_ownSlug_0 adX7_ownSlug_0.2.2.2.2.2.2.2.2.2.2.2.2.1 rfl
theorem dX7_ownSlug_25 : decode cX7_ownSlug 25 = .ok (.iload_n 1, 1) := dAt wdX7_ownSlug_0 adX7_ownSlug_0.2.2.2.2.2.2.2.2.2.2.2.2.2.1 rfl
theorem dX7_ownSlug_26 : decode cX7_ownSlug 26 = .ok (.aaload, 1) := dAt wdX7_ownSlug_0 adX7_ownSlug_0.2.2.2.2.2.2.2.2.2.2.2.2.2.2.1 rfl
theorem dX7_ownSlug_27 : decode cX7_ownSlug 27 = .ok (.ifnonnull 16, 3) := dAt wdX7_ownSlug_0 adX7_ownSlug_0.2.2.2.2.2.2.2.2.2.2.2.2.2.2.2 rfl
def bdX7_ownSlug_30 : ByteArray := .mk #[42, 180, 0, 56, 27, 187, 0, 54, 89, 183, 0, 132, 83, 42, 180, 0, 56, 27, 50, 176]
theorem wdX7_ownSlug_30 : LocW cX7_ownSlug 30 bdX7_ownSlug_30 := loc_of (by decide +kernel)
theorem adX7_ownSlug_30 : De bdX7_ownSlug_30 0 (.aload_n 0) 1 ∧ De bdX7_ownSlug_30 1 (.getfield 56) 3 ∧ De bdX7_ownSlug_30 4 (.iload_n 1) 1 ∧ De bdX7_ownSlug_30 5 (.new 54) 3 ∧ De bdX7_ownSlug_30 8 (.dup) 1 ∧ De bdX7_ownSlug_30 9 (.invokespecial 132) 3 ∧ De bdX7_ownSlug_30 12 (.aastore) 1 ∧ De bdX7_ownSlug_30 13 (.aload_n 0) 1 ∧ De bdX7_ownSlug_30 14 (.getfield 56) 3 ∧ De bdX7_ownSlug_30 17 (.iload_n 1) 1 ∧ De bdX7_ownSlug_30 18 (.aaload) 1 ∧ De bdX7_ownSlug_30 19 (.areturn) 1 := by decide +kernel
theorem dX7_ownSlug_30 : decode cX7_ownSlug 30 = .ok (.aload_n 0, 1) := dAt wdX7_ownSlug_30 adX7_ownSlug_30.1 rfl
theorem dX7_ownSlug_31 : decode cX7_ownSlug 31 = .ok (.getfield 56, 3) := dAt wdX7_ownSlug_30 adX7_ownSlug_30.2.1 rfl
theorem dX7_ownSlug_34 : decode cX7_ownSlug 34 = .ok (.iload_n 1, 1) := dAt wdX7_ownSlug_30 adX7_ownSlug_30.2.2.1 rfl
theorem dX7_ownSlug_35 : decode cX7_ownSlug 35 = .ok (.new 54, 3) := dAt wdX7_ownSlug_30 adX7_ownSlug_30.2.2.2.1 rfl
theorem dX7_ownSlug_38 : decode cX7_ownSlug 38 = .ok (.dup, 1) := dAt wdX7_ownSlug_30 adX7_ownSlug_30.2.2.2.2.1 rfl
theorem dX7_ownSlug_39 : decode cX7_ownSlug 39 = .ok (.invokespecial 132, 3) := dAt wdX7_ownSlug_30 adX7_ownSlug_30.2.2.2.2.2.1 rfl
theorem dX7_ownSlug_42 : decode cX7_ownSlug 42 = .ok (.aastore, 1) := dAt wdX7_ownSlug_30 adX7_ownSlug_30.2.2.2.2.2.2.1 rfl
theorem dX7_ownSlug_43 : decode cX7_ownSlug 43 = .ok (.aload_n 0, 1) := dAt wdX7_ownSlug_30 adX7_ownSlug_30.2.2.2.2.2.2.2.1 rfl
theorem dX7_ownSlug_44 : decode cX7_ownSlug 44 = .ok (.getfield 56, 3) := dAt wdX7_ownSlug_30 adX7_ownSlug_30.2.2.2.2.2.2.2.2.1 rfl
theorem dX7_ownSlug_47 : decode cX7_ownSlug 47 = .ok (.iload_n 1, 1) := dAt wdX7_ownSlug_30 adX7_ownSlug_30.2.2.2.2.2.2.2.2.2.1 rfl
theorem dX7_ownSlug_48 : decode cX7_ownSlug 48 = .ok (.aaload, 1) := dAt wdX7_ownSlug_30 adX7_ownSlug_30.2.2.2.2.2.2.2.2.2.2.1 rfl
theorem dX7_ownSlug_49 : decode cX7_ownSlug 49 = .ok (.areturn, 1) := dAt wdX7_ownSlug_30 adX7_ownSlug_30.2.2.2.2.2.2.2.2.2.2.2 rfl
def bdX7_findPart_0 : ByteArray := .mk #[27, 155, 0, 22, 27, 8, 42, 180, 0, 42, 104, 162, 0, 12, 27, 42, 180, 0, 35, 190, 161, 0, 5, 1, 176, 27]
theorem wdX7_findPart_0 : LocW cX7_findPart 0 bdX7_findPart_0 := loc_of (by decide +kernel)
theorem adX7_findPart_0 : De bdX7_findPart_0 0 (.iload_n 1) 1 ∧ De bdX7_findPart_0 1 (.ifCond .lt 22) 3 ∧ De bdX7_findPart_0 4 (.iload_n 1) 1 ∧ De bdX7_findPart_0 5 (.iconst 5) 1 ∧ De bdX7_findPart_0 6 (.aload_n 0) 1 ∧ De bdX7_findPart_0 7 (.getfield 42) 3 ∧ De bdX7_findPart_0 10 (.imul) 1 ∧ De bdX7_findPart_0 11 (.if_icmp .ge 12) 3 ∧ De bdX7_findPart_0 14 (.iload_n 1) 1 ∧ De bdX7_findPart_0 15 (.aload_n 0) 1 ∧ De bdX7_findPart_0 16 (.getfield 35) 3 ∧ De bdX7_findPart_0 19 (.arraylength) 1 ∧ De bdX7_findPart_0 20 (.if_icmp .lt 5) 3 ∧ De bdX7_findPart_0 23 (.aconst_null) 1 ∧ De bdX7_findPart_0 24 (.areturn) 1 ∧ De bdX7_findPart_0 25 (.iload_n 1) 1 := by decide +kernel
theorem dX7_findPart_0 : decode cX7_findPart 0 = .ok (.iload_n 1, 1) := dAt wdX7_findPart_0 adX7_findPart_0.1 rfl
theorem dX7_findPart_1 : decode cX7_findPart 1 = .ok (.ifCond .lt 22, 3) := dAt wdX7_findPart_0 adX7_findPart_0.2.1 rfl
theorem dX7_findPart_4 : decode cX7_findPart 4 = .ok (.iload_n 1, 1) := dAt wdX7_findPart_0 adX7_findPart_0.2.2.1 rfl
theorem dX7_findPart_5 : decode cX7_findPart 5 = .ok (.iconst 5, 1) := dAt wdX7_findPart_0 adX7_findPart_0.2.2.2.1 rfl
theorem dX7_findPart_6 : decode cX7_findPart 6 = .ok (.aload_n 0, 1) := dAt wdX7_findPart_0 adX7_findPart_0.2.2.2.2.1 rfl
theorem dX7_findPart_7 : decode cX7_findPart 7 = .ok (.getfield 42, 3) := dAt wdX7_findPart_0 adX7_findPart_0.2.2.2.2.2.1 rfl
theorem dX7_findPart_10 : decode cX7_findPart 10 = .ok (.imul, 1) := dAt wdX7_findPart_0 adX7_findPart_0.2.2.2.2.2.2.1 rfl
theorem dX7_findPart_11 : decode cX7_findPart 11 = .ok (.if_icmp .ge 12, 3) := dAt wdX7_findPart_0 adX7_findPart_0.2.2.2.2.2.2.2.1 rfl
theorem dX7_findPart_14 : decode cX7_findPart 14 = .ok (.iload_n 1, 1) := dAt wdX7_findPart_0 adX7_findPart_0.2.2.2.2.2.2.2.2.1 rfl
theorem dX7_findPart_15 : decode cX7_findPart 15 = .ok (.aload_n 0, 1) := dAt wdX7_findPart_0 adX7_findPart_0.2.2.2.2.2.2.2.2.2.1 rfl
theorem dX7_findPart_16 : decode cX7_findPart 16 = .ok (.getfield 35, 3) := dAt wdX7_findPart_0 adX7_findPart_0.2.2.2.2.2.2.2.2.2.2.1 rfl
theorem dX7_findPart_19 : decode cX7_findPart 19 = .ok (.arraylength, 1) := dAt wdX7_findPart_0 adX7_findPart_0.2.2.2.2.2.2.2.2.2.2.2.1 rfl
theorem dX7_findPart_20 : decode cX7_findPart 20 = .ok (.if_icmp .lt 5, 3) := dAt wdX7_findPart_0 adX7_findPart_0.2.2.2.2.2.2.2.2.2.2.2.2.1 rfl
theorem dX7_findPart_23 : decode cX7_findPart 23 = .ok (.aconst_null, 1) := dAt wdX7_findPart_0 adX7_findPart_0.2.2.2.2.2.2.2.2.2.2.2.2.2.1 rfl
theorem dX7_findPart_24 : decode cX7_findPart 24 = .ok (.areturn, 1) := dAt wdX7_findPart_0 adX7_findPart_0.2.2.2.2.2.2.2.2.2.2.2.2.2.2.1 rfl
theorem dX7_findPart_25 : decode cX7_findPart 25 = .ok (.iload_n 1, 1) := dAt wdX7_findPart_0 adX7_findPart_0.2.2.2.2.2.2.2.2.2.2.2.2.2.2.2 rfl
def bdX7_findPart_26 : ByteArray := .mk #[8, 112, 42, 180, 0, 39, 27, 8, 108, 46, 162, 0, 12, 42, 180, 0, 35, 27, 50, 167, 0, 4, 1, 176]
theorem wdX7_findPart_26 : LocW cX7_findPart 26 bdX7_findPart_26 := loc_of (by decide +kernel)
theorem adX7_findPart_26 : De bdX7_findPart_26 0 (.iconst 5) 1 ∧ De bdX7_findPart_26 1 (.irem) 1 ∧ De bdX7_findPart_26 2 (.aload_n 0) 1 ∧ De bdX7_findPart_26 3 (.getfield 39) 3 ∧ De bdX7_findPart_26 6 (.iload_n 1) 1 ∧ De bdX7_findPart_26 7 (.iconst 5) 1 ∧ De bdX7_findPart_26 8 (.idiv) 1 ∧ De bdX7_findPart_26 9 (.iaload) 1 ∧ De bdX7_findPart_26 10 (.if_icmp .ge 12) 3 ∧ De bdX7_findPart_26 13 (.aload_n 0) 1 ∧ De bdX7_findPart_26 14 (.getfield 35) 3 ∧ De bdX7_findPart_26 17 (.iload_n 1) 1 ∧ De bdX7_findPart_26 18 (.aaload) 1 ∧ De bdX7_findPart_26 19 (.goto 4) 3 ∧ De bdX7_findPart_26 22 (.aconst_null) 1 ∧ De bdX7_findPart_26 23 (.areturn) 1 := by decide +kernel
theorem dX7_findPart_26 : decode cX7_findPart 26 = .ok (.iconst 5, 1) := dAt wdX7_findPart_26 adX7_findPart_26.1 rfl
theorem dX7_findPart_27 : decode cX7_findPart 27 = .ok (.irem, 1) := dAt wdX7_findPart_26 adX7_findPart_26.2.1 rfl
theorem dX7_findPart_28 : decode cX7_findPart 28 = .ok (.aload_n 0, 1) := dAt wdX7_findPart_26 adX7_findPart_26.2.2.1 rfl
theorem dX7_findPart_29 : decode cX7_findPart 29 = .ok (.getfield 39, 3) := dAt wdX7_findPart_26 adX7_findPart_26.2.2.2.1 rfl
theorem dX7_findPart_32 : decode cX7_findPart 32 = .ok (.iload_n 1, 1) := dAt wdX7_findPart_26 adX7_findPart_26.2.2.2.2.1 rfl
theorem dX7_findPart_33 : decode cX7_findPart 33 = .ok (.iconst 5, 1) := dAt wdX7_findPart_26 adX7_findPart_26.2.2.2.2.2.1 rfl
theorem dX7_findPart_34 : decode cX7_findPart 34 = .ok (.idiv, 1) := dAt wdX7_findPart_26 adX7_findPart_26.2.2.2.2.2.2.1 rfl
theorem dX7_findPart_35 : decode cX7_findPart 35 = .ok (.iaload, 1) := dAt wdX7_findPart_26 adX7_findPart_26.2.2.2.2.2.2.2.1 rfl
theorem dX7_findPart_36 : decode cX7_findPart 36 = .ok (.if_icmp .ge 12, 3) := dAt wdX7_findPart_26 adX7_findPart_26.2.2.2.2.2.2.2.2.1 rfl
theorem dX7_findPart_39 : decode cX7_findPart 39 = .ok (.aload_n 0, 1) := dAt wdX7_findPart_26 adX7_findPart_26.2.2.2.2.2.2.2.2.2.1 rfl
theorem dX7_findPart_40 : decode cX7_findPart 40 = .ok (.getfield 35, 3) := dAt wdX7_findPart_26 adX7_findPart_26.2.2.2.2.2.2.2.2.2.2.1 rfl
theorem dX7_findPart_43 : decode cX7_findPart 43 = .ok (.iload_n 1, 1) := dAt wdX7_findPart_26 adX7_findPart_26.2.2.2.2.2.2.2.2.2.2.2.1 rfl
theorem dX7_findPart_44 : decode cX7_findPart 44 = .ok (.aaload, 1) := dAt wdX7_findPart_26 adX7_findPart_26.2.2.2.2.2.2.2.2.2.2.2.2.1 rfl
theorem dX7_findPart_45 : decode cX7_findPart 45 = .ok (.goto 4, 3) := dAt wdX7_findPart_26 adX7_findPart_26.2.2.2.2.2.2.2.2.2.2.2.2.2.1 rfl
theorem dX7_findPart_48 : decode cX7_findPart 48 = .ok (.aconst_null, 1) := dAt wdX7_findPart_26 adX7_findPart_26.2.2.2.2.2.2.2.2.2.2.2.2.2.2.1 rfl
theorem dX7_findPart_49 : decode cX7_findPart 49 = .ok (.areturn, 1) := dAt wdX7_findPart_26 adX7_findPart_26.2.2.2.2.2.2.2.2.2.2.2.2.2.2.2 rfl
def bdX7_findMachine_0 : ByteArray := .mk #[27, 155, 0, 11, 27, 42, 180, 0, 51, 161, 0, 7, 1, 167, 0, 9, 42, 180, 0, 47, 27, 50, 176]
theorem wdX7_findMachine_0 : LocW cX7_findMachine 0 bdX7_findMachine_0 := loc_of (by decide +kernel)
theorem adX7_findMachine_0 : De bdX7_findMachine_0 0 (.iload_n 1) 1 ∧ De bdX7_findMachine_0 1 (.ifCond .lt 11) 3 ∧ De bdX7_findMachine_0 4 (.iload_n 1) 1 ∧ De bdX7_findMachine_0 5 (.aload_n 0) 1 ∧ De bdX7_findMachine_0 6 (.getfield 51) 3 ∧ De bdX7_findMachine_0 9 (.if_icmp .lt 7) 3 ∧ De bdX7_findMachine_0 12 (.aconst_null) 1 ∧ De bdX7_findMachine_0 13 (.goto 9) 3 ∧ De bdX7_findMachine_0 16 (.aload_n 0) 1 ∧ De bdX7_findMachine_0 17 (.getfield 47) 3 ∧ De bdX7_findMachine_0 20 (.iload_n 1) 1 ∧ De bdX7_findMachine_0 21 (.aaload) 1 ∧ De bdX7_findMachine_0 22 (.areturn) 1 := by decide +kernel
theorem dX7_findMachine_0 : decode cX7_findMachine 0 = .ok (.iload_n 1, 1) := dAt wdX7_findMachine_0 adX7_findMachine_0.1 rfl
theorem dX7_findMachine_1 : decode cX7_findMachine 1 = .ok (.ifCond .lt 11, 3) := dAt wdX7_findMachine_0 adX7_findMachine_0.2.1 rfl
theorem dX7_findMachine_4 : decode cX7_findMachine 4 = .ok (.iload_n 1, 1) := dAt wdX7_findMachine_0 adX7_findMachine_0.2.2.1 rfl
theorem dX7_findMachine_5 : decode cX7_findMachine 5 = .ok (.aload_n 0, 1) := dAt wdX7_findMachine_0 adX7_findMachine_0.2.2.2.1 rfl
theorem dX7_findMachine_6 : decode cX7_findMachine 6 = .ok (.getfield 51, 3) := dAt wdX7_findMachine_0 adX7_findMachine_0.2.2.2.2.1 rfl
theorem dX7_findMachine_9 : decode cX7_findMachine 9 = .ok (.if_icmp .lt 7, 3) := dAt wdX7_findMachine_0 adX7_findMachine_0.2.2.2.2.2.1 rfl
theorem dX7_findMachine_12 : decode cX7_findMachine 12 = .ok (.aconst_null, 1) := dAt wdX7_findMachine_0 adX7_findMachine_0.2.2.2.2.2.2.1 rfl
theorem dX7_findMachine_13 : decode cX7_findMachine 13 = .ok (.goto 9, 3) := dAt wdX7_findMachine_0 adX7_findMachine_0.2.2.2.2.2.2.2.1 rfl
theorem dX7_findMachine_16 : decode cX7_findMachine 16 = .ok (.aload_n 0, 1) := dAt wdX7_findMachine_0 adX7_findMachine_0.2.2.2.2.2.2.2.2.1 rfl
theorem dX7_findMachine_17 : decode cX7_findMachine 17 = .ok (.getfield 47, 3) := dAt wdX7_findMachine_0 adX7_findMachine_0.2.2.2.2.2.2.2.2.2.1 rfl
theorem dX7_findMachine_20 : decode cX7_findMachine 20 = .ok (.iload_n 1, 1) := dAt wdX7_findMachine_0 adX7_findMachine_0.2.2.2.2.2.2.2.2.2.2.1 rfl
theorem dX7_findMachine_21 : decode cX7_findMachine 21 = .ok (.aaload, 1) := dAt wdX7_findMachine_0 adX7_findMachine_0.2.2.2.2.2.2.2.2.2.2.2.1 rfl
theorem dX7_findMachine_22 : decode cX7_findMachine 22 = .ok (.areturn, 1) := dAt wdX7_findMachine_0 adX7_findMachine_0.2.2.2.2.2.2.2.2.2.2.2.2 rfl
def bdX7_findSlug_0 : ByteArray := .mk #[27, 155, 0, 11, 27, 42, 180, 0, 60, 161, 0, 7, 1, 167, 0, 9, 42, 180, 0, 56, 27, 50, 176]
theorem wdX7_findSlug_0 : LocW cX7_findSlug 0 bdX7_findSlug_0 := loc_of (by decide +kernel)
theorem adX7_findSlug_0 : De bdX7_findSlug_0 0 (.iload_n 1) 1 ∧ De bdX7_findSlug_0 1 (.ifCond .lt 11) 3 ∧ De bdX7_findSlug_0 4 (.iload_n 1) 1 ∧ De bdX7_findSlug_0 5 (.aload_n 0) 1 ∧ De bdX7_findSlug_0 6 (.getfield 60) 3 ∧ De bdX7_findSlug_0 9 (.if_icmp .lt 7) 3 ∧ De bdX7_findSlug_0 12 (.aconst_null) 1 ∧ De bdX7_findSlug_0 13 (.goto 9) 3 ∧ De bdX7_findSlug_0 16 (.aload_n 0) 1 ∧ De bdX7_findSlug_0 17 (.getfield 56) 3 ∧ De bdX7_findSlug_0 20 (.iload_n 1) 1 ∧ De bdX7_findSlug_0 21 (.aaload) 1 ∧ De bdX7_findSlug_0 22 (.areturn) 1 := by decide +kernel
theorem dX7_findSlug_0 : decode cX7_findSlug 0 = .ok (.iload_n 1, 1) := dAt wdX7_findSlug_0 adX7_findSlug_0.1 rfl
theorem dX7_findSlug_1 : decode cX7_findSlug 1 = .ok (.ifCond .lt 11, 3) := dAt wdX7_findSlug_0 adX7_findSlug_0.2.1 rfl
theorem dX7_findSlug_4 : decode cX7_findSlug 4 = .ok (.iload_n 1, 1) := dAt wdX7_findSlug_0 adX7_findSlug_0.2.2.1 rfl
theorem dX7_findSlug_5 : decode cX7_findSlug 5 = .ok (.aload_n 0, 1) := dAt wdX7_findSlug_0 adX7_findSlug_0.2.2.2.1 rfl
theorem dX7_findSlug_6 : decode cX7_findSlug 6 = .ok (.getfield 60, 3) := dAt wdX7_findSlug_0 adX7_findSlug_0.2.2.2.2.1 rfl
theorem dX7_findSlug_9 : decode cX7_findSlug 9 = .ok (.if_icmp .lt 7, 3) := dAt wdX7_findSlug_0 adX7_findSlug_0.2.2.2.2.2.1 rfl
theorem dX7_findSlug_12 : decode cX7_findSlug 12 = .ok (.aconst_null, 1) := dAt wdX7_findSlug_0 adX7_findSlug_0.2.2.2.2.2.2.1 rfl
theorem dX7_findSlug_13 : decode cX7_findSlug 13 = .ok (.goto 9, 3) := dAt wdX7_findSlug_0 adX7_findSlug_0.2.2.2.2.2.2.2.1 rfl
theorem dX7_findSlug_16 : decode cX7_findSlug 16 = .ok (.aload_n 0, 1) := dAt wdX7_findSlug_0 adX7_findSlug_0.2.2.2.2.2.2.2.2.1 rfl
theorem dX7_findSlug_17 : decode cX7_findSlug 17 = .ok (.getfield 56, 3) := dAt wdX7_findSlug_0 adX7_findSlug_0.2.2.2.2.2.2.2.2.2.1 rfl
theorem dX7_findSlug_20 : decode cX7_findSlug 20 = .ok (.iload_n 1, 1) := dAt wdX7_findSlug_0 adX7_findSlug_0.2.2.2.2.2.2.2.2.2.2.1 rfl
theorem dX7_findSlug_21 : decode cX7_findSlug 21 = .ok (.aaload, 1) := dAt wdX7_findSlug_0 adX7_findSlug_0.2.2.2.2.2.2.2.2.2.2.2.1 rfl
theorem dX7_findSlug_22 : decode cX7_findSlug 22 = .ok (.areturn, 1) := dAt wdX7_findSlug_0 adX7_findSlug_0.2.2.2.2.2.2.2.2.2.2.2.2 rfl
def bdX7_addStory_0 : ByteArray := .mk #[3, 54, 5, 3, 54, 6, 3, 54, 7, 21, 7, 28, 163, 0, 72, 21, 5, 8, 162, 0, 66, 21, 7, 28, 159, 0, 12, 43]
theorem wdX7_addStory_0 : LocW cX7_addStory 0 bdX7_addStory_0 := loc_of (by decide +kernel)
theorem adX7_addStory_0 : De bdX7_addStory_0 0 (.iconst 0) 1 ∧ De bdX7_addStory_0 1 (.istore 5) 2 ∧ De bdX7_addStory_0 3 (.iconst 0) 1 ∧ De bdX7_addStory_0 4 (.istore 6) 2 ∧ De bdX7_addStory_0 6 (.iconst 0) 1 ∧ De bdX7_addStory_0 7 (.istore 7) 2 ∧ De bdX7_addStory_0 9 (.iload 7) 2 ∧ De bdX7_addStory_0 11 (.iload_n 2) 1 ∧ De bdX7_addStory_0 12 (.if_icmp .gt 72) 3 ∧ De bdX7_addStory_0 15 (.iload 5) 2 ∧ De bdX7_addStory_0 17 (.iconst 5) 1 ∧ De bdX7_addStory_0 18 (.if_icmp .ge 66) 3 ∧ De bdX7_addStory_0 21 (.iload 7) 2 ∧ De bdX7_addStory_0 23 (.iload_n 2) 1 ∧ De bdX7_addStory_0 24 (.if_icmp .eq 12) 3 ∧ De bdX7_addStory_0 27 (.aload_n 1) 1 := by decide +kernel
theorem dX7_addStory_0 : decode cX7_addStory 0 = .ok (.iconst 0, 1) := dAt wdX7_addStory_0 adX7_addStory_0.1 rfl
theorem dX7_addStory_1 : decode cX7_addStory 1 = .ok (.istore 5, 2) := dAt wdX7_addStory_0 adX7_addStory_0.2.1 rfl
theorem dX7_addStory_3 : decode cX7_addStory 3 = .ok (.iconst 0, 1) := dAt wdX7_addStory_0 adX7_addStory_0.2.2.1 rfl
theorem dX7_addStory_4 : decode cX7_addStory 4 = .ok (.istore 6, 2) := dAt wdX7_addStory_0 adX7_addStory_0.2.2.2.1 rfl
theorem dX7_addStory_6 : decode cX7_addStory 6 = .ok (.iconst 0, 1) := dAt wdX7_addStory_0 adX7_addStory_0.2.2.2.2.1 rfl
theorem dX7_addStory_7 : decode cX7_addStory 7 = .ok (.istore 7, 2) := dAt wdX7_addStory_0 adX7_addStory_0.2.2.2.2.2.1 rfl
theorem dX7_addStory_9 : decode cX7_addStory 9 = .ok (.iload 7, 2) := dAt wdX7_addStory_0 adX7_addStory_0.2.2.2.2.2.2.1 rfl
theorem dX7_addStory_11 : decode cX7_addStory 11 = .ok (.iload_n 2, 1) := dAt wdX7_addStory_0 adX7_addStory_0.2.2.2.2.2.2.2.1 rfl
theorem dX7_addStory_12 : decode cX7_addStory 12 = .ok (.if_icmp .gt 72, 3) := dAt wdX7_addStory_0 adX7_addStory_0.2.2.2.2.2.2.2.2.1 rfl
theorem dX7_addStory_15 : decode cX7_addStory 15 = .ok (.iload 5, 2) := dAt wdX7_addStory_0 adX7_addStory_0.2.2.2.2.2.2.2.2.2.1 rfl
theorem dX7_addStory_17 : decode cX7_addStory 17 = .ok (.iconst 5, 1) := dAt wdX7_addStory_0 adX7_addStory_0.2.2.2.2.2.2.2.2.2.2.1 rfl
theorem dX7_addStory_18 : decode cX7_addStory 18 = .ok (.if_icmp .ge 66, 3) := dAt wdX7_addStory_0 adX7_addStory_0.2.2.2.2.2.2.2.2.2.2.2.1 rfl
theorem dX7_addStory_21 : decode cX7_addStory 21 = .ok (.iload 7, 2) := dAt wdX7_addStory_0 adX7_addStory_0.2.2.2.2.2.2.2.2.2.2.2.2.1 rfl
theorem dX7_addStory_23 : decode cX7_addStory 23 = .ok (.iload_n 2, 1) := dAt wdX7_addStory_0 adX7_addStory_0.2.2.2.2.2.2.2.2.2.2.2.2.2.1 rfl
theorem dX7_addStory_24 : decode cX7_addStory 24 = .ok (.if_icmp .eq 12, 3) := dAt wdX7_addStory_0 adX7_addStory_0.2.2.2.2.2.2.2.2.2.2.2.2.2.2.1 rfl
theorem dX7_addStory_27 : decode cX7_addStory 27 = .ok (.aload_n 1, 1) := dAt wdX7_addStory_0 adX7_addStory_0.2.2.2.2.2.2.2.2.2.2.2.2.2.2.2 rfl
def bdX7_addStory_28 : ByteArray := .mk #[21, 7, 51, 16, 47, 160, 0, 45, 42, 8, 42, 180, 0, 42, 104, 21, 5, 96, 182, 0, 124, 58, 8, 25, 8, 29, 21, 4]
theorem wdX7_addStory_28 : LocW cX7_addStory 28 bdX7_addStory_28 := loc_of (by decide +kernel)
theorem adX7_addStory_28 : De bdX7_addStory_28 0 (.iload 7) 2 ∧ De bdX7_addStory_28 2 (.baload) 1 ∧ De bdX7_addStory_28 3 (.bipush 47) 2 ∧ De bdX7_addStory_28 5 (.if_icmp .ne 45) 3 ∧ De bdX7_addStory_28 8 (.aload_n 0) 1 ∧ De bdX7_addStory_28 9 (.iconst 5) 1 ∧ De bdX7_addStory_28 10 (.aload_n 0) 1 ∧ De bdX7_addStory_28 11 (.getfield 42) 3 ∧ De bdX7_addStory_28 14 (.imul) 1 ∧ De bdX7_addStory_28 15 (.iload 5) 2 ∧ De bdX7_addStory_28 17 (.iadd) 1 ∧ De bdX7_addStory_28 18 (.invokevirtual 124) 3 ∧ De bdX7_addStory_28 21 (.astore 8) 2 ∧ De bdX7_addStory_28 23 (.aload 8) 2 ∧ De bdX7_addStory_28 25 (.iload_n 3) 1 ∧ De bdX7_addStory_28 26 (.iload 4) 2 := by decide +kernel
theorem dX7_addStory_28 : decode cX7_addStory 28 = .ok (.iload 7, 2) := dAt wdX7_addStory_28 adX7_addStory_28.1 rfl
theorem dX7_addStory_30 : decode cX7_addStory 30 = .ok (.baload, 1) := dAt wdX7_addStory_28 adX7_addStory_28.2.1 rfl
theorem dX7_addStory_31 : decode cX7_addStory 31 = .ok (.bipush 47, 2) := dAt wdX7_addStory_28 adX7_addStory_28.2.2.1 rfl
theorem dX7_addStory_33 : decode cX7_addStory 33 = .ok (.if_icmp .ne 45, 3) := dAt wdX7_addStory_28 adX7_addStory_28.2.2.2.1 rfl
theorem dX7_addStory_36 : decode cX7_addStory 36 = .ok (.aload_n 0, 1) := dAt wdX7_addStory_28 adX7_addStory_28.2.2.2.2.1 rfl
theorem dX7_addStory_37 : decode cX7_addStory 37 = .ok (.iconst 5, 1) := dAt wdX7_addStory_28 adX7_addStory_28.2.2.2.2.2.1 rfl
theorem dX7_addStory_38 : decode cX7_addStory 38 = .ok (.aload_n 0, 1) := dAt wdX7_addStory_28 adX7_addStory_28.2.2.2.2.2.2.1 rfl
theorem dX7_addStory_39 : decode cX7_addStory 39 = .ok (.getfield 42, 3) := dAt wdX7_addStory_28 adX7_addStory_28.2.2.2.2.2.2.2.1 rfl
theorem dX7_addStory_42 : decode cX7_addStory 42 = .ok (.imul, 1) := dAt wdX7_addStory_28 adX7_addStory_28.2.2.2.2.2.2.2.2.1 rfl
theorem dX7_addStory_43 : decode cX7_addStory 43 = .ok (.iload 5, 2) := dAt wdX7_addStory_28 adX7_addStory_28.2.2.2.2.2.2.2.2.2.1 rfl
theorem dX7_addStory_45 : decode cX7_addStory 45 = .ok (.iadd, 1) := dAt wdX7_addStory_28 adX7_addStory_28.2.2.2.2.2.2.2.2.2.2.1 rfl
theorem dX7_addStory_46 : decode cX7_addStory 46 = .ok (.invokevirtual 124, 3) := dAt wdX7_addStory_28 adX7_addStory_28.2.2.2.2.2.2.2.2.2.2.2.1 rfl
theorem dX7_addStory_49 : decode cX7_addStory 49 = .ok (.astore 8, 2) := dAt wdX7_addStory_28 adX7_addStory_28.2.2.2.2.2.2.2.2.2.2.2.2.1 rfl
theorem dX7_addStory_51 : decode cX7_addStory 51 = .ok (.aload 8, 2) := dAt wdX7_addStory_28 adX7_addStory_28.2.2.2.2.2.2.2.2.2.2.2.2.2.1 rfl
theorem dX7_addStory_53 : decode cX7_addStory 53 = .ok (.iload_n 3, 1) := dAt wdX7_addStory_28 adX7_addStory_28.2.2.2.2.2.2.2.2.2.2.2.2.2.2.1 rfl
theorem dX7_addStory_54 : decode cX7_addStory 54 = .ok (.iload 4, 2) := dAt wdX7_addStory_28 adX7_addStory_28.2.2.2.2.2.2.2.2.2.2.2.2.2.2.2 rfl
def bdX7_addStory_56 : ByteArray := .mk #[182, 0, 133, 25, 8, 43, 21, 6, 21, 7, 182, 0, 137, 21, 7, 4, 96, 54, 6, 132, 5, 1, 132, 7, 1, 167, 255, 184, 42, 180, 0, 39, 42]
theorem wdX7_addStory_56 : LocW cX7_addStory 56 bdX7_addStory_56 := loc_of (by decide +kernel)
theorem adX7_addStory_56 : De bdX7_addStory_56 0 (.invokevirtual 133) 3 ∧ De bdX7_addStory_56 3 (.aload 8) 2 ∧ De bdX7_addStory_56 5 (.aload_n 1) 1 ∧ De bdX7_addStory_56 6 (.iload 6) 2 ∧ De bdX7_addStory_56 8 (.iload 7) 2 ∧ De bdX7_addStory_56 10 (.invokevirtual 137) 3 ∧ De bdX7_addStory_56 13 (.iload 7) 2 ∧ De bdX7_addStory_56 15 (.iconst 1) 1 ∧ De bdX7_addStory_56 16 (.iadd) 1 ∧ De bdX7_addStory_56 17 (.istore 6) 2 ∧ De bdX7_addStory_56 19 (.iinc 5 1) 3 ∧ De bdX7_addStory_56 22 (.iinc 7 1) 3 ∧ De bdX7_addStory_56 25 (.goto (-72)) 3 ∧ De bdX7_addStory_56 28 (.aload_n 0) 1 ∧ De bdX7_addStory_56 29 (.getfield 39) 3 ∧ De bdX7_addStory_56 32 (.aload_n 0) 1 := by decide +kernel
theorem dX7_addStory_56 : decode cX7_addStory 56 = .ok (.invokevirtual 133, 3) := dAt wdX7_addStory_56 adX7_addStory_56.1 rfl
theorem dX7_addStory_59 : decode cX7_addStory 59 = .ok (.aload 8, 2) := dAt wdX7_addStory_56 adX7_addStory_56.2.1 rfl
theorem dX7_addStory_61 : decode cX7_addStory 61 = .ok (.aload_n 1, 1) := dAt wdX7_addStory_56 adX7_addStory_56.2.2.1 rfl
theorem dX7_addStory_62 : decode cX7_addStory 62 = .ok (.iload 6, 2) := dAt wdX7_addStory_56 adX7_addStory_56.2.2.2.1 rfl
theorem dX7_addStory_64 : decode cX7_addStory 64 = .ok (.iload 7, 2) := dAt wdX7_addStory_56 adX7_addStory_56.2.2.2.2.1 rfl
theorem dX7_addStory_66 : decode cX7_addStory 66 = .ok (.invokevirtual 137, 3) := dAt wdX7_addStory_56 adX7_addStory_56.2.2.2.2.2.1 rfl
theorem dX7_addStory_69 : decode cX7_addStory 69 = .ok (.iload 7, 2) := dAt wdX7_addStory_56 adX7_addStory_56.2.2.2.2.2.2.1 rfl
theorem dX7_addStory_71 : decode cX7_addStory 71 = .ok (.iconst 1, 1) := dAt wdX7_addStory_56 adX7_addStory_56.2.2.2.2.2.2.2.1 rfl
theorem dX7_addStory_72 : decode cX7_addStory 72 = .ok (.iadd, 1) := dAt wdX7_addStory_56 adX7_addStory_56.2.2.2.2.2.2.2.2.1 rfl
theorem dX7_addStory_73 : decode cX7_addStory 73 = .ok (.istore 6, 2) := dAt wdX7_addStory_56 adX7_addStory_56.2.2.2.2.2.2.2.2.2.1 rfl
theorem dX7_addStory_75 : decode cX7_addStory 75 = .ok (.iinc 5 1, 3) := dAt wdX7_addStory_56 adX7_addStory_56.2.2.2.2.2.2.2.2.2.2.1 rfl
theorem dX7_addStory_78 : decode cX7_addStory 78 = .ok (.iinc 7 1, 3) := dAt wdX7_addStory_56 adX7_addStory_56.2.2.2.2.2.2.2.2.2.2.2.1 rfl
theorem dX7_addStory_81 : decode cX7_addStory 81 = .ok (.goto (-72), 3) := dAt wdX7_addStory_56 adX7_addStory_56.2.2.2.2.2.2.2.2.2.2.2.2.1 rfl
theorem dX7_addStory_84 : decode cX7_addStory 84 = .ok (.aload_n 0, 1) := dAt wdX7_addStory_56 adX7_addStory_56.2.2.2.2.2.2.2.2.2.2.2.2.2.1 rfl
theorem dX7_addStory_85 : decode cX7_addStory 85 = .ok (.getfield 39, 3) := dAt wdX7_addStory_56 adX7_addStory_56.2.2.2.2.2.2.2.2.2.2.2.2.2.2.1 rfl
theorem dX7_addStory_88 : decode cX7_addStory 88 = .ok (.aload_n 0, 1) := dAt wdX7_addStory_56 adX7_addStory_56.2.2.2.2.2.2.2.2.2.2.2.2.2.2.2 rfl
def bdX7_addStory_89 : ByteArray := .mk #[180, 0, 42, 21, 5, 79, 42, 89, 180, 0, 42, 4, 96, 181, 0, 42, 42, 180, 0, 42, 4, 100, 172]
theorem wdX7_addStory_89 : LocW cX7_addStory 89 bdX7_addStory_89 := loc_of (by decide +kernel)
theorem adX7_addStory_89 : De bdX7_addStory_89 0 (.getfield 42) 3 ∧ De bdX7_addStory_89 3 (.iload 5) 2 ∧ De bdX7_addStory_89 5 (.iastore) 1 ∧ De bdX7_addStory_89 6 (.aload_n 0) 1 ∧ De bdX7_addStory_89 7 (.dup) 1 ∧ De bdX7_addStory_89 8 (.getfield 42) 3 ∧ De bdX7_addStory_89 11 (.iconst 1) 1 ∧ De bdX7_addStory_89 12 (.iadd) 1 ∧ De bdX7_addStory_89 13 (.putfield 42) 3 ∧ De bdX7_addStory_89 16 (.aload_n 0) 1 ∧ De bdX7_addStory_89 17 (.getfield 42) 3 ∧ De bdX7_addStory_89 20 (.iconst 1) 1 ∧ De bdX7_addStory_89 21 (.isub) 1 ∧ De bdX7_addStory_89 22 (.ireturn) 1 := by decide +kernel
theorem dX7_addStory_89 : decode cX7_addStory 89 = .ok (.getfield 42, 3) := dAt wdX7_addStory_89 adX7_addStory_89.1 rfl
theorem dX7_addStory_92 : decode cX7_addStory 92 = .ok (.iload 5, 2) := dAt wdX7_addStory_89 adX7_addStory_89.2.1 rfl
theorem dX7_addStory_94 : decode cX7_addStory 94 = .ok (.iastore, 1) := dAt wdX7_addStory_89 adX7_addStory_89.2.2.1 rfl
theorem dX7_addStory_95 : decode cX7_addStory 95 = .ok (.aload_n 0, 1) := dAt wdX7_addStory_89 adX7_addStory_89.2.2.2.1 rfl
theorem dX7_addStory_96 : decode cX7_addStory 96 = .ok (.dup, 1) := dAt wdX7_addStory_89 adX7_addStory_89.2.2.2.2.1 rfl
theorem dX7_addStory_97 : decode cX7_addStory 97 = .ok (.getfield 42, 3) := dAt wdX7_addStory_89 adX7_addStory_89.2.2.2.2.2.1 rfl
theorem dX7_addStory_100 : decode cX7_addStory 100 = .ok (.iconst 1, 1) := dAt wdX7_addStory_89 adX7_addStory_89.2.2.2.2.2.2.1 rfl
theorem dX7_addStory_101 : decode cX7_addStory 101 = .ok (.iadd, 1) := dAt wdX7_addStory_89 adX7_addStory_89.2.2.2.2.2.2.2.1 rfl
theorem dX7_addStory_102 : decode cX7_addStory 102 = .ok (.putfield 42, 3) := dAt wdX7_addStory_89 adX7_addStory_89.2.2.2.2.2.2.2.2.1 rfl
theorem dX7_addStory_105 : decode cX7_addStory 105 = .ok (.aload_n 0, 1) := dAt wdX7_addStory_89 adX7_addStory_89.2.2.2.2.2.2.2.2.2.1 rfl
theorem dX7_addStory_106 : decode cX7_addStory 106 = .ok (.getfield 42, 3) := dAt wdX7_addStory_89 adX7_addStory_89.2.2.2.2.2.2.2.2.2.2.1 rfl
theorem dX7_addStory_109 : decode cX7_addStory 109 = .ok (.iconst 1, 1) := dAt wdX7_addStory_89 adX7_addStory_89.2.2.2.2.2.2.2.2.2.2.2.1 rfl
theorem dX7_addStory_110 : decode cX7_addStory 110 = .ok (.isub, 1) := dAt wdX7_addStory_89 adX7_addStory_89.2.2.2.2.2.2.2.2.2.2.2.2.1 rfl
theorem dX7_addStory_111 : decode cX7_addStory 111 = .ok (.ireturn, 1) := dAt wdX7_addStory_89 adX7_addStory_89.2.2.2.2.2.2.2.2.2.2.2.2.2 rfl
def bdX7_addStyle_0 : ByteArray := .mk #[42, 42, 180, 0, 25, 182, 0, 98, 78, 45, 43, 182, 0, 102, 45, 28, 181, 0, 141, 42, 89, 180, 0, 25, 4, 96]
theorem wdX7_addStyle_0 : LocW cX7_addStyle 0 bdX7_addStyle_0 := loc_of (by decide +kernel)
theorem adX7_addStyle_0 : De bdX7_addStyle_0 0 (.aload_n 0) 1 ∧ De bdX7_addStyle_0 1 (.aload_n 0) 1 ∧ De bdX7_addStyle_0 2 (.getfield 25) 3 ∧ De bdX7_addStyle_0 5 (.invokevirtual 98) 3 ∧ De bdX7_addStyle_0 8 (.astore_n 3) 1 ∧ De bdX7_addStyle_0 9 (.aload_n 3) 1 ∧ De bdX7_addStyle_0 10 (.aload_n 1) 1 ∧ De bdX7_addStyle_0 11 (.invokevirtual 102) 3 ∧ De bdX7_addStyle_0 14 (.aload_n 3) 1 ∧ De bdX7_addStyle_0 15 (.iload_n 2) 1 ∧ De bdX7_addStyle_0 16 (.putfield 141) 3 ∧ De bdX7_addStyle_0 19 (.aload_n 0) 1 ∧ De bdX7_addStyle_0 20 (.dup) 1 ∧ De bdX7_addStyle_0 21 (.getfield 25) 3 ∧ De bdX7_addStyle_0 24 (.iconst 1) 1 ∧ De bdX7_addStyle_0 25 (.iadd) 1 := by decide +kernel
theorem dX7_addStyle_0 : decode cX7_addStyle 0 = .ok (.aload_n 0, 1) := dAt wdX7_addStyle_0 adX7_addStyle_0.1 rfl
theorem dX7_addStyle_1 : decode cX7_addStyle 1 = .ok (.aload_n 0, 1) := dAt wdX7_addStyle_0 adX7_addStyle_0.2.1 rfl
theorem dX7_addStyle_2 : decode cX7_addStyle 2 = .ok (.getfield 25, 3) := dAt wdX7_addStyle_0 adX7_addStyle_0.2.2.1 rfl
theorem dX7_addStyle_5 : decode cX7_addStyle 5 = .ok (.invokevirtual 98, 3) := dAt wdX7_addStyle_0 adX7_addStyle_0.2.2.2.1 rfl
theorem dX7_addStyle_8 : decode cX7_addStyle 8 = .ok (.astore_n 3, 1) := dAt wdX7_addStyle_0 adX7_addStyle_0.2.2.2.2.1 rfl
theorem dX7_addStyle_9 : decode cX7_addStyle 9 = .ok (.aload_n 3, 1) := dAt wdX7_addStyle_0 adX7_addStyle_0.2.2.2.2.2.1 rfl
theorem dX7_addStyle_10 : decode cX7_addStyle 10 = .ok (.aload_n 1, 1) := dAt wdX7_addStyle_0 adX7_addStyle_0.2.2.2.2.2.2.1 rfl
theorem dX7_addStyle_11 : decode cX7_addStyle 11 = .ok (.invokevirtual 102, 3) := dAt wdX7_addStyle_0 adX7_addStyle_0.2.2.2.2.2.2.2.1 rfl
theorem dX7_addStyle_14 : decode cX7_addStyle 14 = .ok (.aload_n 3, 1) := dAt wdX7_addStyle_0 adX7_addStyle_0.2.2.2.2.2.2.2.2.1 rfl
theorem dX7_addStyle_15 : decode cX7_addStyle 15 = .ok (.iload_n 2, 1) := dAt wdX7_addStyle_0 adX7_addStyle_0.2.2.2.2.2.2.2.2.2.1 rfl
theorem dX7_addStyle_16 : decode cX7_addStyle 16 = .ok (.putfield 141, 3) := dAt wdX7_addStyle_0 adX7_addStyle_0.2.2.2.2.2.2.2.2.2.2.1 rfl
theorem dX7_addStyle_19 : decode cX7_addStyle 19 = .ok (.aload_n 0, 1) := dAt wdX7_addStyle_0 adX7_addStyle_0.2.2.2.2.2.2.2.2.2.2.2.1 rfl
theorem dX7_addStyle_20 : decode cX7_addStyle 20 = .ok (.dup, 1) := dAt wdX7_addStyle_0 adX7_addStyle_0.2.2.2.2.2.2.2.2.2.2.2.2.1 rfl
theorem dX7_addStyle_21 : decode cX7_addStyle 21 = .ok (.getfield 25, 3) := dAt wdX7_addStyle_0 adX7_addStyle_0.2.2.2.2.2.2.2.2.2.2.2.2.2.1 rfl
theorem dX7_addStyle_24 : decode cX7_addStyle 24 = .ok (.iconst 1, 1) := dAt wdX7_addStyle_0 adX7_addStyle_0.2.2.2.2.2.2.2.2.2.2.2.2.2.2.1 rfl
theorem dX7_addStyle_25 : decode cX7_addStyle 25 = .ok (.iadd, 1) := dAt wdX7_addStyle_0 adX7_addStyle_0.2.2.2.2.2.2.2.2.2.2.2.2.2.2.2 rfl
def bdX7_addStyle_26 : ByteArray := .mk #[181, 0, 25, 177]
theorem wdX7_addStyle_26 : LocW cX7_addStyle 26 bdX7_addStyle_26 := loc_of (by decide +kernel)
theorem adX7_addStyle_26 : De bdX7_addStyle_26 0 (.putfield 25) 3 ∧ De bdX7_addStyle_26 3 (.return_) 1 := by decide +kernel
theorem dX7_addStyle_26 : decode cX7_addStyle 26 = .ok (.putfield 25, 3) := dAt wdX7_addStyle_26 adX7_addStyle_26.1 rfl
theorem dX7_addStyle_29 : decode cX7_addStyle 29 = .ok (.return_, 1) := dAt wdX7_addStyle_26 adX7_addStyle_26.2 rfl
def bdX7_addMachine_0 : ByteArray := .mk #[42, 42, 180, 0, 51, 182, 0, 106, 27, 28, 182, 0, 144, 42, 89, 180, 0, 51, 4, 96, 181, 0, 51, 42, 180, 0, 51, 4]
theorem wdX7_addMachine_0 : LocW cX7_addMachine 0 bdX7_addMachine_0 := loc_of (by decide +kernel)
theorem adX7_addMachine_0 : De bdX7_addMachine_0 0 (.aload_n 0) 1 ∧ De bdX7_addMachine_0 1 (.aload_n 0) 1 ∧ De bdX7_addMachine_0 2 (.getfield 51) 3 ∧ De bdX7_addMachine_0 5 (.invokevirtual 106) 3 ∧ De bdX7_addMachine_0 8 (.iload_n 1) 1 ∧ De bdX7_addMachine_0 9 (.iload_n 2) 1 ∧ De bdX7_addMachine_0 10 (.invokevirtual 144) 3 ∧ De bdX7_addMachine_0 13 (.aload_n 0) 1 ∧ De bdX7_addMachine_0 14 (.dup) 1 ∧ De bdX7_addMachine_0 15 (.getfield 51) 3 ∧ De bdX7_addMachine_0 18 (.iconst 1) 1 ∧ De bdX7_addMachine_0 19 (.iadd) 1 ∧ De bdX7_addMachine_0 20 (.putfield 51) 3 ∧ De bdX7_addMachine_0 23 (.aload_n 0) 1 ∧ De bdX7_addMachine_0 24 (.getfield 51) 3 ∧ De bdX7_addMachine_0 27 (.iconst 1) 1 := by decide +kernel
theorem dX7_addMachine_0 : decode cX7_addMachine 0 = .ok (.aload_n 0, 1) := dAt wdX7_addMachine_0 adX7_addMachine_0.1 rfl
theorem dX7_addMachine_1 : decode cX7_addMachine 1 = .ok (.aload_n 0, 1) := dAt wdX7_addMachine_0 adX7_addMachine_0.2.1 rfl
theorem dX7_addMachine_2 : decode cX7_addMachine 2 = .ok (.getfield 51, 3) := dAt wdX7_addMachine_0 adX7_addMachine_0.2.2.1 rfl
theorem dX7_addMachine_5 : decode cX7_addMachine 5 = .ok (.invokevirtual 106, 3) := dAt wdX7_addMachine_0 adX7_addMachine_0.2.2.2.1 rfl
theorem dX7_addMachine_8 : decode cX7_addMachine 8 = .ok (.iload_n 1, 1) := dAt wdX7_addMachine_0 adX7_addMachine_0.2.2.2.2.1 rfl
theorem dX7_addMachine_9 : decode cX7_addMachine 9 = .ok (.iload_n 2, 1) := dAt wdX7_addMachine_0 adX7_addMachine_0.2.2.2.2.2.1 rfl
theorem dX7_addMachine_10 : decode cX7_addMachine 10 = .ok (.invokevirtual 144, 3) := dAt wdX7_addMachine_0 adX7_addMachine_0.2.2.2.2.2.2.1 rfl
theorem dX7_addMachine_13 : decode cX7_addMachine 13 = .ok (.aload_n 0, 1) := dAt wdX7_addMachine_0 adX7_addMachine_0.2.2.2.2.2.2.2.1 rfl
theorem dX7_addMachine_14 : decode cX7_addMachine 14 = .ok (.dup, 1) := dAt wdX7_addMachine_0 adX7_addMachine_0.2.2.2.2.2.2.2.2.1 rfl
theorem dX7_addMachine_15 : decode cX7_addMachine 15 = .ok (.getfield 51, 3) := dAt wdX7_addMachine_0 adX7_addMachine_0.2.2.2.2.2.2.2.2.2.1 rfl
theorem dX7_addMachine_18 : decode cX7_addMachine 18 = .ok (.iconst 1, 1) := dAt wdX7_addMachine_0 adX7_addMachine_0.2.2.2.2.2.2.2.2.2.2.1 rfl
theorem dX7_addMachine_19 : decode cX7_addMachine 19 = .ok (.iadd, 1) := dAt wdX7_addMachine_0 adX7_addMachine_0.2.2.2.2.2.2.2.2.2.2.2.1 rfl
theorem dX7_addMachine_20 : decode cX7_addMachine 20 = .ok (.putfield 51, 3) := dAt wdX7_addMachine_0 adX7_addMachine_0.2.2.2.2.2.2.2.2.2.2.2.2.1 rfl
theorem dX7_addMachine_23 : decode cX7_addMachine 23 = .ok (.aload_n 0, 1) := dAt wdX7_addMachine_0 adX7_addMachine_0.2.2.2.2.2.2.2.2.2.2.2.2.2.1 rfl
theorem dX7_addMachine_24 : decode cX7_addMachine 24 = .ok (.getfield 51, 3) := dAt wdX7_addMachine_0 adX7_addMachine_0.2.2.2.2.2.2.2.2.2.2.2.2.2.2.1 rfl
theorem dX7_addMachine_27 : decode cX7_addMachine 27 = .ok (.iconst 1, 1) := dAt wdX7_addMachine_0 adX7_addMachine_0.2.2.2.2.2.2.2.2.2.2.2.2.2.2.2 rfl
def bdX7_addMachine_28 : ByteArray := .mk #[100, 172]
theorem wdX7_addMachine_28 : LocW cX7_addMachine 28 bdX7_addMachine_28 := loc_of (by decide +kernel)
theorem adX7_addMachine_28 : De bdX7_addMachine_28 0 (.isub) 1 ∧ De bdX7_addMachine_28 1 (.ireturn) 1 := by decide +kernel
theorem dX7_addMachine_28 : decode cX7_addMachine 28 = .ok (.isub, 1) := dAt wdX7_addMachine_28 adX7_addMachine_28.1 rfl
theorem dX7_addMachine_29 : decode cX7_addMachine 29 = .ok (.ireturn, 1) := dAt wdX7_addMachine_28 adX7_addMachine_28.2 rfl
def bdX7_styleAt_0 : ByteArray := .mk #[42, 180, 0, 29, 77, 3, 62, 29, 42, 180, 0, 25, 162, 0, 48, 42, 29, 182, 0, 98, 58, 4, 25, 4, 180, 0, 141, 27]
theorem wdX7_styleAt_0 : LocW cX7_styleAt 0 bdX7_styleAt_0 := loc_of (by decide +kernel)
theorem adX7_styleAt_0 : De bdX7_styleAt_0 0 (.aload_n 0) 1 ∧ De bdX7_styleAt_0 1 (.getfield 29) 3 ∧ De bdX7_styleAt_0 4 (.astore_n 2) 1 ∧ De bdX7_styleAt_0 5 (.iconst 0) 1 ∧ De bdX7_styleAt_0 6 (.istore_n 3) 1 ∧ De bdX7_styleAt_0 7 (.iload_n 3) 1 ∧ De bdX7_styleAt_0 8 (.aload_n 0) 1 ∧ De bdX7_styleAt_0 9 (.getfield 25) 3 ∧ De bdX7_styleAt_0 12 (.if_icmp .ge 48) 3 ∧ De bdX7_styleAt_0 15 (.aload_n 0) 1 ∧ De bdX7_styleAt_0 16 (.iload_n 3) 1 ∧ De bdX7_styleAt_0 17 (.invokevirtual 98) 3 ∧ De bdX7_styleAt_0 20 (.astore 4) 2 ∧ De bdX7_styleAt_0 22 (.aload 4) 2 ∧ De bdX7_styleAt_0 24 (.getfield 141) 3 ∧ De bdX7_styleAt_0 27 (.iload_n 1) 1 := by decide +kernel
theorem dX7_styleAt_0 : decode cX7_styleAt 0 = .ok (.aload_n 0, 1) := dAt wdX7_styleAt_0 adX7_styleAt_0.1 rfl
theorem dX7_styleAt_1 : decode cX7_styleAt 1 = .ok (.getfield 29, 3) := dAt wdX7_styleAt_0 adX7_styleAt_0.2.1 rfl
theorem dX7_styleAt_4 : decode cX7_styleAt 4 = .ok (.astore_n 2, 1) := dAt wdX7_styleAt_0 adX7_styleAt_0.2.2.1 rfl
theorem dX7_styleAt_5 : decode cX7_styleAt 5 = .ok (.iconst 0, 1) := dAt wdX7_styleAt_0 adX7_styleAt_0.2.2.2.1 rfl
theorem dX7_styleAt_6 : decode cX7_styleAt 6 = .ok (.istore_n 3, 1) := dAt wdX7_styleAt_0 adX7_styleAt_0.2.2.2.2.1 rfl
theorem dX7_styleAt_7 : decode cX7_styleAt 7 = .ok (.iload_n 3, 1) := dAt wdX7_styleAt_0 adX7_styleAt_0.2.2.2.2.2.1 rfl
theorem dX7_styleAt_8 : decode cX7_styleAt 8 = .ok (.aload_n 0, 1) := dAt wdX7_styleAt_0 adX7_styleAt_0.2.2.2.2.2.2.1 rfl
theorem dX7_styleAt_9 : decode cX7_styleAt 9 = .ok (.getfield 25, 3) := dAt wdX7_styleAt_0 adX7_styleAt_0.2.2.2.2.2.2.2.1 rfl
theorem dX7_styleAt_12 : decode cX7_styleAt 12 = .ok (.if_icmp .ge 48, 3) := dAt wdX7_styleAt_0 adX7_styleAt_0.2.2.2.2.2.2.2.2.1 rfl
theorem dX7_styleAt_15 : decode cX7_styleAt 15 = .ok (.aload_n 0, 1) := dAt wdX7_styleAt_0 adX7_styleAt_0.2.2.2.2.2.2.2.2.2.1 rfl
theorem dX7_styleAt_16 : decode cX7_styleAt 16 = .ok (.iload_n 3, 1) := dAt wdX7_styleAt_0 adX7_styleAt_0.2.2.2.2.2.2.2.2.2.2.1 rfl
theorem dX7_styleAt_17 : decode cX7_styleAt 17 = .ok (.invokevirtual 98, 3) := dAt wdX7_styleAt_0 adX7_styleAt_0.2.2.2.2.2.2.2.2.2.2.2.1 rfl
theorem dX7_styleAt_20 : decode cX7_styleAt 20 = .ok (.astore 4, 2) := dAt wdX7_styleAt_0 adX7_styleAt_0.2.2.2.2.2.2.2.2.2.2.2.2.1 rfl
theorem dX7_styleAt_22 : decode cX7_styleAt 22 = .ok (.aload 4, 2) := dAt wdX7_styleAt_0 adX7_styleAt_0.2.2.2.2.2.2.2.2.2.2.2.2.2.1 rfl
theorem dX7_styleAt_24 : decode cX7_styleAt 24 = .ok (.getfield 141, 3) := dAt wdX7_styleAt_0 adX7_styleAt_0.2.2.2.2.2.2.2.2.2.2.2.2.2.2.1 rfl
theorem dX7_styleAt_27 : decode cX7_styleAt 27 = .ok (.iload_n 1, 1) := dAt wdX7_styleAt_0 adX7_styleAt_0.2.2.2.2.2.2.2.2.2.2.2.2.2.2.2 rfl
def bdX7_styleAt_28 : ByteArray := .mk #[163, 0, 26, 44, 42, 180, 0, 29, 165, 0, 15, 25, 4, 180, 0, 141, 44, 180, 0, 141, 161, 0, 6, 25, 4, 77, 132, 3, 1, 167, 255, 206, 44, 176]
theorem wdX7_styleAt_28 : LocW cX7_styleAt 28 bdX7_styleAt_28 := loc_of (by decide +kernel)
theorem adX7_styleAt_28 : De bdX7_styleAt_28 0 (.if_icmp .gt 26) 3 ∧ De bdX7_styleAt_28 3 (.aload_n 2) 1 ∧ De bdX7_styleAt_28 4 (.aload_n 0) 1 ∧ De bdX7_styleAt_28 5 (.getfield 29) 3 ∧ De bdX7_styleAt_28 8 (.if_acmp .eq 15) 3 ∧ De bdX7_styleAt_28 11 (.aload 4) 2 ∧ De bdX7_styleAt_28 13 (.getfield 141) 3 ∧ De bdX7_styleAt_28 16 (.aload_n 2) 1 ∧ De bdX7_styleAt_28 17 (.getfield 141) 3 ∧ De bdX7_styleAt_28 20 (.if_icmp .lt 6) 3 ∧ De bdX7_styleAt_28 23 (.aload 4) 2 ∧ De bdX7_styleAt_28 25 (.astore_n 2) 1 ∧ De bdX7_styleAt_28 26 (.iinc 3 1) 3 ∧ De bdX7_styleAt_28 29 (.goto (-50)) 3 ∧ De bdX7_styleAt_28 32 (.aload_n 2) 1 ∧ De bdX7_styleAt_28 33 (.areturn) 1 := by decide +kernel
theorem dX7_styleAt_28 : decode cX7_styleAt 28 = .ok (.if_icmp .gt 26, 3) := dAt wdX7_styleAt_28 adX7_styleAt_28.1 rfl
theorem dX7_styleAt_31 : decode cX7_styleAt 31 = .ok (.aload_n 2, 1) := dAt wdX7_styleAt_28 adX7_styleAt_28.2.1 rfl
theorem dX7_styleAt_32 : decode cX7_styleAt 32 = .ok (.aload_n 0, 1) := dAt wdX7_styleAt_28 adX7_styleAt_28.2.2.1 rfl
theorem dX7_styleAt_33 : decode cX7_styleAt 33 = .ok (.getfield 29, 3) := dAt wdX7_styleAt_28 adX7_styleAt_28.2.2.2.1 rfl
theorem dX7_styleAt_36 : decode cX7_styleAt 36 = .ok (.if_acmp .eq 15, 3) := dAt wdX7_styleAt_28 adX7_styleAt_28.2.2.2.2.1 rfl
theorem dX7_styleAt_39 : decode cX7_styleAt 39 = .ok (.aload 4, 2) := dAt wdX7_styleAt_28 adX7_styleAt_28.2.2.2.2.2.1 rfl
theorem dX7_styleAt_41 : decode cX7_styleAt 41 = .ok (.getfield 141, 3) := dAt wdX7_styleAt_28 adX7_styleAt_28.2.2.2.2.2.2.1 rfl
theorem dX7_styleAt_44 : decode cX7_styleAt 44 = .ok (.aload_n 2, 1) := dAt wdX7_styleAt_28 adX7_styleAt_28.2.2.2.2.2.2.2.1 rfl
theorem dX7_styleAt_45 : decode cX7_styleAt 45 = .ok (.getfield 141, 3) := dAt wdX7_styleAt_28 adX7_styleAt_28.2.2.2.2.2.2.2.2.1 rfl
theorem dX7_styleAt_48 : decode cX7_styleAt 48 = .ok (.if_icmp .lt 6, 3) := dAt wdX7_styleAt_28 adX7_styleAt_28.2.2.2.2.2.2.2.2.2.1 rfl
theorem dX7_styleAt_51 : decode cX7_styleAt 51 = .ok (.aload 4, 2) := dAt wdX7_styleAt_28 adX7_styleAt_28.2.2.2.2.2.2.2.2.2.2.1 rfl
theorem dX7_styleAt_53 : decode cX7_styleAt 53 = .ok (.astore_n 2, 1) := dAt wdX7_styleAt_28 adX7_styleAt_28.2.2.2.2.2.2.2.2.2.2.2.1 rfl
theorem dX7_styleAt_54 : decode cX7_styleAt 54 = .ok (.iinc 3 1, 3) := dAt wdX7_styleAt_28 adX7_styleAt_28.2.2.2.2.2.2.2.2.2.2.2.2.1 rfl
theorem dX7_styleAt_57 : decode cX7_styleAt 57 = .ok (.goto (-50), 3) := dAt wdX7_styleAt_28 adX7_styleAt_28.2.2.2.2.2.2.2.2.2.2.2.2.2.1 rfl
theorem dX7_styleAt_60 : decode cX7_styleAt 60 = .ok (.aload_n 2, 1) := dAt wdX7_styleAt_28 adX7_styleAt_28.2.2.2.2.2.2.2.2.2.2.2.2.2.2.1 rfl
theorem dX7_styleAt_61 : decode cX7_styleAt 61 = .ok (.areturn, 1) := dAt wdX7_styleAt_28 adX7_styleAt_28.2.2.2.2.2.2.2.2.2.2.2.2.2.2.2 rfl
def bdX7_rulesNow_0 : ByteArray := .mk #[42, 42, 180, 0, 9, 182, 0, 145, 180, 0, 148, 172]
theorem wdX7_rulesNow_0 : LocW cX7_rulesNow 0 bdX7_rulesNow_0 := loc_of (by decide +kernel)
theorem adX7_rulesNow_0 : De bdX7_rulesNow_0 0 (.aload_n 0) 1 ∧ De bdX7_rulesNow_0 1 (.aload_n 0) 1 ∧ De bdX7_rulesNow_0 2 (.getfield 9) 3 ∧ De bdX7_rulesNow_0 5 (.invokevirtual 145) 3 ∧ De bdX7_rulesNow_0 8 (.getfield 148) 3 ∧ De bdX7_rulesNow_0 11 (.ireturn) 1 := by decide +kernel
theorem dX7_rulesNow_0 : decode cX7_rulesNow 0 = .ok (.aload_n 0, 1) := dAt wdX7_rulesNow_0 adX7_rulesNow_0.1 rfl
theorem dX7_rulesNow_1 : decode cX7_rulesNow 1 = .ok (.aload_n 0, 1) := dAt wdX7_rulesNow_0 adX7_rulesNow_0.2.1 rfl
theorem dX7_rulesNow_2 : decode cX7_rulesNow 2 = .ok (.getfield 9, 3) := dAt wdX7_rulesNow_0 adX7_rulesNow_0.2.2.1 rfl
theorem dX7_rulesNow_5 : decode cX7_rulesNow 5 = .ok (.invokevirtual 145, 3) := dAt wdX7_rulesNow_0 adX7_rulesNow_0.2.2.2.1 rfl
theorem dX7_rulesNow_8 : decode cX7_rulesNow 8 = .ok (.getfield 148, 3) := dAt wdX7_rulesNow_0 adX7_rulesNow_0.2.2.2.2.1 rfl
theorem dX7_rulesNow_11 : decode cX7_rulesNow 11 = .ok (.ireturn, 1) := dAt wdX7_rulesNow_0 adX7_rulesNow_0.2.2.2.2.2 rfl
def bdX7_factsOfPart_0 : ByteArray := .mk #[42, 180, 0, 76, 3, 43, 180, 0, 151, 4, 160, 0, 7, 4, 167, 0, 4, 3, 79, 42, 180, 0, 76, 4, 28, 43]
theorem wdX7_factsOfPart_0 : LocW cX7_factsOfPart 0 bdX7_factsOfPart_0 := loc_of (by decide +kernel)
theorem adX7_factsOfPart_0 : De bdX7_factsOfPart_0 0 (.aload_n 0) 1 ∧ De bdX7_factsOfPart_0 1 (.getfield 76) 3 ∧ De bdX7_factsOfPart_0 4 (.iconst 0) 1 ∧ De bdX7_factsOfPart_0 5 (.aload_n 1) 1 ∧ De bdX7_factsOfPart_0 6 (.getfield 151) 3 ∧ De bdX7_factsOfPart_0 9 (.iconst 1) 1 ∧ De bdX7_factsOfPart_0 10 (.if_icmp .ne 7) 3 ∧ De bdX7_factsOfPart_0 13 (.iconst 1) 1 ∧ De bdX7_factsOfPart_0 14 (.goto 4) 3 ∧ De bdX7_factsOfPart_0 17 (.iconst 0) 1 ∧ De bdX7_factsOfPart_0 18 (.iastore) 1 ∧ De bdX7_factsOfPart_0 19 (.aload_n 0) 1 ∧ De bdX7_factsOfPart_0 20 (.getfield 76) 3 ∧ De bdX7_factsOfPart_0 23 (.iconst 1) 1 ∧ De bdX7_factsOfPart_0 24 (.iload_n 2) 1 ∧ De bdX7_factsOfPart_0 25 (.aload_n 1) 1 := by decide +kernel
theorem dX7_factsOfPart_0 : decode cX7_factsOfPart 0 = .ok (.aload_n 0, 1) := dAt wdX7_factsOfPart_0 adX7_factsOfPart_0.1 rfl
theorem dX7_factsOfPart_1 : decode cX7_factsOfPart 1 = .ok (.getfield 76, 3) := dAt wdX7_factsOfPart_0 adX7_factsOfPart_0.2.1 rfl
theorem dX7_factsOfPart_4 : decode cX7_factsOfPart 4 = .ok (.iconst 0, 1) := dAt wdX7_factsOfPart_0 adX7_factsOfPart_0.2.2.1 rfl
theorem dX7_factsOfPart_5 : decode cX7_factsOfPart 5 = .ok (.aload_n 1, 1) := dAt wdX7_factsOfPart_0 adX7_factsOfPart_0.2.2.2.1 rfl
theorem dX7_factsOfPart_6 : decode cX7_factsOfPart 6 = .ok (.getfield 151, 3) := dAt wdX7_factsOfPart_0 adX7_factsOfPart_0.2.2.2.2.1 rfl
theorem dX7_factsOfPart_9 : decode cX7_factsOfPart 9 = .ok (.iconst 1, 1) := dAt wdX7_factsOfPart_0 adX7_factsOfPart_0.2.2.2.2.2.1 rfl
theorem dX7_factsOfPart_10 : decode cX7_factsOfPart 10 = .ok (.if_icmp .ne 7, 3) := dAt wdX7_factsOfPart_0 adX7_factsOfPart_0.2.2.2.2.2.2.1 rfl
theorem dX7_factsOfPart_13 : decode cX7_factsOfPart 13 = .ok (.iconst 1, 1) := dAt wdX7_factsOfPart_0 adX7_factsOfPart_0.2.2.2.2.2.2.2.1 rfl
theorem dX7_factsOfPart_14 : decode cX7_factsOfPart 14 = .ok (.goto 4, 3) := dAt wdX7_factsOfPart_0 adX7_factsOfPart_0.2.2.2.2.2.2.2.2.1 rfl
theorem dX7_factsOfPart_17 : decode cX7_factsOfPart 17 = .ok (.iconst 0, 1) := dAt wdX7_factsOfPart_0 adX7_factsOfPart_0.2.2.2.2.2.2.2.2.2.1 rfl
theorem dX7_factsOfPart_18 : decode cX7_factsOfPart 18 = .ok (.iastore, 1) := dAt wdX7_factsOfPart_0 adX7_factsOfPart_0.2.2.2.2.2.2.2.2.2.2.1 rfl
theorem dX7_factsOfPart_19 : decode cX7_factsOfPart 19 = .ok (.aload_n 0, 1) := dAt wdX7_factsOfPart_0 adX7_factsOfPart_0.2.2.2.2.2.2.2.2.2.2.2.1 rfl
theorem dX7_factsOfPart_20 : decode cX7_factsOfPart 20 = .ok (.getfield 76, 3) := dAt wdX7_factsOfPart_0 adX7_factsOfPart_0.2.2.2.2.2.2.2.2.2.2.2.2.1 rfl
theorem dX7_factsOfPart_23 : decode cX7_factsOfPart 23 = .ok (.iconst 1, 1) := dAt wdX7_factsOfPart_0 adX7_factsOfPart_0.2.2.2.2.2.2.2.2.2.2.2.2.2.1 rfl
theorem dX7_factsOfPart_24 : decode cX7_factsOfPart 24 = .ok (.iload_n 2, 1) := dAt wdX7_factsOfPart_0 adX7_factsOfPart_0.2.2.2.2.2.2.2.2.2.2.2.2.2.2.1 rfl
theorem dX7_factsOfPart_25 : decode cX7_factsOfPart 25 = .ok (.aload_n 1, 1) := dAt wdX7_factsOfPart_0 adX7_factsOfPart_0.2.2.2.2.2.2.2.2.2.2.2.2.2.2.2 rfl
def bdX7_factsOfPart_26 : ByteArray := .mk #[180, 0, 154, 164, 0, 7, 4, 167, 0, 4, 3, 79, 42, 180, 0, 76, 5, 3, 79, 42, 180, 0, 76, 6, 43, 180, 0, 157]
theorem wdX7_factsOfPart_26 : LocW cX7_factsOfPart 26 bdX7_factsOfPart_26 := loc_of (by decide +kernel)
theorem adX7_factsOfPart_26 : De bdX7_factsOfPart_26 0 (.getfield 154) 3 ∧ De bdX7_factsOfPart_26 3 (.if_icmp .le 7) 3 ∧ De bdX7_factsOfPart_26 6 (.iconst 1) 1 ∧ De bdX7_factsOfPart_26 7 (.goto 4) 3 ∧ De bdX7_factsOfPart_26 10 (.iconst 0) 1 ∧ De bdX7_factsOfPart_26 11 (.iastore) 1 ∧ De bdX7_factsOfPart_26 12 (.aload_n 0) 1 ∧ De bdX7_factsOfPart_26 13 (.getfield 76) 3 ∧ De bdX7_factsOfPart_26 16 (.iconst 2) 1 ∧ De bdX7_factsOfPart_26 17 (.iconst 0) 1 ∧ De bdX7_factsOfPart_26 18 (.iastore) 1 ∧ De bdX7_factsOfPart_26 19 (.aload_n 0) 1 ∧ De bdX7_factsOfPart_26 20 (.getfield 76) 3 ∧ De bdX7_factsOfPart_26 23 (.iconst 3) 1 ∧ De bdX7_factsOfPart_26 24 (.aload_n 1) 1 ∧ De bdX7_factsOfPart_26 25 (.getfield 157) 3 := by decide +kernel
theorem dX7_factsOfPart_26 : decode cX7_factsOfPart 26 = .ok (.getfield 154, 3) := dAt wdX7_factsOfPart_26 adX7_factsOfPart_26.1 rfl
theorem dX7_factsOfPart_29 : decode cX7_factsOfPart 29 = .ok (.if_icmp .le 7, 3) := dAt wdX7_factsOfPart_26 adX7_factsOfPart_26.2.1 rfl
theorem dX7_factsOfPart_32 : decode cX7_factsOfPart 32 = .ok (.iconst 1, 1) := dAt wdX7_factsOfPart_26 adX7_factsOfPart_26.2.2.1 rfl
theorem dX7_factsOfPart_33 : decode cX7_factsOfPart 33 = .ok (.goto 4, 3) := dAt wdX7_factsOfPart_26 adX7_factsOfPart_26.2.2.2.1 rfl
theorem dX7_factsOfPart_36 : decode cX7_factsOfPart 36 = .ok (.iconst 0, 1) := dAt wdX7_factsOfPart_26 adX7_factsOfPart_26.2.2.2.2.1 rfl
theorem dX7_factsOfPart_37 : decode cX7_factsOfPart 37 = .ok (.iastore, 1) := dAt wdX7_factsOfPart_26 adX7_factsOfPart_26.2.2.2.2.2.1 rfl
theorem dX7_factsOfPart_38 : decode cX7_factsOfPart 38 = .ok (.aload_n 0, 1) := dAt wdX7_factsOfPart_26 adX7_factsOfPart_26.2.2.2.2.2.2.1 rfl
theorem dX7_factsOfPart_39 : decode cX7_factsOfPart 39 = .ok (.getfield 76, 3) := dAt wdX7_factsOfPart_26 adX7_factsOfPart_26.2.2.2.2.2.2.2.1 rfl
theorem dX7_factsOfPart_42 : decode cX7_factsOfPart 42 = .ok (.iconst 2, 1) := dAt wdX7_factsOfPart_26 adX7_factsOfPart_26.2.2.2.2.2.2.2.2.1 rfl
theorem dX7_factsOfPart_43 : decode cX7_factsOfPart 43 = .ok (.iconst 0, 1) := dAt wdX7_factsOfPart_26 adX7_factsOfPart_26.2.2.2.2.2.2.2.2.2.1 rfl
theorem dX7_factsOfPart_44 : decode cX7_factsOfPart 44 = .ok (.iastore, 1) := dAt wdX7_factsOfPart_26 adX7_factsOfPart_26.2.2.2.2.2.2.2.2.2.2.1 rfl
theorem dX7_factsOfPart_45 : decode cX7_factsOfPart 45 = .ok (.aload_n 0, 1) := dAt wdX7_factsOfPart_26 adX7_factsOfPart_26.2.2.2.2.2.2.2.2.2.2.2.1 rfl
theorem dX7_factsOfPart_46 : decode cX7_factsOfPart 46 = .ok (.getfield 76, 3) := dAt wdX7_factsOfPart_26 adX7_factsOfPart_26.2.2.2.2.2.2.2.2.2.2.2.2.1 rfl
theorem dX7_factsOfPart_49 : decode cX7_factsOfPart 49 = .ok (.iconst 3, 1) := dAt wdX7_factsOfPart_26 adX7_factsOfPart_26.2.2.2.2.2.2.2.2.2.2.2.2.2.1 rfl
theorem dX7_factsOfPart_50 : decode cX7_factsOfPart 50 = .ok (.aload_n 1, 1) := dAt wdX7_factsOfPart_26 adX7_factsOfPart_26.2.2.2.2.2.2.2.2.2.2.2.2.2.2.1 rfl
theorem dX7_factsOfPart_51 : decode cX7_factsOfPart 51 = .ok (.getfield 157, 3) := dAt wdX7_factsOfPart_26 adX7_factsOfPart_26.2.2.2.2.2.2.2.2.2.2.2.2.2.2.2 rfl
def bdX7_factsOfPart_54 : ByteArray := .mk #[79, 42, 180, 0, 76, 7, 43, 180, 0, 160, 79, 42, 180, 0, 76, 8, 43, 180, 0, 154, 79, 42, 180, 0, 76, 16, 6]
theorem wdX7_factsOfPart_54 : LocW cX7_factsOfPart 54 bdX7_factsOfPart_54 := loc_of (by decide +kernel)
theorem adX7_factsOfPart_54 : De bdX7_factsOfPart_54 0 (.iastore) 1 ∧ De bdX7_factsOfPart_54 1 (.aload_n 0) 1 ∧ De bdX7_factsOfPart_54 2 (.getfield 76) 3 ∧ De bdX7_factsOfPart_54 5 (.iconst 4) 1 ∧ De bdX7_factsOfPart_54 6 (.aload_n 1) 1 ∧ De bdX7_factsOfPart_54 7 (.getfield 160) 3 ∧ De bdX7_factsOfPart_54 10 (.iastore) 1 ∧ De bdX7_factsOfPart_54 11 (.aload_n 0) 1 ∧ De bdX7_factsOfPart_54 12 (.getfield 76) 3 ∧ De bdX7_factsOfPart_54 15 (.iconst 5) 1 ∧ De bdX7_factsOfPart_54 16 (.aload_n 1) 1 ∧ De bdX7_factsOfPart_54 17 (.getfield 154) 3 ∧ De bdX7_factsOfPart_54 20 (.iastore) 1 ∧ De bdX7_factsOfPart_54 21 (.aload_n 0) 1 ∧ De bdX7_factsOfPart_54 22 (.getfield 76) 3 ∧ De bdX7_factsOfPart_54 25 (.bipush 6) 2 := by decide +kernel
theorem dX7_factsOfPart_54 : decode cX7_factsOfPart 54 = .ok (.iastore, 1) := dAt wdX7_factsOfPart_54 adX7_factsOfPart_54.1 rfl
theorem dX7_factsOfPart_55 : decode cX7_factsOfPart 55 = .ok (.aload_n 0, 1) := dAt wdX7_factsOfPart_54 adX7_factsOfPart_54.2.1 rfl
theorem dX7_factsOfPart_56 : decode cX7_factsOfPart 56 = .ok (.getfield 76, 3) := dAt wdX7_factsOfPart_54 adX7_factsOfPart_54.2.2.1 rfl
theorem dX7_factsOfPart_59 : decode cX7_factsOfPart 59 = .ok (.iconst 4, 1) := dAt wdX7_factsOfPart_54 adX7_factsOfPart_54.2.2.2.1 rfl
theorem dX7_factsOfPart_60 : decode cX7_factsOfPart 60 = .ok (.aload_n 1, 1) := dAt wdX7_factsOfPart_54 adX7_factsOfPart_54.2.2.2.2.1 rfl
theorem dX7_factsOfPart_61 : decode cX7_factsOfPart 61 = .ok (.getfield 160, 3) := dAt wdX7_factsOfPart_54 adX7_factsOfPart_54.2.2.2.2.2.1 rfl
theorem dX7_factsOfPart_64 : decode cX7_factsOfPart 64 = .ok (.iastore, 1) := dAt wdX7_factsOfPart_54 adX7_factsOfPart_54.2.2.2.2.2.2.1 rfl
theorem dX7_factsOfPart_65 : decode cX7_factsOfPart 65 = .ok (.aload_n 0, 1) := dAt wdX7_factsOfPart_54 adX7_factsOfPart_54.2.2.2.2.2.2.2.1 rfl
theorem dX7_factsOfPart_66 : decode cX7_factsOfPart 66 = .ok (.getfield 76, 3) := dAt wdX7_factsOfPart_54 adX7_factsOfPart_54.2.2.2.2.2.2.2.2.1 rfl
theorem dX7_factsOfPart_69 : decode cX7_factsOfPart 69 = .ok (.iconst 5, 1) := dAt wdX7_factsOfPart_54 adX7_factsOfPart_54.2.2.2.2.2.2.2.2.2.1 rfl
theorem dX7_factsOfPart_70 : decode cX7_factsOfPart 70 = .ok (.aload_n 1, 1) := dAt wdX7_factsOfPart_54 adX7_factsOfPart_54.2.2.2.2.2.2.2.2.2.2.1 rfl
theorem dX7_factsOfPart_71 : decode cX7_factsOfPart 71 = .ok (.getfield 154, 3) := dAt wdX7_factsOfPart_54 adX7_factsOfPart_54.2.2.2.2.2.2.2.2.2.2.2.1 rfl
theorem dX7_factsOfPart_74 : decode cX7_factsOfPart 74 = .ok (.iastore, 1) := dAt wdX7_factsOfPart_54 adX7_factsOfPart_54.2.2.2.2.2.2.2.2.2.2.2.2.1 rfl
theorem dX7_factsOfPart_75 : decode cX7_factsOfPart 75 = .ok (.aload_n 0, 1) := dAt wdX7_factsOfPart_54 adX7_factsOfPart_54.2.2.2.2.2.2.2.2.2.2.2.2.2.1 rfl
theorem dX7_factsOfPart_76 : decode cX7_factsOfPart 76 = .ok (.getfield 76, 3) := dAt wdX7_factsOfPart_54 adX7_factsOfPart_54.2.2.2.2.2.2.2.2.2.2.2.2.2.2.1 rfl
theorem dX7_factsOfPart_79 : decode cX7_factsOfPart 79 = .ok (.bipush 6, 2) := dAt wdX7_factsOfPart_54 adX7_factsOfPart_54.2.2.2.2.2.2.2.2.2.2.2.2.2.2.2 rfl
def bdX7_factsOfPart_81 : ByteArray := .mk #[28, 79, 42, 180, 0, 76, 16, 7, 3, 79, 42, 180, 0, 76, 16, 8, 16, 99, 79, 177]
theorem wdX7_factsOfPart_81 : LocW cX7_factsOfPart 81 bdX7_factsOfPart_81 := loc_of (by decide +kernel)
theorem adX7_factsOfPart_81 : De bdX7_factsOfPart_81 0 (.iload_n 2) 1 ∧ De bdX7_factsOfPart_81 1 (.iastore) 1 ∧ De bdX7_factsOfPart_81 2 (.aload_n 0) 1 ∧ De bdX7_factsOfPart_81 3 (.getfield 76) 3 ∧ De bdX7_factsOfPart_81 6 (.bipush 7) 2 ∧ De bdX7_factsOfPart_81 8 (.iconst 0) 1 ∧ De bdX7_factsOfPart_81 9 (.iastore) 1 ∧ De bdX7_factsOfPart_81 10 (.aload_n 0) 1 ∧ De bdX7_factsOfPart_81 11 (.getfield 76) 3 ∧ De bdX7_factsOfPart_81 14 (.bipush 8) 2 ∧ De bdX7_factsOfPart_81 16 (.bipush 99) 2 ∧ De bdX7_factsOfPart_81 18 (.iastore) 1 ∧ De bdX7_factsOfPart_81 19 (.return_) 1 := by decide +kernel
theorem dX7_factsOfPart_81 : decode cX7_factsOfPart 81 = .ok (.iload_n 2, 1) := dAt wdX7_factsOfPart_81 adX7_factsOfPart_81.1 rfl
theorem dX7_factsOfPart_82 : decode cX7_factsOfPart 82 = .ok (.iastore, 1) := dAt wdX7_factsOfPart_81 adX7_factsOfPart_81.2.1 rfl
theorem dX7_factsOfPart_83 : decode cX7_factsOfPart 83 = .ok (.aload_n 0, 1) := dAt wdX7_factsOfPart_81 adX7_factsOfPart_81.2.2.1 rfl
theorem dX7_factsOfPart_84 : decode cX7_factsOfPart 84 = .ok (.getfield 76, 3) := dAt wdX7_factsOfPart_81 adX7_factsOfPart_81.2.2.2.1 rfl
theorem dX7_factsOfPart_87 : decode cX7_factsOfPart 87 = .ok (.bipush 7, 2) := dAt wdX7_factsOfPart_81 adX7_factsOfPart_81.2.2.2.2.1 rfl
theorem dX7_factsOfPart_89 : decode cX7_factsOfPart 89 = .ok (.iconst 0, 1) := dAt wdX7_factsOfPart_81 adX7_factsOfPart_81.2.2.2.2.2.1 rfl
theorem dX7_factsOfPart_90 : decode cX7_factsOfPart 90 = .ok (.iastore, 1) := dAt wdX7_factsOfPart_81 adX7_factsOfPart_81.2.2.2.2.2.2.1 rfl
theorem dX7_factsOfPart_91 : decode cX7_factsOfPart 91 = .ok (.aload_n 0, 1) := dAt wdX7_factsOfPart_81 adX7_factsOfPart_81.2.2.2.2.2.2.2.1 rfl
theorem dX7_factsOfPart_92 : decode cX7_factsOfPart 92 = .ok (.getfield 76, 3) := dAt wdX7_factsOfPart_81 adX7_factsOfPart_81.2.2.2.2.2.2.2.2.1 rfl
theorem dX7_factsOfPart_95 : decode cX7_factsOfPart 95 = .ok (.bipush 8, 2) := dAt wdX7_factsOfPart_81 adX7_factsOfPart_81.2.2.2.2.2.2.2.2.2.1 rfl
theorem dX7_factsOfPart_97 : decode cX7_factsOfPart 97 = .ok (.bipush 99, 2) := dAt wdX7_factsOfPart_81 adX7_factsOfPart_81.2.2.2.2.2.2.2.2.2.2.1 rfl
theorem dX7_factsOfPart_99 : decode cX7_factsOfPart 99 = .ok (.iastore, 1) := dAt wdX7_factsOfPart_81 adX7_factsOfPart_81.2.2.2.2.2.2.2.2.2.2.2.1 rfl
theorem dX7_factsOfPart_100 : decode cX7_factsOfPart 100 = .ok (.return_, 1) := dAt wdX7_factsOfPart_81 adX7_factsOfPart_81.2.2.2.2.2.2.2.2.2.2.2.2 rfl
def bdX7_factsOfSlug_0 : ByteArray := .mk #[42, 44, 43, 180, 0, 163, 182, 0, 164, 42, 180, 0, 76, 5, 43, 180, 0, 168, 153, 0, 7, 4, 167, 0, 4, 3, 79, 42]
theorem wdX7_factsOfSlug_0 : LocW cX7_factsOfSlug 0 bdX7_factsOfSlug_0 := loc_of (by decide +kernel)
theorem adX7_factsOfSlug_0 : De bdX7_factsOfSlug_0 0 (.aload_n 0) 1 ∧ De bdX7_factsOfSlug_0 1 (.aload_n 2) 1 ∧ De bdX7_factsOfSlug_0 2 (.aload_n 1) 1 ∧ De bdX7_factsOfSlug_0 3 (.getfield 163) 3 ∧ De bdX7_factsOfSlug_0 6 (.invokevirtual 164) 3 ∧ De bdX7_factsOfSlug_0 9 (.aload_n 0) 1 ∧ De bdX7_factsOfSlug_0 10 (.getfield 76) 3 ∧ De bdX7_factsOfSlug_0 13 (.iconst 2) 1 ∧ De bdX7_factsOfSlug_0 14 (.aload_n 1) 1 ∧ De bdX7_factsOfSlug_0 15 (.getfield 168) 3 ∧ De bdX7_factsOfSlug_0 18 (.ifCond .eq 7) 3 ∧ De bdX7_factsOfSlug_0 21 (.iconst 1) 1 ∧ De bdX7_factsOfSlug_0 22 (.goto 4) 3 ∧ De bdX7_factsOfSlug_0 25 (.iconst 0) 1 ∧ De bdX7_factsOfSlug_0 26 (.iastore) 1 ∧ De bdX7_factsOfSlug_0 27 (.aload_n 0) 1 := by decide +kernel
theorem dX7_factsOfSlug_0 : decode cX7_factsOfSlug 0 = .ok (.aload_n 0, 1) := dAt wdX7_factsOfSlug_0 adX7_factsOfSlug_0.1 rfl
theorem dX7_factsOfSlug_1 : decode cX7_factsOfSlug 1 = .ok (.aload_n 2, 1) := dAt wdX7_factsOfSlug_0 adX7_factsOfSlug_0.2.1 rfl
theorem dX7_factsOfSlug_2 : decode cX7_factsOfSlug 2 = .ok (.aload_n 1, 1) := dAt wdX7_factsOfSlug_0 adX7_factsOfSlug_0.2.2.1 rfl
theorem dX7_factsOfSlug_3 : decode cX7_factsOfSlug 3 = .ok (.getfield 163, 3) := dAt wdX7_factsOfSlug_0 adX7_factsOfSlug_0.2.2.2.1 rfl
theorem dX7_factsOfSlug_6 : decode cX7_factsOfSlug 6 = .ok (.invokevirtual 164, 3) := dAt wdX7_factsOfSlug_0 adX7_factsOfSlug_0.2.2.2.2.1 rfl
theorem dX7_factsOfSlug_9 : decode cX7_factsOfSlug 9 = .ok (.aload_n 0, 1) := dAt wdX7_factsOfSlug_0 adX7_factsOfSlug_0.2.2.2.2.2.1 rfl
theorem dX7_factsOfSlug_10 : decode cX7_factsOfSlug 10 = .ok (.getfield 76, 3) := dAt wdX7_factsOfSlug_0 adX7_factsOfSlug_0.2.2.2.2.2.2.1 rfl
theorem dX7_factsOfSlug_13 : decode cX7_factsOfSlug 13 = .ok (.iconst 2, 1) := dAt wdX7_factsOfSlug_0 adX7_factsOfSlug_0.2.2.2.2.2.2.2.1 rfl
theorem dX7_factsOfSlug_14 : decode cX7_factsOfSlug 14 = .ok (.aload_n 1, 1) := dAt wdX7_factsOfSlug_0 adX7_factsOfSlug_0.2.2.2.2.2.2.2.2.1 rfl
theorem dX7_factsOfSlug_15 : decode cX7_factsOfSlug 15 = .ok (.getfield 168, 3) := dAt wdX7_factsOfSlug_0 adX7_factsOfSlug_0.2.2.2.2.2.2.2.2.2.1 rfl
theorem dX7_factsOfSlug_18 : decode cX7_factsOfSlug 18 = .ok (.ifCond .eq 7, 3) := dAt wdX7_factsOfSlug_0 adX7_factsOfSlug_0.2.2.2.2.2.2.2.2.2.2.1 rfl
theorem dX7_factsOfSlug_21 : decode cX7_factsOfSlug 21 = .ok (.iconst 1, 1) := dAt wdX7_factsOfSlug_0 adX7_factsOfSlug_0.2.2.2.2.2.2.2.2.2.2.2.1 rfl
theorem dX7_factsOfSlug_22 : decode cX7_factsOfSlug 22 = .ok (.goto 4, 3) := dAt wdX7_factsOfSlug_0 adX7_factsOfSlug_0.2.2.2.2.2.2.2.2.2.2.2.2.1 rfl
theorem dX7_factsOfSlug_25 : decode cX7_factsOfSlug 25 = .ok (.iconst 0, 1) := dAt wdX7_factsOfSlug_0 adX7_factsOfSlug_0.2.2.2.2.2.2.2.2.2.2.2.2.2.1 rfl
theorem dX7_factsOfSlug_26 : decode cX7_factsOfSlug 26 = .ok (.iastore, 1) := dAt wdX7_factsOfSlug_0 adX7_factsOfSlug_0.2.2.2.2.2.2.2.2.2.2.2.2.2.2.1 rfl
theorem dX7_factsOfSlug_27 : decode cX7_factsOfSlug 27 = .ok (.aload_n 0, 1) := dAt wdX7_factsOfSlug_0 adX7_factsOfSlug_0.2.2.2.2.2.2.2.2.2.2.2.2.2.2.2 rfl
def bdX7_factsOfSlug_28 : ByteArray := .mk #[180, 0, 76, 16, 7, 43, 180, 0, 172, 79, 42, 180, 0, 76, 16, 8, 43, 180, 0, 175, 79, 177]
theorem wdX7_factsOfSlug_28 : LocW cX7_factsOfSlug 28 bdX7_factsOfSlug_28 := loc_of (by decide +kernel)
theorem adX7_factsOfSlug_28 : De bdX7_factsOfSlug_28 0 (.getfield 76) 3 ∧ De bdX7_factsOfSlug_28 3 (.bipush 7) 2 ∧ De bdX7_factsOfSlug_28 5 (.aload_n 1) 1 ∧ De bdX7_factsOfSlug_28 6 (.getfield 172) 3 ∧ De bdX7_factsOfSlug_28 9 (.iastore) 1 ∧ De bdX7_factsOfSlug_28 10 (.aload_n 0) 1 ∧ De bdX7_factsOfSlug_28 11 (.getfield 76) 3 ∧ De bdX7_factsOfSlug_28 14 (.bipush 8) 2 ∧ De bdX7_factsOfSlug_28 16 (.aload_n 1) 1 ∧ De bdX7_factsOfSlug_28 17 (.getfield 175) 3 ∧ De bdX7_factsOfSlug_28 20 (.iastore) 1 ∧ De bdX7_factsOfSlug_28 21 (.return_) 1 := by decide +kernel
theorem dX7_factsOfSlug_28 : decode cX7_factsOfSlug 28 = .ok (.getfield 76, 3) := dAt wdX7_factsOfSlug_28 adX7_factsOfSlug_28.1 rfl
theorem dX7_factsOfSlug_31 : decode cX7_factsOfSlug 31 = .ok (.bipush 7, 2) := dAt wdX7_factsOfSlug_28 adX7_factsOfSlug_28.2.1 rfl
theorem dX7_factsOfSlug_33 : decode cX7_factsOfSlug 33 = .ok (.aload_n 1, 1) := dAt wdX7_factsOfSlug_28 adX7_factsOfSlug_28.2.2.1 rfl
theorem dX7_factsOfSlug_34 : decode cX7_factsOfSlug 34 = .ok (.getfield 172, 3) := dAt wdX7_factsOfSlug_28 adX7_factsOfSlug_28.2.2.2.1 rfl
theorem dX7_factsOfSlug_37 : decode cX7_factsOfSlug 37 = .ok (.iastore, 1) := dAt wdX7_factsOfSlug_28 adX7_factsOfSlug_28.2.2.2.2.1 rfl
theorem dX7_factsOfSlug_38 : decode cX7_factsOfSlug 38 = .ok (.aload_n 0, 1) := dAt wdX7_factsOfSlug_28 adX7_factsOfSlug_28.2.2.2.2.2.1 rfl
theorem dX7_factsOfSlug_39 : decode cX7_factsOfSlug 39 = .ok (.getfield 76, 3) := dAt wdX7_factsOfSlug_28 adX7_factsOfSlug_28.2.2.2.2.2.2.1 rfl
theorem dX7_factsOfSlug_42 : decode cX7_factsOfSlug 42 = .ok (.bipush 8, 2) := dAt wdX7_factsOfSlug_28 adX7_factsOfSlug_28.2.2.2.2.2.2.2.1 rfl
theorem dX7_factsOfSlug_44 : decode cX7_factsOfSlug 44 = .ok (.aload_n 1, 1) := dAt wdX7_factsOfSlug_28 adX7_factsOfSlug_28.2.2.2.2.2.2.2.2.1 rfl
theorem dX7_factsOfSlug_45 : decode cX7_factsOfSlug 45 = .ok (.getfield 175, 3) := dAt wdX7_factsOfSlug_28 adX7_factsOfSlug_28.2.2.2.2.2.2.2.2.2.1 rfl
theorem dX7_factsOfSlug_48 : decode cX7_factsOfSlug 48 = .ok (.iastore, 1) := dAt wdX7_factsOfSlug_28 adX7_factsOfSlug_28.2.2.2.2.2.2.2.2.2.2.1 rfl
theorem dX7_factsOfSlug_49 : decode cX7_factsOfSlug 49 = .ok (.return_, 1) := dAt wdX7_factsOfSlug_28 adX7_factsOfSlug_28.2.2.2.2.2.2.2.2.2.2.2 rfl
def bdX7_breakerFor_0 : ByteArray := .mk #[42, 28, 182, 0, 145, 78, 42, 43, 28, 182, 0, 164, 45, 42, 180, 0, 76, 182, 0, 178, 42, 180, 0, 72, 45, 182, 0, 182]
theorem wdX7_breakerFor_0 : LocW cX7_breakerFor 0 bdX7_breakerFor_0 := loc_of (by decide +kernel)
theorem adX7_breakerFor_0 : De bdX7_breakerFor_0 0 (.aload_n 0) 1 ∧ De bdX7_breakerFor_0 1 (.iload_n 2) 1 ∧ De bdX7_breakerFor_0 2 (.invokevirtual 145) 3 ∧ De bdX7_breakerFor_0 5 (.astore_n 3) 1 ∧ De bdX7_breakerFor_0 6 (.aload_n 0) 1 ∧ De bdX7_breakerFor_0 7 (.aload_n 1) 1 ∧ De bdX7_breakerFor_0 8 (.iload_n 2) 1 ∧ De bdX7_breakerFor_0 9 (.invokevirtual 164) 3 ∧ De bdX7_breakerFor_0 12 (.aload_n 3) 1 ∧ De bdX7_breakerFor_0 13 (.aload_n 0) 1 ∧ De bdX7_breakerFor_0 14 (.getfield 76) 3 ∧ De bdX7_breakerFor_0 17 (.invokevirtual 178) 3 ∧ De bdX7_breakerFor_0 20 (.aload_n 0) 1 ∧ De bdX7_breakerFor_0 21 (.getfield 72) 3 ∧ De bdX7_breakerFor_0 24 (.aload_n 3) 1 ∧ De bdX7_breakerFor_0 25 (.invokevirtual 182) 3 := by decide +kernel
theorem dX7_breakerFor_0 : decode cX7_breakerFor 0 = .ok (.aload_n 0, 1) := dAt wdX7_breakerFor_0 adX7_breakerFor_0.1 rfl
theorem dX7_breakerFor_1 : decode cX7_breakerFor 1 = .ok (.iload_n 2, 1) := dAt wdX7_breakerFor_0 adX7_breakerFor_0.2.1 rfl
theorem dX7_breakerFor_2 : decode cX7_breakerFor 2 = .ok (.invokevirtual 145, 3) := dAt wdX7_breakerFor_0 adX7_breakerFor_0.2.2.1 rfl
theorem dX7_breakerFor_5 : decode cX7_breakerFor 5 = .ok (.astore_n 3, 1) := dAt wdX7_breakerFor_0 adX7_breakerFor_0.2.2.2.1 rfl
theorem dX7_breakerFor_6 : decode cX7_breakerFor 6 = .ok (.aload_n 0, 1) := dAt wdX7_breakerFor_0 adX7_breakerFor_0.2.2.2.2.1 rfl
theorem dX7_breakerFor_7 : decode cX7_breakerFor 7 = .ok (.aload_n 1, 1) := dAt wdX7_breakerFor_0 adX7_breakerFor_0.2.2.2.2.2.1 rfl
theorem dX7_breakerFor_8 : decode cX7_breakerFor 8 = .ok (.iload_n 2, 1) := dAt wdX7_breakerFor_0 adX7_breakerFor_0.2.2.2.2.2.2.1 rfl
theorem dX7_breakerFor_9 : decode cX7_breakerFor 9 = .ok (.invokevirtual 164, 3) := dAt wdX7_breakerFor_0 adX7_breakerFor_0.2.2.2.2.2.2.2.1 rfl
theorem dX7_breakerFor_12 : decode cX7_breakerFor 12 = .ok (.aload_n 3, 1) := dAt wdX7_breakerFor_0 adX7_breakerFor_0.2.2.2.2.2.2.2.2.1 rfl
theorem dX7_breakerFor_13 : decode cX7_breakerFor 13 = .ok (.aload_n 0, 1) := dAt wdX7_breakerFor_0 adX7_breakerFor_0.2.2.2.2.2.2.2.2.2.1 rfl
theorem dX7_breakerFor_14 : decode cX7_breakerFor 14 = .ok (.getfield 76, 3) := dAt wdX7_breakerFor_0 adX7_breakerFor_0.2.2.2.2.2.2.2.2.2.2.1 rfl
theorem dX7_breakerFor_17 : decode cX7_breakerFor 17 = .ok (.invokevirtual 178, 3) := dAt wdX7_breakerFor_0 adX7_breakerFor_0.2.2.2.2.2.2.2.2.2.2.2.1 rfl
theorem dX7_breakerFor_20 : decode cX7_breakerFor 20 = .ok (.aload_n 0, 1) := dAt wdX7_breakerFor_0 adX7_breakerFor_0.2.2.2.2.2.2.2.2.2.2.2.2.1 rfl
theorem dX7_breakerFor_21 : decode cX7_breakerFor 21 = .ok (.getfield 72, 3) := dAt wdX7_breakerFor_0 adX7_breakerFor_0.2.2.2.2.2.2.2.2.2.2.2.2.2.1 rfl
theorem dX7_breakerFor_24 : decode cX7_breakerFor 24 = .ok (.aload_n 3, 1) := dAt wdX7_breakerFor_0 adX7_breakerFor_0.2.2.2.2.2.2.2.2.2.2.2.2.2.2.1 rfl
theorem dX7_breakerFor_25 : decode cX7_breakerFor 25 = .ok (.invokevirtual 182, 3) := dAt wdX7_breakerFor_0 adX7_breakerFor_0.2.2.2.2.2.2.2.2.2.2.2.2.2.2.2 rfl
def bdX7_breakerFor_28 : ByteArray := .mk #[42, 180, 0, 72, 43, 42, 180, 0, 15, 182, 0, 185, 42, 180, 0, 72, 176]
theorem wdX7_breakerFor_28 : LocW cX7_breakerFor 28 bdX7_breakerFor_28 := loc_of (by decide +kernel)
theorem adX7_breakerFor_28 : De bdX7_breakerFor_28 0 (.aload_n 0) 1 ∧ De bdX7_breakerFor_28 1 (.getfield 72) 3 ∧ De bdX7_breakerFor_28 4 (.aload_n 1) 1 ∧ De bdX7_breakerFor_28 5 (.aload_n 0) 1 ∧ De bdX7_breakerFor_28 6 (.getfield 15) 3 ∧ De bdX7_breakerFor_28 9 (.invokevirtual 185) 3 ∧ De bdX7_breakerFor_28 12 (.aload_n 0) 1 ∧ De bdX7_breakerFor_28 13 (.getfield 72) 3 ∧ De bdX7_breakerFor_28 16 (.areturn) 1 := by decide +kernel
theorem dX7_breakerFor_28 : decode cX7_breakerFor 28 = .ok (.aload_n 0, 1) := dAt wdX7_breakerFor_28 adX7_breakerFor_28.1 rfl
theorem dX7_breakerFor_29 : decode cX7_breakerFor 29 = .ok (.getfield 72, 3) := dAt wdX7_breakerFor_28 adX7_breakerFor_28.2.1 rfl
theorem dX7_breakerFor_32 : decode cX7_breakerFor 32 = .ok (.aload_n 1, 1) := dAt wdX7_breakerFor_28 adX7_breakerFor_28.2.2.1 rfl
theorem dX7_breakerFor_33 : decode cX7_breakerFor 33 = .ok (.aload_n 0, 1) := dAt wdX7_breakerFor_28 adX7_breakerFor_28.2.2.2.1 rfl
theorem dX7_breakerFor_34 : decode cX7_breakerFor 34 = .ok (.getfield 15, 3) := dAt wdX7_breakerFor_28 adX7_breakerFor_28.2.2.2.2.1 rfl
theorem dX7_breakerFor_37 : decode cX7_breakerFor 37 = .ok (.invokevirtual 185, 3) := dAt wdX7_breakerFor_28 adX7_breakerFor_28.2.2.2.2.2.1 rfl
theorem dX7_breakerFor_40 : decode cX7_breakerFor 40 = .ok (.aload_n 0, 1) := dAt wdX7_breakerFor_28 adX7_breakerFor_28.2.2.2.2.2.2.1 rfl
theorem dX7_breakerFor_41 : decode cX7_breakerFor 41 = .ok (.getfield 72, 3) := dAt wdX7_breakerFor_28 adX7_breakerFor_28.2.2.2.2.2.2.2.1 rfl
theorem dX7_breakerFor_44 : decode cX7_breakerFor 44 = .ok (.areturn, 1) := dAt wdX7_breakerFor_28 adX7_breakerFor_28.2.2.2.2.2.2.2.2 rfl
def bdX7_lateOf_0 : ByteArray := .mk #[42, 42, 180, 0, 9, 182, 0, 145, 27, 182, 0, 189, 61, 28, 2, 160, 0, 7, 3, 167, 0, 13, 3, 42, 180, 0, 9, 28]
theorem wdX7_lateOf_0 : LocW cX7_lateOf 0 bdX7_lateOf_0 := loc_of (by decide +kernel)
theorem adX7_lateOf_0 : De bdX7_lateOf_0 0 (.aload_n 0) 1 ∧ De bdX7_lateOf_0 1 (.aload_n 0) 1 ∧ De bdX7_lateOf_0 2 (.getfield 9) 3 ∧ De bdX7_lateOf_0 5 (.invokevirtual 145) 3 ∧ De bdX7_lateOf_0 8 (.iload_n 1) 1 ∧ De bdX7_lateOf_0 9 (.invokevirtual 189) 3 ∧ De bdX7_lateOf_0 12 (.istore_n 2) 1 ∧ De bdX7_lateOf_0 13 (.iload_n 2) 1 ∧ De bdX7_lateOf_0 14 (.iconst (-1)) 1 ∧ De bdX7_lateOf_0 15 (.if_icmp .ne 7) 3 ∧ De bdX7_lateOf_0 18 (.iconst 0) 1 ∧ De bdX7_lateOf_0 19 (.goto 13) 3 ∧ De bdX7_lateOf_0 22 (.iconst 0) 1 ∧ De bdX7_lateOf_0 23 (.aload_n 0) 1 ∧ De bdX7_lateOf_0 24 (.getfield 9) 3 ∧ De bdX7_lateOf_0 27 (.iload_n 2) 1 := by decide +kernel
theorem dX7_lateOf_0 : decode cX7_lateOf 0 = .ok (.aload_n 0, 1) := dAt wdX7_lateOf_0 adX7_lateOf_0.1 rfl
theorem dX7_lateOf_1 : decode cX7_lateOf 1 = .ok (.aload_n 0, 1) := dAt wdX7_lateOf_0 adX7_lateOf_0.2.1 rfl
theorem dX7_lateOf_2 : decode cX7_lateOf 2 = .ok (.getfield 9, 3) := dAt wdX7_lateOf_0 adX7_lateOf_0.2.2.1 rfl
theorem dX7_lateOf_5 : decode cX7_lateOf 5 = .ok (.invokevirtual 145, 3) := dAt wdX7_lateOf_0 adX7_lateOf_0.2.2.2.1 rfl
theorem dX7_lateOf_8 : decode cX7_lateOf 8 = .ok (.iload_n 1, 1) := dAt wdX7_lateOf_0 adX7_lateOf_0.2.2.2.2.1 rfl
theorem dX7_lateOf_9 : decode cX7_lateOf 9 = .ok (.invokevirtual 189, 3) := dAt wdX7_lateOf_0 adX7_lateOf_0.2.2.2.2.2.1 rfl
theorem dX7_lateOf_12 : decode cX7_lateOf 12 = .ok (.istore_n 2, 1) := dAt wdX7_lateOf_0 adX7_lateOf_0.2.2.2.2.2.2.1 rfl
theorem dX7_lateOf_13 : decode cX7_lateOf 13 = .ok (.iload_n 2, 1) := dAt wdX7_lateOf_0 adX7_lateOf_0.2.2.2.2.2.2.2.1 rfl
theorem dX7_lateOf_14 : decode cX7_lateOf 14 = .ok (.iconst (-1), 1) := dAt wdX7_lateOf_0 adX7_lateOf_0.2.2.2.2.2.2.2.2.1 rfl
theorem dX7_lateOf_15 : decode cX7_lateOf 15 = .ok (.if_icmp .ne 7, 3) := dAt wdX7_lateOf_0 adX7_lateOf_0.2.2.2.2.2.2.2.2.2.1 rfl
theorem dX7_lateOf_18 : decode cX7_lateOf 18 = .ok (.iconst 0, 1) := dAt wdX7_lateOf_0 adX7_lateOf_0.2.2.2.2.2.2.2.2.2.2.1 rfl
theorem dX7_lateOf_19 : decode cX7_lateOf 19 = .ok (.goto 13, 3) := dAt wdX7_lateOf_0 adX7_lateOf_0.2.2.2.2.2.2.2.2.2.2.2.1 rfl
theorem dX7_lateOf_22 : decode cX7_lateOf 22 = .ok (.iconst 0, 1) := dAt wdX7_lateOf_0 adX7_lateOf_0.2.2.2.2.2.2.2.2.2.2.2.2.1 rfl
theorem dX7_lateOf_23 : decode cX7_lateOf 23 = .ok (.aload_n 0, 1) := dAt wdX7_lateOf_0 adX7_lateOf_0.2.2.2.2.2.2.2.2.2.2.2.2.2.1 rfl
theorem dX7_lateOf_24 : decode cX7_lateOf 24 = .ok (.getfield 9, 3) := dAt wdX7_lateOf_0 adX7_lateOf_0.2.2.2.2.2.2.2.2.2.2.2.2.2.2.1 rfl
theorem dX7_lateOf_27 : decode cX7_lateOf 27 = .ok (.iload_n 2, 1) := dAt wdX7_lateOf_0 adX7_lateOf_0.2.2.2.2.2.2.2.2.2.2.2.2.2.2.2 rfl
def bdX7_lateOf_28 : ByteArray := .mk #[100, 184, 0, 193, 172]
theorem wdX7_lateOf_28 : LocW cX7_lateOf 28 bdX7_lateOf_28 := loc_of (by decide +kernel)
theorem adX7_lateOf_28 : De bdX7_lateOf_28 0 (.isub) 1 ∧ De bdX7_lateOf_28 1 (.invokestatic 193) 3 ∧ De bdX7_lateOf_28 4 (.ireturn) 1 := by decide +kernel
theorem dX7_lateOf_28 : decode cX7_lateOf 28 = .ok (.isub, 1) := dAt wdX7_lateOf_28 adX7_lateOf_28.1 rfl
theorem dX7_lateOf_29 : decode cX7_lateOf 29 = .ok (.invokestatic 193, 3) := dAt wdX7_lateOf_28 adX7_lateOf_28.2.1 rfl
theorem dX7_lateOf_32 : decode cX7_lateOf 32 = .ok (.ireturn, 1) := dAt wdX7_lateOf_28 adX7_lateOf_28.2.2 rfl
def bdX7_passMinute_0 : ByteArray := .mk #[42, 89, 180, 0, 9, 4, 96, 181, 0, 9, 42, 180, 0, 9, 4, 100, 16, 8, 112, 7, 104, 60, 3]
theorem wdX7_passMinute_0 : LocW cX7_passMinute 0 bdX7_passMinute_0 := loc_of (by decide +kernel)
theorem adX7_passMinute_0 : De bdX7_passMinute_0 0 (.aload_n 0) 1 ∧ De bdX7_passMinute_0 1 (.dup) 1 ∧ De bdX7_passMinute_0 2 (.getfield 9) 3 ∧ De bdX7_passMinute_0 5 (.iconst 1) 1 ∧ De bdX7_passMinute_0 6 (.iadd) 1 ∧ De bdX7_passMinute_0 7 (.putfield 9) 3 ∧ De bdX7_passMinute_0 10 (.aload_n 0) 1 ∧ De bdX7_passMinute_0 11 (.getfield 9) 3 ∧ De bdX7_passMinute_0 14 (.iconst 1) 1 ∧ De bdX7_passMinute_0 15 (.isub) 1 ∧ De bdX7_passMinute_0 16 (.bipush 8) 2 ∧ De bdX7_passMinute_0 18 (.irem) 1 ∧ De bdX7_passMinute_0 19 (.iconst 4) 1 ∧ De bdX7_passMinute_0 20 (.imul) 1 ∧ De bdX7_passMinute_0 21 (.istore_n 1) 1 ∧ De bdX7_passMinute_0 22 (.iconst 0) 1 := by decide +kernel
theorem dX7_passMinute_0 : decode cX7_passMinute 0 = .ok (.aload_n 0, 1) := dAt wdX7_passMinute_0 adX7_passMinute_0.1 rfl
theorem dX7_passMinute_1 : decode cX7_passMinute 1 = .ok (.dup, 1) := dAt wdX7_passMinute_0 adX7_passMinute_0.2.1 rfl
theorem dX7_passMinute_2 : decode cX7_passMinute 2 = .ok (.getfield 9, 3) := dAt wdX7_passMinute_0 adX7_passMinute_0.2.2.1 rfl
theorem dX7_passMinute_5 : decode cX7_passMinute 5 = .ok (.iconst 1, 1) := dAt wdX7_passMinute_0 adX7_passMinute_0.2.2.2.1 rfl
theorem dX7_passMinute_6 : decode cX7_passMinute 6 = .ok (.iadd, 1) := dAt wdX7_passMinute_0 adX7_passMinute_0.2.2.2.2.1 rfl
theorem dX7_passMinute_7 : decode cX7_passMinute 7 = .ok (.putfield 9, 3) := dAt wdX7_passMinute_0 adX7_passMinute_0.2.2.2.2.2.1 rfl
theorem dX7_passMinute_10 : decode cX7_passMinute 10 = .ok (.aload_n 0, 1) := dAt wdX7_passMinute_0 adX7_passMinute_0.2.2.2.2.2.2.1 rfl
theorem dX7_passMinute_11 : decode cX7_passMinute 11 = .ok (.getfield 9, 3) := dAt wdX7_passMinute_0 adX7_passMinute_0.2.2.2.2.2.2.2.1 rfl
theorem dX7_passMinute_14 : decode cX7_passMinute 14 = .ok (.iconst 1, 1) := dAt wdX7_passMinute_0 adX7_passMinute_0.2.2.2.2.2.2.2.2.1 rfl
theorem dX7_passMinute_15 : decode cX7_passMinute 15 = .ok (.isub, 1) := dAt wdX7_passMinute_0 adX7_passMinute_0.2.2.2.2.2.2.2.2.2.1 rfl
theorem dX7_passMinute_16 : decode cX7_passMinute 16 = .ok (.bipush 8, 2) := dAt wdX7_passMinute_0 adX7_passMinute_0.2.2.2.2.2.2.2.2.2.2.1 rfl
theorem dX7_passMinute_18 : decode cX7_passMinute 18 = .ok (.irem, 1) := dAt wdX7_passMinute_0 adX7_passMinute_0.2.2.2.2.2.2.2.2.2.2.2.1 rfl
theorem dX7_passMinute_19 : decode cX7_passMinute 19 = .ok (.iconst 4, 1) := dAt wdX7_passMinute_0 adX7_passMinute_0.2.2.2.2.2.2.2.2.2.2.2.2.1 rfl
theorem dX7_passMinute_20 : decode cX7_passMinute 20 = .ok (.imul, 1) := dAt wdX7_passMinute_0 adX7_passMinute_0.2.2.2.2.2.2.2.2.2.2.2.2.2.1 rfl
theorem dX7_passMinute_21 : decode cX7_passMinute 21 = .ok (.istore_n 1, 1) := dAt wdX7_passMinute_0 adX7_passMinute_0.2.2.2.2.2.2.2.2.2.2.2.2.2.2.1 rfl
theorem dX7_passMinute_22 : decode cX7_passMinute 22 = .ok (.iconst 0, 1) := dAt wdX7_passMinute_0 adX7_passMinute_0.2.2.2.2.2.2.2.2.2.2.2.2.2.2.2 rfl
def bdX7_passMinute_23 : ByteArray := .mk #[61, 28, 7, 162, 0, 27, 42, 180, 0, 63, 27, 28, 96, 2, 79, 42, 180, 0, 66, 27, 28, 96]
theorem wdX7_passMinute_23 : LocW cX7_passMinute 23 bdX7_passMinute_23 := loc_of (by decide +kernel)
theorem adX7_passMinute_23 : De bdX7_passMinute_23 0 (.istore_n 2) 1 ∧ De bdX7_passMinute_23 1 (.iload_n 2) 1 ∧ De bdX7_passMinute_23 2 (.iconst 4) 1 ∧ De bdX7_passMinute_23 3 (.if_icmp .ge 27) 3 ∧ De bdX7_passMinute_23 6 (.aload_n 0) 1 ∧ De bdX7_passMinute_23 7 (.getfield 63) 3 ∧ De bdX7_passMinute_23 10 (.iload_n 1) 1 ∧ De bdX7_passMinute_23 11 (.iload_n 2) 1 ∧ De bdX7_passMinute_23 12 (.iadd) 1 ∧ De bdX7_passMinute_23 13 (.iconst (-1)) 1 ∧ De bdX7_passMinute_23 14 (.iastore) 1 ∧ De bdX7_passMinute_23 15 (.aload_n 0) 1 ∧ De bdX7_passMinute_23 16 (.getfield 66) 3 ∧ De bdX7_passMinute_23 19 (.iload_n 1) 1 ∧ De bdX7_passMinute_23 20 (.iload_n 2) 1 ∧ De bdX7_passMinute_23 21 (.iadd) 1 := by decide +kernel
theorem dX7_passMinute_23 : decode cX7_passMinute 23 = .ok (.istore_n 2, 1) := dAt wdX7_passMinute_23 adX7_passMinute_23.1 rfl
theorem dX7_passMinute_24 : decode cX7_passMinute 24 = .ok (.iload_n 2, 1) := dAt wdX7_passMinute_23 adX7_passMinute_23.2.1 rfl
theorem dX7_passMinute_25 : decode cX7_passMinute 25 = .ok (.iconst 4, 1) := dAt wdX7_passMinute_23 adX7_passMinute_23.2.2.1 rfl
theorem dX7_passMinute_26 : decode cX7_passMinute 26 = .ok (.if_icmp .ge 27, 3) := dAt wdX7_passMinute_23 adX7_passMinute_23.2.2.2.1 rfl
theorem dX7_passMinute_29 : decode cX7_passMinute 29 = .ok (.aload_n 0, 1) := dAt wdX7_passMinute_23 adX7_passMinute_23.2.2.2.2.1 rfl
theorem dX7_passMinute_30 : decode cX7_passMinute 30 = .ok (.getfield 63, 3) := dAt wdX7_passMinute_23 adX7_passMinute_23.2.2.2.2.2.1 rfl
theorem dX7_passMinute_33 : decode cX7_passMinute 33 = .ok (.iload_n 1, 1) := dAt wdX7_passMinute_23 adX7_passMinute_23.2.2.2.2.2.2.1 rfl
theorem dX7_passMinute_34 : decode cX7_passMinute 34 = .ok (.iload_n 2, 1) := dAt wdX7_passMinute_23 adX7_passMinute_23.2.2.2.2.2.2.2.1 rfl
theorem dX7_passMinute_35 : decode cX7_passMinute 35 = .ok (.iadd, 1) := dAt wdX7_passMinute_23 adX7_passMinute_23.2.2.2.2.2.2.2.2.1 rfl
theorem dX7_passMinute_36 : decode cX7_passMinute 36 = .ok (.iconst (-1), 1) := dAt wdX7_passMinute_23 adX7_passMinute_23.2.2.2.2.2.2.2.2.2.1 rfl
theorem dX7_passMinute_37 : decode cX7_passMinute 37 = .ok (.iastore, 1) := dAt wdX7_passMinute_23 adX7_passMinute_23.2.2.2.2.2.2.2.2.2.2.1 rfl
theorem dX7_passMinute_38 : decode cX7_passMinute 38 = .ok (.aload_n 0, 1) := dAt wdX7_passMinute_23 adX7_passMinute_23.2.2.2.2.2.2.2.2.2.2.2.1 rfl
theorem dX7_passMinute_39 : decode cX7_passMinute 39 = .ok (.getfield 66, 3) := dAt wdX7_passMinute_23 adX7_passMinute_23.2.2.2.2.2.2.2.2.2.2.2.2.1 rfl
theorem dX7_passMinute_42 : decode cX7_passMinute 42 = .ok (.iload_n 1, 1) := dAt wdX7_passMinute_23 adX7_passMinute_23.2.2.2.2.2.2.2.2.2.2.2.2.2.1 rfl
theorem dX7_passMinute_43 : decode cX7_passMinute 43 = .ok (.iload_n 2, 1) := dAt wdX7_passMinute_23 adX7_passMinute_23.2.2.2.2.2.2.2.2.2.2.2.2.2.2.1 rfl
theorem dX7_passMinute_44 : decode cX7_passMinute 44 = .ok (.iadd, 1) := dAt wdX7_passMinute_23 adX7_passMinute_23.2.2.2.2.2.2.2.2.2.2.2.2.2.2.2 rfl
def bdX7_passMinute_45 : ByteArray := .mk #[2, 79, 132, 2, 1, 167, 255, 230, 3, 61, 28, 42, 180, 0, 51, 162, 0, 35, 42, 28, 182, 0, 106, 78, 45, 180, 0, 199]
theorem wdX7_passMinute_45 : LocW cX7_passMinute 45 bdX7_passMinute_45 := loc_of (by decide +kernel)
theorem adX7_passMinute_45 : De bdX7_passMinute_45 0 (.iconst (-1)) 1 ∧ De bdX7_passMinute_45 1 (.iastore) 1 ∧ De bdX7_passMinute_45 2 (.iinc 2 1) 3 ∧ De bdX7_passMinute_45 5 (.goto (-26)) 3 ∧ De bdX7_passMinute_45 8 (.iconst 0) 1 ∧ De bdX7_passMinute_45 9 (.istore_n 2) 1 ∧ De bdX7_passMinute_45 10 (.iload_n 2) 1 ∧ De bdX7_passMinute_45 11 (.aload_n 0) 1 ∧ De bdX7_passMinute_45 12 (.getfield 51) 3 ∧ De bdX7_passMinute_45 15 (.if_icmp .ge 35) 3 ∧ De bdX7_passMinute_45 18 (.aload_n 0) 1 ∧ De bdX7_passMinute_45 19 (.iload_n 2) 1 ∧ De bdX7_passMinute_45 20 (.invokevirtual 106) 3 ∧ De bdX7_passMinute_45 23 (.astore_n 3) 1 ∧ De bdX7_passMinute_45 24 (.aload_n 3) 1 ∧ De bdX7_passMinute_45 25 (.getfield 199) 3 := by decide +kernel
theorem dX7_passMinute_45 : decode cX7_passMinute 45 = .ok (.iconst (-1), 1) := dAt wdX7_passMinute_45 adX7_passMinute_45.1 rfl
theorem dX7_passMinute_46 : decode cX7_passMinute 46 = .ok (.iastore, 1) := dAt wdX7_passMinute_45 adX7_passMinute_45.2.1 rfl
theorem dX7_passMinute_47 : decode cX7_passMinute 47 = .ok (.iinc 2 1, 3) := dAt wdX7_passMinute_45 adX7_passMinute_45.2.2.1 rfl
theorem dX7_passMinute_50 : decode cX7_passMinute 50 = .ok (.goto (-26), 3) := dAt wdX7_passMinute_45 adX7_passMinute_45.2.2.2.1 rfl
theorem dX7_passMinute_53 : decode cX7_passMinute 53 = .ok (.iconst 0, 1) := dAt wdX7_passMinute_45 adX7_passMinute_45.2.2.2.2.1 rfl
theorem dX7_passMinute_54 : decode cX7_passMinute 54 = .ok (.istore_n 2, 1) := dAt wdX7_passMinute_45 adX7_passMinute_45.2.2.2.2.2.1 rfl
theorem dX7_passMinute_55 : decode cX7_passMinute 55 = .ok (.iload_n 2, 1) := dAt wdX7_passMinute_45 adX7_passMinute_45.2.2.2.2.2.2.1 rfl
theorem dX7_passMinute_56 : decode cX7_passMinute 56 = .ok (.aload_n 0, 1) := dAt wdX7_passMinute_45 adX7_passMinute_45.2.2.2.2.2.2.2.1 rfl
theorem dX7_passMinute_57 : decode cX7_passMinute 57 = .ok (.getfield 51, 3) := dAt wdX7_passMinute_45 adX7_passMinute_45.2.2.2.2.2.2.2.2.1 rfl
theorem dX7_passMinute_60 : decode cX7_passMinute 60 = .ok (.if_icmp .ge 35, 3) := dAt wdX7_passMinute_45 adX7_passMinute_45.2.2.2.2.2.2.2.2.2.1 rfl
theorem dX7_passMinute_63 : decode cX7_passMinute 63 = .ok (.aload_n 0, 1) := dAt wdX7_passMinute_45 adX7_passMinute_45.2.2.2.2.2.2.2.2.2.2.1 rfl
theorem dX7_passMinute_64 : decode cX7_passMinute 64 = .ok (.iload_n 2, 1) := dAt wdX7_passMinute_45 adX7_passMinute_45.2.2.2.2.2.2.2.2.2.2.2.1 rfl
theorem dX7_passMinute_65 : decode cX7_passMinute 65 = .ok (.invokevirtual 106, 3) := dAt wdX7_passMinute_45 adX7_passMinute_45.2.2.2.2.2.2.2.2.2.2.2.2.1 rfl
theorem dX7_passMinute_68 : decode cX7_passMinute 68 = .ok (.astore_n 3, 1) := dAt wdX7_passMinute_45 adX7_passMinute_45.2.2.2.2.2.2.2.2.2.2.2.2.2.1 rfl
theorem dX7_passMinute_69 : decode cX7_passMinute 69 = .ok (.aload_n 3, 1) := dAt wdX7_passMinute_45 adX7_passMinute_45.2.2.2.2.2.2.2.2.2.2.2.2.2.2.1 rfl
theorem dX7_passMinute_70 : decode cX7_passMinute 70 = .ok (.getfield 199, 3) := dAt wdX7_passMinute_45 adX7_passMinute_45.2.2.2.2.2.2.2.2.2.2.2.2.2.2.2 rfl
def bdX7_passMinute_73 : ByteArray := .mk #[154, 0, 16, 45, 180, 0, 202, 158, 0, 9, 42, 28, 45, 182, 0, 205, 132, 2, 1, 167, 255, 219, 177]
theorem wdX7_passMinute_73 : LocW cX7_passMinute 73 bdX7_passMinute_73 := loc_of (by decide +kernel)
theorem adX7_passMinute_73 : De bdX7_passMinute_73 0 (.ifCond .ne 16) 3 ∧ De bdX7_passMinute_73 3 (.aload_n 3) 1 ∧ De bdX7_passMinute_73 4 (.getfield 202) 3 ∧ De bdX7_passMinute_73 7 (.ifCond .le 9) 3 ∧ De bdX7_passMinute_73 10 (.aload_n 0) 1 ∧ De bdX7_passMinute_73 11 (.iload_n 2) 1 ∧ De bdX7_passMinute_73 12 (.aload_n 3) 1 ∧ De bdX7_passMinute_73 13 (.invokevirtual 205) 3 ∧ De bdX7_passMinute_73 16 (.iinc 2 1) 3 ∧ De bdX7_passMinute_73 19 (.goto (-37)) 3 ∧ De bdX7_passMinute_73 22 (.return_) 1 := by decide +kernel
theorem dX7_passMinute_73 : decode cX7_passMinute 73 = .ok (.ifCond .ne 16, 3) := dAt wdX7_passMinute_73 adX7_passMinute_73.1 rfl
theorem dX7_passMinute_76 : decode cX7_passMinute 76 = .ok (.aload_n 3, 1) := dAt wdX7_passMinute_73 adX7_passMinute_73.2.1 rfl
theorem dX7_passMinute_77 : decode cX7_passMinute 77 = .ok (.getfield 202, 3) := dAt wdX7_passMinute_73 adX7_passMinute_73.2.2.1 rfl
theorem dX7_passMinute_80 : decode cX7_passMinute 80 = .ok (.ifCond .le 9, 3) := dAt wdX7_passMinute_73 adX7_passMinute_73.2.2.2.1 rfl
theorem dX7_passMinute_83 : decode cX7_passMinute 83 = .ok (.aload_n 0, 1) := dAt wdX7_passMinute_73 adX7_passMinute_73.2.2.2.2.1 rfl
theorem dX7_passMinute_84 : decode cX7_passMinute 84 = .ok (.iload_n 2, 1) := dAt wdX7_passMinute_73 adX7_passMinute_73.2.2.2.2.2.1 rfl
theorem dX7_passMinute_85 : decode cX7_passMinute 85 = .ok (.aload_n 3, 1) := dAt wdX7_passMinute_73 adX7_passMinute_73.2.2.2.2.2.2.1 rfl
theorem dX7_passMinute_86 : decode cX7_passMinute 86 = .ok (.invokevirtual 205, 3) := dAt wdX7_passMinute_73 adX7_passMinute_73.2.2.2.2.2.2.2.1 rfl
theorem dX7_passMinute_89 : decode cX7_passMinute 89 = .ok (.iinc 2 1, 3) := dAt wdX7_passMinute_73 adX7_passMinute_73.2.2.2.2.2.2.2.2.1 rfl
theorem dX7_passMinute_92 : decode cX7_passMinute 92 = .ok (.goto (-37), 3) := dAt wdX7_passMinute_73 adX7_passMinute_73.2.2.2.2.2.2.2.2.2.1 rfl
theorem dX7_passMinute_95 : decode cX7_passMinute 95 = .ok (.return_, 1) := dAt wdX7_passMinute_73 adX7_passMinute_73.2.2.2.2.2.2.2.2.2.2 rfl
def bdX7_work_0 : ByteArray := .mk #[42, 44, 180, 0, 209, 3, 46, 182, 0, 120, 78, 45, 198, 0, 18, 45, 180, 0, 212, 154, 0, 16, 42, 45, 182, 0, 215, 154, 0, 8]
theorem wdX7_work_0 : LocW cX7_work 0 bdX7_work_0 := loc_of (by decide +kernel)
theorem adX7_work_0 : De bdX7_work_0 0 (.aload_n 0) 1 ∧ De bdX7_work_0 1 (.aload_n 2) 1 ∧ De bdX7_work_0 2 (.getfield 209) 3 ∧ De bdX7_work_0 5 (.iconst 0) 1 ∧ De bdX7_work_0 6 (.iaload) 1 ∧ De bdX7_work_0 7 (.invokevirtual 120) 3 ∧ De bdX7_work_0 10 (.astore_n 3) 1 ∧ De bdX7_work_0 11 (.aload_n 3) 1 ∧ De bdX7_work_0 12 (.ifnull 18) 3 ∧ De bdX7_work_0 15 (.aload_n 3) 1 ∧ De bdX7_work_0 16 (.getfield 212) 3 ∧ De bdX7_work_0 19 (.ifCond .ne 16) 3 ∧ De bdX7_work_0 22 (.aload_n 0) 1 ∧ De bdX7_work_0 23 (.aload_n 3) 1 ∧ De bdX7_work_0 24 (.invokevirtual 215) 3 ∧ De bdX7_work_0 27 (.ifCond .ne 8) 3 := by decide +kernel
theorem dX7_work_0 : decode cX7_work 0 = .ok (.aload_n 0, 1) := dAt wdX7_work_0 adX7_work_0.1 rfl
theorem dX7_work_1 : decode cX7_work 1 = .ok (.aload_n 2, 1) := dAt wdX7_work_0 adX7_work_0.2.1 rfl
theorem dX7_work_2 : decode cX7_work 2 = .ok (.getfield 209, 3) := dAt wdX7_work_0 adX7_work_0.2.2.1 rfl
theorem dX7_work_5 : decode cX7_work 5 = .ok (.iconst 0, 1) := dAt wdX7_work_0 adX7_work_0.2.2.2.1 rfl
theorem dX7_work_6 : decode cX7_work 6 = .ok (.iaload, 1) := dAt wdX7_work_0 adX7_work_0.2.2.2.2.1 rfl
theorem dX7_work_7 : decode cX7_work 7 = .ok (.invokevirtual 120, 3) := dAt wdX7_work_0 adX7_work_0.2.2.2.2.2.1 rfl
theorem dX7_work_10 : decode cX7_work 10 = .ok (.astore_n 3, 1) := dAt wdX7_work_0 adX7_work_0.2.2.2.2.2.2.1 rfl
theorem dX7_work_11 : decode cX7_work 11 = .ok (.aload_n 3, 1) := dAt wdX7_work_0 adX7_work_0.2.2.2.2.2.2.2.1 rfl
theorem dX7_work_12 : decode cX7_work 12 = .ok (.ifnull 18, 3) := dAt wdX7_work_0 adX7_work_0.2.2.2.2.2.2.2.2.1 rfl
theorem dX7_work_15 : decode cX7_work 15 = .ok (.aload_n 3, 1) := dAt wdX7_work_0 adX7_work_0.2.2.2.2.2.2.2.2.2.1 rfl
theorem dX7_work_16 : decode cX7_work 16 = .ok (.getfield 212, 3) := dAt wdX7_work_0 adX7_work_0.2.2.2.2.2.2.2.2.2.2.1 rfl
theorem dX7_work_19 : decode cX7_work 19 = .ok (.ifCond .ne 16, 3) := dAt wdX7_work_0 adX7_work_0.2.2.2.2.2.2.2.2.2.2.2.1 rfl
theorem dX7_work_22 : decode cX7_work 22 = .ok (.aload_n 0, 1) := dAt wdX7_work_0 adX7_work_0.2.2.2.2.2.2.2.2.2.2.2.2.1 rfl
theorem dX7_work_23 : decode cX7_work 23 = .ok (.aload_n 3, 1) := dAt wdX7_work_0 adX7_work_0.2.2.2.2.2.2.2.2.2.2.2.2.2.1 rfl
theorem dX7_work_24 : decode cX7_work 24 = .ok (.invokevirtual 215, 3) := dAt wdX7_work_0 adX7_work_0.2.2.2.2.2.2.2.2.2.2.2.2.2.2.1 rfl
theorem dX7_work_27 : decode cX7_work 27 = .ok (.ifCond .ne 8, 3) := dAt wdX7_work_0 adX7_work_0.2.2.2.2.2.2.2.2.2.2.2.2.2.2.2 rfl
def bdX7_work_30 : ByteArray := .mk #[44, 182, 0, 219, 177, 44, 180, 0, 222, 3, 46, 2, 160, 0, 13, 44, 180, 0, 222, 3, 45, 180, 0, 225, 79, 42]
theorem wdX7_work_30 : LocW cX7_work 30 bdX7_work_30 := loc_of (by decide +kernel)
theorem adX7_work_30 : De bdX7_work_30 0 (.aload_n 2) 1 ∧ De bdX7_work_30 1 (.invokevirtual 219) 3 ∧ De bdX7_work_30 4 (.return_) 1 ∧ De bdX7_work_30 5 (.aload_n 2) 1 ∧ De bdX7_work_30 6 (.getfield 222) 3 ∧ De bdX7_work_30 9 (.iconst 0) 1 ∧ De bdX7_work_30 10 (.iaload) 1 ∧ De bdX7_work_30 11 (.iconst (-1)) 1 ∧ De bdX7_work_30 12 (.if_icmp .ne 13) 3 ∧ De bdX7_work_30 15 (.aload_n 2) 1 ∧ De bdX7_work_30 16 (.getfield 222) 3 ∧ De bdX7_work_30 19 (.iconst 0) 1 ∧ De bdX7_work_30 20 (.aload_n 3) 1 ∧ De bdX7_work_30 21 (.getfield 225) 3 ∧ De bdX7_work_30 24 (.iastore) 1 ∧ De bdX7_work_30 25 (.aload_n 0) 1 := by decide +kernel
theorem dX7_work_30 : decode cX7_work 30 = .ok (.aload_n 2, 1) := dAt wdX7_work_30 adX7_work_30.1 rfl
theorem dX7_work_31 : decode cX7_work 31 = .ok (.invokevirtual 219, 3) := dAt wdX7_work_30 adX7_work_30.2.1 rfl
theorem dX7_work_34 : decode cX7_work 34 = .ok (.return_, 1) := dAt wdX7_work_30 adX7_work_30.2.2.1 rfl
theorem dX7_work_35 : decode cX7_work 35 = .ok (.aload_n 2, 1) := dAt wdX7_work_30 adX7_work_30.2.2.2.1 rfl
theorem dX7_work_36 : decode cX7_work 36 = .ok (.getfield 222, 3) := dAt wdX7_work_30 adX7_work_30.2.2.2.2.1 rfl
theorem dX7_work_39 : decode cX7_work 39 = .ok (.iconst 0, 1) := dAt wdX7_work_30 adX7_work_30.2.2.2.2.2.1 rfl
theorem dX7_work_40 : decode cX7_work 40 = .ok (.iaload, 1) := dAt wdX7_work_30 adX7_work_30.2.2.2.2.2.2.1 rfl
theorem dX7_work_41 : decode cX7_work 41 = .ok (.iconst (-1), 1) := dAt wdX7_work_30 adX7_work_30.2.2.2.2.2.2.2.1 rfl
theorem dX7_work_42 : decode cX7_work 42 = .ok (.if_icmp .ne 13, 3) := dAt wdX7_work_30 adX7_work_30.2.2.2.2.2.2.2.2.1 rfl
theorem dX7_work_45 : decode cX7_work 45 = .ok (.aload_n 2, 1) := dAt wdX7_work_30 adX7_work_30.2.2.2.2.2.2.2.2.2.1 rfl
theorem dX7_work_46 : decode cX7_work 46 = .ok (.getfield 222, 3) := dAt wdX7_work_30 adX7_work_30.2.2.2.2.2.2.2.2.2.2.1 rfl
theorem dX7_work_49 : decode cX7_work 49 = .ok (.iconst 0, 1) := dAt wdX7_work_30 adX7_work_30.2.2.2.2.2.2.2.2.2.2.2.1 rfl
theorem dX7_work_50 : decode cX7_work 50 = .ok (.aload_n 3, 1) := dAt wdX7_work_30 adX7_work_30.2.2.2.2.2.2.2.2.2.2.2.2.1 rfl
theorem dX7_work_51 : decode cX7_work 51 = .ok (.getfield 225, 3) := dAt wdX7_work_30 adX7_work_30.2.2.2.2.2.2.2.2.2.2.2.2.2.1 rfl
theorem dX7_work_54 : decode cX7_work 54 = .ok (.iastore, 1) := dAt wdX7_work_30 adX7_work_30.2.2.2.2.2.2.2.2.2.2.2.2.2.2.1 rfl
theorem dX7_work_55 : decode cX7_work 55 = .ok (.aload_n 0, 1) := dAt wdX7_work_30 adX7_work_30.2.2.2.2.2.2.2.2.2.2.2.2.2.2.2 rfl
def bdX7_work_56 : ByteArray := .mk #[45, 44, 180, 0, 228, 3, 46, 182, 0, 231, 44, 42, 180, 0, 82, 182, 0, 234, 153, 0, 8, 44, 182, 0, 219, 177, 42, 27]
theorem wdX7_work_56 : LocW cX7_work 56 bdX7_work_56 := loc_of (by decide +kernel)
theorem adX7_work_56 : De bdX7_work_56 0 (.aload_n 3) 1 ∧ De bdX7_work_56 1 (.aload_n 2) 1 ∧ De bdX7_work_56 2 (.getfield 228) 3 ∧ De bdX7_work_56 5 (.iconst 0) 1 ∧ De bdX7_work_56 6 (.iaload) 1 ∧ De bdX7_work_56 7 (.invokevirtual 231) 3 ∧ De bdX7_work_56 10 (.aload_n 2) 1 ∧ De bdX7_work_56 11 (.aload_n 0) 1 ∧ De bdX7_work_56 12 (.getfield 82) 3 ∧ De bdX7_work_56 15 (.invokevirtual 234) 3 ∧ De bdX7_work_56 18 (.ifCond .eq 8) 3 ∧ De bdX7_work_56 21 (.aload_n 2) 1 ∧ De bdX7_work_56 22 (.invokevirtual 219) 3 ∧ De bdX7_work_56 25 (.return_) 1 ∧ De bdX7_work_56 26 (.aload_n 0) 1 ∧ De bdX7_work_56 27 (.iload_n 1) 1 := by decide +kernel
theorem dX7_work_56 : decode cX7_work 56 = .ok (.aload_n 3, 1) := dAt wdX7_work_56 adX7_work_56.1 rfl
theorem dX7_work_57 : decode cX7_work 57 = .ok (.aload_n 2, 1) := dAt wdX7_work_56 adX7_work_56.2.1 rfl
theorem dX7_work_58 : decode cX7_work 58 = .ok (.getfield 228, 3) := dAt wdX7_work_56 adX7_work_56.2.2.1 rfl
theorem dX7_work_61 : decode cX7_work 61 = .ok (.iconst 0, 1) := dAt wdX7_work_56 adX7_work_56.2.2.2.1 rfl
theorem dX7_work_62 : decode cX7_work 62 = .ok (.iaload, 1) := dAt wdX7_work_56 adX7_work_56.2.2.2.2.1 rfl
theorem dX7_work_63 : decode cX7_work 63 = .ok (.invokevirtual 231, 3) := dAt wdX7_work_56 adX7_work_56.2.2.2.2.2.1 rfl
theorem dX7_work_66 : decode cX7_work 66 = .ok (.aload_n 2, 1) := dAt wdX7_work_56 adX7_work_56.2.2.2.2.2.2.1 rfl
theorem dX7_work_67 : decode cX7_work 67 = .ok (.aload_n 0, 1) := dAt wdX7_work_56 adX7_work_56.2.2.2.2.2.2.2.1 rfl
theorem dX7_work_68 : decode cX7_work 68 = .ok (.getfield 82, 3) := dAt wdX7_work_56 adX7_work_56.2.2.2.2.2.2.2.2.1 rfl
theorem dX7_work_71 : decode cX7_work 71 = .ok (.invokevirtual 234, 3) := dAt wdX7_work_56 adX7_work_56.2.2.2.2.2.2.2.2.2.1 rfl
theorem dX7_work_74 : decode cX7_work 74 = .ok (.ifCond .eq 8, 3) := dAt wdX7_work_56 adX7_work_56.2.2.2.2.2.2.2.2.2.2.1 rfl
theorem dX7_work_77 : decode cX7_work 77 = .ok (.aload_n 2, 1) := dAt wdX7_work_56 adX7_work_56.2.2.2.2.2.2.2.2.2.2.2.1 rfl
theorem dX7_work_78 : decode cX7_work 78 = .ok (.invokevirtual 219, 3) := dAt wdX7_work_56 adX7_work_56.2.2.2.2.2.2.2.2.2.2.2.2.1 rfl
theorem dX7_work_81 : decode cX7_work 81 = .ok (.return_, 1) := dAt wdX7_work_56 adX7_work_56.2.2.2.2.2.2.2.2.2.2.2.2.2.1 rfl
theorem dX7_work_82 : decode cX7_work 82 = .ok (.aload_n 0, 1) := dAt wdX7_work_56 adX7_work_56.2.2.2.2.2.2.2.2.2.2.2.2.2.2.1 rfl
theorem dX7_work_83 : decode cX7_work 83 = .ok (.iload_n 1, 1) := dAt wdX7_work_56 adX7_work_56.2.2.2.2.2.2.2.2.2.2.2.2.2.2.2 rfl
def bdX7_work_84 : ByteArray := .mk #[42, 180, 0, 9, 44, 180, 0, 238, 100, 42, 180, 0, 9, 4, 100, 182, 0, 241, 42, 180, 0, 60, 17, 1, 44, 162, 0, 18, 44, 42]
theorem wdX7_work_84 : LocW cX7_work 84 bdX7_work_84 := loc_of (by decide +kernel)
theorem adX7_work_84 : De bdX7_work_84 0 (.aload_n 0) 1 ∧ De bdX7_work_84 1 (.getfield 9) 3 ∧ De bdX7_work_84 4 (.aload_n 2) 1 ∧ De bdX7_work_84 5 (.getfield 238) 3 ∧ De bdX7_work_84 8 (.isub) 1 ∧ De bdX7_work_84 9 (.aload_n 0) 1 ∧ De bdX7_work_84 10 (.getfield 9) 3 ∧ De bdX7_work_84 13 (.iconst 1) 1 ∧ De bdX7_work_84 14 (.isub) 1 ∧ De bdX7_work_84 15 (.invokevirtual 241) 3 ∧ De bdX7_work_84 18 (.aload_n 0) 1 ∧ De bdX7_work_84 19 (.getfield 60) 3 ∧ De bdX7_work_84 22 (.sipush 300) 3 ∧ De bdX7_work_84 25 (.if_icmp .ge 18) 3 ∧ De bdX7_work_84 28 (.aload_n 2) 1 ∧ De bdX7_work_84 29 (.aload_n 0) 1 := by decide +kernel
theorem dX7_work_84 : decode cX7_work 84 = .ok (.aload_n 0, 1) := dAt wdX7_work_84 adX7_work_84.1 rfl
theorem dX7_work_85 : decode cX7_work 85 = .ok (.getfield 9, 3) := dAt wdX7_work_84 adX7_work_84.2.1 rfl
theorem dX7_work_88 : decode cX7_work 88 = .ok (.aload_n 2, 1) := dAt wdX7_work_84 adX7_work_84.2.2.1 rfl
theorem dX7_work_89 : decode cX7_work 89 = .ok (.getfield 238, 3) := dAt wdX7_work_84 adX7_work_84.2.2.2.1 rfl
theorem dX7_work_92 : decode cX7_work 92 = .ok (.isub, 1) := dAt wdX7_work_84 adX7_work_84.2.2.2.2.1 rfl
theorem dX7_work_93 : decode cX7_work 93 = .ok (.aload_n 0, 1) := dAt wdX7_work_84 adX7_work_84.2.2.2.2.2.1 rfl
theorem dX7_work_94 : decode cX7_work 94 = .ok (.getfield 9, 3) := dAt wdX7_work_84 adX7_work_84.2.2.2.2.2.2.1 rfl
theorem dX7_work_97 : decode cX7_work 97 = .ok (.iconst 1, 1) := dAt wdX7_work_84 adX7_work_84.2.2.2.2.2.2.2.1 rfl
theorem dX7_work_98 : decode cX7_work 98 = .ok (.isub, 1) := dAt wdX7_work_84 adX7_work_84.2.2.2.2.2.2.2.2.1 rfl
theorem dX7_work_99 : decode cX7_work 99 = .ok (.invokevirtual 241, 3) := dAt wdX7_work_84 adX7_work_84.2.2.2.2.2.2.2.2.2.1 rfl
theorem dX7_work_102 : decode cX7_work 102 = .ok (.aload_n 0, 1) := dAt wdX7_work_84 adX7_work_84.2.2.2.2.2.2.2.2.2.2.1 rfl
theorem dX7_work_103 : decode cX7_work 103 = .ok (.getfield 60, 3) := dAt wdX7_work_84 adX7_work_84.2.2.2.2.2.2.2.2.2.2.2.1 rfl
theorem dX7_work_106 : decode cX7_work 106 = .ok (.sipush 300, 3) := dAt wdX7_work_84 adX7_work_84.2.2.2.2.2.2.2.2.2.2.2.2.1 rfl
theorem dX7_work_109 : decode cX7_work 109 = .ok (.if_icmp .ge 18, 3) := dAt wdX7_work_84 adX7_work_84.2.2.2.2.2.2.2.2.2.2.2.2.2.1 rfl
theorem dX7_work_112 : decode cX7_work 112 = .ok (.aload_n 2, 1) := dAt wdX7_work_84 adX7_work_84.2.2.2.2.2.2.2.2.2.2.2.2.2.2.1 rfl
theorem dX7_work_113 : decode cX7_work 113 = .ok (.aload_n 0, 1) := dAt wdX7_work_84 adX7_work_84.2.2.2.2.2.2.2.2.2.2.2.2.2.2.2 rfl
def bdX7_work_114 : ByteArray := .mk #[180, 0, 82, 42, 180, 0, 79, 182, 0, 245, 153, 0, 14, 44, 89, 180, 0, 249, 4, 96, 181, 0, 249, 177, 42, 27, 44, 45]
theorem wdX7_work_114 : LocW cX7_work 114 bdX7_work_114 := loc_of (by decide +kernel)
theorem adX7_work_114 : De bdX7_work_114 0 (.getfield 82) 3 ∧ De bdX7_work_114 3 (.aload_n 0) 1 ∧ De bdX7_work_114 4 (.getfield 79) 3 ∧ De bdX7_work_114 7 (.invokevirtual 245) 3 ∧ De bdX7_work_114 10 (.ifCond .eq 14) 3 ∧ De bdX7_work_114 13 (.aload_n 2) 1 ∧ De bdX7_work_114 14 (.dup) 1 ∧ De bdX7_work_114 15 (.getfield 249) 3 ∧ De bdX7_work_114 18 (.iconst 1) 1 ∧ De bdX7_work_114 19 (.iadd) 1 ∧ De bdX7_work_114 20 (.putfield 249) 3 ∧ De bdX7_work_114 23 (.return_) 1 ∧ De bdX7_work_114 24 (.aload_n 0) 1 ∧ De bdX7_work_114 25 (.iload_n 1) 1 ∧ De bdX7_work_114 26 (.aload_n 2) 1 ∧ De bdX7_work_114 27 (.aload_n 3) 1 := by decide +kernel
theorem dX7_work_114 : decode cX7_work 114 = .ok (.getfield 82, 3) := dAt wdX7_work_114 adX7_work_114.1 rfl
theorem dX7_work_117 : decode cX7_work 117 = .ok (.aload_n 0, 1) := dAt wdX7_work_114 adX7_work_114.2.1 rfl
theorem dX7_work_118 : decode cX7_work 118 = .ok (.getfield 79, 3) := dAt wdX7_work_114 adX7_work_114.2.2.1 rfl
theorem dX7_work_121 : decode cX7_work 121 = .ok (.invokevirtual 245, 3) := dAt wdX7_work_114 adX7_work_114.2.2.2.1 rfl
theorem dX7_work_124 : decode cX7_work 124 = .ok (.ifCond .eq 14, 3) := dAt wdX7_work_114 adX7_work_114.2.2.2.2.1 rfl
theorem dX7_work_127 : decode cX7_work 127 = .ok (.aload_n 2, 1) := dAt wdX7_work_114 adX7_work_114.2.2.2.2.2.1 rfl
theorem dX7_work_128 : decode cX7_work 128 = .ok (.dup, 1) := dAt wdX7_work_114 adX7_work_114.2.2.2.2.2.2.1 rfl
theorem dX7_work_129 : decode cX7_work 129 = .ok (.getfield 249, 3) := dAt wdX7_work_114 adX7_work_114.2.2.2.2.2.2.2.1 rfl
theorem dX7_work_132 : decode cX7_work 132 = .ok (.iconst 1, 1) := dAt wdX7_work_114 adX7_work_114.2.2.2.2.2.2.2.2.1 rfl
theorem dX7_work_133 : decode cX7_work 133 = .ok (.iadd, 1) := dAt wdX7_work_114 adX7_work_114.2.2.2.2.2.2.2.2.2.1 rfl
theorem dX7_work_134 : decode cX7_work 134 = .ok (.putfield 249, 3) := dAt wdX7_work_114 adX7_work_114.2.2.2.2.2.2.2.2.2.2.1 rfl
theorem dX7_work_137 : decode cX7_work 137 = .ok (.return_, 1) := dAt wdX7_work_114 adX7_work_114.2.2.2.2.2.2.2.2.2.2.2.1 rfl
theorem dX7_work_138 : decode cX7_work 138 = .ok (.aload_n 0, 1) := dAt wdX7_work_114 adX7_work_114.2.2.2.2.2.2.2.2.2.2.2.2.1 rfl
theorem dX7_work_139 : decode cX7_work 139 = .ok (.iload_n 1, 1) := dAt wdX7_work_114 adX7_work_114.2.2.2.2.2.2.2.2.2.2.2.2.2.1 rfl
theorem dX7_work_140 : decode cX7_work 140 = .ok (.aload_n 2, 1) := dAt wdX7_work_114 adX7_work_114.2.2.2.2.2.2.2.2.2.2.2.2.2.2.1 rfl
theorem dX7_work_141 : decode cX7_work 141 = .ok (.aload_n 3, 1) := dAt wdX7_work_114 adX7_work_114.2.2.2.2.2.2.2.2.2.2.2.2.2.2.2 rfl
def bdX7_work_142 : ByteArray := .mk #[182, 0, 252, 177]
theorem wdX7_work_142 : LocW cX7_work 142 bdX7_work_142 := loc_of (by decide +kernel)
theorem adX7_work_142 : De bdX7_work_142 0 (.invokevirtual 252) 3 ∧ De bdX7_work_142 3 (.return_) 1 := by decide +kernel
theorem dX7_work_142 : decode cX7_work 142 = .ok (.invokevirtual 252, 3) := dAt wdX7_work_142 adX7_work_142.1 rfl
theorem dX7_work_145 : decode cX7_work 145 = .ok (.return_, 1) := dAt wdX7_work_142 adX7_work_142.2 rfl
def bdX7_setPart_0 : ByteArray := .mk #[42, 43, 42, 180, 0, 9, 182, 1, 0, 3, 182, 1, 4, 2, 160, 0, 5, 3, 172, 42, 180, 0, 72, 43, 3, 3]
theorem wdX7_setPart_0 : LocW cX7_setPart 0 bdX7_setPart_0 := loc_of (by decide +kernel)
theorem adX7_setPart_0 : De bdX7_setPart_0 0 (.aload_n 0) 1 ∧ De bdX7_setPart_0 1 (.aload_n 1) 1 ∧ De bdX7_setPart_0 2 (.aload_n 0) 1 ∧ De bdX7_setPart_0 3 (.getfield 9) 3 ∧ De bdX7_setPart_0 6 (.invokevirtual 256) 3 ∧ De bdX7_setPart_0 9 (.iconst 0) 1 ∧ De bdX7_setPart_0 10 (.invokevirtual 260) 3 ∧ De bdX7_setPart_0 13 (.iconst (-1)) 1 ∧ De bdX7_setPart_0 14 (.if_icmp .ne 5) 3 ∧ De bdX7_setPart_0 17 (.iconst 0) 1 ∧ De bdX7_setPart_0 18 (.ireturn) 1 ∧ De bdX7_setPart_0 19 (.aload_n 0) 1 ∧ De bdX7_setPart_0 20 (.getfield 72) 3 ∧ De bdX7_setPart_0 23 (.aload_n 1) 1 ∧ De bdX7_setPart_0 24 (.iconst 0) 1 ∧ De bdX7_setPart_0 25 (.iconst 0) 1 := by decide +kernel
theorem dX7_setPart_0 : decode cX7_setPart 0 = .ok (.aload_n 0, 1) := dAt wdX7_setPart_0 adX7_setPart_0.1 rfl
theorem dX7_setPart_1 : decode cX7_setPart 1 = .ok (.aload_n 1, 1) := dAt wdX7_setPart_0 adX7_setPart_0.2.1 rfl
theorem dX7_setPart_2 : decode cX7_setPart 2 = .ok (.aload_n 0, 1) := dAt wdX7_setPart_0 adX7_setPart_0.2.2.1 rfl
theorem dX7_setPart_3 : decode cX7_setPart 3 = .ok (.getfield 9, 3) := dAt wdX7_setPart_0 adX7_setPart_0.2.2.2.1 rfl
theorem dX7_setPart_6 : decode cX7_setPart 6 = .ok (.invokevirtual 256, 3) := dAt wdX7_setPart_0 adX7_setPart_0.2.2.2.2.1 rfl
theorem dX7_setPart_9 : decode cX7_setPart 9 = .ok (.iconst 0, 1) := dAt wdX7_setPart_0 adX7_setPart_0.2.2.2.2.2.1 rfl
theorem dX7_setPart_10 : decode cX7_setPart 10 = .ok (.invokevirtual 260, 3) := dAt wdX7_setPart_0 adX7_setPart_0.2.2.2.2.2.2.1 rfl
theorem dX7_setPart_13 : decode cX7_setPart 13 = .ok (.iconst (-1), 1) := dAt wdX7_setPart_0 adX7_setPart_0.2.2.2.2.2.2.2.1 rfl
theorem dX7_setPart_14 : decode cX7_setPart 14 = .ok (.if_icmp .ne 5, 3) := dAt wdX7_setPart_0 adX7_setPart_0.2.2.2.2.2.2.2.2.1 rfl
theorem dX7_setPart_17 : decode cX7_setPart 17 = .ok (.iconst 0, 1) := dAt wdX7_setPart_0 adX7_setPart_0.2.2.2.2.2.2.2.2.2.1 rfl
theorem dX7_setPart_18 : decode cX7_setPart 18 = .ok (.ireturn, 1) := dAt wdX7_setPart_0 adX7_setPart_0.2.2.2.2.2.2.2.2.2.2.1 rfl
theorem dX7_setPart_19 : decode cX7_setPart 19 = .ok (.aload_n 0, 1) := dAt wdX7_setPart_0 adX7_setPart_0.2.2.2.2.2.2.2.2.2.2.2.1 rfl
theorem dX7_setPart_20 : decode cX7_setPart 20 = .ok (.getfield 72, 3) := dAt wdX7_setPart_0 adX7_setPart_0.2.2.2.2.2.2.2.2.2.2.2.2.1 rfl
theorem dX7_setPart_23 : decode cX7_setPart 23 = .ok (.aload_n 1, 1) := dAt wdX7_setPart_0 adX7_setPart_0.2.2.2.2.2.2.2.2.2.2.2.2.2.1 rfl
theorem dX7_setPart_24 : decode cX7_setPart 24 = .ok (.iconst 0, 1) := dAt wdX7_setPart_0 adX7_setPart_0.2.2.2.2.2.2.2.2.2.2.2.2.2.2.1 rfl
theorem dX7_setPart_25 : decode cX7_setPart 25 = .ok (.iconst 0, 1) := dAt wdX7_setPart_0 adX7_setPart_0.2.2.2.2.2.2.2.2.2.2.2.2.2.2.2 rfl
def bdX7_setPart_26 : ByteArray := .mk #[182, 1, 7, 43, 4, 181, 0, 212, 4, 172]
theorem wdX7_setPart_26 : LocW cX7_setPart 26 bdX7_setPart_26 := loc_of (by decide +kernel)
theorem adX7_setPart_26 : De bdX7_setPart_26 0 (.invokevirtual 263) 3 ∧ De bdX7_setPart_26 3 (.aload_n 1) 1 ∧ De bdX7_setPart_26 4 (.iconst 1) 1 ∧ De bdX7_setPart_26 5 (.putfield 212) 3 ∧ De bdX7_setPart_26 8 (.iconst 1) 1 ∧ De bdX7_setPart_26 9 (.ireturn) 1 := by decide +kernel
theorem dX7_setPart_26 : decode cX7_setPart 26 = .ok (.invokevirtual 263, 3) := dAt wdX7_setPart_26 adX7_setPart_26.1 rfl
theorem dX7_setPart_29 : decode cX7_setPart 29 = .ok (.aload_n 1, 1) := dAt wdX7_setPart_26 adX7_setPart_26.2.1 rfl
theorem dX7_setPart_30 : decode cX7_setPart 30 = .ok (.iconst 1, 1) := dAt wdX7_setPart_26 adX7_setPart_26.2.2.1 rfl
theorem dX7_setPart_31 : decode cX7_setPart 31 = .ok (.putfield 212, 3) := dAt wdX7_setPart_26 adX7_setPart_26.2.2.2.1 rfl
theorem dX7_setPart_34 : decode cX7_setPart 34 = .ok (.iconst 1, 1) := dAt wdX7_setPart_26 adX7_setPart_26.2.2.2.2.1 rfl
theorem dX7_setPart_35 : decode cX7_setPart 35 = .ok (.ireturn, 1) := dAt wdX7_setPart_26 adX7_setPart_26.2.2.2.2.2 rfl
def bdX7_countNeed_0 : ByteArray := .mk #[42, 180, 0, 82, 184, 1, 11, 43, 28, 42, 180, 0, 85, 182, 1, 14, 62, 3, 54, 4, 21, 4, 29, 162, 0, 33, 21, 4, 42]
theorem wdX7_countNeed_0 : LocW cX7_countNeed 0 bdX7_countNeed_0 := loc_of (by decide +kernel)
theorem adX7_countNeed_0 : De bdX7_countNeed_0 0 (.aload_n 0) 1 ∧ De bdX7_countNeed_0 1 (.getfield 82) 3 ∧ De bdX7_countNeed_0 4 (.invokestatic 267) 3 ∧ De bdX7_countNeed_0 7 (.aload_n 1) 1 ∧ De bdX7_countNeed_0 8 (.iload_n 2) 1 ∧ De bdX7_countNeed_0 9 (.aload_n 0) 1 ∧ De bdX7_countNeed_0 10 (.getfield 85) 3 ∧ De bdX7_countNeed_0 13 (.invokevirtual 270) 3 ∧ De bdX7_countNeed_0 16 (.istore_n 3) 1 ∧ De bdX7_countNeed_0 17 (.iconst 0) 1 ∧ De bdX7_countNeed_0 18 (.istore 4) 2 ∧ De bdX7_countNeed_0 20 (.iload 4) 2 ∧ De bdX7_countNeed_0 22 (.iload_n 3) 1 ∧ De bdX7_countNeed_0 23 (.if_icmp .ge 33) 3 ∧ De bdX7_countNeed_0 26 (.iload 4) 2 ∧ De bdX7_countNeed_0 28 (.aload_n 0) 1 := by decide +kernel
theorem dX7_countNeed_0 : decode cX7_countNeed 0 = .ok (.aload_n 0, 1) := dAt wdX7_countNeed_0 adX7_countNeed_0.1 rfl
theorem dX7_countNeed_1 : decode cX7_countNeed 1 = .ok (.getfield 82, 3) := dAt wdX7_countNeed_0 adX7_countNeed_0.2.1 rfl
theorem dX7_countNeed_4 : decode cX7_countNeed 4 = .ok (.invokestatic 267, 3) := dAt wdX7_countNeed_0 adX7_countNeed_0.2.2.1 rfl
theorem dX7_countNeed_7 : decode cX7_countNeed 7 = .ok (.aload_n 1, 1) := dAt wdX7_countNeed_0 adX7_countNeed_0.2.2.2.1 rfl
theorem dX7_countNeed_8 : decode cX7_countNeed 8 = .ok (.iload_n 2, 1) := dAt wdX7_countNeed_0 adX7_countNeed_0.2.2.2.2.1 rfl
theorem dX7_countNeed_9 : decode cX7_countNeed 9 = .ok (.aload_n 0, 1) := dAt wdX7_countNeed_0 adX7_countNeed_0.2.2.2.2.2.1 rfl
theorem dX7_countNeed_10 : decode cX7_countNeed 10 = .ok (.getfield 85, 3) := dAt wdX7_countNeed_0 adX7_countNeed_0.2.2.2.2.2.2.1 rfl
theorem dX7_countNeed_13 : decode cX7_countNeed 13 = .ok (.invokevirtual 270, 3) := dAt wdX7_countNeed_0 adX7_countNeed_0.2.2.2.2.2.2.2.1 rfl
theorem dX7_countNeed_16 : decode cX7_countNeed 16 = .ok (.istore_n 3, 1) := dAt wdX7_countNeed_0 adX7_countNeed_0.2.2.2.2.2.2.2.2.1 rfl
theorem dX7_countNeed_17 : decode cX7_countNeed 17 = .ok (.iconst 0, 1) := dAt wdX7_countNeed_0 adX7_countNeed_0.2.2.2.2.2.2.2.2.2.1 rfl
theorem dX7_countNeed_18 : decode cX7_countNeed 18 = .ok (.istore 4, 2) := dAt wdX7_countNeed_0 adX7_countNeed_0.2.2.2.2.2.2.2.2.2.2.1 rfl
theorem dX7_countNeed_20 : decode cX7_countNeed 20 = .ok (.iload 4, 2) := dAt wdX7_countNeed_0 adX7_countNeed_0.2.2.2.2.2.2.2.2.2.2.2.1 rfl
theorem dX7_countNeed_22 : decode cX7_countNeed 22 = .ok (.iload_n 3, 1) := dAt wdX7_countNeed_0 adX7_countNeed_0.2.2.2.2.2.2.2.2.2.2.2.2.1 rfl
theorem dX7_countNeed_23 : decode cX7_countNeed 23 = .ok (.if_icmp .ge 33, 3) := dAt wdX7_countNeed_0 adX7_countNeed_0.2.2.2.2.2.2.2.2.2.2.2.2.2.1 rfl
theorem dX7_countNeed_26 : decode cX7_countNeed 26 = .ok (.iload 4, 2) := dAt wdX7_countNeed_0 adX7_countNeed_0.2.2.2.2.2.2.2.2.2.2.2.2.2.2.1 rfl
theorem dX7_countNeed_28 : decode cX7_countNeed 28 = .ok (.aload_n 0, 1) := dAt wdX7_countNeed_0 adX7_countNeed_0.2.2.2.2.2.2.2.2.2.2.2.2.2.2.2 rfl
def bdX7_countNeed_29 : ByteArray := .mk #[180, 0, 85, 190, 162, 0, 23, 42, 180, 0, 82, 42, 180, 0, 85, 21, 4, 51, 184, 1, 18, 132, 4, 1, 167, 255, 223, 177]
theorem wdX7_countNeed_29 : LocW cX7_countNeed 29 bdX7_countNeed_29 := loc_of (by decide +kernel)
theorem adX7_countNeed_29 : De bdX7_countNeed_29 0 (.getfield 85) 3 ∧ De bdX7_countNeed_29 3 (.arraylength) 1 ∧ De bdX7_countNeed_29 4 (.if_icmp .ge 23) 3 ∧ De bdX7_countNeed_29 7 (.aload_n 0) 1 ∧ De bdX7_countNeed_29 8 (.getfield 82) 3 ∧ De bdX7_countNeed_29 11 (.aload_n 0) 1 ∧ De bdX7_countNeed_29 12 (.getfield 85) 3 ∧ De bdX7_countNeed_29 15 (.iload 4) 2 ∧ De bdX7_countNeed_29 17 (.baload) 1 ∧ De bdX7_countNeed_29 18 (.invokestatic 274) 3 ∧ De bdX7_countNeed_29 21 (.iinc 4 1) 3 ∧ De bdX7_countNeed_29 24 (.goto (-33)) 3 ∧ De bdX7_countNeed_29 27 (.return_) 1 := by decide +kernel
theorem dX7_countNeed_29 : decode cX7_countNeed 29 = .ok (.getfield 85, 3) := dAt wdX7_countNeed_29 adX7_countNeed_29.1 rfl
theorem dX7_countNeed_32 : decode cX7_countNeed 32 = .ok (.arraylength, 1) := dAt wdX7_countNeed_29 adX7_countNeed_29.2.1 rfl
theorem dX7_countNeed_33 : decode cX7_countNeed 33 = .ok (.if_icmp .ge 23, 3) := dAt wdX7_countNeed_29 adX7_countNeed_29.2.2.1 rfl
theorem dX7_countNeed_36 : decode cX7_countNeed 36 = .ok (.aload_n 0, 1) := dAt wdX7_countNeed_29 adX7_countNeed_29.2.2.2.1 rfl
theorem dX7_countNeed_37 : decode cX7_countNeed 37 = .ok (.getfield 82, 3) := dAt wdX7_countNeed_29 adX7_countNeed_29.2.2.2.2.1 rfl
theorem dX7_countNeed_40 : decode cX7_countNeed 40 = .ok (.aload_n 0, 1) := dAt wdX7_countNeed_29 adX7_countNeed_29.2.2.2.2.2.1 rfl
theorem dX7_countNeed_41 : decode cX7_countNeed 41 = .ok (.getfield 85, 3) := dAt wdX7_countNeed_29 adX7_countNeed_29.2.2.2.2.2.2.1 rfl
theorem dX7_countNeed_44 : decode cX7_countNeed 44 = .ok (.iload 4, 2) := dAt wdX7_countNeed_29 adX7_countNeed_29.2.2.2.2.2.2.2.1 rfl
theorem dX7_countNeed_46 : decode cX7_countNeed 46 = .ok (.baload, 1) := dAt wdX7_countNeed_29 adX7_countNeed_29.2.2.2.2.2.2.2.2.1 rfl
theorem dX7_countNeed_47 : decode cX7_countNeed 47 = .ok (.invokestatic 274, 3) := dAt wdX7_countNeed_29 adX7_countNeed_29.2.2.2.2.2.2.2.2.2.1 rfl
theorem dX7_countNeed_50 : decode cX7_countNeed 50 = .ok (.iinc 4 1, 3) := dAt wdX7_countNeed_29 adX7_countNeed_29.2.2.2.2.2.2.2.2.2.2.1 rfl
theorem dX7_countNeed_53 : decode cX7_countNeed 53 = .ok (.goto (-33), 3) := dAt wdX7_countNeed_29 adX7_countNeed_29.2.2.2.2.2.2.2.2.2.2.2.1 rfl
theorem dX7_countNeed_56 : decode cX7_countNeed 56 = .ok (.return_, 1) := dAt wdX7_countNeed_29 adX7_countNeed_29.2.2.2.2.2.2.2.2.2.2.2.2 rfl
def bdX7_countOut_0 : ByteArray := .mk #[42, 180, 0, 79, 184, 1, 11, 42, 180, 0, 60, 4, 100, 54, 4, 21, 4, 155, 0, 79, 42, 21, 4, 182, 0, 113, 58, 5, 25, 5, 180, 0, 163]
theorem wdX7_countOut_0 : LocW cX7_countOut 0 bdX7_countOut_0 := loc_of (by decide +kernel)
theorem adX7_countOut_0 : De bdX7_countOut_0 0 (.aload_n 0) 1 ∧ De bdX7_countOut_0 1 (.getfield 79) 3 ∧ De bdX7_countOut_0 4 (.invokestatic 267) 3 ∧ De bdX7_countOut_0 7 (.aload_n 0) 1 ∧ De bdX7_countOut_0 8 (.getfield 60) 3 ∧ De bdX7_countOut_0 11 (.iconst 1) 1 ∧ De bdX7_countOut_0 12 (.isub) 1 ∧ De bdX7_countOut_0 13 (.istore 4) 2 ∧ De bdX7_countOut_0 15 (.iload 4) 2 ∧ De bdX7_countOut_0 17 (.ifCond .lt 79) 3 ∧ De bdX7_countOut_0 20 (.aload_n 0) 1 ∧ De bdX7_countOut_0 21 (.iload 4) 2 ∧ De bdX7_countOut_0 23 (.invokevirtual 113) 3 ∧ De bdX7_countOut_0 26 (.astore 5) 2 ∧ De bdX7_countOut_0 28 (.aload 5) 2 ∧ De bdX7_countOut_0 30 (.getfield 163) 3 := by decide +kernel
theorem dX7_countOut_0 : decode cX7_countOut 0 = .ok (.aload_n 0, 1) := dAt wdX7_countOut_0 adX7_countOut_0.1 rfl
theorem dX7_countOut_1 : decode cX7_countOut 1 = .ok (.getfield 79, 3) := dAt wdX7_countOut_0 adX7_countOut_0.2.1 rfl
theorem dX7_countOut_4 : decode cX7_countOut 4 = .ok (.invokestatic 267, 3) := dAt wdX7_countOut_0 adX7_countOut_0.2.2.1 rfl
theorem dX7_countOut_7 : decode cX7_countOut 7 = .ok (.aload_n 0, 1) := dAt wdX7_countOut_0 adX7_countOut_0.2.2.2.1 rfl
theorem dX7_countOut_8 : decode cX7_countOut 8 = .ok (.getfield 60, 3) := dAt wdX7_countOut_0 adX7_countOut_0.2.2.2.2.1 rfl
theorem dX7_countOut_11 : decode cX7_countOut 11 = .ok (.iconst 1, 1) := dAt wdX7_countOut_0 adX7_countOut_0.2.2.2.2.2.1 rfl
theorem dX7_countOut_12 : decode cX7_countOut 12 = .ok (.isub, 1) := dAt wdX7_countOut_0 adX7_countOut_0.2.2.2.2.2.2.1 rfl
theorem dX7_countOut_13 : decode cX7_countOut 13 = .ok (.istore 4, 2) := dAt wdX7_countOut_0 adX7_countOut_0.2.2.2.2.2.2.2.1 rfl
theorem dX7_countOut_15 : decode cX7_countOut 15 = .ok (.iload 4, 2) := dAt wdX7_countOut_0 adX7_countOut_0.2.2.2.2.2.2.2.2.1 rfl
theorem dX7_countOut_17 : decode cX7_countOut 17 = .ok (.ifCond .lt 79, 3) := dAt wdX7_countOut_0 adX7_countOut_0.2.2.2.2.2.2.2.2.2.1 rfl
theorem dX7_countOut_20 : decode cX7_countOut 20 = .ok (.aload_n 0, 1) := dAt wdX7_countOut_0 adX7_countOut_0.2.2.2.2.2.2.2.2.2.2.1 rfl
theorem dX7_countOut_21 : decode cX7_countOut 21 = .ok (.iload 4, 2) := dAt wdX7_countOut_0 adX7_countOut_0.2.2.2.2.2.2.2.2.2.2.2.1 rfl
theorem dX7_countOut_23 : decode cX7_countOut 23 = .ok (.invokevirtual 113, 3) := dAt wdX7_countOut_0 adX7_countOut_0.2.2.2.2.2.2.2.2.2.2.2.2.1 rfl
theorem dX7_countOut_26 : decode cX7_countOut 26 = .ok (.astore 5, 2) := dAt wdX7_countOut_0 adX7_countOut_0.2.2.2.2.2.2.2.2.2.2.2.2.2.1 rfl
theorem dX7_countOut_28 : decode cX7_countOut 28 = .ok (.aload 5, 2) := dAt wdX7_countOut_0 adX7_countOut_0.2.2.2.2.2.2.2.2.2.2.2.2.2.2.1 rfl
theorem dX7_countOut_30 : decode cX7_countOut 30 = .ok (.getfield 163, 3) := dAt wdX7_countOut_0 adX7_countOut_0.2.2.2.2.2.2.2.2.2.2.2.2.2.2.2 rfl
def bdX7_countOut_33 : ByteArray := .mk #[28, 162, 0, 4, 177, 3, 54, 6, 25, 5, 180, 0, 175, 27, 160, 0, 43, 25, 5, 180, 0, 163, 29, 163, 0, 34, 21, 6, 25, 5, 180, 1, 22]
theorem wdX7_countOut_33 : LocW cX7_countOut 33 bdX7_countOut_33 := loc_of (by decide +kernel)
theorem adX7_countOut_33 : De bdX7_countOut_33 0 (.iload_n 2) 1 ∧ De bdX7_countOut_33 1 (.if_icmp .ge 4) 3 ∧ De bdX7_countOut_33 4 (.return_) 1 ∧ De bdX7_countOut_33 5 (.iconst 0) 1 ∧ De bdX7_countOut_33 6 (.istore 6) 2 ∧ De bdX7_countOut_33 8 (.aload 5) 2 ∧ De bdX7_countOut_33 10 (.getfield 175) 3 ∧ De bdX7_countOut_33 13 (.iload_n 1) 1 ∧ De bdX7_countOut_33 14 (.if_icmp .ne 43) 3 ∧ De bdX7_countOut_33 17 (.aload 5) 2 ∧ De bdX7_countOut_33 19 (.getfield 163) 3 ∧ De bdX7_countOut_33 22 (.iload_n 3) 1 ∧ De bdX7_countOut_33 23 (.if_icmp .gt 34) 3 ∧ De bdX7_countOut_33 26 (.iload 6) 2 ∧ De bdX7_countOut_33 28 (.aload 5) 2 ∧ De bdX7_countOut_33 30 (.getfield 278) 3 := by decide +kernel
theorem dX7_countOut_33 : decode cX7_countOut 33 = .ok (.iload_n 2, 1) := dAt wdX7_countOut_33 adX7_countOut_33.1 rfl
theorem dX7_countOut_34 : decode cX7_countOut 34 = .ok (.if_icmp .ge 4, 3) := dAt wdX7_countOut_33 adX7_countOut_33.2.1 rfl
theorem dX7_countOut_37 : decode cX7_countOut 37 = .ok (.return_, 1) := dAt wdX7_countOut_33 adX7_countOut_33.2.2.1 rfl
theorem dX7_countOut_38 : decode cX7_countOut 38 = .ok (.iconst 0, 1) := dAt wdX7_countOut_33 adX7_countOut_33.2.2.2.1 rfl
theorem dX7_countOut_39 : decode cX7_countOut 39 = .ok (.istore 6, 2) := dAt wdX7_countOut_33 adX7_countOut_33.2.2.2.2.1 rfl
theorem dX7_countOut_41 : decode cX7_countOut 41 = .ok (.aload 5, 2) := dAt wdX7_countOut_33 adX7_countOut_33.2.2.2.2.2.1 rfl
theorem dX7_countOut_43 : decode cX7_countOut 43 = .ok (.getfield 175, 3) := dAt wdX7_countOut_33 adX7_countOut_33.2.2.2.2.2.2.1 rfl
theorem dX7_countOut_46 : decode cX7_countOut 46 = .ok (.iload_n 1, 1) := dAt wdX7_countOut_33 adX7_countOut_33.2.2.2.2.2.2.2.1 rfl
theorem dX7_countOut_47 : decode cX7_countOut 47 = .ok (.if_icmp .ne 43, 3) := dAt wdX7_countOut_33 adX7_countOut_33.2.2.2.2.2.2.2.2.1 rfl
theorem dX7_countOut_50 : decode cX7_countOut 50 = .ok (.aload 5, 2) := dAt wdX7_countOut_33 adX7_countOut_33.2.2.2.2.2.2.2.2.2.1 rfl
theorem dX7_countOut_52 : decode cX7_countOut 52 = .ok (.getfield 163, 3) := dAt wdX7_countOut_33 adX7_countOut_33.2.2.2.2.2.2.2.2.2.2.1 rfl
theorem dX7_countOut_55 : decode cX7_countOut 55 = .ok (.iload_n 3, 1) := dAt wdX7_countOut_33 adX7_countOut_33.2.2.2.2.2.2.2.2.2.2.2.1 rfl
theorem dX7_countOut_56 : decode cX7_countOut 56 = .ok (.if_icmp .gt 34, 3) := dAt wdX7_countOut_33 adX7_countOut_33.2.2.2.2.2.2.2.2.2.2.2.2.1 rfl
theorem dX7_countOut_59 : decode cX7_countOut 59 = .ok (.iload 6, 2) := dAt wdX7_countOut_33 adX7_countOut_33.2.2.2.2.2.2.2.2.2.2.2.2.2.1 rfl
theorem dX7_countOut_61 : decode cX7_countOut 61 = .ok (.aload 5, 2) := dAt wdX7_countOut_33 adX7_countOut_33.2.2.2.2.2.2.2.2.2.2.2.2.2.2.1 rfl
theorem dX7_countOut_63 : decode cX7_countOut 63 = .ok (.getfield 278, 3) := dAt wdX7_countOut_33 adX7_countOut_33.2.2.2.2.2.2.2.2.2.2.2.2.2.2.2 rfl
def bdX7_countOut_66 : ByteArray := .mk #[162, 0, 24, 42, 180, 0, 79, 25, 5, 180, 1, 25, 21, 6, 51, 184, 1, 18, 132, 6, 1, 167, 255, 210, 132, 4, 255, 167, 255, 178, 177]
theorem wdX7_countOut_66 : LocW cX7_countOut 66 bdX7_countOut_66 := loc_of (by decide +kernel)
theorem adX7_countOut_66 : De bdX7_countOut_66 0 (.if_icmp .ge 24) 3 ∧ De bdX7_countOut_66 3 (.aload_n 0) 1 ∧ De bdX7_countOut_66 4 (.getfield 79) 3 ∧ De bdX7_countOut_66 7 (.aload 5) 2 ∧ De bdX7_countOut_66 9 (.getfield 281) 3 ∧ De bdX7_countOut_66 12 (.iload 6) 2 ∧ De bdX7_countOut_66 14 (.baload) 1 ∧ De bdX7_countOut_66 15 (.invokestatic 274) 3 ∧ De bdX7_countOut_66 18 (.iinc 6 1) 3 ∧ De bdX7_countOut_66 21 (.goto (-46)) 3 ∧ De bdX7_countOut_66 24 (.iinc 4 (-1)) 3 ∧ De bdX7_countOut_66 27 (.goto (-78)) 3 ∧ De bdX7_countOut_66 30 (.return_) 1 := by decide +kernel
theorem dX7_countOut_66 : decode cX7_countOut 66 = .ok (.if_icmp .ge 24, 3) := dAt wdX7_countOut_66 adX7_countOut_66.1 rfl
theorem dX7_countOut_69 : decode cX7_countOut 69 = .ok (.aload_n 0, 1) := dAt wdX7_countOut_66 adX7_countOut_66.2.1 rfl
theorem dX7_countOut_70 : decode cX7_countOut 70 = .ok (.getfield 79, 3) := dAt wdX7_countOut_66 adX7_countOut_66.2.2.1 rfl
theorem dX7_countOut_73 : decode cX7_countOut 73 = .ok (.aload 5, 2) := dAt wdX7_countOut_66 adX7_countOut_66.2.2.2.1 rfl
theorem dX7_countOut_75 : decode cX7_countOut 75 = .ok (.getfield 281, 3) := dAt wdX7_countOut_66 adX7_countOut_66.2.2.2.2.1 rfl
theorem dX7_countOut_78 : decode cX7_countOut 78 = .ok (.iload 6, 2) := dAt wdX7_countOut_66 adX7_countOut_66.2.2.2.2.2.1 rfl
theorem dX7_countOut_80 : decode cX7_countOut 80 = .ok (.baload, 1) := dAt wdX7_countOut_66 adX7_countOut_66.2.2.2.2.2.2.1 rfl
theorem dX7_countOut_81 : decode cX7_countOut 81 = .ok (.invokestatic 274, 3) := dAt wdX7_countOut_66 adX7_countOut_66.2.2.2.2.2.2.2.1 rfl
theorem dX7_countOut_84 : decode cX7_countOut 84 = .ok (.iinc 6 1, 3) := dAt wdX7_countOut_66 adX7_countOut_66.2.2.2.2.2.2.2.2.1 rfl
theorem dX7_countOut_87 : decode cX7_countOut 87 = .ok (.goto (-46), 3) := dAt wdX7_countOut_66 adX7_countOut_66.2.2.2.2.2.2.2.2.2.1 rfl
theorem dX7_countOut_90 : decode cX7_countOut 90 = .ok (.iinc 4 (-1), 3) := dAt wdX7_countOut_66 adX7_countOut_66.2.2.2.2.2.2.2.2.2.2.1 rfl
theorem dX7_countOut_93 : decode cX7_countOut 93 = .ok (.goto (-78), 3) := dAt wdX7_countOut_66 adX7_countOut_66.2.2.2.2.2.2.2.2.2.2.2.1 rfl
theorem dX7_countOut_96 : decode cX7_countOut 96 = .ok (.return_, 1) := dAt wdX7_countOut_66 adX7_countOut_66.2.2.2.2.2.2.2.2.2.2.2.2 rfl
def bdX7_clear_0 : ByteArray := .mk #[3, 60, 27, 42, 190, 162, 0, 13, 42, 27, 3, 79, 132, 1, 1, 167, 255, 243, 177]
theorem wdX7_clear_0 : LocW cX7_clear 0 bdX7_clear_0 := loc_of (by decide +kernel)
theorem adX7_clear_0 : De bdX7_clear_0 0 (.iconst 0) 1 ∧ De bdX7_clear_0 1 (.istore_n 1) 1 ∧ De bdX7_clear_0 2 (.iload_n 1) 1 ∧ De bdX7_clear_0 3 (.aload_n 0) 1 ∧ De bdX7_clear_0 4 (.arraylength) 1 ∧ De bdX7_clear_0 5 (.if_icmp .ge 13) 3 ∧ De bdX7_clear_0 8 (.aload_n 0) 1 ∧ De bdX7_clear_0 9 (.iload_n 1) 1 ∧ De bdX7_clear_0 10 (.iconst 0) 1 ∧ De bdX7_clear_0 11 (.iastore) 1 ∧ De bdX7_clear_0 12 (.iinc 1 1) 3 ∧ De bdX7_clear_0 15 (.goto (-13)) 3 ∧ De bdX7_clear_0 18 (.return_) 1 := by decide +kernel
theorem dX7_clear_0 : decode cX7_clear 0 = .ok (.iconst 0, 1) := dAt wdX7_clear_0 adX7_clear_0.1 rfl
theorem dX7_clear_1 : decode cX7_clear 1 = .ok (.istore_n 1, 1) := dAt wdX7_clear_0 adX7_clear_0.2.1 rfl
theorem dX7_clear_2 : decode cX7_clear 2 = .ok (.iload_n 1, 1) := dAt wdX7_clear_0 adX7_clear_0.2.2.1 rfl
theorem dX7_clear_3 : decode cX7_clear 3 = .ok (.aload_n 0, 1) := dAt wdX7_clear_0 adX7_clear_0.2.2.2.1 rfl
theorem dX7_clear_4 : decode cX7_clear 4 = .ok (.arraylength, 1) := dAt wdX7_clear_0 adX7_clear_0.2.2.2.2.1 rfl
theorem dX7_clear_5 : decode cX7_clear 5 = .ok (.if_icmp .ge 13, 3) := dAt wdX7_clear_0 adX7_clear_0.2.2.2.2.2.1 rfl
theorem dX7_clear_8 : decode cX7_clear 8 = .ok (.aload_n 0, 1) := dAt wdX7_clear_0 adX7_clear_0.2.2.2.2.2.2.1 rfl
theorem dX7_clear_9 : decode cX7_clear 9 = .ok (.iload_n 1, 1) := dAt wdX7_clear_0 adX7_clear_0.2.2.2.2.2.2.2.1 rfl
theorem dX7_clear_10 : decode cX7_clear 10 = .ok (.iconst 0, 1) := dAt wdX7_clear_0 adX7_clear_0.2.2.2.2.2.2.2.2.1 rfl
theorem dX7_clear_11 : decode cX7_clear 11 = .ok (.iastore, 1) := dAt wdX7_clear_0 adX7_clear_0.2.2.2.2.2.2.2.2.2.1 rfl
theorem dX7_clear_12 : decode cX7_clear 12 = .ok (.iinc 1 1, 3) := dAt wdX7_clear_0 adX7_clear_0.2.2.2.2.2.2.2.2.2.2.1 rfl
theorem dX7_clear_15 : decode cX7_clear 15 = .ok (.goto (-13), 3) := dAt wdX7_clear_0 adX7_clear_0.2.2.2.2.2.2.2.2.2.2.2.1 rfl
theorem dX7_clear_18 : decode cX7_clear 18 = .ok (.return_, 1) := dAt wdX7_clear_0 adX7_clear_0.2.2.2.2.2.2.2.2.2.2.2.2 rfl
def bdX7_addSign_0 : ByteArray := .mk #[27, 16, 45, 160, 0, 8, 16, 26, 167, 0, 7, 27, 16, 97, 100, 61, 28, 155, 0, 16, 28, 42, 190, 162, 0, 10, 42]
theorem wdX7_addSign_0 : LocW cX7_addSign 0 bdX7_addSign_0 := loc_of (by decide +kernel)
theorem adX7_addSign_0 : De bdX7_addSign_0 0 (.iload_n 1) 1 ∧ De bdX7_addSign_0 1 (.bipush 45) 2 ∧ De bdX7_addSign_0 3 (.if_icmp .ne 8) 3 ∧ De bdX7_addSign_0 6 (.bipush 26) 2 ∧ De bdX7_addSign_0 8 (.goto 7) 3 ∧ De bdX7_addSign_0 11 (.iload_n 1) 1 ∧ De bdX7_addSign_0 12 (.bipush 97) 2 ∧ De bdX7_addSign_0 14 (.isub) 1 ∧ De bdX7_addSign_0 15 (.istore_n 2) 1 ∧ De bdX7_addSign_0 16 (.iload_n 2) 1 ∧ De bdX7_addSign_0 17 (.ifCond .lt 16) 3 ∧ De bdX7_addSign_0 20 (.iload_n 2) 1 ∧ De bdX7_addSign_0 21 (.aload_n 0) 1 ∧ De bdX7_addSign_0 22 (.arraylength) 1 ∧ De bdX7_addSign_0 23 (.if_icmp .ge 10) 3 ∧ De bdX7_addSign_0 26 (.aload_n 0) 1 := by decide +kernel
theorem dX7_addSign_0 : decode cX7_addSign 0 = .ok (.iload_n 1, 1) := dAt wdX7_addSign_0 adX7_addSign_0.1 rfl
theorem dX7_addSign_1 : decode cX7_addSign 1 = .ok (.bipush 45, 2) := dAt wdX7_addSign_0 adX7_addSign_0.2.1 rfl
theorem dX7_addSign_3 : decode cX7_addSign 3 = .ok (.if_icmp .ne 8, 3) := dAt wdX7_addSign_0 adX7_addSign_0.2.2.1 rfl
theorem dX7_addSign_6 : decode cX7_addSign 6 = .ok (.bipush 26, 2) := dAt wdX7_addSign_0 adX7_addSign_0.2.2.2.1 rfl
theorem dX7_addSign_8 : decode cX7_addSign 8 = .ok (.goto 7, 3) := dAt wdX7_addSign_0 adX7_addSign_0.2.2.2.2.1 rfl
theorem dX7_addSign_11 : decode cX7_addSign 11 = .ok (.iload_n 1, 1) := dAt wdX7_addSign_0 adX7_addSign_0.2.2.2.2.2.1 rfl
theorem dX7_addSign_12 : decode cX7_addSign 12 = .ok (.bipush 97, 2) := dAt wdX7_addSign_0 adX7_addSign_0.2.2.2.2.2.2.1 rfl
theorem dX7_addSign_14 : decode cX7_addSign 14 = .ok (.isub, 1) := dAt wdX7_addSign_0 adX7_addSign_0.2.2.2.2.2.2.2.1 rfl
theorem dX7_addSign_15 : decode cX7_addSign 15 = .ok (.istore_n 2, 1) := dAt wdX7_addSign_0 adX7_addSign_0.2.2.2.2.2.2.2.2.1 rfl
theorem dX7_addSign_16 : decode cX7_addSign 16 = .ok (.iload_n 2, 1) := dAt wdX7_addSign_0 adX7_addSign_0.2.2.2.2.2.2.2.2.2.1 rfl
theorem dX7_addSign_17 : decode cX7_addSign 17 = .ok (.ifCond .lt 16, 3) := dAt wdX7_addSign_0 adX7_addSign_0.2.2.2.2.2.2.2.2.2.2.1 rfl
theorem dX7_addSign_20 : decode cX7_addSign 20 = .ok (.iload_n 2, 1) := dAt wdX7_addSign_0 adX7_addSign_0.2.2.2.2.2.2.2.2.2.2.2.1 rfl
theorem dX7_addSign_21 : decode cX7_addSign 21 = .ok (.aload_n 0, 1) := dAt wdX7_addSign_0 adX7_addSign_0.2.2.2.2.2.2.2.2.2.2.2.2.1 rfl
theorem dX7_addSign_22 : decode cX7_addSign 22 = .ok (.arraylength, 1) := dAt wdX7_addSign_0 adX7_addSign_0.2.2.2.2.2.2.2.2.2.2.2.2.2.1 rfl
theorem dX7_addSign_23 : decode cX7_addSign 23 = .ok (.if_icmp .ge 10, 3) := dAt wdX7_addSign_0 adX7_addSign_0.2.2.2.2.2.2.2.2.2.2.2.2.2.2.1 rfl
theorem dX7_addSign_26 : decode cX7_addSign 26 = .ok (.aload_n 0, 1) := dAt wdX7_addSign_0 adX7_addSign_0.2.2.2.2.2.2.2.2.2.2.2.2.2.2.2 rfl
def bdX7_addSign_27 : ByteArray := .mk #[28, 92, 46, 4, 96, 79, 177]
theorem wdX7_addSign_27 : LocW cX7_addSign 27 bdX7_addSign_27 := loc_of (by decide +kernel)
theorem adX7_addSign_27 : De bdX7_addSign_27 0 (.iload_n 2) 1 ∧ De bdX7_addSign_27 1 (.dup2) 1 ∧ De bdX7_addSign_27 2 (.iaload) 1 ∧ De bdX7_addSign_27 3 (.iconst 1) 1 ∧ De bdX7_addSign_27 4 (.iadd) 1 ∧ De bdX7_addSign_27 5 (.iastore) 1 ∧ De bdX7_addSign_27 6 (.return_) 1 := by decide +kernel
theorem dX7_addSign_27 : decode cX7_addSign 27 = .ok (.iload_n 2, 1) := dAt wdX7_addSign_27 adX7_addSign_27.1 rfl
theorem dX7_addSign_28 : decode cX7_addSign 28 = .ok (.dup2, 1) := dAt wdX7_addSign_27 adX7_addSign_27.2.1 rfl
theorem dX7_addSign_29 : decode cX7_addSign 29 = .ok (.iaload, 1) := dAt wdX7_addSign_27 adX7_addSign_27.2.2.1 rfl
theorem dX7_addSign_30 : decode cX7_addSign 30 = .ok (.iconst 1, 1) := dAt wdX7_addSign_27 adX7_addSign_27.2.2.2.1 rfl
theorem dX7_addSign_31 : decode cX7_addSign 31 = .ok (.iadd, 1) := dAt wdX7_addSign_27 adX7_addSign_27.2.2.2.2.1 rfl
theorem dX7_addSign_32 : decode cX7_addSign 32 = .ok (.iastore, 1) := dAt wdX7_addSign_27 adX7_addSign_27.2.2.2.2.2.1 rfl
theorem dX7_addSign_33 : decode cX7_addSign 33 = .ok (.return_, 1) := dAt wdX7_addSign_27 adX7_addSign_27.2.2.2.2.2.2 rfl
def bdX7_castLine_0 : ByteArray := .mk #[44, 180, 0, 228, 3, 46, 54, 4, 45, 21, 4, 182, 1, 28, 153, 0, 170, 42, 42, 180, 0, 60, 182, 0, 113, 58, 5, 25, 5, 42]
theorem wdX7_castLine_0 : LocW cX7_castLine 0 bdX7_castLine_0 := loc_of (by decide +kernel)
theorem adX7_castLine_0 : De bdX7_castLine_0 0 (.aload_n 2) 1 ∧ De bdX7_castLine_0 1 (.getfield 228) 3 ∧ De bdX7_castLine_0 4 (.iconst 0) 1 ∧ De bdX7_castLine_0 5 (.iaload) 1 ∧ De bdX7_castLine_0 6 (.istore 4) 2 ∧ De bdX7_castLine_0 8 (.aload_n 3) 1 ∧ De bdX7_castLine_0 9 (.iload 4) 2 ∧ De bdX7_castLine_0 11 (.invokevirtual 284) 3 ∧ De bdX7_castLine_0 14 (.ifCond .eq 170) 3 ∧ De bdX7_castLine_0 17 (.aload_n 0) 1 ∧ De bdX7_castLine_0 18 (.aload_n 0) 1 ∧ De bdX7_castLine_0 19 (.getfield 60) 3 ∧ De bdX7_castLine_0 22 (.invokevirtual 113) 3 ∧ De bdX7_castLine_0 25 (.astore 5) 2 ∧ De bdX7_castLine_0 27 (.aload 5) 2 ∧ De bdX7_castLine_0 29 (.aload_n 0) 1 := by decide +kernel
theorem dX7_castLine_0 : decode cX7_castLine 0 = .ok (.aload_n 2, 1) := dAt wdX7_castLine_0 adX7_castLine_0.1 rfl
theorem dX7_castLine_1 : decode cX7_castLine 1 = .ok (.getfield 228, 3) := dAt wdX7_castLine_0 adX7_castLine_0.2.1 rfl
theorem dX7_castLine_4 : decode cX7_castLine 4 = .ok (.iconst 0, 1) := dAt wdX7_castLine_0 adX7_castLine_0.2.2.1 rfl
theorem dX7_castLine_5 : decode cX7_castLine 5 = .ok (.iaload, 1) := dAt wdX7_castLine_0 adX7_castLine_0.2.2.2.1 rfl
theorem dX7_castLine_6 : decode cX7_castLine 6 = .ok (.istore 4, 2) := dAt wdX7_castLine_0 adX7_castLine_0.2.2.2.2.1 rfl
theorem dX7_castLine_8 : decode cX7_castLine 8 = .ok (.aload_n 3, 1) := dAt wdX7_castLine_0 adX7_castLine_0.2.2.2.2.2.1 rfl
theorem dX7_castLine_9 : decode cX7_castLine 9 = .ok (.iload 4, 2) := dAt wdX7_castLine_0 adX7_castLine_0.2.2.2.2.2.2.1 rfl
theorem dX7_castLine_11 : decode cX7_castLine 11 = .ok (.invokevirtual 284, 3) := dAt wdX7_castLine_0 adX7_castLine_0.2.2.2.2.2.2.2.1 rfl
theorem dX7_castLine_14 : decode cX7_castLine 14 = .ok (.ifCond .eq 170, 3) := dAt wdX7_castLine_0 adX7_castLine_0.2.2.2.2.2.2.2.2.1 rfl
theorem dX7_castLine_17 : decode cX7_castLine 17 = .ok (.aload_n 0, 1) := dAt wdX7_castLine_0 adX7_castLine_0.2.2.2.2.2.2.2.2.2.1 rfl
theorem dX7_castLine_18 : decode cX7_castLine 18 = .ok (.aload_n 0, 1) := dAt wdX7_castLine_0 adX7_castLine_0.2.2.2.2.2.2.2.2.2.2.1 rfl
theorem dX7_castLine_19 : decode cX7_castLine 19 = .ok (.getfield 60, 3) := dAt wdX7_castLine_0 adX7_castLine_0.2.2.2.2.2.2.2.2.2.2.2.1 rfl
theorem dX7_castLine_22 : decode cX7_castLine 22 = .ok (.invokevirtual 113, 3) := dAt wdX7_castLine_0 adX7_castLine_0.2.2.2.2.2.2.2.2.2.2.2.2.1 rfl
theorem dX7_castLine_25 : decode cX7_castLine 25 = .ok (.astore 5, 2) := dAt wdX7_castLine_0 adX7_castLine_0.2.2.2.2.2.2.2.2.2.2.2.2.2.1 rfl
theorem dX7_castLine_27 : decode cX7_castLine 27 = .ok (.aload 5, 2) := dAt wdX7_castLine_0 adX7_castLine_0.2.2.2.2.2.2.2.2.2.2.2.2.2.2.1 rfl
theorem dX7_castLine_29 : decode cX7_castLine 29 = .ok (.aload_n 0, 1) := dAt wdX7_castLine_0 adX7_castLine_0.2.2.2.2.2.2.2.2.2.2.2.2.2.2.2 rfl
def bdX7_castLine_30 : ByteArray := .mk #[180, 0, 85, 45, 21, 4, 42, 180, 0, 85, 182, 1, 14, 182, 1, 32, 25, 5, 44, 180, 0, 209, 3, 46, 181, 1, 36, 25, 5, 45, 180, 0, 151]
theorem wdX7_castLine_30 : LocW cX7_castLine 30 bdX7_castLine_30 := loc_of (by decide +kernel)
theorem adX7_castLine_30 : De bdX7_castLine_30 0 (.getfield 85) 3 ∧ De bdX7_castLine_30 3 (.aload_n 3) 1 ∧ De bdX7_castLine_30 4 (.iload 4) 2 ∧ De bdX7_castLine_30 6 (.aload_n 0) 1 ∧ De bdX7_castLine_30 7 (.getfield 85) 3 ∧ De bdX7_castLine_30 10 (.invokevirtual 270) 3 ∧ De bdX7_castLine_30 13 (.invokevirtual 288) 3 ∧ De bdX7_castLine_30 16 (.aload 5) 2 ∧ De bdX7_castLine_30 18 (.aload_n 2) 1 ∧ De bdX7_castLine_30 19 (.getfield 209) 3 ∧ De bdX7_castLine_30 22 (.iconst 0) 1 ∧ De bdX7_castLine_30 23 (.iaload) 1 ∧ De bdX7_castLine_30 24 (.putfield 292) 3 ∧ De bdX7_castLine_30 27 (.aload 5) 2 ∧ De bdX7_castLine_30 29 (.aload_n 3) 1 ∧ De bdX7_castLine_30 30 (.getfield 151) 3 := by decide +kernel
theorem dX7_castLine_30 : decode cX7_castLine 30 = .ok (.getfield 85, 3) := dAt wdX7_castLine_30 adX7_castLine_30.1 rfl
theorem dX7_castLine_33 : decode cX7_castLine 33 = .ok (.aload_n 3, 1) := dAt wdX7_castLine_30 adX7_castLine_30.2.1 rfl
theorem dX7_castLine_34 : decode cX7_castLine 34 = .ok (.iload 4, 2) := dAt wdX7_castLine_30 adX7_castLine_30.2.2.1 rfl
theorem dX7_castLine_36 : decode cX7_castLine 36 = .ok (.aload_n 0, 1) := dAt wdX7_castLine_30 adX7_castLine_30.2.2.2.1 rfl
theorem dX7_castLine_37 : decode cX7_castLine 37 = .ok (.getfield 85, 3) := dAt wdX7_castLine_30 adX7_castLine_30.2.2.2.2.1 rfl
theorem dX7_castLine_40 : decode cX7_castLine 40 = .ok (.invokevirtual 270, 3) := dAt wdX7_castLine_30 adX7_castLine_30.2.2.2.2.2.1 rfl
theorem dX7_castLine_43 : decode cX7_castLine 43 = .ok (.invokevirtual 288, 3) := dAt wdX7_castLine_30 adX7_castLine_30.2.2.2.2.2.2.1 rfl
theorem dX7_castLine_46 : decode cX7_castLine 46 = .ok (.aload 5, 2) := dAt wdX7_castLine_30 adX7_castLine_30.2.2.2.2.2.2.2.1 rfl
theorem dX7_castLine_48 : decode cX7_castLine 48 = .ok (.aload_n 2, 1) := dAt wdX7_castLine_30 adX7_castLine_30.2.2.2.2.2.2.2.2.1 rfl
theorem dX7_castLine_49 : decode cX7_castLine 49 = .ok (.getfield 209, 3) := dAt wdX7_castLine_30 adX7_castLine_30.2.2.2.2.2.2.2.2.2.1 rfl
theorem dX7_castLine_52 : decode cX7_castLine 52 = .ok (.iconst 0, 1) := dAt wdX7_castLine_30 adX7_castLine_30.2.2.2.2.2.2.2.2.2.2.1 rfl
theorem dX7_castLine_53 : decode cX7_castLine 53 = .ok (.iaload, 1) := dAt wdX7_castLine_30 adX7_castLine_30.2.2.2.2.2.2.2.2.2.2.2.1 rfl
theorem dX7_castLine_54 : decode cX7_castLine 54 = .ok (.putfield 292, 3) := dAt wdX7_castLine_30 adX7_castLine_30.2.2.2.2.2.2.2.2.2.2.2.2.1 rfl
theorem dX7_castLine_57 : decode cX7_castLine 57 = .ok (.aload 5, 2) := dAt wdX7_castLine_30 adX7_castLine_30.2.2.2.2.2.2.2.2.2.2.2.2.2.1 rfl
theorem dX7_castLine_59 : decode cX7_castLine 59 = .ok (.aload_n 3, 1) := dAt wdX7_castLine_30 adX7_castLine_30.2.2.2.2.2.2.2.2.2.2.2.2.2.2.1 rfl
theorem dX7_castLine_60 : decode cX7_castLine 60 = .ok (.getfield 151, 3) := dAt wdX7_castLine_30 adX7_castLine_30.2.2.2.2.2.2.2.2.2.2.2.2.2.2.2 rfl
def bdX7_castLine_63 : ByteArray := .mk #[181, 1, 39, 25, 5, 21, 4, 181, 1, 40, 25, 5, 27, 181, 0, 175, 25, 5, 42, 180, 0, 9, 181, 0, 163, 25, 5, 44, 180, 1, 43, 3, 51]
theorem wdX7_castLine_63 : LocW cX7_castLine 63 bdX7_castLine_63 := loc_of (by decide +kernel)
theorem adX7_castLine_63 : De bdX7_castLine_63 0 (.putfield 295) 3 ∧ De bdX7_castLine_63 3 (.aload 5) 2 ∧ De bdX7_castLine_63 5 (.iload 4) 2 ∧ De bdX7_castLine_63 7 (.putfield 296) 3 ∧ De bdX7_castLine_63 10 (.aload 5) 2 ∧ De bdX7_castLine_63 12 (.iload_n 1) 1 ∧ De bdX7_castLine_63 13 (.putfield 175) 3 ∧ De bdX7_castLine_63 16 (.aload 5) 2 ∧ De bdX7_castLine_63 18 (.aload_n 0) 1 ∧ De bdX7_castLine_63 19 (.getfield 9) 3 ∧ De bdX7_castLine_63 22 (.putfield 163) 3 ∧ De bdX7_castLine_63 25 (.aload 5) 2 ∧ De bdX7_castLine_63 27 (.aload_n 2) 1 ∧ De bdX7_castLine_63 28 (.getfield 299) 3 ∧ De bdX7_castLine_63 31 (.iconst 0) 1 ∧ De bdX7_castLine_63 32 (.baload) 1 := by decide +kernel
theorem dX7_castLine_63 : decode cX7_castLine 63 = .ok (.putfield 295, 3) := dAt wdX7_castLine_63 adX7_castLine_63.1 rfl
theorem dX7_castLine_66 : decode cX7_castLine 66 = .ok (.aload 5, 2) := dAt wdX7_castLine_63 adX7_castLine_63.2.1 rfl
theorem dX7_castLine_68 : decode cX7_castLine 68 = .ok (.iload 4, 2) := dAt wdX7_castLine_63 adX7_castLine_63.2.2.1 rfl
theorem dX7_castLine_70 : decode cX7_castLine 70 = .ok (.putfield 296, 3) := dAt wdX7_castLine_63 adX7_castLine_63.2.2.2.1 rfl
theorem dX7_castLine_73 : decode cX7_castLine 73 = .ok (.aload 5, 2) := dAt wdX7_castLine_63 adX7_castLine_63.2.2.2.2.1 rfl
theorem dX7_castLine_75 : decode cX7_castLine 75 = .ok (.iload_n 1, 1) := dAt wdX7_castLine_63 adX7_castLine_63.2.2.2.2.2.1 rfl
theorem dX7_castLine_76 : decode cX7_castLine 76 = .ok (.putfield 175, 3) := dAt wdX7_castLine_63 adX7_castLine_63.2.2.2.2.2.2.1 rfl
theorem dX7_castLine_79 : decode cX7_castLine 79 = .ok (.aload 5, 2) := dAt wdX7_castLine_63 adX7_castLine_63.2.2.2.2.2.2.2.1 rfl
theorem dX7_castLine_81 : decode cX7_castLine 81 = .ok (.aload_n 0, 1) := dAt wdX7_castLine_63 adX7_castLine_63.2.2.2.2.2.2.2.2.1 rfl
theorem dX7_castLine_82 : decode cX7_castLine 82 = .ok (.getfield 9, 3) := dAt wdX7_castLine_63 adX7_castLine_63.2.2.2.2.2.2.2.2.2.1 rfl
theorem dX7_castLine_85 : decode cX7_castLine 85 = .ok (.putfield 163, 3) := dAt wdX7_castLine_63 adX7_castLine_63.2.2.2.2.2.2.2.2.2.2.1 rfl
theorem dX7_castLine_88 : decode cX7_castLine 88 = .ok (.aload 5, 2) := dAt wdX7_castLine_63 adX7_castLine_63.2.2.2.2.2.2.2.2.2.2.2.1 rfl
theorem dX7_castLine_90 : decode cX7_castLine 90 = .ok (.aload_n 2, 1) := dAt wdX7_castLine_63 adX7_castLine_63.2.2.2.2.2.2.2.2.2.2.2.2.1 rfl
theorem dX7_castLine_91 : decode cX7_castLine 91 = .ok (.getfield 299, 3) := dAt wdX7_castLine_63 adX7_castLine_63.2.2.2.2.2.2.2.2.2.2.2.2.2.1 rfl
theorem dX7_castLine_94 : decode cX7_castLine 94 = .ok (.iconst 0, 1) := dAt wdX7_castLine_63 adX7_castLine_63.2.2.2.2.2.2.2.2.2.2.2.2.2.2.1 rfl
theorem dX7_castLine_95 : decode cX7_castLine 95 = .ok (.baload, 1) := dAt wdX7_castLine_63 adX7_castLine_63.2.2.2.2.2.2.2.2.2.2.2.2.2.2.2 rfl
def bdX7_castLine_96 : ByteArray := .mk #[181, 0, 168, 42, 45, 21, 4, 182, 1, 47, 42, 89, 180, 0, 60, 4, 96, 181, 0, 60, 42, 42, 180, 0, 60, 4, 100]
theorem wdX7_castLine_96 : LocW cX7_castLine 96 bdX7_castLine_96 := loc_of (by decide +kernel)
theorem adX7_castLine_96 : De bdX7_castLine_96 0 (.putfield 168) 3 ∧ De bdX7_castLine_96 3 (.aload_n 0) 1 ∧ De bdX7_castLine_96 4 (.aload_n 3) 1 ∧ De bdX7_castLine_96 5 (.iload 4) 2 ∧ De bdX7_castLine_96 7 (.invokevirtual 303) 3 ∧ De bdX7_castLine_96 10 (.aload_n 0) 1 ∧ De bdX7_castLine_96 11 (.dup) 1 ∧ De bdX7_castLine_96 12 (.getfield 60) 3 ∧ De bdX7_castLine_96 15 (.iconst 1) 1 ∧ De bdX7_castLine_96 16 (.iadd) 1 ∧ De bdX7_castLine_96 17 (.putfield 60) 3 ∧ De bdX7_castLine_96 20 (.aload_n 0) 1 ∧ De bdX7_castLine_96 21 (.aload_n 0) 1 ∧ De bdX7_castLine_96 22 (.getfield 60) 3 ∧ De bdX7_castLine_96 25 (.iconst 1) 1 ∧ De bdX7_castLine_96 26 (.isub) 1 := by decide +kernel
theorem dX7_castLine_96 : decode cX7_castLine 96 = .ok (.putfield 168, 3) := dAt wdX7_castLine_96 adX7_castLine_96.1 rfl
theorem dX7_castLine_99 : decode cX7_castLine 99 = .ok (.aload_n 0, 1) := dAt wdX7_castLine_96 adX7_castLine_96.2.1 rfl
theorem dX7_castLine_100 : decode cX7_castLine 100 = .ok (.aload_n 3, 1) := dAt wdX7_castLine_96 adX7_castLine_96.2.2.1 rfl
theorem dX7_castLine_101 : decode cX7_castLine 101 = .ok (.iload 4, 2) := dAt wdX7_castLine_96 adX7_castLine_96.2.2.2.1 rfl
theorem dX7_castLine_103 : decode cX7_castLine 103 = .ok (.invokevirtual 303, 3) := dAt wdX7_castLine_96 adX7_castLine_96.2.2.2.2.1 rfl
theorem dX7_castLine_106 : decode cX7_castLine 106 = .ok (.aload_n 0, 1) := dAt wdX7_castLine_96 adX7_castLine_96.2.2.2.2.2.1 rfl
theorem dX7_castLine_107 : decode cX7_castLine 107 = .ok (.dup, 1) := dAt wdX7_castLine_96 adX7_castLine_96.2.2.2.2.2.2.1 rfl
theorem dX7_castLine_108 : decode cX7_castLine 108 = .ok (.getfield 60, 3) := dAt wdX7_castLine_96 adX7_castLine_96.2.2.2.2.2.2.2.1 rfl
theorem dX7_castLine_111 : decode cX7_castLine 111 = .ok (.iconst 1, 1) := dAt wdX7_castLine_96 adX7_castLine_96.2.2.2.2.2.2.2.2.1 rfl
theorem dX7_castLine_112 : decode cX7_castLine 112 = .ok (.iadd, 1) := dAt wdX7_castLine_96 adX7_castLine_96.2.2.2.2.2.2.2.2.2.1 rfl
theorem dX7_castLine_113 : decode cX7_castLine 113 = .ok (.putfield 60, 3) := dAt wdX7_castLine_96 adX7_castLine_96.2.2.2.2.2.2.2.2.2.2.1 rfl
theorem dX7_castLine_116 : decode cX7_castLine 116 = .ok (.aload_n 0, 1) := dAt wdX7_castLine_96 adX7_castLine_96.2.2.2.2.2.2.2.2.2.2.2.1 rfl
theorem dX7_castLine_117 : decode cX7_castLine 117 = .ok (.aload_n 0, 1) := dAt wdX7_castLine_96 adX7_castLine_96.2.2.2.2.2.2.2.2.2.2.2.2.1 rfl
theorem dX7_castLine_118 : decode cX7_castLine 118 = .ok (.getfield 60, 3) := dAt wdX7_castLine_96 adX7_castLine_96.2.2.2.2.2.2.2.2.2.2.2.2.2.1 rfl
theorem dX7_castLine_121 : decode cX7_castLine 121 = .ok (.iconst 1, 1) := dAt wdX7_castLine_96 adX7_castLine_96.2.2.2.2.2.2.2.2.2.2.2.2.2.2.1 rfl
theorem dX7_castLine_122 : decode cX7_castLine 122 = .ok (.isub, 1) := dAt wdX7_castLine_96 adX7_castLine_96.2.2.2.2.2.2.2.2.2.2.2.2.2.2.2 rfl
def bdX7_castLine_123 : ByteArray := .mk #[25, 5, 180, 1, 36, 21, 4, 182, 1, 50, 42, 180, 0, 9, 4, 100, 16, 8, 112, 7, 104, 27, 96, 54, 6, 42]
theorem wdX7_castLine_123 : LocW cX7_castLine 123 bdX7_castLine_123 := loc_of (by decide +kernel)
theorem adX7_castLine_123 : De bdX7_castLine_123 0 (.aload 5) 2 ∧ De bdX7_castLine_123 2 (.getfield 292) 3 ∧ De bdX7_castLine_123 5 (.iload 4) 2 ∧ De bdX7_castLine_123 7 (.invokevirtual 306) 3 ∧ De bdX7_castLine_123 10 (.aload_n 0) 1 ∧ De bdX7_castLine_123 11 (.getfield 9) 3 ∧ De bdX7_castLine_123 14 (.iconst 1) 1 ∧ De bdX7_castLine_123 15 (.isub) 1 ∧ De bdX7_castLine_123 16 (.bipush 8) 2 ∧ De bdX7_castLine_123 18 (.irem) 1 ∧ De bdX7_castLine_123 19 (.iconst 4) 1 ∧ De bdX7_castLine_123 20 (.imul) 1 ∧ De bdX7_castLine_123 21 (.iload_n 1) 1 ∧ De bdX7_castLine_123 22 (.iadd) 1 ∧ De bdX7_castLine_123 23 (.istore 6) 2 ∧ De bdX7_castLine_123 25 (.aload_n 0) 1 := by decide +kernel
theorem dX7_castLine_123 : decode cX7_castLine 123 = .ok (.aload 5, 2) := dAt wdX7_castLine_123 adX7_castLine_123.1 rfl
theorem dX7_castLine_125 : decode cX7_castLine 125 = .ok (.getfield 292, 3) := dAt wdX7_castLine_123 adX7_castLine_123.2.1 rfl
theorem dX7_castLine_128 : decode cX7_castLine 128 = .ok (.iload 4, 2) := dAt wdX7_castLine_123 adX7_castLine_123.2.2.1 rfl
theorem dX7_castLine_130 : decode cX7_castLine 130 = .ok (.invokevirtual 306, 3) := dAt wdX7_castLine_123 adX7_castLine_123.2.2.2.1 rfl
theorem dX7_castLine_133 : decode cX7_castLine 133 = .ok (.aload_n 0, 1) := dAt wdX7_castLine_123 adX7_castLine_123.2.2.2.2.1 rfl
theorem dX7_castLine_134 : decode cX7_castLine 134 = .ok (.getfield 9, 3) := dAt wdX7_castLine_123 adX7_castLine_123.2.2.2.2.2.1 rfl
theorem dX7_castLine_137 : decode cX7_castLine 137 = .ok (.iconst 1, 1) := dAt wdX7_castLine_123 adX7_castLine_123.2.2.2.2.2.2.1 rfl
theorem dX7_castLine_138 : decode cX7_castLine 138 = .ok (.isub, 1) := dAt wdX7_castLine_123 adX7_castLine_123.2.2.2.2.2.2.2.1 rfl
theorem dX7_castLine_139 : decode cX7_castLine 139 = .ok (.bipush 8, 2) := dAt wdX7_castLine_123 adX7_castLine_123.2.2.2.2.2.2.2.2.1 rfl
theorem dX7_castLine_141 : decode cX7_castLine 141 = .ok (.irem, 1) := dAt wdX7_castLine_123 adX7_castLine_123.2.2.2.2.2.2.2.2.2.1 rfl
theorem dX7_castLine_142 : decode cX7_castLine 142 = .ok (.iconst 4, 1) := dAt wdX7_castLine_123 adX7_castLine_123.2.2.2.2.2.2.2.2.2.2.1 rfl
theorem dX7_castLine_143 : decode cX7_castLine 143 = .ok (.imul, 1) := dAt wdX7_castLine_123 adX7_castLine_123.2.2.2.2.2.2.2.2.2.2.2.1 rfl
theorem dX7_castLine_144 : decode cX7_castLine 144 = .ok (.iload_n 1, 1) := dAt wdX7_castLine_123 adX7_castLine_123.2.2.2.2.2.2.2.2.2.2.2.2.1 rfl
theorem dX7_castLine_145 : decode cX7_castLine 145 = .ok (.iadd, 1) := dAt wdX7_castLine_123 adX7_castLine_123.2.2.2.2.2.2.2.2.2.2.2.2.2.1 rfl
theorem dX7_castLine_146 : decode cX7_castLine 146 = .ok (.istore 6, 2) := dAt wdX7_castLine_123 adX7_castLine_123.2.2.2.2.2.2.2.2.2.2.2.2.2.2.1 rfl
theorem dX7_castLine_148 : decode cX7_castLine 148 = .ok (.aload_n 0, 1) := dAt wdX7_castLine_123 adX7_castLine_123.2.2.2.2.2.2.2.2.2.2.2.2.2.2.2 rfl
def bdX7_castLine_149 : ByteArray := .mk #[180, 0, 63, 21, 6, 42, 180, 0, 60, 4, 100, 79, 42, 180, 0, 66, 21, 6, 42, 180, 0, 60, 4, 100, 79, 44]
theorem wdX7_castLine_149 : LocW cX7_castLine 149 bdX7_castLine_149 := loc_of (by decide +kernel)
theorem adX7_castLine_149 : De bdX7_castLine_149 0 (.getfield 63) 3 ∧ De bdX7_castLine_149 3 (.iload 6) 2 ∧ De bdX7_castLine_149 5 (.aload_n 0) 1 ∧ De bdX7_castLine_149 6 (.getfield 60) 3 ∧ De bdX7_castLine_149 9 (.iconst 1) 1 ∧ De bdX7_castLine_149 10 (.isub) 1 ∧ De bdX7_castLine_149 11 (.iastore) 1 ∧ De bdX7_castLine_149 12 (.aload_n 0) 1 ∧ De bdX7_castLine_149 13 (.getfield 66) 3 ∧ De bdX7_castLine_149 16 (.iload 6) 2 ∧ De bdX7_castLine_149 18 (.aload_n 0) 1 ∧ De bdX7_castLine_149 19 (.getfield 60) 3 ∧ De bdX7_castLine_149 22 (.iconst 1) 1 ∧ De bdX7_castLine_149 23 (.isub) 1 ∧ De bdX7_castLine_149 24 (.iastore) 1 ∧ De bdX7_castLine_149 25 (.aload_n 2) 1 := by decide +kernel
theorem dX7_castLine_149 : decode cX7_castLine 149 = .ok (.getfield 63, 3) := dAt wdX7_castLine_149 adX7_castLine_149.1 rfl
theorem dX7_castLine_152 : decode cX7_castLine 152 = .ok (.iload 6, 2) := dAt wdX7_castLine_149 adX7_castLine_149.2.1 rfl
theorem dX7_castLine_154 : decode cX7_castLine 154 = .ok (.aload_n 0, 1) := dAt wdX7_castLine_149 adX7_castLine_149.2.2.1 rfl
theorem dX7_castLine_155 : decode cX7_castLine 155 = .ok (.getfield 60, 3) := dAt wdX7_castLine_149 adX7_castLine_149.2.2.2.1 rfl
theorem dX7_castLine_158 : decode cX7_castLine 158 = .ok (.iconst 1, 1) := dAt wdX7_castLine_149 adX7_castLine_149.2.2.2.2.1 rfl
theorem dX7_castLine_159 : decode cX7_castLine 159 = .ok (.isub, 1) := dAt wdX7_castLine_149 adX7_castLine_149.2.2.2.2.2.1 rfl
theorem dX7_castLine_160 : decode cX7_castLine 160 = .ok (.iastore, 1) := dAt wdX7_castLine_149 adX7_castLine_149.2.2.2.2.2.2.1 rfl
theorem dX7_castLine_161 : decode cX7_castLine 161 = .ok (.aload_n 0, 1) := dAt wdX7_castLine_149 adX7_castLine_149.2.2.2.2.2.2.2.1 rfl
theorem dX7_castLine_162 : decode cX7_castLine 162 = .ok (.getfield 66, 3) := dAt wdX7_castLine_149 adX7_castLine_149.2.2.2.2.2.2.2.2.1 rfl
theorem dX7_castLine_165 : decode cX7_castLine 165 = .ok (.iload 6, 2) := dAt wdX7_castLine_149 adX7_castLine_149.2.2.2.2.2.2.2.2.2.1 rfl
theorem dX7_castLine_167 : decode cX7_castLine 167 = .ok (.aload_n 0, 1) := dAt wdX7_castLine_149 adX7_castLine_149.2.2.2.2.2.2.2.2.2.2.1 rfl
theorem dX7_castLine_168 : decode cX7_castLine 168 = .ok (.getfield 60, 3) := dAt wdX7_castLine_149 adX7_castLine_149.2.2.2.2.2.2.2.2.2.2.2.1 rfl
theorem dX7_castLine_171 : decode cX7_castLine 171 = .ok (.iconst 1, 1) := dAt wdX7_castLine_149 adX7_castLine_149.2.2.2.2.2.2.2.2.2.2.2.2.1 rfl
theorem dX7_castLine_172 : decode cX7_castLine 172 = .ok (.isub, 1) := dAt wdX7_castLine_149 adX7_castLine_149.2.2.2.2.2.2.2.2.2.2.2.2.2.1 rfl
theorem dX7_castLine_173 : decode cX7_castLine 173 = .ok (.iastore, 1) := dAt wdX7_castLine_149 adX7_castLine_149.2.2.2.2.2.2.2.2.2.2.2.2.2.2.1 rfl
theorem dX7_castLine_174 : decode cX7_castLine 174 = .ok (.aload_n 2, 1) := dAt wdX7_castLine_149 adX7_castLine_149.2.2.2.2.2.2.2.2.2.2.2.2.2.2.2 rfl
def bdX7_castLine_175 : ByteArray := .mk #[89, 180, 1, 53, 4, 96, 181, 1, 53, 44, 180, 0, 228, 3, 92, 46, 4, 96, 79, 44, 180, 0, 228, 3]
theorem wdX7_castLine_175 : LocW cX7_castLine 175 bdX7_castLine_175 := loc_of (by decide +kernel)
theorem adX7_castLine_175 : De bdX7_castLine_175 0 (.dup) 1 ∧ De bdX7_castLine_175 1 (.getfield 309) 3 ∧ De bdX7_castLine_175 4 (.iconst 1) 1 ∧ De bdX7_castLine_175 5 (.iadd) 1 ∧ De bdX7_castLine_175 6 (.putfield 309) 3 ∧ De bdX7_castLine_175 9 (.aload_n 2) 1 ∧ De bdX7_castLine_175 10 (.getfield 228) 3 ∧ De bdX7_castLine_175 13 (.iconst 0) 1 ∧ De bdX7_castLine_175 14 (.dup2) 1 ∧ De bdX7_castLine_175 15 (.iaload) 1 ∧ De bdX7_castLine_175 16 (.iconst 1) 1 ∧ De bdX7_castLine_175 17 (.iadd) 1 ∧ De bdX7_castLine_175 18 (.iastore) 1 ∧ De bdX7_castLine_175 19 (.aload_n 2) 1 ∧ De bdX7_castLine_175 20 (.getfield 228) 3 ∧ De bdX7_castLine_175 23 (.iconst 0) 1 := by decide +kernel
theorem dX7_castLine_175 : decode cX7_castLine 175 = .ok (.dup, 1) := dAt wdX7_castLine_175 adX7_castLine_175.1 rfl
theorem dX7_castLine_176 : decode cX7_castLine 176 = .ok (.getfield 309, 3) := dAt wdX7_castLine_175 adX7_castLine_175.2.1 rfl
theorem dX7_castLine_179 : decode cX7_castLine 179 = .ok (.iconst 1, 1) := dAt wdX7_castLine_175 adX7_castLine_175.2.2.1 rfl
theorem dX7_castLine_180 : decode cX7_castLine 180 = .ok (.iadd, 1) := dAt wdX7_castLine_175 adX7_castLine_175.2.2.2.1 rfl
theorem dX7_castLine_181 : decode cX7_castLine 181 = .ok (.putfield 309, 3) := dAt wdX7_castLine_175 adX7_castLine_175.2.2.2.2.1 rfl
theorem dX7_castLine_184 : decode cX7_castLine 184 = .ok (.aload_n 2, 1) := dAt wdX7_castLine_175 adX7_castLine_175.2.2.2.2.2.1 rfl
theorem dX7_castLine_185 : decode cX7_castLine 185 = .ok (.getfield 228, 3) := dAt wdX7_castLine_175 adX7_castLine_175.2.2.2.2.2.2.1 rfl
theorem dX7_castLine_188 : decode cX7_castLine 188 = .ok (.iconst 0, 1) := dAt wdX7_castLine_175 adX7_castLine_175.2.2.2.2.2.2.2.1 rfl
theorem dX7_castLine_189 : decode cX7_castLine 189 = .ok (.dup2, 1) := dAt wdX7_castLine_175 adX7_castLine_175.2.2.2.2.2.2.2.2.1 rfl
theorem dX7_castLine_190 : decode cX7_castLine 190 = .ok (.iaload, 1) := dAt wdX7_castLine_175 adX7_castLine_175.2.2.2.2.2.2.2.2.2.1 rfl
theorem dX7_castLine_191 : decode cX7_castLine 191 = .ok (.iconst 1, 1) := dAt wdX7_castLine_175 adX7_castLine_175.2.2.2.2.2.2.2.2.2.2.1 rfl
theorem dX7_castLine_192 : decode cX7_castLine 192 = .ok (.iadd, 1) := dAt wdX7_castLine_175 adX7_castLine_175.2.2.2.2.2.2.2.2.2.2.2.1 rfl
theorem dX7_castLine_193 : decode cX7_castLine 193 = .ok (.iastore, 1) := dAt wdX7_castLine_175 adX7_castLine_175.2.2.2.2.2.2.2.2.2.2.2.2.1 rfl
theorem dX7_castLine_194 : decode cX7_castLine 194 = .ok (.aload_n 2, 1) := dAt wdX7_castLine_175 adX7_castLine_175.2.2.2.2.2.2.2.2.2.2.2.2.2.1 rfl
theorem dX7_castLine_195 : decode cX7_castLine 195 = .ok (.getfield 228, 3) := dAt wdX7_castLine_175 adX7_castLine_175.2.2.2.2.2.2.2.2.2.2.2.2.2.2.1 rfl
theorem dX7_castLine_198 : decode cX7_castLine 198 = .ok (.iconst 0, 1) := dAt wdX7_castLine_175 adX7_castLine_175.2.2.2.2.2.2.2.2.2.2.2.2.2.2.2 rfl
def bdX7_castLine_199 : ByteArray := .mk #[46, 44, 180, 0, 222, 3, 46, 161, 0, 7, 44, 182, 1, 56, 177]
theorem wdX7_castLine_199 : LocW cX7_castLine 199 bdX7_castLine_199 := loc_of (by decide +kernel)
theorem adX7_castLine_199 : De bdX7_castLine_199 0 (.iaload) 1 ∧ De bdX7_castLine_199 1 (.aload_n 2) 1 ∧ De bdX7_castLine_199 2 (.getfield 222) 3 ∧ De bdX7_castLine_199 5 (.iconst 0) 1 ∧ De bdX7_castLine_199 6 (.iaload) 1 ∧ De bdX7_castLine_199 7 (.if_icmp .lt 7) 3 ∧ De bdX7_castLine_199 10 (.aload_n 2) 1 ∧ De bdX7_castLine_199 11 (.invokevirtual 312) 3 ∧ De bdX7_castLine_199 14 (.return_) 1 := by decide +kernel
theorem dX7_castLine_199 : decode cX7_castLine 199 = .ok (.iaload, 1) := dAt wdX7_castLine_199 adX7_castLine_199.1 rfl
theorem dX7_castLine_200 : decode cX7_castLine 200 = .ok (.aload_n 2, 1) := dAt wdX7_castLine_199 adX7_castLine_199.2.1 rfl
theorem dX7_castLine_201 : decode cX7_castLine 201 = .ok (.getfield 222, 3) := dAt wdX7_castLine_199 adX7_castLine_199.2.2.1 rfl
theorem dX7_castLine_204 : decode cX7_castLine 204 = .ok (.iconst 0, 1) := dAt wdX7_castLine_199 adX7_castLine_199.2.2.2.1 rfl
theorem dX7_castLine_205 : decode cX7_castLine 205 = .ok (.iaload, 1) := dAt wdX7_castLine_199 adX7_castLine_199.2.2.2.2.1 rfl
theorem dX7_castLine_206 : decode cX7_castLine 206 = .ok (.if_icmp .lt 7, 3) := dAt wdX7_castLine_199 adX7_castLine_199.2.2.2.2.2.1 rfl
theorem dX7_castLine_209 : decode cX7_castLine 209 = .ok (.aload_n 2, 1) := dAt wdX7_castLine_199 adX7_castLine_199.2.2.2.2.2.2.1 rfl
theorem dX7_castLine_210 : decode cX7_castLine 210 = .ok (.invokevirtual 312, 3) := dAt wdX7_castLine_199 adX7_castLine_199.2.2.2.2.2.2.2.1 rfl
theorem dX7_castLine_213 : decode cX7_castLine 213 = .ok (.return_, 1) := dAt wdX7_castLine_199 adX7_castLine_199.2.2.2.2.2.2.2.2 rfl
def bdX7_layAt_0 : ByteArray := .mk #[42, 27, 182, 1, 59, 58, 4, 42, 28, 182, 0, 120, 58, 5, 25, 4, 198, 0, 17, 25, 5, 198, 0, 12, 25, 5, 29, 182, 1, 28, 154, 0, 4]
theorem wdX7_layAt_0 : LocW cX7_layAt 0 bdX7_layAt_0 := loc_of (by decide +kernel)
theorem adX7_layAt_0 : De bdX7_layAt_0 0 (.aload_n 0) 1 ∧ De bdX7_layAt_0 1 (.iload_n 1) 1 ∧ De bdX7_layAt_0 2 (.invokevirtual 315) 3 ∧ De bdX7_layAt_0 5 (.astore 4) 2 ∧ De bdX7_layAt_0 7 (.aload_n 0) 1 ∧ De bdX7_layAt_0 8 (.iload_n 2) 1 ∧ De bdX7_layAt_0 9 (.invokevirtual 120) 3 ∧ De bdX7_layAt_0 12 (.astore 5) 2 ∧ De bdX7_layAt_0 14 (.aload 4) 2 ∧ De bdX7_layAt_0 16 (.ifnull 17) 3 ∧ De bdX7_layAt_0 19 (.aload 5) 2 ∧ De bdX7_layAt_0 21 (.ifnull 12) 3 ∧ De bdX7_layAt_0 24 (.aload 5) 2 ∧ De bdX7_layAt_0 26 (.iload_n 3) 1 ∧ De bdX7_layAt_0 27 (.invokevirtual 284) 3 ∧ De bdX7_layAt_0 30 (.ifCond .ne 4) 3 := by decide +kernel
theorem dX7_layAt_0 : decode cX7_layAt 0 = .ok (.aload_n 0, 1) := dAt wdX7_layAt_0 adX7_layAt_0.1 rfl
theorem dX7_layAt_1 : decode cX7_layAt 1 = .ok (.iload_n 1, 1) := dAt wdX7_layAt_0 adX7_layAt_0.2.1 rfl
theorem dX7_layAt_2 : decode cX7_layAt 2 = .ok (.invokevirtual 315, 3) := dAt wdX7_layAt_0 adX7_layAt_0.2.2.1 rfl
theorem dX7_layAt_5 : decode cX7_layAt 5 = .ok (.astore 4, 2) := dAt wdX7_layAt_0 adX7_layAt_0.2.2.2.1 rfl
theorem dX7_layAt_7 : decode cX7_layAt 7 = .ok (.aload_n 0, 1) := dAt wdX7_layAt_0 adX7_layAt_0.2.2.2.2.1 rfl
theorem dX7_layAt_8 : decode cX7_layAt 8 = .ok (.iload_n 2, 1) := dAt wdX7_layAt_0 adX7_layAt_0.2.2.2.2.2.1 rfl
theorem dX7_layAt_9 : decode cX7_layAt 9 = .ok (.invokevirtual 120, 3) := dAt wdX7_layAt_0 adX7_layAt_0.2.2.2.2.2.2.1 rfl
theorem dX7_layAt_12 : decode cX7_layAt 12 = .ok (.astore 5, 2) := dAt wdX7_layAt_0 adX7_layAt_0.2.2.2.2.2.2.2.1 rfl
theorem dX7_layAt_14 : decode cX7_layAt 14 = .ok (.aload 4, 2) := dAt wdX7_layAt_0 adX7_layAt_0.2.2.2.2.2.2.2.2.1 rfl
theorem dX7_layAt_16 : decode cX7_layAt 16 = .ok (.ifnull 17, 3) := dAt wdX7_layAt_0 adX7_layAt_0.2.2.2.2.2.2.2.2.2.1 rfl
theorem dX7_layAt_19 : decode cX7_layAt 19 = .ok (.aload 5, 2) := dAt wdX7_layAt_0 adX7_layAt_0.2.2.2.2.2.2.2.2.2.2.1 rfl
theorem dX7_layAt_21 : decode cX7_layAt 21 = .ok (.ifnull 12, 3) := dAt wdX7_layAt_0 adX7_layAt_0.2.2.2.2.2.2.2.2.2.2.2.1 rfl
theorem dX7_layAt_24 : decode cX7_layAt 24 = .ok (.aload 5, 2) := dAt wdX7_layAt_0 adX7_layAt_0.2.2.2.2.2.2.2.2.2.2.2.2.1 rfl
theorem dX7_layAt_26 : decode cX7_layAt 26 = .ok (.iload_n 3, 1) := dAt wdX7_layAt_0 adX7_layAt_0.2.2.2.2.2.2.2.2.2.2.2.2.2.1 rfl
theorem dX7_layAt_27 : decode cX7_layAt 27 = .ok (.invokevirtual 284, 3) := dAt wdX7_layAt_0 adX7_layAt_0.2.2.2.2.2.2.2.2.2.2.2.2.2.2.1 rfl
theorem dX7_layAt_30 : decode cX7_layAt 30 = .ok (.ifCond .ne 4, 3) := dAt wdX7_layAt_0 adX7_layAt_0.2.2.2.2.2.2.2.2.2.2.2.2.2.2.2 rfl
def bdX7_layAt_33 : ByteArray := .mk #[177, 25, 4, 3, 181, 1, 62, 25, 4, 28, 181, 1, 65, 25, 4, 29, 181, 1, 68, 25, 5, 180, 1, 71, 29, 27, 79, 177]
theorem wdX7_layAt_33 : LocW cX7_layAt 33 bdX7_layAt_33 := loc_of (by decide +kernel)
theorem adX7_layAt_33 : De bdX7_layAt_33 0 (.return_) 1 ∧ De bdX7_layAt_33 1 (.aload 4) 2 ∧ De bdX7_layAt_33 3 (.iconst 0) 1 ∧ De bdX7_layAt_33 4 (.putfield 318) 3 ∧ De bdX7_layAt_33 7 (.aload 4) 2 ∧ De bdX7_layAt_33 9 (.iload_n 2) 1 ∧ De bdX7_layAt_33 10 (.putfield 321) 3 ∧ De bdX7_layAt_33 13 (.aload 4) 2 ∧ De bdX7_layAt_33 15 (.iload_n 3) 1 ∧ De bdX7_layAt_33 16 (.putfield 324) 3 ∧ De bdX7_layAt_33 19 (.aload 5) 2 ∧ De bdX7_layAt_33 21 (.getfield 327) 3 ∧ De bdX7_layAt_33 24 (.iload_n 3) 1 ∧ De bdX7_layAt_33 25 (.iload_n 1) 1 ∧ De bdX7_layAt_33 26 (.iastore) 1 ∧ De bdX7_layAt_33 27 (.return_) 1 := by decide +kernel
theorem dX7_layAt_33 : decode cX7_layAt 33 = .ok (.return_, 1) := dAt wdX7_layAt_33 adX7_layAt_33.1 rfl
theorem dX7_layAt_34 : decode cX7_layAt 34 = .ok (.aload 4, 2) := dAt wdX7_layAt_33 adX7_layAt_33.2.1 rfl
theorem dX7_layAt_36 : decode cX7_layAt 36 = .ok (.iconst 0, 1) := dAt wdX7_layAt_33 adX7_layAt_33.2.2.1 rfl
theorem dX7_layAt_37 : decode cX7_layAt 37 = .ok (.putfield 318, 3) := dAt wdX7_layAt_33 adX7_layAt_33.2.2.2.1 rfl
theorem dX7_layAt_40 : decode cX7_layAt 40 = .ok (.aload 4, 2) := dAt wdX7_layAt_33 adX7_layAt_33.2.2.2.2.1 rfl
theorem dX7_layAt_42 : decode cX7_layAt 42 = .ok (.iload_n 2, 1) := dAt wdX7_layAt_33 adX7_layAt_33.2.2.2.2.2.1 rfl
theorem dX7_layAt_43 : decode cX7_layAt 43 = .ok (.putfield 321, 3) := dAt wdX7_layAt_33 adX7_layAt_33.2.2.2.2.2.2.1 rfl
theorem dX7_layAt_46 : decode cX7_layAt 46 = .ok (.aload 4, 2) := dAt wdX7_layAt_33 adX7_layAt_33.2.2.2.2.2.2.2.1 rfl
theorem dX7_layAt_48 : decode cX7_layAt 48 = .ok (.iload_n 3, 1) := dAt wdX7_layAt_33 adX7_layAt_33.2.2.2.2.2.2.2.2.1 rfl
theorem dX7_layAt_49 : decode cX7_layAt 49 = .ok (.putfield 324, 3) := dAt wdX7_layAt_33 adX7_layAt_33.2.2.2.2.2.2.2.2.2.1 rfl
theorem dX7_layAt_52 : decode cX7_layAt 52 = .ok (.aload 5, 2) := dAt wdX7_layAt_33 adX7_layAt_33.2.2.2.2.2.2.2.2.2.2.1 rfl
theorem dX7_layAt_54 : decode cX7_layAt 54 = .ok (.getfield 327, 3) := dAt wdX7_layAt_33 adX7_layAt_33.2.2.2.2.2.2.2.2.2.2.2.1 rfl
theorem dX7_layAt_57 : decode cX7_layAt 57 = .ok (.iload_n 3, 1) := dAt wdX7_layAt_33 adX7_layAt_33.2.2.2.2.2.2.2.2.2.2.2.2.1 rfl
theorem dX7_layAt_58 : decode cX7_layAt 58 = .ok (.iload_n 1, 1) := dAt wdX7_layAt_33 adX7_layAt_33.2.2.2.2.2.2.2.2.2.2.2.2.2.1 rfl
theorem dX7_layAt_59 : decode cX7_layAt 59 = .ok (.iastore, 1) := dAt wdX7_layAt_33 adX7_layAt_33.2.2.2.2.2.2.2.2.2.2.2.2.2.2.1 rfl
theorem dX7_layAt_60 : decode cX7_layAt 60 = .ok (.return_, 1) := dAt wdX7_layAt_33 adX7_layAt_33.2.2.2.2.2.2.2.2.2.2.2.2.2.2.2 rfl
def bdX7_takeAway_0 : ByteArray := .mk #[42, 43, 180, 1, 65, 182, 0, 120, 78, 45, 198, 0, 24, 45, 43, 180, 1, 68, 182, 1, 28, 153, 0, 13, 45, 180, 1, 71, 43, 180, 1, 68]
theorem wdX7_takeAway_0 : LocW cX7_takeAway 0 bdX7_takeAway_0 := loc_of (by decide +kernel)
theorem adX7_takeAway_0 : De bdX7_takeAway_0 0 (.aload_n 0) 1 ∧ De bdX7_takeAway_0 1 (.aload_n 1) 1 ∧ De bdX7_takeAway_0 2 (.getfield 321) 3 ∧ De bdX7_takeAway_0 5 (.invokevirtual 120) 3 ∧ De bdX7_takeAway_0 8 (.astore_n 3) 1 ∧ De bdX7_takeAway_0 9 (.aload_n 3) 1 ∧ De bdX7_takeAway_0 10 (.ifnull 24) 3 ∧ De bdX7_takeAway_0 13 (.aload_n 3) 1 ∧ De bdX7_takeAway_0 14 (.aload_n 1) 1 ∧ De bdX7_takeAway_0 15 (.getfield 324) 3 ∧ De bdX7_takeAway_0 18 (.invokevirtual 284) 3 ∧ De bdX7_takeAway_0 21 (.ifCond .eq 13) 3 ∧ De bdX7_takeAway_0 24 (.aload_n 3) 1 ∧ De bdX7_takeAway_0 25 (.getfield 327) 3 ∧ De bdX7_takeAway_0 28 (.aload_n 1) 1 ∧ De bdX7_takeAway_0 29 (.getfield 324) 3 := by decide +kernel
theorem dX7_takeAway_0 : decode cX7_takeAway 0 = .ok (.aload_n 0, 1) := dAt wdX7_takeAway_0 adX7_takeAway_0.1 rfl
theorem dX7_takeAway_1 : decode cX7_takeAway 1 = .ok (.aload_n 1, 1) := dAt wdX7_takeAway_0 adX7_takeAway_0.2.1 rfl
theorem dX7_takeAway_2 : decode cX7_takeAway 2 = .ok (.getfield 321, 3) := dAt wdX7_takeAway_0 adX7_takeAway_0.2.2.1 rfl
theorem dX7_takeAway_5 : decode cX7_takeAway 5 = .ok (.invokevirtual 120, 3) := dAt wdX7_takeAway_0 adX7_takeAway_0.2.2.2.1 rfl
theorem dX7_takeAway_8 : decode cX7_takeAway 8 = .ok (.astore_n 3, 1) := dAt wdX7_takeAway_0 adX7_takeAway_0.2.2.2.2.1 rfl
theorem dX7_takeAway_9 : decode cX7_takeAway 9 = .ok (.aload_n 3, 1) := dAt wdX7_takeAway_0 adX7_takeAway_0.2.2.2.2.2.1 rfl
theorem dX7_takeAway_10 : decode cX7_takeAway 10 = .ok (.ifnull 24, 3) := dAt wdX7_takeAway_0 adX7_takeAway_0.2.2.2.2.2.2.1 rfl
theorem dX7_takeAway_13 : decode cX7_takeAway 13 = .ok (.aload_n 3, 1) := dAt wdX7_takeAway_0 adX7_takeAway_0.2.2.2.2.2.2.2.1 rfl
theorem dX7_takeAway_14 : decode cX7_takeAway 14 = .ok (.aload_n 1, 1) := dAt wdX7_takeAway_0 adX7_takeAway_0.2.2.2.2.2.2.2.2.1 rfl
theorem dX7_takeAway_15 : decode cX7_takeAway 15 = .ok (.getfield 324, 3) := dAt wdX7_takeAway_0 adX7_takeAway_0.2.2.2.2.2.2.2.2.2.1 rfl
theorem dX7_takeAway_18 : decode cX7_takeAway 18 = .ok (.invokevirtual 284, 3) := dAt wdX7_takeAway_0 adX7_takeAway_0.2.2.2.2.2.2.2.2.2.2.1 rfl
theorem dX7_takeAway_21 : decode cX7_takeAway 21 = .ok (.ifCond .eq 13, 3) := dAt wdX7_takeAway_0 adX7_takeAway_0.2.2.2.2.2.2.2.2.2.2.2.1 rfl
theorem dX7_takeAway_24 : decode cX7_takeAway 24 = .ok (.aload_n 3, 1) := dAt wdX7_takeAway_0 adX7_takeAway_0.2.2.2.2.2.2.2.2.2.2.2.2.1 rfl
theorem dX7_takeAway_25 : decode cX7_takeAway 25 = .ok (.getfield 327, 3) := dAt wdX7_takeAway_0 adX7_takeAway_0.2.2.2.2.2.2.2.2.2.2.2.2.2.1 rfl
theorem dX7_takeAway_28 : decode cX7_takeAway 28 = .ok (.aload_n 1, 1) := dAt wdX7_takeAway_0 adX7_takeAway_0.2.2.2.2.2.2.2.2.2.2.2.2.2.2.1 rfl
theorem dX7_takeAway_29 : decode cX7_takeAway 29 = .ok (.getfield 324, 3) := dAt wdX7_takeAway_0 adX7_takeAway_0.2.2.2.2.2.2.2.2.2.2.2.2.2.2.2 rfl
def bdX7_takeAway_32 : ByteArray := .mk #[2, 79, 43, 28, 181, 1, 62, 43, 2, 181, 1, 65, 43, 2, 181, 1, 68, 177]
theorem wdX7_takeAway_32 : LocW cX7_takeAway 32 bdX7_takeAway_32 := loc_of (by decide +kernel)
theorem adX7_takeAway_32 : De bdX7_takeAway_32 0 (.iconst (-1)) 1 ∧ De bdX7_takeAway_32 1 (.iastore) 1 ∧ De bdX7_takeAway_32 2 (.aload_n 1) 1 ∧ De bdX7_takeAway_32 3 (.iload_n 2) 1 ∧ De bdX7_takeAway_32 4 (.putfield 318) 3 ∧ De bdX7_takeAway_32 7 (.aload_n 1) 1 ∧ De bdX7_takeAway_32 8 (.iconst (-1)) 1 ∧ De bdX7_takeAway_32 9 (.putfield 321) 3 ∧ De bdX7_takeAway_32 12 (.aload_n 1) 1 ∧ De bdX7_takeAway_32 13 (.iconst (-1)) 1 ∧ De bdX7_takeAway_32 14 (.putfield 324) 3 ∧ De bdX7_takeAway_32 17 (.return_) 1 := by decide +kernel
theorem dX7_takeAway_32 : decode cX7_takeAway 32 = .ok (.iconst (-1), 1) := dAt wdX7_takeAway_32 adX7_takeAway_32.1 rfl
theorem dX7_takeAway_33 : decode cX7_takeAway 33 = .ok (.iastore, 1) := dAt wdX7_takeAway_32 adX7_takeAway_32.2.1 rfl
theorem dX7_takeAway_34 : decode cX7_takeAway 34 = .ok (.aload_n 1, 1) := dAt wdX7_takeAway_32 adX7_takeAway_32.2.2.1 rfl
theorem dX7_takeAway_35 : decode cX7_takeAway 35 = .ok (.iload_n 2, 1) := dAt wdX7_takeAway_32 adX7_takeAway_32.2.2.2.1 rfl
theorem dX7_takeAway_36 : decode cX7_takeAway 36 = .ok (.putfield 318, 3) := dAt wdX7_takeAway_32 adX7_takeAway_32.2.2.2.2.1 rfl
theorem dX7_takeAway_39 : decode cX7_takeAway 39 = .ok (.aload_n 1, 1) := dAt wdX7_takeAway_32 adX7_takeAway_32.2.2.2.2.2.1 rfl
theorem dX7_takeAway_40 : decode cX7_takeAway 40 = .ok (.iconst (-1), 1) := dAt wdX7_takeAway_32 adX7_takeAway_32.2.2.2.2.2.2.1 rfl
theorem dX7_takeAway_41 : decode cX7_takeAway 41 = .ok (.putfield 321, 3) := dAt wdX7_takeAway_32 adX7_takeAway_32.2.2.2.2.2.2.2.1 rfl
theorem dX7_takeAway_44 : decode cX7_takeAway 44 = .ok (.aload_n 1, 1) := dAt wdX7_takeAway_32 adX7_takeAway_32.2.2.2.2.2.2.2.2.1 rfl
theorem dX7_takeAway_45 : decode cX7_takeAway 45 = .ok (.iconst (-1), 1) := dAt wdX7_takeAway_32 adX7_takeAway_32.2.2.2.2.2.2.2.2.2.1 rfl
theorem dX7_takeAway_46 : decode cX7_takeAway 46 = .ok (.putfield 324, 3) := dAt wdX7_takeAway_32 adX7_takeAway_32.2.2.2.2.2.2.2.2.2.2.1 rfl
theorem dX7_takeAway_49 : decode cX7_takeAway 49 = .ok (.return_, 1) := dAt wdX7_takeAway_32 adX7_takeAway_32.2.2.2.2.2.2.2.2.2.2.2 rfl
def bdX7_takeAwayAt_0 : ByteArray := .mk #[42, 43, 180, 1, 71, 28, 46, 182, 1, 59, 78, 45, 198, 0, 9, 42, 45, 5, 182, 1, 73, 177]
theorem wdX7_takeAwayAt_0 : LocW cX7_takeAwayAt 0 bdX7_takeAwayAt_0 := loc_of (by decide +kernel)
theorem adX7_takeAwayAt_0 : De bdX7_takeAwayAt_0 0 (.aload_n 0) 1 ∧ De bdX7_takeAwayAt_0 1 (.aload_n 1) 1 ∧ De bdX7_takeAwayAt_0 2 (.getfield 327) 3 ∧ De bdX7_takeAwayAt_0 5 (.iload_n 2) 1 ∧ De bdX7_takeAwayAt_0 6 (.iaload) 1 ∧ De bdX7_takeAwayAt_0 7 (.invokevirtual 315) 3 ∧ De bdX7_takeAwayAt_0 10 (.astore_n 3) 1 ∧ De bdX7_takeAwayAt_0 11 (.aload_n 3) 1 ∧ De bdX7_takeAwayAt_0 12 (.ifnull 9) 3 ∧ De bdX7_takeAwayAt_0 15 (.aload_n 0) 1 ∧ De bdX7_takeAwayAt_0 16 (.aload_n 3) 1 ∧ De bdX7_takeAwayAt_0 17 (.iconst 2) 1 ∧ De bdX7_takeAwayAt_0 18 (.invokevirtual 329) 3 ∧ De bdX7_takeAwayAt_0 21 (.return_) 1 := by decide +kernel
theorem dX7_takeAwayAt_0 : decode cX7_takeAwayAt 0 = .ok (.aload_n 0, 1) := dAt wdX7_takeAwayAt_0 adX7_takeAwayAt_0.1 rfl
theorem dX7_takeAwayAt_1 : decode cX7_takeAwayAt 1 = .ok (.aload_n 1, 1) := dAt wdX7_takeAwayAt_0 adX7_takeAwayAt_0.2.1 rfl
theorem dX7_takeAwayAt_2 : decode cX7_takeAwayAt 2 = .ok (.getfield 327, 3) := dAt wdX7_takeAwayAt_0 adX7_takeAwayAt_0.2.2.1 rfl
theorem dX7_takeAwayAt_5 : decode cX7_takeAwayAt 5 = .ok (.iload_n 2, 1) := dAt wdX7_takeAwayAt_0 adX7_takeAwayAt_0.2.2.2.1 rfl
theorem dX7_takeAwayAt_6 : decode cX7_takeAwayAt 6 = .ok (.iaload, 1) := dAt wdX7_takeAwayAt_0 adX7_takeAwayAt_0.2.2.2.2.1 rfl
theorem dX7_takeAwayAt_7 : decode cX7_takeAwayAt 7 = .ok (.invokevirtual 315, 3) := dAt wdX7_takeAwayAt_0 adX7_takeAwayAt_0.2.2.2.2.2.1 rfl
theorem dX7_takeAwayAt_10 : decode cX7_takeAwayAt 10 = .ok (.astore_n 3, 1) := dAt wdX7_takeAwayAt_0 adX7_takeAwayAt_0.2.2.2.2.2.2.1 rfl
theorem dX7_takeAwayAt_11 : decode cX7_takeAwayAt 11 = .ok (.aload_n 3, 1) := dAt wdX7_takeAwayAt_0 adX7_takeAwayAt_0.2.2.2.2.2.2.2.1 rfl
theorem dX7_takeAwayAt_12 : decode cX7_takeAwayAt 12 = .ok (.ifnull 9, 3) := dAt wdX7_takeAwayAt_0 adX7_takeAwayAt_0.2.2.2.2.2.2.2.2.1 rfl
theorem dX7_takeAwayAt_15 : decode cX7_takeAwayAt 15 = .ok (.aload_n 0, 1) := dAt wdX7_takeAwayAt_0 adX7_takeAwayAt_0.2.2.2.2.2.2.2.2.2.1 rfl
theorem dX7_takeAwayAt_16 : decode cX7_takeAwayAt 16 = .ok (.aload_n 3, 1) := dAt wdX7_takeAwayAt_0 adX7_takeAwayAt_0.2.2.2.2.2.2.2.2.2.2.1 rfl
theorem dX7_takeAwayAt_17 : decode cX7_takeAwayAt 17 = .ok (.iconst 2, 1) := dAt wdX7_takeAwayAt_0 adX7_takeAwayAt_0.2.2.2.2.2.2.2.2.2.2.2.1 rfl
theorem dX7_takeAwayAt_18 : decode cX7_takeAwayAt 18 = .ok (.invokevirtual 329, 3) := dAt wdX7_takeAwayAt_0 adX7_takeAwayAt_0.2.2.2.2.2.2.2.2.2.2.2.2.1 rfl
theorem dX7_takeAwayAt_21 : decode cX7_takeAwayAt 21 = .ok (.return_, 1) := dAt wdX7_takeAwayAt_0 adX7_takeAwayAt_0.2.2.2.2.2.2.2.2.2.2.2.2.2 rfl
def bdX7_isRight_0 : ByteArray := .mk #[43, 28, 182, 1, 28, 153, 0, 16, 42, 43, 180, 1, 71, 28, 46, 182, 1, 59, 167, 0, 4, 1, 78, 45, 198, 0, 38, 45]
theorem wdX7_isRight_0 : LocW cX7_isRight 0 bdX7_isRight_0 := loc_of (by decide +kernel)
theorem adX7_isRight_0 : De bdX7_isRight_0 0 (.aload_n 1) 1 ∧ De bdX7_isRight_0 1 (.iload_n 2) 1 ∧ De bdX7_isRight_0 2 (.invokevirtual 284) 3 ∧ De bdX7_isRight_0 5 (.ifCond .eq 16) 3 ∧ De bdX7_isRight_0 8 (.aload_n 0) 1 ∧ De bdX7_isRight_0 9 (.aload_n 1) 1 ∧ De bdX7_isRight_0 10 (.getfield 327) 3 ∧ De bdX7_isRight_0 13 (.iload_n 2) 1 ∧ De bdX7_isRight_0 14 (.iaload) 1 ∧ De bdX7_isRight_0 15 (.invokevirtual 315) 3 ∧ De bdX7_isRight_0 18 (.goto 4) 3 ∧ De bdX7_isRight_0 21 (.aconst_null) 1 ∧ De bdX7_isRight_0 22 (.astore_n 3) 1 ∧ De bdX7_isRight_0 23 (.aload_n 3) 1 ∧ De bdX7_isRight_0 24 (.ifnull 38) 3 ∧ De bdX7_isRight_0 27 (.aload_n 3) 1 := by decide +kernel
theorem dX7_isRight_0 : decode cX7_isRight 0 = .ok (.aload_n 1, 1) := dAt wdX7_isRight_0 adX7_isRight_0.1 rfl
theorem dX7_isRight_1 : decode cX7_isRight 1 = .ok (.iload_n 2, 1) := dAt wdX7_isRight_0 adX7_isRight_0.2.1 rfl
theorem dX7_isRight_2 : decode cX7_isRight 2 = .ok (.invokevirtual 284, 3) := dAt wdX7_isRight_0 adX7_isRight_0.2.2.1 rfl
theorem dX7_isRight_5 : decode cX7_isRight 5 = .ok (.ifCond .eq 16, 3) := dAt wdX7_isRight_0 adX7_isRight_0.2.2.2.1 rfl
theorem dX7_isRight_8 : decode cX7_isRight 8 = .ok (.aload_n 0, 1) := dAt wdX7_isRight_0 adX7_isRight_0.2.2.2.2.1 rfl
theorem dX7_isRight_9 : decode cX7_isRight 9 = .ok (.aload_n 1, 1) := dAt wdX7_isRight_0 adX7_isRight_0.2.2.2.2.2.1 rfl
theorem dX7_isRight_10 : decode cX7_isRight 10 = .ok (.getfield 327, 3) := dAt wdX7_isRight_0 adX7_isRight_0.2.2.2.2.2.2.1 rfl
theorem dX7_isRight_13 : decode cX7_isRight 13 = .ok (.iload_n 2, 1) := dAt wdX7_isRight_0 adX7_isRight_0.2.2.2.2.2.2.2.1 rfl
theorem dX7_isRight_14 : decode cX7_isRight 14 = .ok (.iaload, 1) := dAt wdX7_isRight_0 adX7_isRight_0.2.2.2.2.2.2.2.2.1 rfl
theorem dX7_isRight_15 : decode cX7_isRight 15 = .ok (.invokevirtual 315, 3) := dAt wdX7_isRight_0 adX7_isRight_0.2.2.2.2.2.2.2.2.2.1 rfl
theorem dX7_isRight_18 : decode cX7_isRight 18 = .ok (.goto 4, 3) := dAt wdX7_isRight_0 adX7_isRight_0.2.2.2.2.2.2.2.2.2.2.1 rfl
theorem dX7_isRight_21 : decode cX7_isRight 21 = .ok (.aconst_null, 1) := dAt wdX7_isRight_0 adX7_isRight_0.2.2.2.2.2.2.2.2.2.2.2.1 rfl
theorem dX7_isRight_22 : decode cX7_isRight 22 = .ok (.astore_n 3, 1) := dAt wdX7_isRight_0 adX7_isRight_0.2.2.2.2.2.2.2.2.2.2.2.2.1 rfl
theorem dX7_isRight_23 : decode cX7_isRight 23 = .ok (.aload_n 3, 1) := dAt wdX7_isRight_0 adX7_isRight_0.2.2.2.2.2.2.2.2.2.2.2.2.2.1 rfl
theorem dX7_isRight_24 : decode cX7_isRight 24 = .ok (.ifnull 38, 3) := dAt wdX7_isRight_0 adX7_isRight_0.2.2.2.2.2.2.2.2.2.2.2.2.2.2.1 rfl
theorem dX7_isRight_27 : decode cX7_isRight 27 = .ok (.aload_n 3, 1) := dAt wdX7_isRight_0 adX7_isRight_0.2.2.2.2.2.2.2.2.2.2.2.2.2.2.2 rfl
def bdX7_isRight_28 : ByteArray := .mk #[180, 1, 39, 43, 180, 0, 151, 160, 0, 27, 45, 42, 180, 0, 85, 43, 28, 42, 180, 0, 85, 182, 1, 14, 182, 1, 77, 153, 0, 7, 4, 167, 0, 4]
theorem wdX7_isRight_28 : LocW cX7_isRight 28 bdX7_isRight_28 := loc_of (by decide +kernel)
theorem adX7_isRight_28 : De bdX7_isRight_28 0 (.getfield 295) 3 ∧ De bdX7_isRight_28 3 (.aload_n 1) 1 ∧ De bdX7_isRight_28 4 (.getfield 151) 3 ∧ De bdX7_isRight_28 7 (.if_icmp .ne 27) 3 ∧ De bdX7_isRight_28 10 (.aload_n 3) 1 ∧ De bdX7_isRight_28 11 (.aload_n 0) 1 ∧ De bdX7_isRight_28 12 (.getfield 85) 3 ∧ De bdX7_isRight_28 15 (.aload_n 1) 1 ∧ De bdX7_isRight_28 16 (.iload_n 2) 1 ∧ De bdX7_isRight_28 17 (.aload_n 0) 1 ∧ De bdX7_isRight_28 18 (.getfield 85) 3 ∧ De bdX7_isRight_28 21 (.invokevirtual 270) 3 ∧ De bdX7_isRight_28 24 (.invokevirtual 333) 3 ∧ De bdX7_isRight_28 27 (.ifCond .eq 7) 3 ∧ De bdX7_isRight_28 30 (.iconst 1) 1 ∧ De bdX7_isRight_28 31 (.goto 4) 3 := by decide +kernel
theorem dX7_isRight_28 : decode cX7_isRight 28 = .ok (.getfield 295, 3) := dAt wdX7_isRight_28 adX7_isRight_28.1 rfl
theorem dX7_isRight_31 : decode cX7_isRight 31 = .ok (.aload_n 1, 1) := dAt wdX7_isRight_28 adX7_isRight_28.2.1 rfl
theorem dX7_isRight_32 : decode cX7_isRight 32 = .ok (.getfield 151, 3) := dAt wdX7_isRight_28 adX7_isRight_28.2.2.1 rfl
theorem dX7_isRight_35 : decode cX7_isRight 35 = .ok (.if_icmp .ne 27, 3) := dAt wdX7_isRight_28 adX7_isRight_28.2.2.2.1 rfl
theorem dX7_isRight_38 : decode cX7_isRight 38 = .ok (.aload_n 3, 1) := dAt wdX7_isRight_28 adX7_isRight_28.2.2.2.2.1 rfl
theorem dX7_isRight_39 : decode cX7_isRight 39 = .ok (.aload_n 0, 1) := dAt wdX7_isRight_28 adX7_isRight_28.2.2.2.2.2.1 rfl
theorem dX7_isRight_40 : decode cX7_isRight 40 = .ok (.getfield 85, 3) := dAt wdX7_isRight_28 adX7_isRight_28.2.2.2.2.2.2.1 rfl
theorem dX7_isRight_43 : decode cX7_isRight 43 = .ok (.aload_n 1, 1) := dAt wdX7_isRight_28 adX7_isRight_28.2.2.2.2.2.2.2.1 rfl
theorem dX7_isRight_44 : decode cX7_isRight 44 = .ok (.iload_n 2, 1) := dAt wdX7_isRight_28 adX7_isRight_28.2.2.2.2.2.2.2.2.1 rfl
theorem dX7_isRight_45 : decode cX7_isRight 45 = .ok (.aload_n 0, 1) := dAt wdX7_isRight_28 adX7_isRight_28.2.2.2.2.2.2.2.2.2.1 rfl
theorem dX7_isRight_46 : decode cX7_isRight 46 = .ok (.getfield 85, 3) := dAt wdX7_isRight_28 adX7_isRight_28.2.2.2.2.2.2.2.2.2.2.1 rfl
theorem dX7_isRight_49 : decode cX7_isRight 49 = .ok (.invokevirtual 270, 3) := dAt wdX7_isRight_28 adX7_isRight_28.2.2.2.2.2.2.2.2.2.2.2.1 rfl
theorem dX7_isRight_52 : decode cX7_isRight 52 = .ok (.invokevirtual 333, 3) := dAt wdX7_isRight_28 adX7_isRight_28.2.2.2.2.2.2.2.2.2.2.2.2.1 rfl
theorem dX7_isRight_55 : decode cX7_isRight 55 = .ok (.ifCond .eq 7, 3) := dAt wdX7_isRight_28 adX7_isRight_28.2.2.2.2.2.2.2.2.2.2.2.2.2.1 rfl
theorem dX7_isRight_58 : decode cX7_isRight 58 = .ok (.iconst 1, 1) := dAt wdX7_isRight_28 adX7_isRight_28.2.2.2.2.2.2.2.2.2.2.2.2.2.2.1 rfl
theorem dX7_isRight_59 : decode cX7_isRight 59 = .ok (.goto 4, 3) := dAt wdX7_isRight_28 adX7_isRight_28.2.2.2.2.2.2.2.2.2.2.2.2.2.2.2 rfl
def bdX7_isRight_62 : ByteArray := .mk #[3, 172]
theorem wdX7_isRight_62 : LocW cX7_isRight 62 bdX7_isRight_62 := loc_of (by decide +kernel)
theorem adX7_isRight_62 : De bdX7_isRight_62 0 (.iconst 0) 1 ∧ De bdX7_isRight_62 1 (.ireturn) 1 := by decide +kernel
theorem dX7_isRight_62 : decode cX7_isRight 62 = .ok (.iconst 0, 1) := dAt wdX7_isRight_62 adX7_isRight_62.1 rfl
theorem dX7_isRight_63 : decode cX7_isRight 63 = .ok (.ireturn, 1) := dAt wdX7_isRight_62 adX7_isRight_62.2 rfl
def bdX7_firstNotRight_0 : ByteArray := .mk #[3, 61, 28, 43, 180, 0, 225, 162, 0, 20, 42, 43, 28, 182, 1, 81, 154, 0, 5, 28, 172, 132, 2, 1, 167, 255, 234, 2]
theorem wdX7_firstNotRight_0 : LocW cX7_firstNotRight 0 bdX7_firstNotRight_0 := loc_of (by decide +kernel)
theorem adX7_firstNotRight_0 : De bdX7_firstNotRight_0 0 (.iconst 0) 1 ∧ De bdX7_firstNotRight_0 1 (.istore_n 2) 1 ∧ De bdX7_firstNotRight_0 2 (.iload_n 2) 1 ∧ De bdX7_firstNotRight_0 3 (.aload_n 1) 1 ∧ De bdX7_firstNotRight_0 4 (.getfield 225) 3 ∧ De bdX7_firstNotRight_0 7 (.if_icmp .ge 20) 3 ∧ De bdX7_firstNotRight_0 10 (.aload_n 0) 1 ∧ De bdX7_firstNotRight_0 11 (.aload_n 1) 1 ∧ De bdX7_firstNotRight_0 12 (.iload_n 2) 1 ∧ De bdX7_firstNotRight_0 13 (.invokevirtual 337) 3 ∧ De bdX7_firstNotRight_0 16 (.ifCond .ne 5) 3 ∧ De bdX7_firstNotRight_0 19 (.iload_n 2) 1 ∧ De bdX7_firstNotRight_0 20 (.ireturn) 1 ∧ De bdX7_firstNotRight_0 21 (.iinc 2 1) 3 ∧ De bdX7_firstNotRight_0 24 (.goto (-22)) 3 ∧ De bdX7_firstNotRight_0 27 (.iconst (-1)) 1 := by decide +kernel
theorem dX7_firstNotRight_0 : decode cX7_firstNotRight 0 = .ok (.iconst 0, 1) := dAt wdX7_firstNotRight_0 adX7_firstNotRight_0.1 rfl
theorem dX7_firstNotRight_1 : decode cX7_firstNotRight 1 = .ok (.istore_n 2, 1) := dAt wdX7_firstNotRight_0 adX7_firstNotRight_0.2.1 rfl
theorem dX7_firstNotRight_2 : decode cX7_firstNotRight 2 = .ok (.iload_n 2, 1) := dAt wdX7_firstNotRight_0 adX7_firstNotRight_0.2.2.1 rfl
theorem dX7_firstNotRight_3 : decode cX7_firstNotRight 3 = .ok (.aload_n 1, 1) := dAt wdX7_firstNotRight_0 adX7_firstNotRight_0.2.2.2.1 rfl
theorem dX7_firstNotRight_4 : decode cX7_firstNotRight 4 = .ok (.getfield 225, 3) := dAt wdX7_firstNotRight_0 adX7_firstNotRight_0.2.2.2.2.1 rfl
theorem dX7_firstNotRight_7 : decode cX7_firstNotRight 7 = .ok (.if_icmp .ge 20, 3) := dAt wdX7_firstNotRight_0 adX7_firstNotRight_0.2.2.2.2.2.1 rfl
theorem dX7_firstNotRight_10 : decode cX7_firstNotRight 10 = .ok (.aload_n 0, 1) := dAt wdX7_firstNotRight_0 adX7_firstNotRight_0.2.2.2.2.2.2.1 rfl
theorem dX7_firstNotRight_11 : decode cX7_firstNotRight 11 = .ok (.aload_n 1, 1) := dAt wdX7_firstNotRight_0 adX7_firstNotRight_0.2.2.2.2.2.2.2.1 rfl
theorem dX7_firstNotRight_12 : decode cX7_firstNotRight 12 = .ok (.iload_n 2, 1) := dAt wdX7_firstNotRight_0 adX7_firstNotRight_0.2.2.2.2.2.2.2.2.1 rfl
theorem dX7_firstNotRight_13 : decode cX7_firstNotRight 13 = .ok (.invokevirtual 337, 3) := dAt wdX7_firstNotRight_0 adX7_firstNotRight_0.2.2.2.2.2.2.2.2.2.1 rfl
theorem dX7_firstNotRight_16 : decode cX7_firstNotRight 16 = .ok (.ifCond .ne 5, 3) := dAt wdX7_firstNotRight_0 adX7_firstNotRight_0.2.2.2.2.2.2.2.2.2.2.1 rfl
theorem dX7_firstNotRight_19 : decode cX7_firstNotRight 19 = .ok (.iload_n 2, 1) := dAt wdX7_firstNotRight_0 adX7_firstNotRight_0.2.2.2.2.2.2.2.2.2.2.2.1 rfl
theorem dX7_firstNotRight_20 : decode cX7_firstNotRight 20 = .ok (.ireturn, 1) := dAt wdX7_firstNotRight_0 adX7_firstNotRight_0.2.2.2.2.2.2.2.2.2.2.2.2.1 rfl
theorem dX7_firstNotRight_21 : decode cX7_firstNotRight 21 = .ok (.iinc 2 1, 3) := dAt wdX7_firstNotRight_0 adX7_firstNotRight_0.2.2.2.2.2.2.2.2.2.2.2.2.2.1 rfl
theorem dX7_firstNotRight_24 : decode cX7_firstNotRight 24 = .ok (.goto (-22), 3) := dAt wdX7_firstNotRight_0 adX7_firstNotRight_0.2.2.2.2.2.2.2.2.2.2.2.2.2.2.1 rfl
theorem dX7_firstNotRight_27 : decode cX7_firstNotRight 27 = .ok (.iconst (-1), 1) := dAt wdX7_firstNotRight_0 adX7_firstNotRight_0.2.2.2.2.2.2.2.2.2.2.2.2.2.2.2 rfl
def bdX7_firstNotRight_28 : ByteArray := .mk #[172]
theorem wdX7_firstNotRight_28 : LocW cX7_firstNotRight 28 bdX7_firstNotRight_28 := loc_of (by decide +kernel)
theorem adX7_firstNotRight_28 : De bdX7_firstNotRight_28 0 (.ireturn) 1 := by decide +kernel
theorem dX7_firstNotRight_28 : decode cX7_firstNotRight 28 = .ok (.ireturn, 1) := dAt wdX7_firstNotRight_28 adX7_firstNotRight_28 rfl
def bdX7_countRight_0 : ByteArray := .mk #[3, 61, 3, 62, 29, 43, 180, 0, 225, 162, 0, 26, 28, 42, 43, 29, 182, 1, 81, 153, 0, 7, 4, 167, 0, 4]
theorem wdX7_countRight_0 : LocW cX7_countRight 0 bdX7_countRight_0 := loc_of (by decide +kernel)
theorem adX7_countRight_0 : De bdX7_countRight_0 0 (.iconst 0) 1 ∧ De bdX7_countRight_0 1 (.istore_n 2) 1 ∧ De bdX7_countRight_0 2 (.iconst 0) 1 ∧ De bdX7_countRight_0 3 (.istore_n 3) 1 ∧ De bdX7_countRight_0 4 (.iload_n 3) 1 ∧ De bdX7_countRight_0 5 (.aload_n 1) 1 ∧ De bdX7_countRight_0 6 (.getfield 225) 3 ∧ De bdX7_countRight_0 9 (.if_icmp .ge 26) 3 ∧ De bdX7_countRight_0 12 (.iload_n 2) 1 ∧ De bdX7_countRight_0 13 (.aload_n 0) 1 ∧ De bdX7_countRight_0 14 (.aload_n 1) 1 ∧ De bdX7_countRight_0 15 (.iload_n 3) 1 ∧ De bdX7_countRight_0 16 (.invokevirtual 337) 3 ∧ De bdX7_countRight_0 19 (.ifCond .eq 7) 3 ∧ De bdX7_countRight_0 22 (.iconst 1) 1 ∧ De bdX7_countRight_0 23 (.goto 4) 3 := by decide +kernel
theorem dX7_countRight_0 : decode cX7_countRight 0 = .ok (.iconst 0, 1) := dAt wdX7_countRight_0 adX7_countRight_0.1 rfl
theorem dX7_countRight_1 : decode cX7_countRight 1 = .ok (.istore_n 2, 1) := dAt wdX7_countRight_0 adX7_countRight_0.2.1 rfl
theorem dX7_countRight_2 : decode cX7_countRight 2 = .ok (.iconst 0, 1) := dAt wdX7_countRight_0 adX7_countRight_0.2.2.1 rfl
theorem dX7_countRight_3 : decode cX7_countRight 3 = .ok (.istore_n 3, 1) := dAt wdX7_countRight_0 adX7_countRight_0.2.2.2.1 rfl
theorem dX7_countRight_4 : decode cX7_countRight 4 = .ok (.iload_n 3, 1) := dAt wdX7_countRight_0 adX7_countRight_0.2.2.2.2.1 rfl
theorem dX7_countRight_5 : decode cX7_countRight 5 = .ok (.aload_n 1, 1) := dAt wdX7_countRight_0 adX7_countRight_0.2.2.2.2.2.1 rfl
theorem dX7_countRight_6 : decode cX7_countRight 6 = .ok (.getfield 225, 3) := dAt wdX7_countRight_0 adX7_countRight_0.2.2.2.2.2.2.1 rfl
theorem dX7_countRight_9 : decode cX7_countRight 9 = .ok (.if_icmp .ge 26, 3) := dAt wdX7_countRight_0 adX7_countRight_0.2.2.2.2.2.2.2.1 rfl
theorem dX7_countRight_12 : decode cX7_countRight 12 = .ok (.iload_n 2, 1) := dAt wdX7_countRight_0 adX7_countRight_0.2.2.2.2.2.2.2.2.1 rfl
theorem dX7_countRight_13 : decode cX7_countRight 13 = .ok (.aload_n 0, 1) := dAt wdX7_countRight_0 adX7_countRight_0.2.2.2.2.2.2.2.2.2.1 rfl
theorem dX7_countRight_14 : decode cX7_countRight 14 = .ok (.aload_n 1, 1) := dAt wdX7_countRight_0 adX7_countRight_0.2.2.2.2.2.2.2.2.2.2.1 rfl
theorem dX7_countRight_15 : decode cX7_countRight 15 = .ok (.iload_n 3, 1) := dAt wdX7_countRight_0 adX7_countRight_0.2.2.2.2.2.2.2.2.2.2.2.1 rfl
theorem dX7_countRight_16 : decode cX7_countRight 16 = .ok (.invokevirtual 337, 3) := dAt wdX7_countRight_0 adX7_countRight_0.2.2.2.2.2.2.2.2.2.2.2.2.1 rfl
theorem dX7_countRight_19 : decode cX7_countRight 19 = .ok (.ifCond .eq 7, 3) := dAt wdX7_countRight_0 adX7_countRight_0.2.2.2.2.2.2.2.2.2.2.2.2.2.1 rfl
theorem dX7_countRight_22 : decode cX7_countRight 22 = .ok (.iconst 1, 1) := dAt wdX7_countRight_0 adX7_countRight_0.2.2.2.2.2.2.2.2.2.2.2.2.2.2.1 rfl
theorem dX7_countRight_23 : decode cX7_countRight 23 = .ok (.goto 4, 3) := dAt wdX7_countRight_0 adX7_countRight_0.2.2.2.2.2.2.2.2.2.2.2.2.2.2.2 rfl
def bdX7_countRight_26 : ByteArray := .mk #[3, 96, 61, 132, 3, 1, 167, 255, 228, 28, 172]
theorem wdX7_countRight_26 : LocW cX7_countRight 26 bdX7_countRight_26 := loc_of (by decide +kernel)
theorem adX7_countRight_26 : De bdX7_countRight_26 0 (.iconst 0) 1 ∧ De bdX7_countRight_26 1 (.iadd) 1 ∧ De bdX7_countRight_26 2 (.istore_n 2) 1 ∧ De bdX7_countRight_26 3 (.iinc 3 1) 3 ∧ De bdX7_countRight_26 6 (.goto (-28)) 3 ∧ De bdX7_countRight_26 9 (.iload_n 2) 1 ∧ De bdX7_countRight_26 10 (.ireturn) 1 := by decide +kernel
theorem dX7_countRight_26 : decode cX7_countRight 26 = .ok (.iconst 0, 1) := dAt wdX7_countRight_26 adX7_countRight_26.1 rfl
theorem dX7_countRight_27 : decode cX7_countRight 27 = .ok (.iadd, 1) := dAt wdX7_countRight_26 adX7_countRight_26.2.1 rfl
theorem dX7_countRight_28 : decode cX7_countRight 28 = .ok (.istore_n 2, 1) := dAt wdX7_countRight_26 adX7_countRight_26.2.2.1 rfl
theorem dX7_countRight_29 : decode cX7_countRight 29 = .ok (.iinc 3 1, 3) := dAt wdX7_countRight_26 adX7_countRight_26.2.2.2.1 rfl
theorem dX7_countRight_32 : decode cX7_countRight 32 = .ok (.goto (-28), 3) := dAt wdX7_countRight_26 adX7_countRight_26.2.2.2.2.1 rfl
theorem dX7_countRight_35 : decode cX7_countRight 35 = .ok (.iload_n 2, 1) := dAt wdX7_countRight_26 adX7_countRight_26.2.2.2.2.2.1 rfl
theorem dX7_countRight_36 : decode cX7_countRight 36 = .ok (.ireturn, 1) := dAt wdX7_countRight_26 adX7_countRight_26.2.2.2.2.2.2 rfl
def bdX7_isStorySet_0 : ByteArray := .mk #[3, 61, 28, 8, 162, 0, 32, 42, 8, 27, 104, 28, 96, 182, 0, 120, 78, 45, 198, 0, 12, 45]
theorem wdX7_isStorySet_0 : LocW cX7_isStorySet 0 bdX7_isStorySet_0 := loc_of (by decide +kernel)
theorem adX7_isStorySet_0 : De bdX7_isStorySet_0 0 (.iconst 0) 1 ∧ De bdX7_isStorySet_0 1 (.istore_n 2) 1 ∧ De bdX7_isStorySet_0 2 (.iload_n 2) 1 ∧ De bdX7_isStorySet_0 3 (.iconst 5) 1 ∧ De bdX7_isStorySet_0 4 (.if_icmp .ge 32) 3 ∧ De bdX7_isStorySet_0 7 (.aload_n 0) 1 ∧ De bdX7_isStorySet_0 8 (.iconst 5) 1 ∧ De bdX7_isStorySet_0 9 (.iload_n 1) 1 ∧ De bdX7_isStorySet_0 10 (.imul) 1 ∧ De bdX7_isStorySet_0 11 (.iload_n 2) 1 ∧ De bdX7_isStorySet_0 12 (.iadd) 1 ∧ De bdX7_isStorySet_0 13 (.invokevirtual 120) 3 ∧ De bdX7_isStorySet_0 16 (.astore_n 3) 1 ∧ De bdX7_isStorySet_0 17 (.aload_n 3) 1 ∧ De bdX7_isStorySet_0 18 (.ifnull 12) 3 ∧ De bdX7_isStorySet_0 21 (.aload_n 3) 1 := by decide +kernel
theorem dX7_isStorySet_0 : decode cX7_isStorySet 0 = .ok (.iconst 0, 1) := dAt wdX7_isStorySet_0 adX7_isStorySet_0.1 rfl
theorem dX7_isStorySet_1 : decode cX7_isStorySet 1 = .ok (.istore_n 2, 1) := dAt wdX7_isStorySet_0 adX7_isStorySet_0.2.1 rfl
theorem dX7_isStorySet_2 : decode cX7_isStorySet 2 = .ok (.iload_n 2, 1) := dAt wdX7_isStorySet_0 adX7_isStorySet_0.2.2.1 rfl
theorem dX7_isStorySet_3 : decode cX7_isStorySet 3 = .ok (.iconst 5, 1) := dAt wdX7_isStorySet_0 adX7_isStorySet_0.2.2.2.1 rfl
theorem dX7_isStorySet_4 : decode cX7_isStorySet 4 = .ok (.if_icmp .ge 32, 3) := dAt wdX7_isStorySet_0 adX7_isStorySet_0.2.2.2.2.1 rfl
theorem dX7_isStorySet_7 : decode cX7_isStorySet 7 = .ok (.aload_n 0, 1) := dAt wdX7_isStorySet_0 adX7_isStorySet_0.2.2.2.2.2.1 rfl
theorem dX7_isStorySet_8 : decode cX7_isStorySet 8 = .ok (.iconst 5, 1) := dAt wdX7_isStorySet_0 adX7_isStorySet_0.2.2.2.2.2.2.1 rfl
theorem dX7_isStorySet_9 : decode cX7_isStorySet 9 = .ok (.iload_n 1, 1) := dAt wdX7_isStorySet_0 adX7_isStorySet_0.2.2.2.2.2.2.2.1 rfl
theorem dX7_isStorySet_10 : decode cX7_isStorySet 10 = .ok (.imul, 1) := dAt wdX7_isStorySet_0 adX7_isStorySet_0.2.2.2.2.2.2.2.2.1 rfl
theorem dX7_isStorySet_11 : decode cX7_isStorySet 11 = .ok (.iload_n 2, 1) := dAt wdX7_isStorySet_0 adX7_isStorySet_0.2.2.2.2.2.2.2.2.2.1 rfl
theorem dX7_isStorySet_12 : decode cX7_isStorySet 12 = .ok (.iadd, 1) := dAt wdX7_isStorySet_0 adX7_isStorySet_0.2.2.2.2.2.2.2.2.2.2.1 rfl
theorem dX7_isStorySet_13 : decode cX7_isStorySet 13 = .ok (.invokevirtual 120, 3) := dAt wdX7_isStorySet_0 adX7_isStorySet_0.2.2.2.2.2.2.2.2.2.2.2.1 rfl
theorem dX7_isStorySet_16 : decode cX7_isStorySet 16 = .ok (.astore_n 3, 1) := dAt wdX7_isStorySet_0 adX7_isStorySet_0.2.2.2.2.2.2.2.2.2.2.2.2.1 rfl
theorem dX7_isStorySet_17 : decode cX7_isStorySet 17 = .ok (.aload_n 3, 1) := dAt wdX7_isStorySet_0 adX7_isStorySet_0.2.2.2.2.2.2.2.2.2.2.2.2.2.1 rfl
theorem dX7_isStorySet_18 : decode cX7_isStorySet 18 = .ok (.ifnull 12, 3) := dAt wdX7_isStorySet_0 adX7_isStorySet_0.2.2.2.2.2.2.2.2.2.2.2.2.2.2.1 rfl
theorem dX7_isStorySet_21 : decode cX7_isStorySet 21 = .ok (.aload_n 3, 1) := dAt wdX7_isStorySet_0 adX7_isStorySet_0.2.2.2.2.2.2.2.2.2.2.2.2.2.2.2 rfl
def bdX7_isStorySet_22 : ByteArray := .mk #[180, 0, 212, 154, 0, 5, 3, 172, 132, 2, 1, 167, 255, 225, 4, 172]
theorem wdX7_isStorySet_22 : LocW cX7_isStorySet 22 bdX7_isStorySet_22 := loc_of (by decide +kernel)
theorem adX7_isStorySet_22 : De bdX7_isStorySet_22 0 (.getfield 212) 3 ∧ De bdX7_isStorySet_22 3 (.ifCond .ne 5) 3 ∧ De bdX7_isStorySet_22 6 (.iconst 0) 1 ∧ De bdX7_isStorySet_22 7 (.ireturn) 1 ∧ De bdX7_isStorySet_22 8 (.iinc 2 1) 3 ∧ De bdX7_isStorySet_22 11 (.goto (-31)) 3 ∧ De bdX7_isStorySet_22 14 (.iconst 1) 1 ∧ De bdX7_isStorySet_22 15 (.ireturn) 1 := by decide +kernel
theorem dX7_isStorySet_22 : decode cX7_isStorySet 22 = .ok (.getfield 212, 3) := dAt wdX7_isStorySet_22 adX7_isStorySet_22.1 rfl
theorem dX7_isStorySet_25 : decode cX7_isStorySet 25 = .ok (.ifCond .ne 5, 3) := dAt wdX7_isStorySet_22 adX7_isStorySet_22.2.1 rfl
theorem dX7_isStorySet_28 : decode cX7_isStorySet 28 = .ok (.iconst 0, 1) := dAt wdX7_isStorySet_22 adX7_isStorySet_22.2.2.1 rfl
theorem dX7_isStorySet_29 : decode cX7_isStorySet 29 = .ok (.ireturn, 1) := dAt wdX7_isStorySet_22 adX7_isStorySet_22.2.2.2.1 rfl
theorem dX7_isStorySet_30 : decode cX7_isStorySet 30 = .ok (.iinc 2 1, 3) := dAt wdX7_isStorySet_22 adX7_isStorySet_22.2.2.2.2.1 rfl
theorem dX7_isStorySet_33 : decode cX7_isStorySet 33 = .ok (.goto (-31), 3) := dAt wdX7_isStorySet_22 adX7_isStorySet_22.2.2.2.2.2.1 rfl
theorem dX7_isStorySet_36 : decode cX7_isStorySet 36 = .ok (.iconst 1, 1) := dAt wdX7_isStorySet_22 adX7_isStorySet_22.2.2.2.2.2.2.1 rfl
theorem dX7_isStorySet_37 : decode cX7_isStorySet 37 = .ok (.ireturn, 1) := dAt wdX7_isStorySet_22 adX7_isStorySet_22.2.2.2.2.2.2.2 rfl
def bdX7_isQueued_0 : ByteArray := .mk #[3, 61, 28, 42, 180, 0, 51, 162, 0, 23, 42, 28, 182, 0, 106, 27, 182, 1, 85, 153, 0, 5, 4, 172, 132, 2, 1, 167, 255, 231]
theorem wdX7_isQueued_0 : LocW cX7_isQueued 0 bdX7_isQueued_0 := loc_of (by decide +kernel)
theorem adX7_isQueued_0 : De bdX7_isQueued_0 0 (.iconst 0) 1 ∧ De bdX7_isQueued_0 1 (.istore_n 2) 1 ∧ De bdX7_isQueued_0 2 (.iload_n 2) 1 ∧ De bdX7_isQueued_0 3 (.aload_n 0) 1 ∧ De bdX7_isQueued_0 4 (.getfield 51) 3 ∧ De bdX7_isQueued_0 7 (.if_icmp .ge 23) 3 ∧ De bdX7_isQueued_0 10 (.aload_n 0) 1 ∧ De bdX7_isQueued_0 11 (.iload_n 2) 1 ∧ De bdX7_isQueued_0 12 (.invokevirtual 106) 3 ∧ De bdX7_isQueued_0 15 (.iload_n 1) 1 ∧ De bdX7_isQueued_0 16 (.invokevirtual 341) 3 ∧ De bdX7_isQueued_0 19 (.ifCond .eq 5) 3 ∧ De bdX7_isQueued_0 22 (.iconst 1) 1 ∧ De bdX7_isQueued_0 23 (.ireturn) 1 ∧ De bdX7_isQueued_0 24 (.iinc 2 1) 3 ∧ De bdX7_isQueued_0 27 (.goto (-25)) 3 := by decide +kernel
theorem dX7_isQueued_0 : decode cX7_isQueued 0 = .ok (.iconst 0, 1) := dAt wdX7_isQueued_0 adX7_isQueued_0.1 rfl
theorem dX7_isQueued_1 : decode cX7_isQueued 1 = .ok (.istore_n 2, 1) := dAt wdX7_isQueued_0 adX7_isQueued_0.2.1 rfl
theorem dX7_isQueued_2 : decode cX7_isQueued 2 = .ok (.iload_n 2, 1) := dAt wdX7_isQueued_0 adX7_isQueued_0.2.2.1 rfl
theorem dX7_isQueued_3 : decode cX7_isQueued 3 = .ok (.aload_n 0, 1) := dAt wdX7_isQueued_0 adX7_isQueued_0.2.2.2.1 rfl
theorem dX7_isQueued_4 : decode cX7_isQueued 4 = .ok (.getfield 51, 3) := dAt wdX7_isQueued_0 adX7_isQueued_0.2.2.2.2.1 rfl
theorem dX7_isQueued_7 : decode cX7_isQueued 7 = .ok (.if_icmp .ge 23, 3) := dAt wdX7_isQueued_0 adX7_isQueued_0.2.2.2.2.2.1 rfl
theorem dX7_isQueued_10 : decode cX7_isQueued 10 = .ok (.aload_n 0, 1) := dAt wdX7_isQueued_0 adX7_isQueued_0.2.2.2.2.2.2.1 rfl
theorem dX7_isQueued_11 : decode cX7_isQueued 11 = .ok (.iload_n 2, 1) := dAt wdX7_isQueued_0 adX7_isQueued_0.2.2.2.2.2.2.2.1 rfl
theorem dX7_isQueued_12 : decode cX7_isQueued 12 = .ok (.invokevirtual 106, 3) := dAt wdX7_isQueued_0 adX7_isQueued_0.2.2.2.2.2.2.2.2.1 rfl
theorem dX7_isQueued_15 : decode cX7_isQueued 15 = .ok (.iload_n 1, 1) := dAt wdX7_isQueued_0 adX7_isQueued_0.2.2.2.2.2.2.2.2.2.1 rfl
theorem dX7_isQueued_16 : decode cX7_isQueued 16 = .ok (.invokevirtual 341, 3) := dAt wdX7_isQueued_0 adX7_isQueued_0.2.2.2.2.2.2.2.2.2.2.1 rfl
theorem dX7_isQueued_19 : decode cX7_isQueued 19 = .ok (.ifCond .eq 5, 3) := dAt wdX7_isQueued_0 adX7_isQueued_0.2.2.2.2.2.2.2.2.2.2.2.1 rfl
theorem dX7_isQueued_22 : decode cX7_isQueued 22 = .ok (.iconst 1, 1) := dAt wdX7_isQueued_0 adX7_isQueued_0.2.2.2.2.2.2.2.2.2.2.2.2.1 rfl
theorem dX7_isQueued_23 : decode cX7_isQueued 23 = .ok (.ireturn, 1) := dAt wdX7_isQueued_0 adX7_isQueued_0.2.2.2.2.2.2.2.2.2.2.2.2.2.1 rfl
theorem dX7_isQueued_24 : decode cX7_isQueued 24 = .ok (.iinc 2 1, 3) := dAt wdX7_isQueued_0 adX7_isQueued_0.2.2.2.2.2.2.2.2.2.2.2.2.2.2.1 rfl
theorem dX7_isQueued_27 : decode cX7_isQueued 27 = .ok (.goto (-25), 3) := dAt wdX7_isQueued_0 adX7_isQueued_0.2.2.2.2.2.2.2.2.2.2.2.2.2.2.2 rfl
def bdX7_isQueued_30 : ByteArray := .mk #[3, 172]
theorem wdX7_isQueued_30 : LocW cX7_isQueued 30 bdX7_isQueued_30 := loc_of (by decide +kernel)
theorem adX7_isQueued_30 : De bdX7_isQueued_30 0 (.iconst 0) 1 ∧ De bdX7_isQueued_30 1 (.ireturn) 1 := by decide +kernel
theorem dX7_isQueued_30 : decode cX7_isQueued 30 = .ok (.iconst 0, 1) := dAt wdX7_isQueued_30 adX7_isQueued_30.1 rfl
theorem dX7_isQueued_31 : decode cX7_isQueued 31 = .ok (.ireturn, 1) := dAt wdX7_isQueued_30 adX7_isQueued_30.2 rfl
def bdX7_correctWith_0 : ByteArray := .mk #[42, 27, 182, 0, 120, 58, 5, 25, 5, 199, 0, 5, 2, 172, 25, 5, 180, 0, 212, 154, 0, 11, 25, 5, 45, 182, 1, 88, 3, 172]
theorem wdX7_correctWith_0 : LocW cX7_correctWith 0 bdX7_correctWith_0 := loc_of (by decide +kernel)
theorem adX7_correctWith_0 : De bdX7_correctWith_0 0 (.aload_n 0) 1 ∧ De bdX7_correctWith_0 1 (.iload_n 1) 1 ∧ De bdX7_correctWith_0 2 (.invokevirtual 120) 3 ∧ De bdX7_correctWith_0 5 (.astore 5) 2 ∧ De bdX7_correctWith_0 7 (.aload 5) 2 ∧ De bdX7_correctWith_0 9 (.ifnonnull 5) 3 ∧ De bdX7_correctWith_0 12 (.iconst (-1)) 1 ∧ De bdX7_correctWith_0 13 (.ireturn) 1 ∧ De bdX7_correctWith_0 14 (.aload 5) 2 ∧ De bdX7_correctWith_0 16 (.getfield 212) 3 ∧ De bdX7_correctWith_0 19 (.ifCond .ne 11) 3 ∧ De bdX7_correctWith_0 22 (.aload 5) 2 ∧ De bdX7_correctWith_0 24 (.aload_n 3) 1 ∧ De bdX7_correctWith_0 25 (.invokevirtual 344) 3 ∧ De bdX7_correctWith_0 28 (.iconst 0) 1 ∧ De bdX7_correctWith_0 29 (.ireturn) 1 := by decide +kernel
theorem dX7_correctWith_0 : decode cX7_correctWith 0 = .ok (.aload_n 0, 1) := dAt wdX7_correctWith_0 adX7_correctWith_0.1 rfl
theorem dX7_correctWith_1 : decode cX7_correctWith 1 = .ok (.iload_n 1, 1) := dAt wdX7_correctWith_0 adX7_correctWith_0.2.1 rfl
theorem dX7_correctWith_2 : decode cX7_correctWith 2 = .ok (.invokevirtual 120, 3) := dAt wdX7_correctWith_0 adX7_correctWith_0.2.2.1 rfl
theorem dX7_correctWith_5 : decode cX7_correctWith 5 = .ok (.astore 5, 2) := dAt wdX7_correctWith_0 adX7_correctWith_0.2.2.2.1 rfl
theorem dX7_correctWith_7 : decode cX7_correctWith 7 = .ok (.aload 5, 2) := dAt wdX7_correctWith_0 adX7_correctWith_0.2.2.2.2.1 rfl
theorem dX7_correctWith_9 : decode cX7_correctWith 9 = .ok (.ifnonnull 5, 3) := dAt wdX7_correctWith_0 adX7_correctWith_0.2.2.2.2.2.1 rfl
theorem dX7_correctWith_12 : decode cX7_correctWith 12 = .ok (.iconst (-1), 1) := dAt wdX7_correctWith_0 adX7_correctWith_0.2.2.2.2.2.2.1 rfl
theorem dX7_correctWith_13 : decode cX7_correctWith 13 = .ok (.ireturn, 1) := dAt wdX7_correctWith_0 adX7_correctWith_0.2.2.2.2.2.2.2.1 rfl
theorem dX7_correctWith_14 : decode cX7_correctWith 14 = .ok (.aload 5, 2) := dAt wdX7_correctWith_0 adX7_correctWith_0.2.2.2.2.2.2.2.2.1 rfl
theorem dX7_correctWith_16 : decode cX7_correctWith 16 = .ok (.getfield 212, 3) := dAt wdX7_correctWith_0 adX7_correctWith_0.2.2.2.2.2.2.2.2.2.1 rfl
theorem dX7_correctWith_19 : decode cX7_correctWith 19 = .ok (.ifCond .ne 11, 3) := dAt wdX7_correctWith_0 adX7_correctWith_0.2.2.2.2.2.2.2.2.2.2.1 rfl
theorem dX7_correctWith_22 : decode cX7_correctWith 22 = .ok (.aload 5, 2) := dAt wdX7_correctWith_0 adX7_correctWith_0.2.2.2.2.2.2.2.2.2.2.2.1 rfl
theorem dX7_correctWith_24 : decode cX7_correctWith 24 = .ok (.aload_n 3, 1) := dAt wdX7_correctWith_0 adX7_correctWith_0.2.2.2.2.2.2.2.2.2.2.2.2.1 rfl
theorem dX7_correctWith_25 : decode cX7_correctWith 25 = .ok (.invokevirtual 344, 3) := dAt wdX7_correctWith_0 adX7_correctWith_0.2.2.2.2.2.2.2.2.2.2.2.2.2.1 rfl
theorem dX7_correctWith_28 : decode cX7_correctWith 28 = .ok (.iconst 0, 1) := dAt wdX7_correctWith_0 adX7_correctWith_0.2.2.2.2.2.2.2.2.2.2.2.2.2.2.1 rfl
theorem dX7_correctWith_29 : decode cX7_correctWith 29 = .ok (.ireturn, 1) := dAt wdX7_correctWith_0 adX7_correctWith_0.2.2.2.2.2.2.2.2.2.2.2.2.2.2.2 rfl
def bdX7_correctWith_30 : ByteArray := .mk #[25, 5, 25, 5, 28, 182, 1, 91, 182, 1, 94, 54, 6, 25, 5, 21, 6, 182, 1, 97, 54, 7, 42, 45, 42, 180, 0, 9, 182, 1, 0, 21, 7]
theorem wdX7_correctWith_30 : LocW cX7_correctWith 30 bdX7_correctWith_30 := loc_of (by decide +kernel)
theorem adX7_correctWith_30 : De bdX7_correctWith_30 0 (.aload 5) 2 ∧ De bdX7_correctWith_30 2 (.aload 5) 2 ∧ De bdX7_correctWith_30 4 (.iload_n 2) 1 ∧ De bdX7_correctWith_30 5 (.invokevirtual 347) 3 ∧ De bdX7_correctWith_30 8 (.invokevirtual 350) 3 ∧ De bdX7_correctWith_30 11 (.istore 6) 2 ∧ De bdX7_correctWith_30 13 (.aload 5) 2 ∧ De bdX7_correctWith_30 15 (.iload 6) 2 ∧ De bdX7_correctWith_30 17 (.invokevirtual 353) 3 ∧ De bdX7_correctWith_30 20 (.istore 7) 2 ∧ De bdX7_correctWith_30 22 (.aload_n 0) 1 ∧ De bdX7_correctWith_30 23 (.aload_n 3) 1 ∧ De bdX7_correctWith_30 24 (.aload_n 0) 1 ∧ De bdX7_correctWith_30 25 (.getfield 9) 3 ∧ De bdX7_correctWith_30 28 (.invokevirtual 256) 3 ∧ De bdX7_correctWith_30 31 (.iload 7) 2 := by decide +kernel
theorem dX7_correctWith_30 : decode cX7_correctWith 30 = .ok (.aload 5, 2) := dAt wdX7_correctWith_30 adX7_correctWith_30.1 rfl
theorem dX7_correctWith_32 : decode cX7_correctWith 32 = .ok (.aload 5, 2) := dAt wdX7_correctWith_30 adX7_correctWith_30.2.1 rfl
theorem dX7_correctWith_34 : decode cX7_correctWith 34 = .ok (.iload_n 2, 1) := dAt wdX7_correctWith_30 adX7_correctWith_30.2.2.1 rfl
theorem dX7_correctWith_35 : decode cX7_correctWith 35 = .ok (.invokevirtual 347, 3) := dAt wdX7_correctWith_30 adX7_correctWith_30.2.2.2.1 rfl
theorem dX7_correctWith_38 : decode cX7_correctWith 38 = .ok (.invokevirtual 350, 3) := dAt wdX7_correctWith_30 adX7_correctWith_30.2.2.2.2.1 rfl
theorem dX7_correctWith_41 : decode cX7_correctWith 41 = .ok (.istore 6, 2) := dAt wdX7_correctWith_30 adX7_correctWith_30.2.2.2.2.2.1 rfl
theorem dX7_correctWith_43 : decode cX7_correctWith 43 = .ok (.aload 5, 2) := dAt wdX7_correctWith_30 adX7_correctWith_30.2.2.2.2.2.2.1 rfl
theorem dX7_correctWith_45 : decode cX7_correctWith 45 = .ok (.iload 6, 2) := dAt wdX7_correctWith_30 adX7_correctWith_30.2.2.2.2.2.2.2.1 rfl
theorem dX7_correctWith_47 : decode cX7_correctWith 47 = .ok (.invokevirtual 353, 3) := dAt wdX7_correctWith_30 adX7_correctWith_30.2.2.2.2.2.2.2.2.1 rfl
theorem dX7_correctWith_50 : decode cX7_correctWith 50 = .ok (.istore 7, 2) := dAt wdX7_correctWith_30 adX7_correctWith_30.2.2.2.2.2.2.2.2.2.1 rfl
theorem dX7_correctWith_52 : decode cX7_correctWith 52 = .ok (.aload_n 0, 1) := dAt wdX7_correctWith_30 adX7_correctWith_30.2.2.2.2.2.2.2.2.2.2.1 rfl
theorem dX7_correctWith_53 : decode cX7_correctWith 53 = .ok (.aload_n 3, 1) := dAt wdX7_correctWith_30 adX7_correctWith_30.2.2.2.2.2.2.2.2.2.2.2.1 rfl
theorem dX7_correctWith_54 : decode cX7_correctWith 54 = .ok (.aload_n 0, 1) := dAt wdX7_correctWith_30 adX7_correctWith_30.2.2.2.2.2.2.2.2.2.2.2.2.1 rfl
theorem dX7_correctWith_55 : decode cX7_correctWith 55 = .ok (.getfield 9, 3) := dAt wdX7_correctWith_30 adX7_correctWith_30.2.2.2.2.2.2.2.2.2.2.2.2.2.1 rfl
theorem dX7_correctWith_58 : decode cX7_correctWith 58 = .ok (.invokevirtual 256, 3) := dAt wdX7_correctWith_30 adX7_correctWith_30.2.2.2.2.2.2.2.2.2.2.2.2.2.2.1 rfl
theorem dX7_correctWith_61 : decode cX7_correctWith 61 = .ok (.iload 7, 2) := dAt wdX7_correctWith_30 adX7_correctWith_30.2.2.2.2.2.2.2.2.2.2.2.2.2.2.2 rfl
def bdX7_correctWith_63 : ByteArray := .mk #[182, 1, 4, 2, 160, 0, 5, 2, 172, 45, 25, 5, 182, 1, 100, 42, 180, 0, 72, 45, 21, 6, 21, 7, 182, 1, 7, 42, 25, 5]
theorem wdX7_correctWith_63 : LocW cX7_correctWith 63 bdX7_correctWith_63 := loc_of (by decide +kernel)
theorem adX7_correctWith_63 : De bdX7_correctWith_63 0 (.invokevirtual 260) 3 ∧ De bdX7_correctWith_63 3 (.iconst (-1)) 1 ∧ De bdX7_correctWith_63 4 (.if_icmp .ne 5) 3 ∧ De bdX7_correctWith_63 7 (.iconst (-1)) 1 ∧ De bdX7_correctWith_63 8 (.ireturn) 1 ∧ De bdX7_correctWith_63 9 (.aload_n 3) 1 ∧ De bdX7_correctWith_63 10 (.aload 5) 2 ∧ De bdX7_correctWith_63 12 (.invokevirtual 356) 3 ∧ De bdX7_correctWith_63 15 (.aload_n 0) 1 ∧ De bdX7_correctWith_63 16 (.getfield 72) 3 ∧ De bdX7_correctWith_63 19 (.aload_n 3) 1 ∧ De bdX7_correctWith_63 20 (.iload 6) 2 ∧ De bdX7_correctWith_63 22 (.iload 7) 2 ∧ De bdX7_correctWith_63 24 (.invokevirtual 263) 3 ∧ De bdX7_correctWith_63 27 (.aload_n 0) 1 ∧ De bdX7_correctWith_63 28 (.aload 5) 2 := by decide +kernel
theorem dX7_correctWith_63 : decode cX7_correctWith 63 = .ok (.invokevirtual 260, 3) := dAt wdX7_correctWith_63 adX7_correctWith_63.1 rfl
theorem dX7_correctWith_66 : decode cX7_correctWith 66 = .ok (.iconst (-1), 1) := dAt wdX7_correctWith_63 adX7_correctWith_63.2.1 rfl
theorem dX7_correctWith_67 : decode cX7_correctWith 67 = .ok (.if_icmp .ne 5, 3) := dAt wdX7_correctWith_63 adX7_correctWith_63.2.2.1 rfl
theorem dX7_correctWith_70 : decode cX7_correctWith 70 = .ok (.iconst (-1), 1) := dAt wdX7_correctWith_63 adX7_correctWith_63.2.2.2.1 rfl
theorem dX7_correctWith_71 : decode cX7_correctWith 71 = .ok (.ireturn, 1) := dAt wdX7_correctWith_63 adX7_correctWith_63.2.2.2.2.1 rfl
theorem dX7_correctWith_72 : decode cX7_correctWith 72 = .ok (.aload_n 3, 1) := dAt wdX7_correctWith_63 adX7_correctWith_63.2.2.2.2.2.1 rfl
theorem dX7_correctWith_73 : decode cX7_correctWith 73 = .ok (.aload 5, 2) := dAt wdX7_correctWith_63 adX7_correctWith_63.2.2.2.2.2.2.1 rfl
theorem dX7_correctWith_75 : decode cX7_correctWith 75 = .ok (.invokevirtual 356, 3) := dAt wdX7_correctWith_63 adX7_correctWith_63.2.2.2.2.2.2.2.1 rfl
theorem dX7_correctWith_78 : decode cX7_correctWith 78 = .ok (.aload_n 0, 1) := dAt wdX7_correctWith_63 adX7_correctWith_63.2.2.2.2.2.2.2.2.1 rfl
theorem dX7_correctWith_79 : decode cX7_correctWith 79 = .ok (.getfield 72, 3) := dAt wdX7_correctWith_63 adX7_correctWith_63.2.2.2.2.2.2.2.2.2.1 rfl
theorem dX7_correctWith_82 : decode cX7_correctWith 82 = .ok (.aload_n 3, 1) := dAt wdX7_correctWith_63 adX7_correctWith_63.2.2.2.2.2.2.2.2.2.2.1 rfl
theorem dX7_correctWith_83 : decode cX7_correctWith 83 = .ok (.iload 6, 2) := dAt wdX7_correctWith_63 adX7_correctWith_63.2.2.2.2.2.2.2.2.2.2.2.1 rfl
theorem dX7_correctWith_85 : decode cX7_correctWith 85 = .ok (.iload 7, 2) := dAt wdX7_correctWith_63 adX7_correctWith_63.2.2.2.2.2.2.2.2.2.2.2.2.1 rfl
theorem dX7_correctWith_87 : decode cX7_correctWith 87 = .ok (.invokevirtual 263, 3) := dAt wdX7_correctWith_63 adX7_correctWith_63.2.2.2.2.2.2.2.2.2.2.2.2.2.1 rfl
theorem dX7_correctWith_90 : decode cX7_correctWith 90 = .ok (.aload_n 0, 1) := dAt wdX7_correctWith_63 adX7_correctWith_63.2.2.2.2.2.2.2.2.2.2.2.2.2.2.1 rfl
theorem dX7_correctWith_91 : decode cX7_correctWith 91 = .ok (.aload 5, 2) := dAt wdX7_correctWith_63 adX7_correctWith_63.2.2.2.2.2.2.2.2.2.2.2.2.2.2.2 rfl
def bdX7_correctWith_93 : ByteArray := .mk #[45, 21, 6, 182, 1, 103, 54, 8, 42, 25, 5, 45, 21, 6, 21, 8, 182, 1, 107, 25, 5, 45, 182, 1, 88, 25, 5, 45, 182, 1, 100]
theorem wdX7_correctWith_93 : LocW cX7_correctWith 93 bdX7_correctWith_93 := loc_of (by decide +kernel)
theorem adX7_correctWith_93 : De bdX7_correctWith_93 0 (.aload_n 3) 1 ∧ De bdX7_correctWith_93 1 (.iload 6) 2 ∧ De bdX7_correctWith_93 3 (.invokevirtual 359) 3 ∧ De bdX7_correctWith_93 6 (.istore 8) 2 ∧ De bdX7_correctWith_93 8 (.aload_n 0) 1 ∧ De bdX7_correctWith_93 9 (.aload 5) 2 ∧ De bdX7_correctWith_93 11 (.aload_n 3) 1 ∧ De bdX7_correctWith_93 12 (.iload 6) 2 ∧ De bdX7_correctWith_93 14 (.iload 8) 2 ∧ De bdX7_correctWith_93 16 (.invokevirtual 363) 3 ∧ De bdX7_correctWith_93 19 (.aload 5) 2 ∧ De bdX7_correctWith_93 21 (.aload_n 3) 1 ∧ De bdX7_correctWith_93 22 (.invokevirtual 344) 3 ∧ De bdX7_correctWith_93 25 (.aload 5) 2 ∧ De bdX7_correctWith_93 27 (.aload_n 3) 1 ∧ De bdX7_correctWith_93 28 (.invokevirtual 356) 3 := by decide +kernel
theorem dX7_correctWith_93 : decode cX7_correctWith 93 = .ok (.aload_n 3, 1) := dAt wdX7_correctWith_93 adX7_correctWith_93.1 rfl
theorem dX7_correctWith_94 : decode cX7_correctWith 94 = .ok (.iload 6, 2) := dAt wdX7_correctWith_93 adX7_correctWith_93.2.1 rfl
theorem dX7_correctWith_96 : decode cX7_correctWith 96 = .ok (.invokevirtual 359, 3) := dAt wdX7_correctWith_93 adX7_correctWith_93.2.2.1 rfl
theorem dX7_correctWith_99 : decode cX7_correctWith 99 = .ok (.istore 8, 2) := dAt wdX7_correctWith_93 adX7_correctWith_93.2.2.2.1 rfl
theorem dX7_correctWith_101 : decode cX7_correctWith 101 = .ok (.aload_n 0, 1) := dAt wdX7_correctWith_93 adX7_correctWith_93.2.2.2.2.1 rfl
theorem dX7_correctWith_102 : decode cX7_correctWith 102 = .ok (.aload 5, 2) := dAt wdX7_correctWith_93 adX7_correctWith_93.2.2.2.2.2.1 rfl
theorem dX7_correctWith_104 : decode cX7_correctWith 104 = .ok (.aload_n 3, 1) := dAt wdX7_correctWith_93 adX7_correctWith_93.2.2.2.2.2.2.1 rfl
theorem dX7_correctWith_105 : decode cX7_correctWith 105 = .ok (.iload 6, 2) := dAt wdX7_correctWith_93 adX7_correctWith_93.2.2.2.2.2.2.2.1 rfl
theorem dX7_correctWith_107 : decode cX7_correctWith 107 = .ok (.iload 8, 2) := dAt wdX7_correctWith_93 adX7_correctWith_93.2.2.2.2.2.2.2.2.1 rfl
theorem dX7_correctWith_109 : decode cX7_correctWith 109 = .ok (.invokevirtual 363, 3) := dAt wdX7_correctWith_93 adX7_correctWith_93.2.2.2.2.2.2.2.2.2.1 rfl
theorem dX7_correctWith_112 : decode cX7_correctWith 112 = .ok (.aload 5, 2) := dAt wdX7_correctWith_93 adX7_correctWith_93.2.2.2.2.2.2.2.2.2.2.1 rfl
theorem dX7_correctWith_114 : decode cX7_correctWith 114 = .ok (.aload_n 3, 1) := dAt wdX7_correctWith_93 adX7_correctWith_93.2.2.2.2.2.2.2.2.2.2.2.1 rfl
theorem dX7_correctWith_115 : decode cX7_correctWith 115 = .ok (.invokevirtual 344, 3) := dAt wdX7_correctWith_93 adX7_correctWith_93.2.2.2.2.2.2.2.2.2.2.2.2.1 rfl
theorem dX7_correctWith_118 : decode cX7_correctWith 118 = .ok (.aload 5, 2) := dAt wdX7_correctWith_93 adX7_correctWith_93.2.2.2.2.2.2.2.2.2.2.2.2.2.1 rfl
theorem dX7_correctWith_120 : decode cX7_correctWith 120 = .ok (.aload_n 3, 1) := dAt wdX7_correctWith_93 adX7_correctWith_93.2.2.2.2.2.2.2.2.2.2.2.2.2.2.1 rfl
theorem dX7_correctWith_121 : decode cX7_correctWith 121 = .ok (.invokevirtual 356, 3) := dAt wdX7_correctWith_93 adX7_correctWith_93.2.2.2.2.2.2.2.2.2.2.2.2.2.2.2 rfl
def bdX7_correctWith_124 : ByteArray := .mk #[25, 5, 180, 0, 225, 21, 8, 100, 54, 9, 21, 9, 21, 6, 164, 0, 14, 25, 4, 27, 21, 6, 21, 9, 4, 182, 1, 111, 21, 9, 21, 6]
theorem wdX7_correctWith_124 : LocW cX7_correctWith 124 bdX7_correctWith_124 := loc_of (by decide +kernel)
theorem adX7_correctWith_124 : De bdX7_correctWith_124 0 (.aload 5) 2 ∧ De bdX7_correctWith_124 2 (.getfield 225) 3 ∧ De bdX7_correctWith_124 5 (.iload 8) 2 ∧ De bdX7_correctWith_124 7 (.isub) 1 ∧ De bdX7_correctWith_124 8 (.istore 9) 2 ∧ De bdX7_correctWith_124 10 (.iload 9) 2 ∧ De bdX7_correctWith_124 12 (.iload 6) 2 ∧ De bdX7_correctWith_124 14 (.if_icmp .le 14) 3 ∧ De bdX7_correctWith_124 17 (.aload 4) 2 ∧ De bdX7_correctWith_124 19 (.iload_n 1) 1 ∧ De bdX7_correctWith_124 20 (.iload 6) 2 ∧ De bdX7_correctWith_124 22 (.iload 9) 2 ∧ De bdX7_correctWith_124 24 (.iconst 1) 1 ∧ De bdX7_correctWith_124 25 (.invokevirtual 367) 3 ∧ De bdX7_correctWith_124 28 (.iload 9) 2 ∧ De bdX7_correctWith_124 30 (.iload 6) 2 := by decide +kernel
theorem dX7_correctWith_124 : decode cX7_correctWith 124 = .ok (.aload 5, 2) := dAt wdX7_correctWith_124 adX7_correctWith_124.1 rfl
theorem dX7_correctWith_126 : decode cX7_correctWith 126 = .ok (.getfield 225, 3) := dAt wdX7_correctWith_124 adX7_correctWith_124.2.1 rfl
theorem dX7_correctWith_129 : decode cX7_correctWith 129 = .ok (.iload 8, 2) := dAt wdX7_correctWith_124 adX7_correctWith_124.2.2.1 rfl
theorem dX7_correctWith_131 : decode cX7_correctWith 131 = .ok (.isub, 1) := dAt wdX7_correctWith_124 adX7_correctWith_124.2.2.2.1 rfl
theorem dX7_correctWith_132 : decode cX7_correctWith 132 = .ok (.istore 9, 2) := dAt wdX7_correctWith_124 adX7_correctWith_124.2.2.2.2.1 rfl
theorem dX7_correctWith_134 : decode cX7_correctWith 134 = .ok (.iload 9, 2) := dAt wdX7_correctWith_124 adX7_correctWith_124.2.2.2.2.2.1 rfl
theorem dX7_correctWith_136 : decode cX7_correctWith 136 = .ok (.iload 6, 2) := dAt wdX7_correctWith_124 adX7_correctWith_124.2.2.2.2.2.2.1 rfl
theorem dX7_correctWith_138 : decode cX7_correctWith 138 = .ok (.if_icmp .le 14, 3) := dAt wdX7_correctWith_124 adX7_correctWith_124.2.2.2.2.2.2.2.1 rfl
theorem dX7_correctWith_141 : decode cX7_correctWith 141 = .ok (.aload 4, 2) := dAt wdX7_correctWith_124 adX7_correctWith_124.2.2.2.2.2.2.2.2.1 rfl
theorem dX7_correctWith_143 : decode cX7_correctWith 143 = .ok (.iload_n 1, 1) := dAt wdX7_correctWith_124 adX7_correctWith_124.2.2.2.2.2.2.2.2.2.1 rfl
theorem dX7_correctWith_144 : decode cX7_correctWith 144 = .ok (.iload 6, 2) := dAt wdX7_correctWith_124 adX7_correctWith_124.2.2.2.2.2.2.2.2.2.2.1 rfl
theorem dX7_correctWith_146 : decode cX7_correctWith 146 = .ok (.iload 9, 2) := dAt wdX7_correctWith_124 adX7_correctWith_124.2.2.2.2.2.2.2.2.2.2.2.1 rfl
theorem dX7_correctWith_148 : decode cX7_correctWith 148 = .ok (.iconst 1, 1) := dAt wdX7_correctWith_124 adX7_correctWith_124.2.2.2.2.2.2.2.2.2.2.2.2.1 rfl
theorem dX7_correctWith_149 : decode cX7_correctWith 149 = .ok (.invokevirtual 367, 3) := dAt wdX7_correctWith_124 adX7_correctWith_124.2.2.2.2.2.2.2.2.2.2.2.2.2.1 rfl
theorem dX7_correctWith_152 : decode cX7_correctWith 152 = .ok (.iload 9, 2) := dAt wdX7_correctWith_124 adX7_correctWith_124.2.2.2.2.2.2.2.2.2.2.2.2.2.2.1 rfl
theorem dX7_correctWith_154 : decode cX7_correctWith 154 = .ok (.iload 6, 2) := dAt wdX7_correctWith_124 adX7_correctWith_124.2.2.2.2.2.2.2.2.2.2.2.2.2.2.2 rfl
def bdX7_correctWith_156 : ByteArray := .mk #[100, 172]
theorem wdX7_correctWith_156 : LocW cX7_correctWith 156 bdX7_correctWith_156 := loc_of (by decide +kernel)
theorem adX7_correctWith_156 : De bdX7_correctWith_156 0 (.isub) 1 ∧ De bdX7_correctWith_156 1 (.ireturn) 1 := by decide +kernel
theorem dX7_correctWith_156 : decode cX7_correctWith 156 = .ok (.isub, 1) := dAt wdX7_correctWith_156 adX7_correctWith_156.1 rfl
theorem dX7_correctWith_157 : decode cX7_correctWith 157 = .ok (.ireturn, 1) := dAt wdX7_correctWith_156 adX7_correctWith_156.2 rfl
def bdX7_countSame_0 : ByteArray := .mk #[43, 180, 0, 225, 44, 180, 0, 225, 184, 1, 115, 29, 100, 54, 4, 3, 54, 5, 21, 5, 21, 4, 162, 0, 68, 43, 43, 180, 0, 225]
theorem wdX7_countSame_0 : LocW cX7_countSame 0 bdX7_countSame_0 := loc_of (by decide +kernel)
theorem adX7_countSame_0 : De bdX7_countSame_0 0 (.aload_n 1) 1 ∧ De bdX7_countSame_0 1 (.getfield 225) 3 ∧ De bdX7_countSame_0 4 (.aload_n 2) 1 ∧ De bdX7_countSame_0 5 (.getfield 225) 3 ∧ De bdX7_countSame_0 8 (.invokestatic 371) 3 ∧ De bdX7_countSame_0 11 (.iload_n 3) 1 ∧ De bdX7_countSame_0 12 (.isub) 1 ∧ De bdX7_countSame_0 13 (.istore 4) 2 ∧ De bdX7_countSame_0 15 (.iconst 0) 1 ∧ De bdX7_countSame_0 16 (.istore 5) 2 ∧ De bdX7_countSame_0 18 (.iload 5) 2 ∧ De bdX7_countSame_0 20 (.iload 4) 2 ∧ De bdX7_countSame_0 22 (.if_icmp .ge 68) 3 ∧ De bdX7_countSame_0 25 (.aload_n 1) 1 ∧ De bdX7_countSame_0 26 (.aload_n 1) 1 ∧ De bdX7_countSame_0 27 (.getfield 225) 3 := by decide +kernel
theorem dX7_countSame_0 : decode cX7_countSame 0 = .ok (.aload_n 1, 1) := dAt wdX7_countSame_0 adX7_countSame_0.1 rfl
theorem dX7_countSame_1 : decode cX7_countSame 1 = .ok (.getfield 225, 3) := dAt wdX7_countSame_0 adX7_countSame_0.2.1 rfl
theorem dX7_countSame_4 : decode cX7_countSame 4 = .ok (.aload_n 2, 1) := dAt wdX7_countSame_0 adX7_countSame_0.2.2.1 rfl
theorem dX7_countSame_5 : decode cX7_countSame 5 = .ok (.getfield 225, 3) := dAt wdX7_countSame_0 adX7_countSame_0.2.2.2.1 rfl
theorem dX7_countSame_8 : decode cX7_countSame 8 = .ok (.invokestatic 371, 3) := dAt wdX7_countSame_0 adX7_countSame_0.2.2.2.2.1 rfl
theorem dX7_countSame_11 : decode cX7_countSame 11 = .ok (.iload_n 3, 1) := dAt wdX7_countSame_0 adX7_countSame_0.2.2.2.2.2.1 rfl
theorem dX7_countSame_12 : decode cX7_countSame 12 = .ok (.isub, 1) := dAt wdX7_countSame_0 adX7_countSame_0.2.2.2.2.2.2.1 rfl
theorem dX7_countSame_13 : decode cX7_countSame 13 = .ok (.istore 4, 2) := dAt wdX7_countSame_0 adX7_countSame_0.2.2.2.2.2.2.2.1 rfl
theorem dX7_countSame_15 : decode cX7_countSame 15 = .ok (.iconst 0, 1) := dAt wdX7_countSame_0 adX7_countSame_0.2.2.2.2.2.2.2.2.1 rfl
theorem dX7_countSame_16 : decode cX7_countSame 16 = .ok (.istore 5, 2) := dAt wdX7_countSame_0 adX7_countSame_0.2.2.2.2.2.2.2.2.2.1 rfl
theorem dX7_countSame_18 : decode cX7_countSame 18 = .ok (.iload 5, 2) := dAt wdX7_countSame_0 adX7_countSame_0.2.2.2.2.2.2.2.2.2.2.1 rfl
theorem dX7_countSame_20 : decode cX7_countSame 20 = .ok (.iload 4, 2) := dAt wdX7_countSame_0 adX7_countSame_0.2.2.2.2.2.2.2.2.2.2.2.1 rfl
theorem dX7_countSame_22 : decode cX7_countSame 22 = .ok (.if_icmp .ge 68, 3) := dAt wdX7_countSame_0 adX7_countSame_0.2.2.2.2.2.2.2.2.2.2.2.2.1 rfl
theorem dX7_countSame_25 : decode cX7_countSame 25 = .ok (.aload_n 1, 1) := dAt wdX7_countSame_0 adX7_countSame_0.2.2.2.2.2.2.2.2.2.2.2.2.2.1 rfl
theorem dX7_countSame_26 : decode cX7_countSame 26 = .ok (.aload_n 1, 1) := dAt wdX7_countSame_0 adX7_countSame_0.2.2.2.2.2.2.2.2.2.2.2.2.2.2.1 rfl
theorem dX7_countSame_27 : decode cX7_countSame 27 = .ok (.getfield 225, 3) := dAt wdX7_countSame_0 adX7_countSame_0.2.2.2.2.2.2.2.2.2.2.2.2.2.2.2 rfl
def bdX7_countSame_30 : ByteArray := .mk #[4, 100, 21, 5, 100, 42, 180, 0, 85, 182, 1, 14, 54, 6, 44, 44, 180, 0, 225, 4, 100, 21, 5, 100, 42]
theorem wdX7_countSame_30 : LocW cX7_countSame 30 bdX7_countSame_30 := loc_of (by decide +kernel)
theorem adX7_countSame_30 : De bdX7_countSame_30 0 (.iconst 1) 1 ∧ De bdX7_countSame_30 1 (.isub) 1 ∧ De bdX7_countSame_30 2 (.iload 5) 2 ∧ De bdX7_countSame_30 4 (.isub) 1 ∧ De bdX7_countSame_30 5 (.aload_n 0) 1 ∧ De bdX7_countSame_30 6 (.getfield 85) 3 ∧ De bdX7_countSame_30 9 (.invokevirtual 270) 3 ∧ De bdX7_countSame_30 12 (.istore 6) 2 ∧ De bdX7_countSame_30 14 (.aload_n 2) 1 ∧ De bdX7_countSame_30 15 (.aload_n 2) 1 ∧ De bdX7_countSame_30 16 (.getfield 225) 3 ∧ De bdX7_countSame_30 19 (.iconst 1) 1 ∧ De bdX7_countSame_30 20 (.isub) 1 ∧ De bdX7_countSame_30 21 (.iload 5) 2 ∧ De bdX7_countSame_30 23 (.isub) 1 ∧ De bdX7_countSame_30 24 (.aload_n 0) 1 := by decide +kernel
theorem dX7_countSame_30 : decode cX7_countSame 30 = .ok (.iconst 1, 1) := dAt wdX7_countSame_30 adX7_countSame_30.1 rfl
theorem dX7_countSame_31 : decode cX7_countSame 31 = .ok (.isub, 1) := dAt wdX7_countSame_30 adX7_countSame_30.2.1 rfl
theorem dX7_countSame_32 : decode cX7_countSame 32 = .ok (.iload 5, 2) := dAt wdX7_countSame_30 adX7_countSame_30.2.2.1 rfl
theorem dX7_countSame_34 : decode cX7_countSame 34 = .ok (.isub, 1) := dAt wdX7_countSame_30 adX7_countSame_30.2.2.2.1 rfl
theorem dX7_countSame_35 : decode cX7_countSame 35 = .ok (.aload_n 0, 1) := dAt wdX7_countSame_30 adX7_countSame_30.2.2.2.2.1 rfl
theorem dX7_countSame_36 : decode cX7_countSame 36 = .ok (.getfield 85, 3) := dAt wdX7_countSame_30 adX7_countSame_30.2.2.2.2.2.1 rfl
theorem dX7_countSame_39 : decode cX7_countSame 39 = .ok (.invokevirtual 270, 3) := dAt wdX7_countSame_30 adX7_countSame_30.2.2.2.2.2.2.1 rfl
theorem dX7_countSame_42 : decode cX7_countSame 42 = .ok (.istore 6, 2) := dAt wdX7_countSame_30 adX7_countSame_30.2.2.2.2.2.2.2.1 rfl
theorem dX7_countSame_44 : decode cX7_countSame 44 = .ok (.aload_n 2, 1) := dAt wdX7_countSame_30 adX7_countSame_30.2.2.2.2.2.2.2.2.1 rfl
theorem dX7_countSame_45 : decode cX7_countSame 45 = .ok (.aload_n 2, 1) := dAt wdX7_countSame_30 adX7_countSame_30.2.2.2.2.2.2.2.2.2.1 rfl
theorem dX7_countSame_46 : decode cX7_countSame 46 = .ok (.getfield 225, 3) := dAt wdX7_countSame_30 adX7_countSame_30.2.2.2.2.2.2.2.2.2.2.1 rfl
theorem dX7_countSame_49 : decode cX7_countSame 49 = .ok (.iconst 1, 1) := dAt wdX7_countSame_30 adX7_countSame_30.2.2.2.2.2.2.2.2.2.2.2.1 rfl
theorem dX7_countSame_50 : decode cX7_countSame 50 = .ok (.isub, 1) := dAt wdX7_countSame_30 adX7_countSame_30.2.2.2.2.2.2.2.2.2.2.2.2.1 rfl
theorem dX7_countSame_51 : decode cX7_countSame 51 = .ok (.iload 5, 2) := dAt wdX7_countSame_30 adX7_countSame_30.2.2.2.2.2.2.2.2.2.2.2.2.2.1 rfl
theorem dX7_countSame_53 : decode cX7_countSame 53 = .ok (.isub, 1) := dAt wdX7_countSame_30 adX7_countSame_30.2.2.2.2.2.2.2.2.2.2.2.2.2.2.1 rfl
theorem dX7_countSame_54 : decode cX7_countSame 54 = .ok (.aload_n 0, 1) := dAt wdX7_countSame_30 adX7_countSame_30.2.2.2.2.2.2.2.2.2.2.2.2.2.2.2 rfl
def bdX7_countSame_55 : ByteArray := .mk #[180, 0, 89, 182, 1, 14, 54, 7, 42, 180, 0, 85, 21, 6, 42, 180, 0, 89, 21, 7, 184, 1, 118, 154, 0, 6, 21, 5, 172, 132, 5, 1, 167, 255, 187, 21, 5]
theorem wdX7_countSame_55 : LocW cX7_countSame 55 bdX7_countSame_55 := loc_of (by decide +kernel)
theorem adX7_countSame_55 : De bdX7_countSame_55 0 (.getfield 89) 3 ∧ De bdX7_countSame_55 3 (.invokevirtual 270) 3 ∧ De bdX7_countSame_55 6 (.istore 7) 2 ∧ De bdX7_countSame_55 8 (.aload_n 0) 1 ∧ De bdX7_countSame_55 9 (.getfield 85) 3 ∧ De bdX7_countSame_55 12 (.iload 6) 2 ∧ De bdX7_countSame_55 14 (.aload_n 0) 1 ∧ De bdX7_countSame_55 15 (.getfield 89) 3 ∧ De bdX7_countSame_55 18 (.iload 7) 2 ∧ De bdX7_countSame_55 20 (.invokestatic 374) 3 ∧ De bdX7_countSame_55 23 (.ifCond .ne 6) 3 ∧ De bdX7_countSame_55 26 (.iload 5) 2 ∧ De bdX7_countSame_55 28 (.ireturn) 1 ∧ De bdX7_countSame_55 29 (.iinc 5 1) 3 ∧ De bdX7_countSame_55 32 (.goto (-69)) 3 ∧ De bdX7_countSame_55 35 (.iload 5) 2 := by decide +kernel
theorem dX7_countSame_55 : decode cX7_countSame 55 = .ok (.getfield 89, 3) := dAt wdX7_countSame_55 adX7_countSame_55.1 rfl
theorem dX7_countSame_58 : decode cX7_countSame 58 = .ok (.invokevirtual 270, 3) := dAt wdX7_countSame_55 adX7_countSame_55.2.1 rfl
theorem dX7_countSame_61 : decode cX7_countSame 61 = .ok (.istore 7, 2) := dAt wdX7_countSame_55 adX7_countSame_55.2.2.1 rfl
theorem dX7_countSame_63 : decode cX7_countSame 63 = .ok (.aload_n 0, 1) := dAt wdX7_countSame_55 adX7_countSame_55.2.2.2.1 rfl
theorem dX7_countSame_64 : decode cX7_countSame 64 = .ok (.getfield 85, 3) := dAt wdX7_countSame_55 adX7_countSame_55.2.2.2.2.1 rfl
theorem dX7_countSame_67 : decode cX7_countSame 67 = .ok (.iload 6, 2) := dAt wdX7_countSame_55 adX7_countSame_55.2.2.2.2.2.1 rfl
theorem dX7_countSame_69 : decode cX7_countSame 69 = .ok (.aload_n 0, 1) := dAt wdX7_countSame_55 adX7_countSame_55.2.2.2.2.2.2.1 rfl
theorem dX7_countSame_70 : decode cX7_countSame 70 = .ok (.getfield 89, 3) := dAt wdX7_countSame_55 adX7_countSame_55.2.2.2.2.2.2.2.1 rfl
theorem dX7_countSame_73 : decode cX7_countSame 73 = .ok (.iload 7, 2) := dAt wdX7_countSame_55 adX7_countSame_55.2.2.2.2.2.2.2.2.1 rfl
theorem dX7_countSame_75 : decode cX7_countSame 75 = .ok (.invokestatic 374, 3) := dAt wdX7_countSame_55 adX7_countSame_55.2.2.2.2.2.2.2.2.2.1 rfl
theorem dX7_countSame_78 : decode cX7_countSame 78 = .ok (.ifCond .ne 6, 3) := dAt wdX7_countSame_55 adX7_countSame_55.2.2.2.2.2.2.2.2.2.2.1 rfl
theorem dX7_countSame_81 : decode cX7_countSame 81 = .ok (.iload 5, 2) := dAt wdX7_countSame_55 adX7_countSame_55.2.2.2.2.2.2.2.2.2.2.2.1 rfl
theorem dX7_countSame_83 : decode cX7_countSame 83 = .ok (.ireturn, 1) := dAt wdX7_countSame_55 adX7_countSame_55.2.2.2.2.2.2.2.2.2.2.2.2.1 rfl
theorem dX7_countSame_84 : decode cX7_countSame 84 = .ok (.iinc 5 1, 3) := dAt wdX7_countSame_55 adX7_countSame_55.2.2.2.2.2.2.2.2.2.2.2.2.2.1 rfl
theorem dX7_countSame_87 : decode cX7_countSame 87 = .ok (.goto (-69), 3) := dAt wdX7_countSame_55 adX7_countSame_55.2.2.2.2.2.2.2.2.2.2.2.2.2.2.1 rfl
theorem dX7_countSame_90 : decode cX7_countSame 90 = .ok (.iload 5, 2) := dAt wdX7_countSame_55 adX7_countSame_55.2.2.2.2.2.2.2.2.2.2.2.2.2.2.2 rfl
def bdX7_countSame_92 : ByteArray := .mk #[172]
theorem wdX7_countSame_92 : LocW cX7_countSame 92 bdX7_countSame_92 := loc_of (by decide +kernel)
theorem adX7_countSame_92 : De bdX7_countSame_92 0 (.ireturn) 1 := by decide +kernel
theorem dX7_countSame_92 : decode cX7_countSame 92 = .ok (.ireturn, 1) := dAt wdX7_countSame_92 adX7_countSame_92 rfl
def bdX7_movePlaces_0 : ByteArray := .mk #[29, 54, 5, 21, 5, 43, 180, 0, 225, 21, 4, 100, 162, 0, 16, 42, 43, 21, 5, 182, 1, 47, 132, 5, 1, 167, 255, 234, 4, 54, 5]
theorem wdX7_movePlaces_0 : LocW cX7_movePlaces 0 bdX7_movePlaces_0 := loc_of (by decide +kernel)
theorem adX7_movePlaces_0 : De bdX7_movePlaces_0 0 (.iload_n 3) 1 ∧ De bdX7_movePlaces_0 1 (.istore 5) 2 ∧ De bdX7_movePlaces_0 3 (.iload 5) 2 ∧ De bdX7_movePlaces_0 5 (.aload_n 1) 1 ∧ De bdX7_movePlaces_0 6 (.getfield 225) 3 ∧ De bdX7_movePlaces_0 9 (.iload 4) 2 ∧ De bdX7_movePlaces_0 11 (.isub) 1 ∧ De bdX7_movePlaces_0 12 (.if_icmp .ge 16) 3 ∧ De bdX7_movePlaces_0 15 (.aload_n 0) 1 ∧ De bdX7_movePlaces_0 16 (.aload_n 1) 1 ∧ De bdX7_movePlaces_0 17 (.iload 5) 2 ∧ De bdX7_movePlaces_0 19 (.invokevirtual 303) 3 ∧ De bdX7_movePlaces_0 22 (.iinc 5 1) 3 ∧ De bdX7_movePlaces_0 25 (.goto (-22)) 3 ∧ De bdX7_movePlaces_0 28 (.iconst 1) 1 ∧ De bdX7_movePlaces_0 29 (.istore 5) 2 := by decide +kernel
theorem dX7_movePlaces_0 : decode cX7_movePlaces 0 = .ok (.iload_n 3, 1) := dAt wdX7_movePlaces_0 adX7_movePlaces_0.1 rfl
theorem dX7_movePlaces_1 : decode cX7_movePlaces 1 = .ok (.istore 5, 2) := dAt wdX7_movePlaces_0 adX7_movePlaces_0.2.1 rfl
theorem dX7_movePlaces_3 : decode cX7_movePlaces 3 = .ok (.iload 5, 2) := dAt wdX7_movePlaces_0 adX7_movePlaces_0.2.2.1 rfl
theorem dX7_movePlaces_5 : decode cX7_movePlaces 5 = .ok (.aload_n 1, 1) := dAt wdX7_movePlaces_0 adX7_movePlaces_0.2.2.2.1 rfl
theorem dX7_movePlaces_6 : decode cX7_movePlaces 6 = .ok (.getfield 225, 3) := dAt wdX7_movePlaces_0 adX7_movePlaces_0.2.2.2.2.1 rfl
theorem dX7_movePlaces_9 : decode cX7_movePlaces 9 = .ok (.iload 4, 2) := dAt wdX7_movePlaces_0 adX7_movePlaces_0.2.2.2.2.2.1 rfl
theorem dX7_movePlaces_11 : decode cX7_movePlaces 11 = .ok (.isub, 1) := dAt wdX7_movePlaces_0 adX7_movePlaces_0.2.2.2.2.2.2.1 rfl
theorem dX7_movePlaces_12 : decode cX7_movePlaces 12 = .ok (.if_icmp .ge 16, 3) := dAt wdX7_movePlaces_0 adX7_movePlaces_0.2.2.2.2.2.2.2.1 rfl
theorem dX7_movePlaces_15 : decode cX7_movePlaces 15 = .ok (.aload_n 0, 1) := dAt wdX7_movePlaces_0 adX7_movePlaces_0.2.2.2.2.2.2.2.2.1 rfl
theorem dX7_movePlaces_16 : decode cX7_movePlaces 16 = .ok (.aload_n 1, 1) := dAt wdX7_movePlaces_0 adX7_movePlaces_0.2.2.2.2.2.2.2.2.2.1 rfl
theorem dX7_movePlaces_17 : decode cX7_movePlaces 17 = .ok (.iload 5, 2) := dAt wdX7_movePlaces_0 adX7_movePlaces_0.2.2.2.2.2.2.2.2.2.2.1 rfl
theorem dX7_movePlaces_19 : decode cX7_movePlaces 19 = .ok (.invokevirtual 303, 3) := dAt wdX7_movePlaces_0 adX7_movePlaces_0.2.2.2.2.2.2.2.2.2.2.2.1 rfl
theorem dX7_movePlaces_22 : decode cX7_movePlaces 22 = .ok (.iinc 5 1, 3) := dAt wdX7_movePlaces_0 adX7_movePlaces_0.2.2.2.2.2.2.2.2.2.2.2.2.1 rfl
theorem dX7_movePlaces_25 : decode cX7_movePlaces 25 = .ok (.goto (-22), 3) := dAt wdX7_movePlaces_0 adX7_movePlaces_0.2.2.2.2.2.2.2.2.2.2.2.2.2.1 rfl
theorem dX7_movePlaces_28 : decode cX7_movePlaces 28 = .ok (.iconst 1, 1) := dAt wdX7_movePlaces_0 adX7_movePlaces_0.2.2.2.2.2.2.2.2.2.2.2.2.2.2.1 rfl
theorem dX7_movePlaces_29 : decode cX7_movePlaces 29 = .ok (.istore 5, 2) := dAt wdX7_movePlaces_0 adX7_movePlaces_0.2.2.2.2.2.2.2.2.2.2.2.2.2.2.2 rfl
def bdX7_movePlaces_31 : ByteArray := .mk #[21, 5, 21, 4, 163, 0, 67, 44, 180, 0, 225, 21, 5, 100, 54, 6, 42, 43, 180, 1, 71, 43, 180, 0, 225, 21, 5, 100, 46]
theorem wdX7_movePlaces_31 : LocW cX7_movePlaces 31 bdX7_movePlaces_31 := loc_of (by decide +kernel)
theorem adX7_movePlaces_31 : De bdX7_movePlaces_31 0 (.iload 5) 2 ∧ De bdX7_movePlaces_31 2 (.iload 4) 2 ∧ De bdX7_movePlaces_31 4 (.if_icmp .gt 67) 3 ∧ De bdX7_movePlaces_31 7 (.aload_n 2) 1 ∧ De bdX7_movePlaces_31 8 (.getfield 225) 3 ∧ De bdX7_movePlaces_31 11 (.iload 5) 2 ∧ De bdX7_movePlaces_31 13 (.isub) 1 ∧ De bdX7_movePlaces_31 14 (.istore 6) 2 ∧ De bdX7_movePlaces_31 16 (.aload_n 0) 1 ∧ De bdX7_movePlaces_31 17 (.aload_n 1) 1 ∧ De bdX7_movePlaces_31 18 (.getfield 327) 3 ∧ De bdX7_movePlaces_31 21 (.aload_n 1) 1 ∧ De bdX7_movePlaces_31 22 (.getfield 225) 3 ∧ De bdX7_movePlaces_31 25 (.iload 5) 2 ∧ De bdX7_movePlaces_31 27 (.isub) 1 ∧ De bdX7_movePlaces_31 28 (.iaload) 1 := by decide +kernel
theorem dX7_movePlaces_31 : decode cX7_movePlaces 31 = .ok (.iload 5, 2) := dAt wdX7_movePlaces_31 adX7_movePlaces_31.1 rfl
theorem dX7_movePlaces_33 : decode cX7_movePlaces 33 = .ok (.iload 4, 2) := dAt wdX7_movePlaces_31 adX7_movePlaces_31.2.1 rfl
theorem dX7_movePlaces_35 : decode cX7_movePlaces 35 = .ok (.if_icmp .gt 67, 3) := dAt wdX7_movePlaces_31 adX7_movePlaces_31.2.2.1 rfl
theorem dX7_movePlaces_38 : decode cX7_movePlaces 38 = .ok (.aload_n 2, 1) := dAt wdX7_movePlaces_31 adX7_movePlaces_31.2.2.2.1 rfl
theorem dX7_movePlaces_39 : decode cX7_movePlaces 39 = .ok (.getfield 225, 3) := dAt wdX7_movePlaces_31 adX7_movePlaces_31.2.2.2.2.1 rfl
theorem dX7_movePlaces_42 : decode cX7_movePlaces 42 = .ok (.iload 5, 2) := dAt wdX7_movePlaces_31 adX7_movePlaces_31.2.2.2.2.2.1 rfl
theorem dX7_movePlaces_44 : decode cX7_movePlaces 44 = .ok (.isub, 1) := dAt wdX7_movePlaces_31 adX7_movePlaces_31.2.2.2.2.2.2.1 rfl
theorem dX7_movePlaces_45 : decode cX7_movePlaces 45 = .ok (.istore 6, 2) := dAt wdX7_movePlaces_31 adX7_movePlaces_31.2.2.2.2.2.2.2.1 rfl
theorem dX7_movePlaces_47 : decode cX7_movePlaces 47 = .ok (.aload_n 0, 1) := dAt wdX7_movePlaces_31 adX7_movePlaces_31.2.2.2.2.2.2.2.2.1 rfl
theorem dX7_movePlaces_48 : decode cX7_movePlaces 48 = .ok (.aload_n 1, 1) := dAt wdX7_movePlaces_31 adX7_movePlaces_31.2.2.2.2.2.2.2.2.2.1 rfl
theorem dX7_movePlaces_49 : decode cX7_movePlaces 49 = .ok (.getfield 327, 3) := dAt wdX7_movePlaces_31 adX7_movePlaces_31.2.2.2.2.2.2.2.2.2.2.1 rfl
theorem dX7_movePlaces_52 : decode cX7_movePlaces 52 = .ok (.aload_n 1, 1) := dAt wdX7_movePlaces_31 adX7_movePlaces_31.2.2.2.2.2.2.2.2.2.2.2.1 rfl
theorem dX7_movePlaces_53 : decode cX7_movePlaces 53 = .ok (.getfield 225, 3) := dAt wdX7_movePlaces_31 adX7_movePlaces_31.2.2.2.2.2.2.2.2.2.2.2.2.1 rfl
theorem dX7_movePlaces_56 : decode cX7_movePlaces 56 = .ok (.iload 5, 2) := dAt wdX7_movePlaces_31 adX7_movePlaces_31.2.2.2.2.2.2.2.2.2.2.2.2.2.1 rfl
theorem dX7_movePlaces_58 : decode cX7_movePlaces 58 = .ok (.isub, 1) := dAt wdX7_movePlaces_31 adX7_movePlaces_31.2.2.2.2.2.2.2.2.2.2.2.2.2.2.1 rfl
theorem dX7_movePlaces_59 : decode cX7_movePlaces 59 = .ok (.iaload, 1) := dAt wdX7_movePlaces_31 adX7_movePlaces_31.2.2.2.2.2.2.2.2.2.2.2.2.2.2.2 rfl
def bdX7_movePlaces_60 : ByteArray := .mk #[182, 1, 59, 58, 7, 25, 7, 198, 0, 29, 25, 7, 21, 6, 181, 1, 68, 44, 180, 1, 71, 21, 6, 43, 180, 1, 71, 43, 180, 0, 225, 21, 5, 100]
theorem wdX7_movePlaces_60 : LocW cX7_movePlaces 60 bdX7_movePlaces_60 := loc_of (by decide +kernel)
theorem adX7_movePlaces_60 : De bdX7_movePlaces_60 0 (.invokevirtual 315) 3 ∧ De bdX7_movePlaces_60 3 (.astore 7) 2 ∧ De bdX7_movePlaces_60 5 (.aload 7) 2 ∧ De bdX7_movePlaces_60 7 (.ifnull 29) 3 ∧ De bdX7_movePlaces_60 10 (.aload 7) 2 ∧ De bdX7_movePlaces_60 12 (.iload 6) 2 ∧ De bdX7_movePlaces_60 14 (.putfield 324) 3 ∧ De bdX7_movePlaces_60 17 (.aload_n 2) 1 ∧ De bdX7_movePlaces_60 18 (.getfield 327) 3 ∧ De bdX7_movePlaces_60 21 (.iload 6) 2 ∧ De bdX7_movePlaces_60 23 (.aload_n 1) 1 ∧ De bdX7_movePlaces_60 24 (.getfield 327) 3 ∧ De bdX7_movePlaces_60 27 (.aload_n 1) 1 ∧ De bdX7_movePlaces_60 28 (.getfield 225) 3 ∧ De bdX7_movePlaces_60 31 (.iload 5) 2 ∧ De bdX7_movePlaces_60 33 (.isub) 1 := by decide +kernel
theorem dX7_movePlaces_60 : decode cX7_movePlaces 60 = .ok (.invokevirtual 315, 3) := dAt wdX7_movePlaces_60 adX7_movePlaces_60.1 rfl
theorem dX7_movePlaces_63 : decode cX7_movePlaces 63 = .ok (.astore 7, 2) := dAt wdX7_movePlaces_60 adX7_movePlaces_60.2.1 rfl
theorem dX7_movePlaces_65 : decode cX7_movePlaces 65 = .ok (.aload 7, 2) := dAt wdX7_movePlaces_60 adX7_movePlaces_60.2.2.1 rfl
theorem dX7_movePlaces_67 : decode cX7_movePlaces 67 = .ok (.ifnull 29, 3) := dAt wdX7_movePlaces_60 adX7_movePlaces_60.2.2.2.1 rfl
theorem dX7_movePlaces_70 : decode cX7_movePlaces 70 = .ok (.aload 7, 2) := dAt wdX7_movePlaces_60 adX7_movePlaces_60.2.2.2.2.1 rfl
theorem dX7_movePlaces_72 : decode cX7_movePlaces 72 = .ok (.iload 6, 2) := dAt wdX7_movePlaces_60 adX7_movePlaces_60.2.2.2.2.2.1 rfl
theorem dX7_movePlaces_74 : decode cX7_movePlaces 74 = .ok (.putfield 324, 3) := dAt wdX7_movePlaces_60 adX7_movePlaces_60.2.2.2.2.2.2.1 rfl
theorem dX7_movePlaces_77 : decode cX7_movePlaces 77 = .ok (.aload_n 2, 1) := dAt wdX7_movePlaces_60 adX7_movePlaces_60.2.2.2.2.2.2.2.1 rfl
theorem dX7_movePlaces_78 : decode cX7_movePlaces 78 = .ok (.getfield 327, 3) := dAt wdX7_movePlaces_60 adX7_movePlaces_60.2.2.2.2.2.2.2.2.1 rfl
theorem dX7_movePlaces_81 : decode cX7_movePlaces 81 = .ok (.iload 6, 2) := dAt wdX7_movePlaces_60 adX7_movePlaces_60.2.2.2.2.2.2.2.2.2.1 rfl
theorem dX7_movePlaces_83 : decode cX7_movePlaces 83 = .ok (.aload_n 1, 1) := dAt wdX7_movePlaces_60 adX7_movePlaces_60.2.2.2.2.2.2.2.2.2.2.1 rfl
theorem dX7_movePlaces_84 : decode cX7_movePlaces 84 = .ok (.getfield 327, 3) := dAt wdX7_movePlaces_60 adX7_movePlaces_60.2.2.2.2.2.2.2.2.2.2.2.1 rfl
theorem dX7_movePlaces_87 : decode cX7_movePlaces 87 = .ok (.aload_n 1, 1) := dAt wdX7_movePlaces_60 adX7_movePlaces_60.2.2.2.2.2.2.2.2.2.2.2.2.1 rfl
theorem dX7_movePlaces_88 : decode cX7_movePlaces 88 = .ok (.getfield 225, 3) := dAt wdX7_movePlaces_60 adX7_movePlaces_60.2.2.2.2.2.2.2.2.2.2.2.2.2.1 rfl
theorem dX7_movePlaces_91 : decode cX7_movePlaces 91 = .ok (.iload 5, 2) := dAt wdX7_movePlaces_60 adX7_movePlaces_60.2.2.2.2.2.2.2.2.2.2.2.2.2.2.1 rfl
theorem dX7_movePlaces_93 : decode cX7_movePlaces 93 = .ok (.isub, 1) := dAt wdX7_movePlaces_60 adX7_movePlaces_60.2.2.2.2.2.2.2.2.2.2.2.2.2.2.2 rfl
def bdX7_movePlaces_94 : ByteArray := .mk #[46, 79, 132, 5, 1, 167, 255, 188, 177]
theorem wdX7_movePlaces_94 : LocW cX7_movePlaces 94 bdX7_movePlaces_94 := loc_of (by decide +kernel)
theorem adX7_movePlaces_94 : De bdX7_movePlaces_94 0 (.iaload) 1 ∧ De bdX7_movePlaces_94 1 (.iastore) 1 ∧ De bdX7_movePlaces_94 2 (.iinc 5 1) 3 ∧ De bdX7_movePlaces_94 5 (.goto (-68)) 3 ∧ De bdX7_movePlaces_94 8 (.return_) 1 := by decide +kernel
theorem dX7_movePlaces_94 : decode cX7_movePlaces 94 = .ok (.iaload, 1) := dAt wdX7_movePlaces_94 adX7_movePlaces_94.1 rfl
theorem dX7_movePlaces_95 : decode cX7_movePlaces 95 = .ok (.iastore, 1) := dAt wdX7_movePlaces_94 adX7_movePlaces_94.2.1 rfl
theorem dX7_movePlaces_96 : decode cX7_movePlaces 96 = .ok (.iinc 5 1, 3) := dAt wdX7_movePlaces_94 adX7_movePlaces_94.2.2.1 rfl
theorem dX7_movePlaces_99 : decode cX7_movePlaces 99 = .ok (.goto (-68), 3) := dAt wdX7_movePlaces_94 adX7_movePlaces_94.2.2.2.1 rfl
theorem dX7_movePlaces_102 : decode cX7_movePlaces 102 = .ok (.return_, 1) := dAt wdX7_movePlaces_94 adX7_movePlaces_94.2.2.2.2 rfl
def bdX7_countLost_0 : ByteArray := .mk #[3, 61, 3, 62, 29, 42, 180, 0, 60, 162, 0, 41, 42, 29, 182, 0, 113, 58, 4, 28, 25, 4, 180, 1, 36, 27]
theorem wdX7_countLost_0 : LocW cX7_countLost 0 bdX7_countLost_0 := loc_of (by decide +kernel)
theorem adX7_countLost_0 : De bdX7_countLost_0 0 (.iconst 0) 1 ∧ De bdX7_countLost_0 1 (.istore_n 2) 1 ∧ De bdX7_countLost_0 2 (.iconst 0) 1 ∧ De bdX7_countLost_0 3 (.istore_n 3) 1 ∧ De bdX7_countLost_0 4 (.iload_n 3) 1 ∧ De bdX7_countLost_0 5 (.aload_n 0) 1 ∧ De bdX7_countLost_0 6 (.getfield 60) 3 ∧ De bdX7_countLost_0 9 (.if_icmp .ge 41) 3 ∧ De bdX7_countLost_0 12 (.aload_n 0) 1 ∧ De bdX7_countLost_0 13 (.iload_n 3) 1 ∧ De bdX7_countLost_0 14 (.invokevirtual 113) 3 ∧ De bdX7_countLost_0 17 (.astore 4) 2 ∧ De bdX7_countLost_0 19 (.iload_n 2) 1 ∧ De bdX7_countLost_0 20 (.aload 4) 2 ∧ De bdX7_countLost_0 22 (.getfield 292) 3 ∧ De bdX7_countLost_0 25 (.iload_n 1) 1 := by decide +kernel
theorem dX7_countLost_0 : decode cX7_countLost 0 = .ok (.iconst 0, 1) := dAt wdX7_countLost_0 adX7_countLost_0.1 rfl
theorem dX7_countLost_1 : decode cX7_countLost 1 = .ok (.istore_n 2, 1) := dAt wdX7_countLost_0 adX7_countLost_0.2.1 rfl
theorem dX7_countLost_2 : decode cX7_countLost 2 = .ok (.iconst 0, 1) := dAt wdX7_countLost_0 adX7_countLost_0.2.2.1 rfl
theorem dX7_countLost_3 : decode cX7_countLost 3 = .ok (.istore_n 3, 1) := dAt wdX7_countLost_0 adX7_countLost_0.2.2.2.1 rfl
theorem dX7_countLost_4 : decode cX7_countLost 4 = .ok (.iload_n 3, 1) := dAt wdX7_countLost_0 adX7_countLost_0.2.2.2.2.1 rfl
theorem dX7_countLost_5 : decode cX7_countLost 5 = .ok (.aload_n 0, 1) := dAt wdX7_countLost_0 adX7_countLost_0.2.2.2.2.2.1 rfl
theorem dX7_countLost_6 : decode cX7_countLost 6 = .ok (.getfield 60, 3) := dAt wdX7_countLost_0 adX7_countLost_0.2.2.2.2.2.2.1 rfl
theorem dX7_countLost_9 : decode cX7_countLost 9 = .ok (.if_icmp .ge 41, 3) := dAt wdX7_countLost_0 adX7_countLost_0.2.2.2.2.2.2.2.1 rfl
theorem dX7_countLost_12 : decode cX7_countLost 12 = .ok (.aload_n 0, 1) := dAt wdX7_countLost_0 adX7_countLost_0.2.2.2.2.2.2.2.2.1 rfl
theorem dX7_countLost_13 : decode cX7_countLost 13 = .ok (.iload_n 3, 1) := dAt wdX7_countLost_0 adX7_countLost_0.2.2.2.2.2.2.2.2.2.1 rfl
theorem dX7_countLost_14 : decode cX7_countLost 14 = .ok (.invokevirtual 113, 3) := dAt wdX7_countLost_0 adX7_countLost_0.2.2.2.2.2.2.2.2.2.2.1 rfl
theorem dX7_countLost_17 : decode cX7_countLost 17 = .ok (.astore 4, 2) := dAt wdX7_countLost_0 adX7_countLost_0.2.2.2.2.2.2.2.2.2.2.2.1 rfl
theorem dX7_countLost_19 : decode cX7_countLost 19 = .ok (.iload_n 2, 1) := dAt wdX7_countLost_0 adX7_countLost_0.2.2.2.2.2.2.2.2.2.2.2.2.1 rfl
theorem dX7_countLost_20 : decode cX7_countLost 20 = .ok (.aload 4, 2) := dAt wdX7_countLost_0 adX7_countLost_0.2.2.2.2.2.2.2.2.2.2.2.2.2.1 rfl
theorem dX7_countLost_22 : decode cX7_countLost 22 = .ok (.getfield 292, 3) := dAt wdX7_countLost_0 adX7_countLost_0.2.2.2.2.2.2.2.2.2.2.2.2.2.2.1 rfl
theorem dX7_countLost_25 : decode cX7_countLost 25 = .ok (.iload_n 1, 1) := dAt wdX7_countLost_0 adX7_countLost_0.2.2.2.2.2.2.2.2.2.2.2.2.2.2.2 rfl
def bdX7_countLost_26 : ByteArray := .mk #[160, 0, 15, 25, 4, 180, 1, 62, 153, 0, 7, 4, 167, 0, 4, 3, 96, 61, 132, 3, 1, 167, 255, 213, 28, 172]
theorem wdX7_countLost_26 : LocW cX7_countLost 26 bdX7_countLost_26 := loc_of (by decide +kernel)
theorem adX7_countLost_26 : De bdX7_countLost_26 0 (.if_icmp .ne 15) 3 ∧ De bdX7_countLost_26 3 (.aload 4) 2 ∧ De bdX7_countLost_26 5 (.getfield 318) 3 ∧ De bdX7_countLost_26 8 (.ifCond .eq 7) 3 ∧ De bdX7_countLost_26 11 (.iconst 1) 1 ∧ De bdX7_countLost_26 12 (.goto 4) 3 ∧ De bdX7_countLost_26 15 (.iconst 0) 1 ∧ De bdX7_countLost_26 16 (.iadd) 1 ∧ De bdX7_countLost_26 17 (.istore_n 2) 1 ∧ De bdX7_countLost_26 18 (.iinc 3 1) 3 ∧ De bdX7_countLost_26 21 (.goto (-43)) 3 ∧ De bdX7_countLost_26 24 (.iload_n 2) 1 ∧ De bdX7_countLost_26 25 (.ireturn) 1 := by decide +kernel
theorem dX7_countLost_26 : decode cX7_countLost 26 = .ok (.if_icmp .ne 15, 3) := dAt wdX7_countLost_26 adX7_countLost_26.1 rfl
theorem dX7_countLost_29 : decode cX7_countLost 29 = .ok (.aload 4, 2) := dAt wdX7_countLost_26 adX7_countLost_26.2.1 rfl
theorem dX7_countLost_31 : decode cX7_countLost 31 = .ok (.getfield 318, 3) := dAt wdX7_countLost_26 adX7_countLost_26.2.2.1 rfl
theorem dX7_countLost_34 : decode cX7_countLost 34 = .ok (.ifCond .eq 7, 3) := dAt wdX7_countLost_26 adX7_countLost_26.2.2.2.1 rfl
theorem dX7_countLost_37 : decode cX7_countLost 37 = .ok (.iconst 1, 1) := dAt wdX7_countLost_26 adX7_countLost_26.2.2.2.2.1 rfl
theorem dX7_countLost_38 : decode cX7_countLost 38 = .ok (.goto 4, 3) := dAt wdX7_countLost_26 adX7_countLost_26.2.2.2.2.2.1 rfl
theorem dX7_countLost_41 : decode cX7_countLost 41 = .ok (.iconst 0, 1) := dAt wdX7_countLost_26 adX7_countLost_26.2.2.2.2.2.2.1 rfl
theorem dX7_countLost_42 : decode cX7_countLost 42 = .ok (.iadd, 1) := dAt wdX7_countLost_26 adX7_countLost_26.2.2.2.2.2.2.2.1 rfl
theorem dX7_countLost_43 : decode cX7_countLost 43 = .ok (.istore_n 2, 1) := dAt wdX7_countLost_26 adX7_countLost_26.2.2.2.2.2.2.2.2.1 rfl
theorem dX7_countLost_44 : decode cX7_countLost 44 = .ok (.iinc 3 1, 3) := dAt wdX7_countLost_26 adX7_countLost_26.2.2.2.2.2.2.2.2.2.1 rfl
theorem dX7_countLost_47 : decode cX7_countLost 47 = .ok (.goto (-43), 3) := dAt wdX7_countLost_26 adX7_countLost_26.2.2.2.2.2.2.2.2.2.2.1 rfl
theorem dX7_countLost_50 : decode cX7_countLost 50 = .ok (.iload_n 2, 1) := dAt wdX7_countLost_26 adX7_countLost_26.2.2.2.2.2.2.2.2.2.2.2.1 rfl
theorem dX7_countLost_51 : decode cX7_countLost 51 = .ok (.ireturn, 1) := dAt wdX7_countLost_26 adX7_countLost_26.2.2.2.2.2.2.2.2.2.2.2.2 rfl
def bdX7_countState_0 : ByteArray := .mk #[3, 61, 3, 62, 29, 42, 180, 0, 60, 162, 0, 29, 28, 42, 29, 182, 0, 113, 180, 1, 62, 27, 160, 0, 7, 4]
theorem wdX7_countState_0 : LocW cX7_countState 0 bdX7_countState_0 := loc_of (by decide +kernel)
theorem adX7_countState_0 : De bdX7_countState_0 0 (.iconst 0) 1 ∧ De bdX7_countState_0 1 (.istore_n 2) 1 ∧ De bdX7_countState_0 2 (.iconst 0) 1 ∧ De bdX7_countState_0 3 (.istore_n 3) 1 ∧ De bdX7_countState_0 4 (.iload_n 3) 1 ∧ De bdX7_countState_0 5 (.aload_n 0) 1 ∧ De bdX7_countState_0 6 (.getfield 60) 3 ∧ De bdX7_countState_0 9 (.if_icmp .ge 29) 3 ∧ De bdX7_countState_0 12 (.iload_n 2) 1 ∧ De bdX7_countState_0 13 (.aload_n 0) 1 ∧ De bdX7_countState_0 14 (.iload_n 3) 1 ∧ De bdX7_countState_0 15 (.invokevirtual 113) 3 ∧ De bdX7_countState_0 18 (.getfield 318) 3 ∧ De bdX7_countState_0 21 (.iload_n 1) 1 ∧ De bdX7_countState_0 22 (.if_icmp .ne 7) 3 ∧ De bdX7_countState_0 25 (.iconst 1) 1 := by decide +kernel
theorem dX7_countState_0 : decode cX7_countState 0 = .ok (.iconst 0, 1) := dAt wdX7_countState_0 adX7_countState_0.1 rfl
theorem dX7_countState_1 : decode cX7_countState 1 = .ok (.istore_n 2, 1) := dAt wdX7_countState_0 adX7_countState_0.2.1 rfl
theorem dX7_countState_2 : decode cX7_countState 2 = .ok (.iconst 0, 1) := dAt wdX7_countState_0 adX7_countState_0.2.2.1 rfl
theorem dX7_countState_3 : decode cX7_countState 3 = .ok (.istore_n 3, 1) := dAt wdX7_countState_0 adX7_countState_0.2.2.2.1 rfl
theorem dX7_countState_4 : decode cX7_countState 4 = .ok (.iload_n 3, 1) := dAt wdX7_countState_0 adX7_countState_0.2.2.2.2.1 rfl
theorem dX7_countState_5 : decode cX7_countState 5 = .ok (.aload_n 0, 1) := dAt wdX7_countState_0 adX7_countState_0.2.2.2.2.2.1 rfl
theorem dX7_countState_6 : decode cX7_countState 6 = .ok (.getfield 60, 3) := dAt wdX7_countState_0 adX7_countState_0.2.2.2.2.2.2.1 rfl
theorem dX7_countState_9 : decode cX7_countState 9 = .ok (.if_icmp .ge 29, 3) := dAt wdX7_countState_0 adX7_countState_0.2.2.2.2.2.2.2.1 rfl
theorem dX7_countState_12 : decode cX7_countState 12 = .ok (.iload_n 2, 1) := dAt wdX7_countState_0 adX7_countState_0.2.2.2.2.2.2.2.2.1 rfl
theorem dX7_countState_13 : decode cX7_countState 13 = .ok (.aload_n 0, 1) := dAt wdX7_countState_0 adX7_countState_0.2.2.2.2.2.2.2.2.2.1 rfl
theorem dX7_countState_14 : decode cX7_countState 14 = .ok (.iload_n 3, 1) := dAt wdX7_countState_0 adX7_countState_0.2.2.2.2.2.2.2.2.2.2.1 rfl
theorem dX7_countState_15 : decode cX7_countState 15 = .ok (.invokevirtual 113, 3) := dAt wdX7_countState_0 adX7_countState_0.2.2.2.2.2.2.2.2.2.2.2.1 rfl
theorem dX7_countState_18 : decode cX7_countState 18 = .ok (.getfield 318, 3) := dAt wdX7_countState_0 adX7_countState_0.2.2.2.2.2.2.2.2.2.2.2.2.1 rfl
theorem dX7_countState_21 : decode cX7_countState 21 = .ok (.iload_n 1, 1) := dAt wdX7_countState_0 adX7_countState_0.2.2.2.2.2.2.2.2.2.2.2.2.2.1 rfl
theorem dX7_countState_22 : decode cX7_countState 22 = .ok (.if_icmp .ne 7, 3) := dAt wdX7_countState_0 adX7_countState_0.2.2.2.2.2.2.2.2.2.2.2.2.2.2.1 rfl
theorem dX7_countState_25 : decode cX7_countState 25 = .ok (.iconst 1, 1) := dAt wdX7_countState_0 adX7_countState_0.2.2.2.2.2.2.2.2.2.2.2.2.2.2.2 rfl
def bdX7_countState_26 : ByteArray := .mk #[167, 0, 4, 3, 96, 61, 132, 3, 1, 167, 255, 225, 28, 172]
theorem wdX7_countState_26 : LocW cX7_countState 26 bdX7_countState_26 := loc_of (by decide +kernel)
theorem adX7_countState_26 : De bdX7_countState_26 0 (.goto 4) 3 ∧ De bdX7_countState_26 3 (.iconst 0) 1 ∧ De bdX7_countState_26 4 (.iadd) 1 ∧ De bdX7_countState_26 5 (.istore_n 2) 1 ∧ De bdX7_countState_26 6 (.iinc 3 1) 3 ∧ De bdX7_countState_26 9 (.goto (-31)) 3 ∧ De bdX7_countState_26 12 (.iload_n 2) 1 ∧ De bdX7_countState_26 13 (.ireturn) 1 := by decide +kernel
theorem dX7_countState_26 : decode cX7_countState 26 = .ok (.goto 4, 3) := dAt wdX7_countState_26 adX7_countState_26.1 rfl
theorem dX7_countState_29 : decode cX7_countState 29 = .ok (.iconst 0, 1) := dAt wdX7_countState_26 adX7_countState_26.2.1 rfl
theorem dX7_countState_30 : decode cX7_countState 30 = .ok (.iadd, 1) := dAt wdX7_countState_26 adX7_countState_26.2.2.1 rfl
theorem dX7_countState_31 : decode cX7_countState 31 = .ok (.istore_n 2, 1) := dAt wdX7_countState_26 adX7_countState_26.2.2.2.1 rfl
theorem dX7_countState_32 : decode cX7_countState 32 = .ok (.iinc 3 1, 3) := dAt wdX7_countState_26 adX7_countState_26.2.2.2.2.1 rfl
theorem dX7_countState_35 : decode cX7_countState 35 = .ok (.goto (-31), 3) := dAt wdX7_countState_26 adX7_countState_26.2.2.2.2.2.1 rfl
theorem dX7_countState_38 : decode cX7_countState 38 = .ok (.iload_n 2, 1) := dAt wdX7_countState_26 adX7_countState_26.2.2.2.2.2.2.1 rfl
theorem dX7_countState_39 : decode cX7_countState 39 = .ok (.ireturn, 1) := dAt wdX7_countState_26 adX7_countState_26.2.2.2.2.2.2.2 rfl
def bdX7_countCorrected_0 : ByteArray := .mk #[3, 60, 3, 61, 28, 42, 180, 0, 60, 162, 0, 28, 27, 42, 28, 182, 0, 113, 180, 0, 168, 153, 0, 7, 4, 167, 0, 4]
theorem wdX7_countCorrected_0 : LocW cX7_countCorrected 0 bdX7_countCorrected_0 := loc_of (by decide +kernel)
theorem adX7_countCorrected_0 : De bdX7_countCorrected_0 0 (.iconst 0) 1 ∧ De bdX7_countCorrected_0 1 (.istore_n 1) 1 ∧ De bdX7_countCorrected_0 2 (.iconst 0) 1 ∧ De bdX7_countCorrected_0 3 (.istore_n 2) 1 ∧ De bdX7_countCorrected_0 4 (.iload_n 2) 1 ∧ De bdX7_countCorrected_0 5 (.aload_n 0) 1 ∧ De bdX7_countCorrected_0 6 (.getfield 60) 3 ∧ De bdX7_countCorrected_0 9 (.if_icmp .ge 28) 3 ∧ De bdX7_countCorrected_0 12 (.iload_n 1) 1 ∧ De bdX7_countCorrected_0 13 (.aload_n 0) 1 ∧ De bdX7_countCorrected_0 14 (.iload_n 2) 1 ∧ De bdX7_countCorrected_0 15 (.invokevirtual 113) 3 ∧ De bdX7_countCorrected_0 18 (.getfield 168) 3 ∧ De bdX7_countCorrected_0 21 (.ifCond .eq 7) 3 ∧ De bdX7_countCorrected_0 24 (.iconst 1) 1 ∧ De bdX7_countCorrected_0 25 (.goto 4) 3 := by decide +kernel
theorem dX7_countCorrected_0 : decode cX7_countCorrected 0 = .ok (.iconst 0, 1) := dAt wdX7_countCorrected_0 adX7_countCorrected_0.1 rfl
theorem dX7_countCorrected_1 : decode cX7_countCorrected 1 = .ok (.istore_n 1, 1) := dAt wdX7_countCorrected_0 adX7_countCorrected_0.2.1 rfl
theorem dX7_countCorrected_2 : decode cX7_countCorrected 2 = .ok (.iconst 0, 1) := dAt wdX7_countCorrected_0 adX7_countCorrected_0.2.2.1 rfl
theorem dX7_countCorrected_3 : decode cX7_countCorrected 3 = .ok (.istore_n 2, 1) := dAt wdX7_countCorrected_0 adX7_countCorrected_0.2.2.2.1 rfl
theorem dX7_countCorrected_4 : decode cX7_countCorrected 4 = .ok (.iload_n 2, 1) := dAt wdX7_countCorrected_0 adX7_countCorrected_0.2.2.2.2.1 rfl
theorem dX7_countCorrected_5 : decode cX7_countCorrected 5 = .ok (.aload_n 0, 1) := dAt wdX7_countCorrected_0 adX7_countCorrected_0.2.2.2.2.2.1 rfl
theorem dX7_countCorrected_6 : decode cX7_countCorrected 6 = .ok (.getfield 60, 3) := dAt wdX7_countCorrected_0 adX7_countCorrected_0.2.2.2.2.2.2.1 rfl
theorem dX7_countCorrected_9 : decode cX7_countCorrected 9 = .ok (.if_icmp .ge 28, 3) := dAt wdX7_countCorrected_0 adX7_countCorrected_0.2.2.2.2.2.2.2.1 rfl
theorem dX7_countCorrected_12 : decode cX7_countCorrected 12 = .ok (.iload_n 1, 1) := dAt wdX7_countCorrected_0 adX7_countCorrected_0.2.2.2.2.2.2.2.2.1 rfl
theorem dX7_countCorrected_13 : decode cX7_countCorrected 13 = .ok (.aload_n 0, 1) := dAt wdX7_countCorrected_0 adX7_countCorrected_0.2.2.2.2.2.2.2.2.2.1 rfl
theorem dX7_countCorrected_14 : decode cX7_countCorrected 14 = .ok (.iload_n 2, 1) := dAt wdX7_countCorrected_0 adX7_countCorrected_0.2.2.2.2.2.2.2.2.2.2.1 rfl
theorem dX7_countCorrected_15 : decode cX7_countCorrected 15 = .ok (.invokevirtual 113, 3) := dAt wdX7_countCorrected_0 adX7_countCorrected_0.2.2.2.2.2.2.2.2.2.2.2.1 rfl
theorem dX7_countCorrected_18 : decode cX7_countCorrected 18 = .ok (.getfield 168, 3) := dAt wdX7_countCorrected_0 adX7_countCorrected_0.2.2.2.2.2.2.2.2.2.2.2.2.1 rfl
theorem dX7_countCorrected_21 : decode cX7_countCorrected 21 = .ok (.ifCond .eq 7, 3) := dAt wdX7_countCorrected_0 adX7_countCorrected_0.2.2.2.2.2.2.2.2.2.2.2.2.2.1 rfl
theorem dX7_countCorrected_24 : decode cX7_countCorrected 24 = .ok (.iconst 1, 1) := dAt wdX7_countCorrected_0 adX7_countCorrected_0.2.2.2.2.2.2.2.2.2.2.2.2.2.2.1 rfl
theorem dX7_countCorrected_25 : decode cX7_countCorrected 25 = .ok (.goto 4, 3) := dAt wdX7_countCorrected_0 adX7_countCorrected_0.2.2.2.2.2.2.2.2.2.2.2.2.2.2.2 rfl
def bdX7_countCorrected_28 : ByteArray := .mk #[3, 96, 60, 132, 2, 1, 167, 255, 226, 27, 172]
theorem wdX7_countCorrected_28 : LocW cX7_countCorrected 28 bdX7_countCorrected_28 := loc_of (by decide +kernel)
theorem adX7_countCorrected_28 : De bdX7_countCorrected_28 0 (.iconst 0) 1 ∧ De bdX7_countCorrected_28 1 (.iadd) 1 ∧ De bdX7_countCorrected_28 2 (.istore_n 1) 1 ∧ De bdX7_countCorrected_28 3 (.iinc 2 1) 3 ∧ De bdX7_countCorrected_28 6 (.goto (-30)) 3 ∧ De bdX7_countCorrected_28 9 (.iload_n 1) 1 ∧ De bdX7_countCorrected_28 10 (.ireturn) 1 := by decide +kernel
theorem dX7_countCorrected_28 : decode cX7_countCorrected 28 = .ok (.iconst 0, 1) := dAt wdX7_countCorrected_28 adX7_countCorrected_28.1 rfl
theorem dX7_countCorrected_29 : decode cX7_countCorrected 29 = .ok (.iadd, 1) := dAt wdX7_countCorrected_28 adX7_countCorrected_28.2.1 rfl
theorem dX7_countCorrected_30 : decode cX7_countCorrected 30 = .ok (.istore_n 1, 1) := dAt wdX7_countCorrected_28 adX7_countCorrected_28.2.2.1 rfl
theorem dX7_countCorrected_31 : decode cX7_countCorrected 31 = .ok (.iinc 2 1, 3) := dAt wdX7_countCorrected_28 adX7_countCorrected_28.2.2.2.1 rfl
theorem dX7_countCorrected_34 : decode cX7_countCorrected 34 = .ok (.goto (-30), 3) := dAt wdX7_countCorrected_28 adX7_countCorrected_28.2.2.2.2.1 rfl
theorem dX7_countCorrected_37 : decode cX7_countCorrected 37 = .ok (.iload_n 1, 1) := dAt wdX7_countCorrected_28 adX7_countCorrected_28.2.2.2.2.2.1 rfl
theorem dX7_countCorrected_38 : decode cX7_countCorrected 38 = .ok (.ireturn, 1) := dAt wdX7_countCorrected_28 adX7_countCorrected_28.2.2.2.2.2.2 rfl
def bdX7_countMarked_0 : ByteArray := .mk #[3, 61, 3, 62, 29, 42, 180, 0, 60, 162, 0, 43, 42, 29, 182, 0, 113, 58, 4, 28, 25, 4, 180, 1, 62, 154, 0, 18]
theorem wdX7_countMarked_0 : LocW cX7_countMarked 0 bdX7_countMarked_0 := loc_of (by decide +kernel)
theorem adX7_countMarked_0 : De bdX7_countMarked_0 0 (.iconst 0) 1 ∧ De bdX7_countMarked_0 1 (.istore_n 2) 1 ∧ De bdX7_countMarked_0 2 (.iconst 0) 1 ∧ De bdX7_countMarked_0 3 (.istore_n 3) 1 ∧ De bdX7_countMarked_0 4 (.iload_n 3) 1 ∧ De bdX7_countMarked_0 5 (.aload_n 0) 1 ∧ De bdX7_countMarked_0 6 (.getfield 60) 3 ∧ De bdX7_countMarked_0 9 (.if_icmp .ge 43) 3 ∧ De bdX7_countMarked_0 12 (.aload_n 0) 1 ∧ De bdX7_countMarked_0 13 (.iload_n 3) 1 ∧ De bdX7_countMarked_0 14 (.invokevirtual 113) 3 ∧ De bdX7_countMarked_0 17 (.astore 4) 2 ∧ De bdX7_countMarked_0 19 (.iload_n 2) 1 ∧ De bdX7_countMarked_0 20 (.aload 4) 2 ∧ De bdX7_countMarked_0 22 (.getfield 318) 3 ∧ De bdX7_countMarked_0 25 (.ifCond .ne 18) 3 := by decide +kernel
theorem dX7_countMarked_0 : decode cX7_countMarked 0 = .ok (.iconst 0, 1) := dAt wdX7_countMarked_0 adX7_countMarked_0.1 rfl
theorem dX7_countMarked_1 : decode cX7_countMarked 1 = .ok (.istore_n 2, 1) := dAt wdX7_countMarked_0 adX7_countMarked_0.2.1 rfl
theorem dX7_countMarked_2 : decode cX7_countMarked 2 = .ok (.iconst 0, 1) := dAt wdX7_countMarked_0 adX7_countMarked_0.2.2.1 rfl
theorem dX7_countMarked_3 : decode cX7_countMarked 3 = .ok (.istore_n 3, 1) := dAt wdX7_countMarked_0 adX7_countMarked_0.2.2.2.1 rfl
theorem dX7_countMarked_4 : decode cX7_countMarked 4 = .ok (.iload_n 3, 1) := dAt wdX7_countMarked_0 adX7_countMarked_0.2.2.2.2.1 rfl
theorem dX7_countMarked_5 : decode cX7_countMarked 5 = .ok (.aload_n 0, 1) := dAt wdX7_countMarked_0 adX7_countMarked_0.2.2.2.2.2.1 rfl
theorem dX7_countMarked_6 : decode cX7_countMarked 6 = .ok (.getfield 60, 3) := dAt wdX7_countMarked_0 adX7_countMarked_0.2.2.2.2.2.2.1 rfl
theorem dX7_countMarked_9 : decode cX7_countMarked 9 = .ok (.if_icmp .ge 43, 3) := dAt wdX7_countMarked_0 adX7_countMarked_0.2.2.2.2.2.2.2.1 rfl
theorem dX7_countMarked_12 : decode cX7_countMarked 12 = .ok (.aload_n 0, 1) := dAt wdX7_countMarked_0 adX7_countMarked_0.2.2.2.2.2.2.2.2.1 rfl
theorem dX7_countMarked_13 : decode cX7_countMarked 13 = .ok (.iload_n 3, 1) := dAt wdX7_countMarked_0 adX7_countMarked_0.2.2.2.2.2.2.2.2.2.1 rfl
theorem dX7_countMarked_14 : decode cX7_countMarked 14 = .ok (.invokevirtual 113, 3) := dAt wdX7_countMarked_0 adX7_countMarked_0.2.2.2.2.2.2.2.2.2.2.1 rfl
theorem dX7_countMarked_17 : decode cX7_countMarked 17 = .ok (.astore 4, 2) := dAt wdX7_countMarked_0 adX7_countMarked_0.2.2.2.2.2.2.2.2.2.2.2.1 rfl
theorem dX7_countMarked_19 : decode cX7_countMarked 19 = .ok (.iload_n 2, 1) := dAt wdX7_countMarked_0 adX7_countMarked_0.2.2.2.2.2.2.2.2.2.2.2.2.1 rfl
theorem dX7_countMarked_20 : decode cX7_countMarked 20 = .ok (.aload 4, 2) := dAt wdX7_countMarked_0 adX7_countMarked_0.2.2.2.2.2.2.2.2.2.2.2.2.2.1 rfl
theorem dX7_countMarked_22 : decode cX7_countMarked 22 = .ok (.getfield 318, 3) := dAt wdX7_countMarked_0 adX7_countMarked_0.2.2.2.2.2.2.2.2.2.2.2.2.2.2.1 rfl
theorem dX7_countMarked_25 : decode cX7_countMarked 25 = .ok (.ifCond .ne 18, 3) := dAt wdX7_countMarked_0 adX7_countMarked_0.2.2.2.2.2.2.2.2.2.2.2.2.2.2.2 rfl
def bdX7_countMarked_28 : ByteArray := .mk #[25, 4, 180, 1, 122, 27, 126, 27, 160, 0, 7, 4, 167, 0, 4, 3, 96, 61, 132, 3, 1, 167, 255, 211, 28, 172]
theorem wdX7_countMarked_28 : LocW cX7_countMarked 28 bdX7_countMarked_28 := loc_of (by decide +kernel)
theorem adX7_countMarked_28 : De bdX7_countMarked_28 0 (.aload 4) 2 ∧ De bdX7_countMarked_28 2 (.getfield 378) 3 ∧ De bdX7_countMarked_28 5 (.iload_n 1) 1 ∧ De bdX7_countMarked_28 6 (.iand) 1 ∧ De bdX7_countMarked_28 7 (.iload_n 1) 1 ∧ De bdX7_countMarked_28 8 (.if_icmp .ne 7) 3 ∧ De bdX7_countMarked_28 11 (.iconst 1) 1 ∧ De bdX7_countMarked_28 12 (.goto 4) 3 ∧ De bdX7_countMarked_28 15 (.iconst 0) 1 ∧ De bdX7_countMarked_28 16 (.iadd) 1 ∧ De bdX7_countMarked_28 17 (.istore_n 2) 1 ∧ De bdX7_countMarked_28 18 (.iinc 3 1) 3 ∧ De bdX7_countMarked_28 21 (.goto (-45)) 3 ∧ De bdX7_countMarked_28 24 (.iload_n 2) 1 ∧ De bdX7_countMarked_28 25 (.ireturn) 1 := by decide +kernel
theorem dX7_countMarked_28 : decode cX7_countMarked 28 = .ok (.aload 4, 2) := dAt wdX7_countMarked_28 adX7_countMarked_28.1 rfl
theorem dX7_countMarked_30 : decode cX7_countMarked 30 = .ok (.getfield 378, 3) := dAt wdX7_countMarked_28 adX7_countMarked_28.2.1 rfl
theorem dX7_countMarked_33 : decode cX7_countMarked 33 = .ok (.iload_n 1, 1) := dAt wdX7_countMarked_28 adX7_countMarked_28.2.2.1 rfl
theorem dX7_countMarked_34 : decode cX7_countMarked 34 = .ok (.iand, 1) := dAt wdX7_countMarked_28 adX7_countMarked_28.2.2.2.1 rfl
theorem dX7_countMarked_35 : decode cX7_countMarked 35 = .ok (.iload_n 1, 1) := dAt wdX7_countMarked_28 adX7_countMarked_28.2.2.2.2.1 rfl
theorem dX7_countMarked_36 : decode cX7_countMarked 36 = .ok (.if_icmp .ne 7, 3) := dAt wdX7_countMarked_28 adX7_countMarked_28.2.2.2.2.2.1 rfl
theorem dX7_countMarked_39 : decode cX7_countMarked 39 = .ok (.iconst 1, 1) := dAt wdX7_countMarked_28 adX7_countMarked_28.2.2.2.2.2.2.1 rfl
theorem dX7_countMarked_40 : decode cX7_countMarked 40 = .ok (.goto 4, 3) := dAt wdX7_countMarked_28 adX7_countMarked_28.2.2.2.2.2.2.2.1 rfl
theorem dX7_countMarked_43 : decode cX7_countMarked 43 = .ok (.iconst 0, 1) := dAt wdX7_countMarked_28 adX7_countMarked_28.2.2.2.2.2.2.2.2.1 rfl
theorem dX7_countMarked_44 : decode cX7_countMarked 44 = .ok (.iadd, 1) := dAt wdX7_countMarked_28 adX7_countMarked_28.2.2.2.2.2.2.2.2.2.1 rfl
theorem dX7_countMarked_45 : decode cX7_countMarked 45 = .ok (.istore_n 2, 1) := dAt wdX7_countMarked_28 adX7_countMarked_28.2.2.2.2.2.2.2.2.2.2.1 rfl
theorem dX7_countMarked_46 : decode cX7_countMarked 46 = .ok (.iinc 3 1, 3) := dAt wdX7_countMarked_28 adX7_countMarked_28.2.2.2.2.2.2.2.2.2.2.2.1 rfl
theorem dX7_countMarked_49 : decode cX7_countMarked 49 = .ok (.goto (-45), 3) := dAt wdX7_countMarked_28 adX7_countMarked_28.2.2.2.2.2.2.2.2.2.2.2.2.1 rfl
theorem dX7_countMarked_52 : decode cX7_countMarked 52 = .ok (.iload_n 2, 1) := dAt wdX7_countMarked_28 adX7_countMarked_28.2.2.2.2.2.2.2.2.2.2.2.2.2.1 rfl
theorem dX7_countMarked_53 : decode cX7_countMarked 53 = .ok (.ireturn, 1) := dAt wdX7_countMarked_28 adX7_countMarked_28.2.2.2.2.2.2.2.2.2.2.2.2.2.2 rfl
def bdX7_countRead_0 : ByteArray := .mk #[3, 62, 3, 54, 4, 21, 4, 42, 180, 0, 60, 162, 0, 75, 42, 21, 4, 182, 0, 113, 58, 5, 25, 5, 180, 1, 122, 153, 0, 7, 4]
theorem wdX7_countRead_0 : LocW cX7_countRead 0 bdX7_countRead_0 := loc_of (by decide +kernel)
theorem adX7_countRead_0 : De bdX7_countRead_0 0 (.iconst 0) 1 ∧ De bdX7_countRead_0 1 (.istore_n 3) 1 ∧ De bdX7_countRead_0 2 (.iconst 0) 1 ∧ De bdX7_countRead_0 3 (.istore 4) 2 ∧ De bdX7_countRead_0 5 (.iload 4) 2 ∧ De bdX7_countRead_0 7 (.aload_n 0) 1 ∧ De bdX7_countRead_0 8 (.getfield 60) 3 ∧ De bdX7_countRead_0 11 (.if_icmp .ge 75) 3 ∧ De bdX7_countRead_0 14 (.aload_n 0) 1 ∧ De bdX7_countRead_0 15 (.iload 4) 2 ∧ De bdX7_countRead_0 17 (.invokevirtual 113) 3 ∧ De bdX7_countRead_0 20 (.astore 5) 2 ∧ De bdX7_countRead_0 22 (.aload 5) 2 ∧ De bdX7_countRead_0 24 (.getfield 378) 3 ∧ De bdX7_countRead_0 27 (.ifCond .eq 7) 3 ∧ De bdX7_countRead_0 30 (.iconst 1) 1 := by decide +kernel
theorem dX7_countRead_0 : decode cX7_countRead 0 = .ok (.iconst 0, 1) := dAt wdX7_countRead_0 adX7_countRead_0.1 rfl
theorem dX7_countRead_1 : decode cX7_countRead 1 = .ok (.istore_n 3, 1) := dAt wdX7_countRead_0 adX7_countRead_0.2.1 rfl
theorem dX7_countRead_2 : decode cX7_countRead 2 = .ok (.iconst 0, 1) := dAt wdX7_countRead_0 adX7_countRead_0.2.2.1 rfl
theorem dX7_countRead_3 : decode cX7_countRead 3 = .ok (.istore 4, 2) := dAt wdX7_countRead_0 adX7_countRead_0.2.2.2.1 rfl
theorem dX7_countRead_5 : decode cX7_countRead 5 = .ok (.iload 4, 2) := dAt wdX7_countRead_0 adX7_countRead_0.2.2.2.2.1 rfl
theorem dX7_countRead_7 : decode cX7_countRead 7 = .ok (.aload_n 0, 1) := dAt wdX7_countRead_0 adX7_countRead_0.2.2.2.2.2.1 rfl
theorem dX7_countRead_8 : decode cX7_countRead 8 = .ok (.getfield 60, 3) := dAt wdX7_countRead_0 adX7_countRead_0.2.2.2.2.2.2.1 rfl
theorem dX7_countRead_11 : decode cX7_countRead 11 = .ok (.if_icmp .ge 75, 3) := dAt wdX7_countRead_0 adX7_countRead_0.2.2.2.2.2.2.2.1 rfl
theorem dX7_countRead_14 : decode cX7_countRead 14 = .ok (.aload_n 0, 1) := dAt wdX7_countRead_0 adX7_countRead_0.2.2.2.2.2.2.2.2.1 rfl
theorem dX7_countRead_15 : decode cX7_countRead 15 = .ok (.iload 4, 2) := dAt wdX7_countRead_0 adX7_countRead_0.2.2.2.2.2.2.2.2.2.1 rfl
theorem dX7_countRead_17 : decode cX7_countRead 17 = .ok (.invokevirtual 113, 3) := dAt wdX7_countRead_0 adX7_countRead_0.2.2.2.2.2.2.2.2.2.2.1 rfl
theorem dX7_countRead_20 : decode cX7_countRead 20 = .ok (.astore 5, 2) := dAt wdX7_countRead_0 adX7_countRead_0.2.2.2.2.2.2.2.2.2.2.2.1 rfl
theorem dX7_countRead_22 : decode cX7_countRead 22 = .ok (.aload 5, 2) := dAt wdX7_countRead_0 adX7_countRead_0.2.2.2.2.2.2.2.2.2.2.2.2.1 rfl
theorem dX7_countRead_24 : decode cX7_countRead 24 = .ok (.getfield 378, 3) := dAt wdX7_countRead_0 adX7_countRead_0.2.2.2.2.2.2.2.2.2.2.2.2.2.1 rfl
theorem dX7_countRead_27 : decode cX7_countRead 27 = .ok (.ifCond .eq 7, 3) := dAt wdX7_countRead_0 adX7_countRead_0.2.2.2.2.2.2.2.2.2.2.2.2.2.2.1 rfl
theorem dX7_countRead_30 : decode cX7_countRead 30 = .ok (.iconst 1, 1) := dAt wdX7_countRead_0 adX7_countRead_0.2.2.2.2.2.2.2.2.2.2.2.2.2.2.2 rfl
def bdX7_countRead_31 : ByteArray := .mk #[167, 0, 4, 3, 54, 6, 25, 5, 180, 1, 125, 158, 0, 7, 4, 167, 0, 4, 3, 54, 7, 29, 25, 5, 180, 1, 62, 154, 0, 19, 21, 6, 27]
theorem wdX7_countRead_31 : LocW cX7_countRead 31 bdX7_countRead_31 := loc_of (by decide +kernel)
theorem adX7_countRead_31 : De bdX7_countRead_31 0 (.goto 4) 3 ∧ De bdX7_countRead_31 3 (.iconst 0) 1 ∧ De bdX7_countRead_31 4 (.istore 6) 2 ∧ De bdX7_countRead_31 6 (.aload 5) 2 ∧ De bdX7_countRead_31 8 (.getfield 381) 3 ∧ De bdX7_countRead_31 11 (.ifCond .le 7) 3 ∧ De bdX7_countRead_31 14 (.iconst 1) 1 ∧ De bdX7_countRead_31 15 (.goto 4) 3 ∧ De bdX7_countRead_31 18 (.iconst 0) 1 ∧ De bdX7_countRead_31 19 (.istore 7) 2 ∧ De bdX7_countRead_31 21 (.iload_n 3) 1 ∧ De bdX7_countRead_31 22 (.aload 5) 2 ∧ De bdX7_countRead_31 24 (.getfield 318) 3 ∧ De bdX7_countRead_31 27 (.ifCond .ne 19) 3 ∧ De bdX7_countRead_31 30 (.iload 6) 2 ∧ De bdX7_countRead_31 32 (.iload_n 1) 1 := by decide +kernel
theorem dX7_countRead_31 : decode cX7_countRead 31 = .ok (.goto 4, 3) := dAt wdX7_countRead_31 adX7_countRead_31.1 rfl
theorem dX7_countRead_34 : decode cX7_countRead 34 = .ok (.iconst 0, 1) := dAt wdX7_countRead_31 adX7_countRead_31.2.1 rfl
theorem dX7_countRead_35 : decode cX7_countRead 35 = .ok (.istore 6, 2) := dAt wdX7_countRead_31 adX7_countRead_31.2.2.1 rfl
theorem dX7_countRead_37 : decode cX7_countRead 37 = .ok (.aload 5, 2) := dAt wdX7_countRead_31 adX7_countRead_31.2.2.2.1 rfl
theorem dX7_countRead_39 : decode cX7_countRead 39 = .ok (.getfield 381, 3) := dAt wdX7_countRead_31 adX7_countRead_31.2.2.2.2.1 rfl
theorem dX7_countRead_42 : decode cX7_countRead 42 = .ok (.ifCond .le 7, 3) := dAt wdX7_countRead_31 adX7_countRead_31.2.2.2.2.2.1 rfl
theorem dX7_countRead_45 : decode cX7_countRead 45 = .ok (.iconst 1, 1) := dAt wdX7_countRead_31 adX7_countRead_31.2.2.2.2.2.2.1 rfl
theorem dX7_countRead_46 : decode cX7_countRead 46 = .ok (.goto 4, 3) := dAt wdX7_countRead_31 adX7_countRead_31.2.2.2.2.2.2.2.1 rfl
theorem dX7_countRead_49 : decode cX7_countRead 49 = .ok (.iconst 0, 1) := dAt wdX7_countRead_31 adX7_countRead_31.2.2.2.2.2.2.2.2.1 rfl
theorem dX7_countRead_50 : decode cX7_countRead 50 = .ok (.istore 7, 2) := dAt wdX7_countRead_31 adX7_countRead_31.2.2.2.2.2.2.2.2.2.1 rfl
theorem dX7_countRead_52 : decode cX7_countRead 52 = .ok (.iload_n 3, 1) := dAt wdX7_countRead_31 adX7_countRead_31.2.2.2.2.2.2.2.2.2.2.1 rfl
theorem dX7_countRead_53 : decode cX7_countRead 53 = .ok (.aload 5, 2) := dAt wdX7_countRead_31 adX7_countRead_31.2.2.2.2.2.2.2.2.2.2.2.1 rfl
theorem dX7_countRead_55 : decode cX7_countRead 55 = .ok (.getfield 318, 3) := dAt wdX7_countRead_31 adX7_countRead_31.2.2.2.2.2.2.2.2.2.2.2.2.1 rfl
theorem dX7_countRead_58 : decode cX7_countRead 58 = .ok (.ifCond .ne 19, 3) := dAt wdX7_countRead_31 adX7_countRead_31.2.2.2.2.2.2.2.2.2.2.2.2.2.1 rfl
theorem dX7_countRead_61 : decode cX7_countRead 61 = .ok (.iload 6, 2) := dAt wdX7_countRead_31 adX7_countRead_31.2.2.2.2.2.2.2.2.2.2.2.2.2.2.1 rfl
theorem dX7_countRead_63 : decode cX7_countRead 63 = .ok (.iload_n 1, 1) := dAt wdX7_countRead_31 adX7_countRead_31.2.2.2.2.2.2.2.2.2.2.2.2.2.2.2 rfl
def bdX7_countRead_64 : ByteArray := .mk #[160, 0, 13, 21, 7, 28, 160, 0, 7, 4, 167, 0, 4, 3, 96, 62, 132, 4, 1, 167, 255, 178, 29, 172]
theorem wdX7_countRead_64 : LocW cX7_countRead 64 bdX7_countRead_64 := loc_of (by decide +kernel)
theorem adX7_countRead_64 : De bdX7_countRead_64 0 (.if_icmp .ne 13) 3 ∧ De bdX7_countRead_64 3 (.iload 7) 2 ∧ De bdX7_countRead_64 5 (.iload_n 2) 1 ∧ De bdX7_countRead_64 6 (.if_icmp .ne 7) 3 ∧ De bdX7_countRead_64 9 (.iconst 1) 1 ∧ De bdX7_countRead_64 10 (.goto 4) 3 ∧ De bdX7_countRead_64 13 (.iconst 0) 1 ∧ De bdX7_countRead_64 14 (.iadd) 1 ∧ De bdX7_countRead_64 15 (.istore_n 3) 1 ∧ De bdX7_countRead_64 16 (.iinc 4 1) 3 ∧ De bdX7_countRead_64 19 (.goto (-78)) 3 ∧ De bdX7_countRead_64 22 (.iload_n 3) 1 ∧ De bdX7_countRead_64 23 (.ireturn) 1 := by decide +kernel
theorem dX7_countRead_64 : decode cX7_countRead 64 = .ok (.if_icmp .ne 13, 3) := dAt wdX7_countRead_64 adX7_countRead_64.1 rfl
theorem dX7_countRead_67 : decode cX7_countRead 67 = .ok (.iload 7, 2) := dAt wdX7_countRead_64 adX7_countRead_64.2.1 rfl
theorem dX7_countRead_69 : decode cX7_countRead 69 = .ok (.iload_n 2, 1) := dAt wdX7_countRead_64 adX7_countRead_64.2.2.1 rfl
theorem dX7_countRead_70 : decode cX7_countRead 70 = .ok (.if_icmp .ne 7, 3) := dAt wdX7_countRead_64 adX7_countRead_64.2.2.2.1 rfl
theorem dX7_countRead_73 : decode cX7_countRead 73 = .ok (.iconst 1, 1) := dAt wdX7_countRead_64 adX7_countRead_64.2.2.2.2.1 rfl
theorem dX7_countRead_74 : decode cX7_countRead 74 = .ok (.goto 4, 3) := dAt wdX7_countRead_64 adX7_countRead_64.2.2.2.2.2.1 rfl
theorem dX7_countRead_77 : decode cX7_countRead 77 = .ok (.iconst 0, 1) := dAt wdX7_countRead_64 adX7_countRead_64.2.2.2.2.2.2.1 rfl
theorem dX7_countRead_78 : decode cX7_countRead 78 = .ok (.iadd, 1) := dAt wdX7_countRead_64 adX7_countRead_64.2.2.2.2.2.2.2.1 rfl
theorem dX7_countRead_79 : decode cX7_countRead 79 = .ok (.istore_n 3, 1) := dAt wdX7_countRead_64 adX7_countRead_64.2.2.2.2.2.2.2.2.1 rfl
theorem dX7_countRead_80 : decode cX7_countRead 80 = .ok (.iinc 4 1, 3) := dAt wdX7_countRead_64 adX7_countRead_64.2.2.2.2.2.2.2.2.2.1 rfl
theorem dX7_countRead_83 : decode cX7_countRead 83 = .ok (.goto (-78), 3) := dAt wdX7_countRead_64 adX7_countRead_64.2.2.2.2.2.2.2.2.2.2.1 rfl
theorem dX7_countRead_86 : decode cX7_countRead 86 = .ok (.iload_n 3, 1) := dAt wdX7_countRead_64 adX7_countRead_64.2.2.2.2.2.2.2.2.2.2.2.1 rfl
theorem dX7_countRead_87 : decode cX7_countRead 87 = .ok (.ireturn, 1) := dAt wdX7_countRead_64 adX7_countRead_64.2.2.2.2.2.2.2.2.2.2.2.2 rfl
def bdX7_missed_0 : ByteArray := .mk #[42, 6, 182, 1, 128, 60, 27, 154, 0, 5, 2, 172, 42, 4, 182, 1, 128, 27, 100, 42, 5, 182, 1, 128]
theorem wdX7_missed_0 : LocW cX7_missed 0 bdX7_missed_0 := loc_of (by decide +kernel)
theorem adX7_missed_0 : De bdX7_missed_0 0 (.aload_n 0) 1 ∧ De bdX7_missed_0 1 (.iconst 3) 1 ∧ De bdX7_missed_0 2 (.invokevirtual 384) 3 ∧ De bdX7_missed_0 5 (.istore_n 1) 1 ∧ De bdX7_missed_0 6 (.iload_n 1) 1 ∧ De bdX7_missed_0 7 (.ifCond .ne 5) 3 ∧ De bdX7_missed_0 10 (.iconst (-1)) 1 ∧ De bdX7_missed_0 11 (.ireturn) 1 ∧ De bdX7_missed_0 12 (.aload_n 0) 1 ∧ De bdX7_missed_0 13 (.iconst 1) 1 ∧ De bdX7_missed_0 14 (.invokevirtual 384) 3 ∧ De bdX7_missed_0 17 (.iload_n 1) 1 ∧ De bdX7_missed_0 18 (.isub) 1 ∧ De bdX7_missed_0 19 (.aload_n 0) 1 ∧ De bdX7_missed_0 20 (.iconst 2) 1 ∧ De bdX7_missed_0 21 (.invokevirtual 384) 3 := by decide +kernel
theorem dX7_missed_0 : decode cX7_missed 0 = .ok (.aload_n 0, 1) := dAt wdX7_missed_0 adX7_missed_0.1 rfl
theorem dX7_missed_1 : decode cX7_missed 1 = .ok (.iconst 3, 1) := dAt wdX7_missed_0 adX7_missed_0.2.1 rfl
theorem dX7_missed_2 : decode cX7_missed 2 = .ok (.invokevirtual 384, 3) := dAt wdX7_missed_0 adX7_missed_0.2.2.1 rfl
theorem dX7_missed_5 : decode cX7_missed 5 = .ok (.istore_n 1, 1) := dAt wdX7_missed_0 adX7_missed_0.2.2.2.1 rfl
theorem dX7_missed_6 : decode cX7_missed 6 = .ok (.iload_n 1, 1) := dAt wdX7_missed_0 adX7_missed_0.2.2.2.2.1 rfl
theorem dX7_missed_7 : decode cX7_missed 7 = .ok (.ifCond .ne 5, 3) := dAt wdX7_missed_0 adX7_missed_0.2.2.2.2.2.1 rfl
theorem dX7_missed_10 : decode cX7_missed 10 = .ok (.iconst (-1), 1) := dAt wdX7_missed_0 adX7_missed_0.2.2.2.2.2.2.1 rfl
theorem dX7_missed_11 : decode cX7_missed 11 = .ok (.ireturn, 1) := dAt wdX7_missed_0 adX7_missed_0.2.2.2.2.2.2.2.1 rfl
theorem dX7_missed_12 : decode cX7_missed 12 = .ok (.aload_n 0, 1) := dAt wdX7_missed_0 adX7_missed_0.2.2.2.2.2.2.2.2.1 rfl
theorem dX7_missed_13 : decode cX7_missed 13 = .ok (.iconst 1, 1) := dAt wdX7_missed_0 adX7_missed_0.2.2.2.2.2.2.2.2.2.1 rfl
theorem dX7_missed_14 : decode cX7_missed 14 = .ok (.invokevirtual 384, 3) := dAt wdX7_missed_0 adX7_missed_0.2.2.2.2.2.2.2.2.2.2.1 rfl
theorem dX7_missed_17 : decode cX7_missed 17 = .ok (.iload_n 1, 1) := dAt wdX7_missed_0 adX7_missed_0.2.2.2.2.2.2.2.2.2.2.2.1 rfl
theorem dX7_missed_18 : decode cX7_missed 18 = .ok (.isub, 1) := dAt wdX7_missed_0 adX7_missed_0.2.2.2.2.2.2.2.2.2.2.2.2.1 rfl
theorem dX7_missed_19 : decode cX7_missed 19 = .ok (.aload_n 0, 1) := dAt wdX7_missed_0 adX7_missed_0.2.2.2.2.2.2.2.2.2.2.2.2.2.1 rfl
theorem dX7_missed_20 : decode cX7_missed 20 = .ok (.iconst 2, 1) := dAt wdX7_missed_0 adX7_missed_0.2.2.2.2.2.2.2.2.2.2.2.2.2.2.1 rfl
theorem dX7_missed_21 : decode cX7_missed 21 = .ok (.invokevirtual 384, 3) := dAt wdX7_missed_0 adX7_missed_0.2.2.2.2.2.2.2.2.2.2.2.2.2.2.2 rfl
def bdX7_missed_24 : ByteArray := .mk #[27, 100, 104, 27, 108, 172]
theorem wdX7_missed_24 : LocW cX7_missed 24 bdX7_missed_24 := loc_of (by decide +kernel)
theorem adX7_missed_24 : De bdX7_missed_24 0 (.iload_n 1) 1 ∧ De bdX7_missed_24 1 (.isub) 1 ∧ De bdX7_missed_24 2 (.imul) 1 ∧ De bdX7_missed_24 3 (.iload_n 1) 1 ∧ De bdX7_missed_24 4 (.idiv) 1 ∧ De bdX7_missed_24 5 (.ireturn) 1 := by decide +kernel
theorem dX7_missed_24 : decode cX7_missed 24 = .ok (.iload_n 1, 1) := dAt wdX7_missed_24 adX7_missed_24.1 rfl
theorem dX7_missed_25 : decode cX7_missed 25 = .ok (.isub, 1) := dAt wdX7_missed_24 adX7_missed_24.2.1 rfl
theorem dX7_missed_26 : decode cX7_missed 26 = .ok (.imul, 1) := dAt wdX7_missed_24 adX7_missed_24.2.2.1 rfl
theorem dX7_missed_27 : decode cX7_missed 27 = .ok (.iload_n 1, 1) := dAt wdX7_missed_24 adX7_missed_24.2.2.2.1 rfl
theorem dX7_missed_28 : decode cX7_missed 28 = .ok (.idiv, 1) := dAt wdX7_missed_24 adX7_missed_24.2.2.2.2.1 rfl
theorem dX7_missed_29 : decode cX7_missed 29 = .ok (.ireturn, 1) := dAt wdX7_missed_24 adX7_missed_24.2.2.2.2.2 rfl
def bdX7_countJobs_0 : ByteArray := .mk #[3, 60, 3, 61, 28, 42, 180, 0, 51, 162, 0, 20, 27, 42, 28, 182, 0, 106, 180, 0, 202, 96, 60, 132, 2, 1]
theorem wdX7_countJobs_0 : LocW cX7_countJobs 0 bdX7_countJobs_0 := loc_of (by decide +kernel)
theorem adX7_countJobs_0 : De bdX7_countJobs_0 0 (.iconst 0) 1 ∧ De bdX7_countJobs_0 1 (.istore_n 1) 1 ∧ De bdX7_countJobs_0 2 (.iconst 0) 1 ∧ De bdX7_countJobs_0 3 (.istore_n 2) 1 ∧ De bdX7_countJobs_0 4 (.iload_n 2) 1 ∧ De bdX7_countJobs_0 5 (.aload_n 0) 1 ∧ De bdX7_countJobs_0 6 (.getfield 51) 3 ∧ De bdX7_countJobs_0 9 (.if_icmp .ge 20) 3 ∧ De bdX7_countJobs_0 12 (.iload_n 1) 1 ∧ De bdX7_countJobs_0 13 (.aload_n 0) 1 ∧ De bdX7_countJobs_0 14 (.iload_n 2) 1 ∧ De bdX7_countJobs_0 15 (.invokevirtual 106) 3 ∧ De bdX7_countJobs_0 18 (.getfield 202) 3 ∧ De bdX7_countJobs_0 21 (.iadd) 1 ∧ De bdX7_countJobs_0 22 (.istore_n 1) 1 ∧ De bdX7_countJobs_0 23 (.iinc 2 1) 3 := by decide +kernel
theorem dX7_countJobs_0 : decode cX7_countJobs 0 = .ok (.iconst 0, 1) := dAt wdX7_countJobs_0 adX7_countJobs_0.1 rfl
theorem dX7_countJobs_1 : decode cX7_countJobs 1 = .ok (.istore_n 1, 1) := dAt wdX7_countJobs_0 adX7_countJobs_0.2.1 rfl
theorem dX7_countJobs_2 : decode cX7_countJobs 2 = .ok (.iconst 0, 1) := dAt wdX7_countJobs_0 adX7_countJobs_0.2.2.1 rfl
theorem dX7_countJobs_3 : decode cX7_countJobs 3 = .ok (.istore_n 2, 1) := dAt wdX7_countJobs_0 adX7_countJobs_0.2.2.2.1 rfl
theorem dX7_countJobs_4 : decode cX7_countJobs 4 = .ok (.iload_n 2, 1) := dAt wdX7_countJobs_0 adX7_countJobs_0.2.2.2.2.1 rfl
theorem dX7_countJobs_5 : decode cX7_countJobs 5 = .ok (.aload_n 0, 1) := dAt wdX7_countJobs_0 adX7_countJobs_0.2.2.2.2.2.1 rfl
theorem dX7_countJobs_6 : decode cX7_countJobs 6 = .ok (.getfield 51, 3) := dAt wdX7_countJobs_0 adX7_countJobs_0.2.2.2.2.2.2.1 rfl
theorem dX7_countJobs_9 : decode cX7_countJobs 9 = .ok (.if_icmp .ge 20, 3) := dAt wdX7_countJobs_0 adX7_countJobs_0.2.2.2.2.2.2.2.1 rfl
theorem dX7_countJobs_12 : decode cX7_countJobs 12 = .ok (.iload_n 1, 1) := dAt wdX7_countJobs_0 adX7_countJobs_0.2.2.2.2.2.2.2.2.1 rfl
theorem dX7_countJobs_13 : decode cX7_countJobs 13 = .ok (.aload_n 0, 1) := dAt wdX7_countJobs_0 adX7_countJobs_0.2.2.2.2.2.2.2.2.2.1 rfl
theorem dX7_countJobs_14 : decode cX7_countJobs 14 = .ok (.iload_n 2, 1) := dAt wdX7_countJobs_0 adX7_countJobs_0.2.2.2.2.2.2.2.2.2.2.1 rfl
theorem dX7_countJobs_15 : decode cX7_countJobs 15 = .ok (.invokevirtual 106, 3) := dAt wdX7_countJobs_0 adX7_countJobs_0.2.2.2.2.2.2.2.2.2.2.2.1 rfl
theorem dX7_countJobs_18 : decode cX7_countJobs 18 = .ok (.getfield 202, 3) := dAt wdX7_countJobs_0 adX7_countJobs_0.2.2.2.2.2.2.2.2.2.2.2.2.1 rfl
theorem dX7_countJobs_21 : decode cX7_countJobs 21 = .ok (.iadd, 1) := dAt wdX7_countJobs_0 adX7_countJobs_0.2.2.2.2.2.2.2.2.2.2.2.2.2.1 rfl
theorem dX7_countJobs_22 : decode cX7_countJobs 22 = .ok (.istore_n 1, 1) := dAt wdX7_countJobs_0 adX7_countJobs_0.2.2.2.2.2.2.2.2.2.2.2.2.2.2.1 rfl
theorem dX7_countJobs_23 : decode cX7_countJobs 23 = .ok (.iinc 2 1, 3) := dAt wdX7_countJobs_0 adX7_countJobs_0.2.2.2.2.2.2.2.2.2.2.2.2.2.2.2 rfl
def bdX7_countJobs_26 : ByteArray := .mk #[167, 255, 234, 27, 172]
theorem wdX7_countJobs_26 : LocW cX7_countJobs 26 bdX7_countJobs_26 := loc_of (by decide +kernel)
theorem adX7_countJobs_26 : De bdX7_countJobs_26 0 (.goto (-22)) 3 ∧ De bdX7_countJobs_26 3 (.iload_n 1) 1 ∧ De bdX7_countJobs_26 4 (.ireturn) 1 := by decide +kernel
theorem dX7_countJobs_26 : decode cX7_countJobs 26 = .ok (.goto (-22), 3) := dAt wdX7_countJobs_26 adX7_countJobs_26.1 rfl
theorem dX7_countJobs_29 : decode cX7_countJobs 29 = .ok (.iload_n 1, 1) := dAt wdX7_countJobs_26 adX7_countJobs_26.2.1 rfl
theorem dX7_countJobs_30 : decode cX7_countJobs 30 = .ok (.ireturn, 1) := dAt wdX7_countJobs_26 adX7_countJobs_26.2.2 rfl
def bdX7_canRun_0 : ByteArray := .mk #[3, 60, 27, 42, 180, 0, 51, 162, 0, 31, 42, 27, 182, 0, 106, 77, 44, 180, 0, 199, 154, 0, 12, 44, 180, 0, 202, 158, 0, 5]
theorem wdX7_canRun_0 : LocW cX7_canRun 0 bdX7_canRun_0 := loc_of (by decide +kernel)
theorem adX7_canRun_0 : De bdX7_canRun_0 0 (.iconst 0) 1 ∧ De bdX7_canRun_0 1 (.istore_n 1) 1 ∧ De bdX7_canRun_0 2 (.iload_n 1) 1 ∧ De bdX7_canRun_0 3 (.aload_n 0) 1 ∧ De bdX7_canRun_0 4 (.getfield 51) 3 ∧ De bdX7_canRun_0 7 (.if_icmp .ge 31) 3 ∧ De bdX7_canRun_0 10 (.aload_n 0) 1 ∧ De bdX7_canRun_0 11 (.iload_n 1) 1 ∧ De bdX7_canRun_0 12 (.invokevirtual 106) 3 ∧ De bdX7_canRun_0 15 (.astore_n 2) 1 ∧ De bdX7_canRun_0 16 (.aload_n 2) 1 ∧ De bdX7_canRun_0 17 (.getfield 199) 3 ∧ De bdX7_canRun_0 20 (.ifCond .ne 12) 3 ∧ De bdX7_canRun_0 23 (.aload_n 2) 1 ∧ De bdX7_canRun_0 24 (.getfield 202) 3 ∧ De bdX7_canRun_0 27 (.ifCond .le 5) 3 := by decide +kernel
theorem dX7_canRun_0 : decode cX7_canRun 0 = .ok (.iconst 0, 1) := dAt wdX7_canRun_0 adX7_canRun_0.1 rfl
theorem dX7_canRun_1 : decode cX7_canRun 1 = .ok (.istore_n 1, 1) := dAt wdX7_canRun_0 adX7_canRun_0.2.1 rfl
theorem dX7_canRun_2 : decode cX7_canRun 2 = .ok (.iload_n 1, 1) := dAt wdX7_canRun_0 adX7_canRun_0.2.2.1 rfl
theorem dX7_canRun_3 : decode cX7_canRun 3 = .ok (.aload_n 0, 1) := dAt wdX7_canRun_0 adX7_canRun_0.2.2.2.1 rfl
theorem dX7_canRun_4 : decode cX7_canRun 4 = .ok (.getfield 51, 3) := dAt wdX7_canRun_0 adX7_canRun_0.2.2.2.2.1 rfl
theorem dX7_canRun_7 : decode cX7_canRun 7 = .ok (.if_icmp .ge 31, 3) := dAt wdX7_canRun_0 adX7_canRun_0.2.2.2.2.2.1 rfl
theorem dX7_canRun_10 : decode cX7_canRun 10 = .ok (.aload_n 0, 1) := dAt wdX7_canRun_0 adX7_canRun_0.2.2.2.2.2.2.1 rfl
theorem dX7_canRun_11 : decode cX7_canRun 11 = .ok (.iload_n 1, 1) := dAt wdX7_canRun_0 adX7_canRun_0.2.2.2.2.2.2.2.1 rfl
theorem dX7_canRun_12 : decode cX7_canRun 12 = .ok (.invokevirtual 106, 3) := dAt wdX7_canRun_0 adX7_canRun_0.2.2.2.2.2.2.2.2.1 rfl
theorem dX7_canRun_15 : decode cX7_canRun 15 = .ok (.astore_n 2, 1) := dAt wdX7_canRun_0 adX7_canRun_0.2.2.2.2.2.2.2.2.2.1 rfl
theorem dX7_canRun_16 : decode cX7_canRun 16 = .ok (.aload_n 2, 1) := dAt wdX7_canRun_0 adX7_canRun_0.2.2.2.2.2.2.2.2.2.2.1 rfl
theorem dX7_canRun_17 : decode cX7_canRun 17 = .ok (.getfield 199, 3) := dAt wdX7_canRun_0 adX7_canRun_0.2.2.2.2.2.2.2.2.2.2.2.1 rfl
theorem dX7_canRun_20 : decode cX7_canRun 20 = .ok (.ifCond .ne 12, 3) := dAt wdX7_canRun_0 adX7_canRun_0.2.2.2.2.2.2.2.2.2.2.2.2.1 rfl
theorem dX7_canRun_23 : decode cX7_canRun 23 = .ok (.aload_n 2, 1) := dAt wdX7_canRun_0 adX7_canRun_0.2.2.2.2.2.2.2.2.2.2.2.2.2.1 rfl
theorem dX7_canRun_24 : decode cX7_canRun 24 = .ok (.getfield 202, 3) := dAt wdX7_canRun_0 adX7_canRun_0.2.2.2.2.2.2.2.2.2.2.2.2.2.2.1 rfl
theorem dX7_canRun_27 : decode cX7_canRun 27 = .ok (.ifCond .le 5, 3) := dAt wdX7_canRun_0 adX7_canRun_0.2.2.2.2.2.2.2.2.2.2.2.2.2.2.2 rfl
def bdX7_canRun_30 : ByteArray := .mk #[4, 172, 132, 1, 1, 167, 255, 223, 3, 172]
theorem wdX7_canRun_30 : LocW cX7_canRun 30 bdX7_canRun_30 := loc_of (by decide +kernel)
theorem adX7_canRun_30 : De bdX7_canRun_30 0 (.iconst 1) 1 ∧ De bdX7_canRun_30 1 (.ireturn) 1 ∧ De bdX7_canRun_30 2 (.iinc 1 1) 3 ∧ De bdX7_canRun_30 5 (.goto (-33)) 3 ∧ De bdX7_canRun_30 8 (.iconst 0) 1 ∧ De bdX7_canRun_30 9 (.ireturn) 1 := by decide +kernel
theorem dX7_canRun_30 : decode cX7_canRun 30 = .ok (.iconst 1, 1) := dAt wdX7_canRun_30 adX7_canRun_30.1 rfl
theorem dX7_canRun_31 : decode cX7_canRun 31 = .ok (.ireturn, 1) := dAt wdX7_canRun_30 adX7_canRun_30.2.1 rfl
theorem dX7_canRun_32 : decode cX7_canRun 32 = .ok (.iinc 1 1, 3) := dAt wdX7_canRun_30 adX7_canRun_30.2.2.1 rfl
theorem dX7_canRun_35 : decode cX7_canRun 35 = .ok (.goto (-33), 3) := dAt wdX7_canRun_30 adX7_canRun_30.2.2.2.1 rfl
theorem dX7_canRun_38 : decode cX7_canRun 38 = .ok (.iconst 0, 1) := dAt wdX7_canRun_30 adX7_canRun_30.2.2.2.2.1 rfl
theorem dX7_canRun_39 : decode cX7_canRun 39 = .ok (.ireturn, 1) := dAt wdX7_canRun_30 adX7_canRun_30.2.2.2.2.2 rfl
def bdX7_rowCount_0 : ByteArray := .mk #[16, 8, 42, 180, 0, 9, 184, 1, 115, 172]
theorem wdX7_rowCount_0 : LocW cX7_rowCount 0 bdX7_rowCount_0 := loc_of (by decide +kernel)
theorem adX7_rowCount_0 : De bdX7_rowCount_0 0 (.bipush 8) 2 ∧ De bdX7_rowCount_0 2 (.aload_n 0) 1 ∧ De bdX7_rowCount_0 3 (.getfield 9) 3 ∧ De bdX7_rowCount_0 6 (.invokestatic 371) 3 ∧ De bdX7_rowCount_0 9 (.ireturn) 1 := by decide +kernel
theorem dX7_rowCount_0 : decode cX7_rowCount 0 = .ok (.bipush 8, 2) := dAt wdX7_rowCount_0 adX7_rowCount_0.1 rfl
theorem dX7_rowCount_2 : decode cX7_rowCount 2 = .ok (.aload_n 0, 1) := dAt wdX7_rowCount_0 adX7_rowCount_0.2.1 rfl
theorem dX7_rowCount_3 : decode cX7_rowCount 3 = .ok (.getfield 9, 3) := dAt wdX7_rowCount_0 adX7_rowCount_0.2.2.1 rfl
theorem dX7_rowCount_6 : decode cX7_rowCount 6 = .ok (.invokestatic 371, 3) := dAt wdX7_rowCount_0 adX7_rowCount_0.2.2.2.1 rfl
theorem dX7_rowCount_9 : decode cX7_rowCount 9 = .ok (.ireturn, 1) := dAt wdX7_rowCount_0 adX7_rowCount_0.2.2.2.2 rfl
def bdX7_rowPlace_0 : ByteArray := .mk #[27, 155, 0, 20, 27, 42, 182, 1, 131, 162, 0, 12, 28, 155, 0, 8, 28, 7, 161, 0, 5, 2, 172, 42, 180, 0, 9, 42]
theorem wdX7_rowPlace_0 : LocW cX7_rowPlace 0 bdX7_rowPlace_0 := loc_of (by decide +kernel)
theorem adX7_rowPlace_0 : De bdX7_rowPlace_0 0 (.iload_n 1) 1 ∧ De bdX7_rowPlace_0 1 (.ifCond .lt 20) 3 ∧ De bdX7_rowPlace_0 4 (.iload_n 1) 1 ∧ De bdX7_rowPlace_0 5 (.aload_n 0) 1 ∧ De bdX7_rowPlace_0 6 (.invokevirtual 387) 3 ∧ De bdX7_rowPlace_0 9 (.if_icmp .ge 12) 3 ∧ De bdX7_rowPlace_0 12 (.iload_n 2) 1 ∧ De bdX7_rowPlace_0 13 (.ifCond .lt 8) 3 ∧ De bdX7_rowPlace_0 16 (.iload_n 2) 1 ∧ De bdX7_rowPlace_0 17 (.iconst 4) 1 ∧ De bdX7_rowPlace_0 18 (.if_icmp .lt 5) 3 ∧ De bdX7_rowPlace_0 21 (.iconst (-1)) 1 ∧ De bdX7_rowPlace_0 22 (.ireturn) 1 ∧ De bdX7_rowPlace_0 23 (.aload_n 0) 1 ∧ De bdX7_rowPlace_0 24 (.getfield 9) 3 ∧ De bdX7_rowPlace_0 27 (.aload_n 0) 1 := by decide +kernel
theorem dX7_rowPlace_0 : decode cX7_rowPlace 0 = .ok (.iload_n 1, 1) := dAt wdX7_rowPlace_0 adX7_rowPlace_0.1 rfl
theorem dX7_rowPlace_1 : decode cX7_rowPlace 1 = .ok (.ifCond .lt 20, 3) := dAt wdX7_rowPlace_0 adX7_rowPlace_0.2.1 rfl
theorem dX7_rowPlace_4 : decode cX7_rowPlace 4 = .ok (.iload_n 1, 1) := dAt wdX7_rowPlace_0 adX7_rowPlace_0.2.2.1 rfl
theorem dX7_rowPlace_5 : decode cX7_rowPlace 5 = .ok (.aload_n 0, 1) := dAt wdX7_rowPlace_0 adX7_rowPlace_0.2.2.2.1 rfl
theorem dX7_rowPlace_6 : decode cX7_rowPlace 6 = .ok (.invokevirtual 387, 3) := dAt wdX7_rowPlace_0 adX7_rowPlace_0.2.2.2.2.1 rfl
theorem dX7_rowPlace_9 : decode cX7_rowPlace 9 = .ok (.if_icmp .ge 12, 3) := dAt wdX7_rowPlace_0 adX7_rowPlace_0.2.2.2.2.2.1 rfl
theorem dX7_rowPlace_12 : decode cX7_rowPlace 12 = .ok (.iload_n 2, 1) := dAt wdX7_rowPlace_0 adX7_rowPlace_0.2.2.2.2.2.2.1 rfl
theorem dX7_rowPlace_13 : decode cX7_rowPlace 13 = .ok (.ifCond .lt 8, 3) := dAt wdX7_rowPlace_0 adX7_rowPlace_0.2.2.2.2.2.2.2.1 rfl
theorem dX7_rowPlace_16 : decode cX7_rowPlace 16 = .ok (.iload_n 2, 1) := dAt wdX7_rowPlace_0 adX7_rowPlace_0.2.2.2.2.2.2.2.2.1 rfl
theorem dX7_rowPlace_17 : decode cX7_rowPlace 17 = .ok (.iconst 4, 1) := dAt wdX7_rowPlace_0 adX7_rowPlace_0.2.2.2.2.2.2.2.2.2.1 rfl
theorem dX7_rowPlace_18 : decode cX7_rowPlace 18 = .ok (.if_icmp .lt 5, 3) := dAt wdX7_rowPlace_0 adX7_rowPlace_0.2.2.2.2.2.2.2.2.2.2.1 rfl
theorem dX7_rowPlace_21 : decode cX7_rowPlace 21 = .ok (.iconst (-1), 1) := dAt wdX7_rowPlace_0 adX7_rowPlace_0.2.2.2.2.2.2.2.2.2.2.2.1 rfl
theorem dX7_rowPlace_22 : decode cX7_rowPlace 22 = .ok (.ireturn, 1) := dAt wdX7_rowPlace_0 adX7_rowPlace_0.2.2.2.2.2.2.2.2.2.2.2.2.1 rfl
theorem dX7_rowPlace_23 : decode cX7_rowPlace 23 = .ok (.aload_n 0, 1) := dAt wdX7_rowPlace_0 adX7_rowPlace_0.2.2.2.2.2.2.2.2.2.2.2.2.2.1 rfl
theorem dX7_rowPlace_24 : decode cX7_rowPlace 24 = .ok (.getfield 9, 3) := dAt wdX7_rowPlace_0 adX7_rowPlace_0.2.2.2.2.2.2.2.2.2.2.2.2.2.2.1 rfl
theorem dX7_rowPlace_27 : decode cX7_rowPlace 27 = .ok (.aload_n 0, 1) := dAt wdX7_rowPlace_0 adX7_rowPlace_0.2.2.2.2.2.2.2.2.2.2.2.2.2.2.2 rfl
def bdX7_rowPlace_28 : ByteArray := .mk #[182, 1, 131, 100, 27, 96, 16, 8, 112, 7, 104, 28, 96, 172]
theorem wdX7_rowPlace_28 : LocW cX7_rowPlace 28 bdX7_rowPlace_28 := loc_of (by decide +kernel)
theorem adX7_rowPlace_28 : De bdX7_rowPlace_28 0 (.invokevirtual 387) 3 ∧ De bdX7_rowPlace_28 3 (.isub) 1 ∧ De bdX7_rowPlace_28 4 (.iload_n 1) 1 ∧ De bdX7_rowPlace_28 5 (.iadd) 1 ∧ De bdX7_rowPlace_28 6 (.bipush 8) 2 ∧ De bdX7_rowPlace_28 8 (.irem) 1 ∧ De bdX7_rowPlace_28 9 (.iconst 4) 1 ∧ De bdX7_rowPlace_28 10 (.imul) 1 ∧ De bdX7_rowPlace_28 11 (.iload_n 2) 1 ∧ De bdX7_rowPlace_28 12 (.iadd) 1 ∧ De bdX7_rowPlace_28 13 (.ireturn) 1 := by decide +kernel
theorem dX7_rowPlace_28 : decode cX7_rowPlace 28 = .ok (.invokevirtual 387, 3) := dAt wdX7_rowPlace_28 adX7_rowPlace_28.1 rfl
theorem dX7_rowPlace_31 : decode cX7_rowPlace 31 = .ok (.isub, 1) := dAt wdX7_rowPlace_28 adX7_rowPlace_28.2.1 rfl
theorem dX7_rowPlace_32 : decode cX7_rowPlace 32 = .ok (.iload_n 1, 1) := dAt wdX7_rowPlace_28 adX7_rowPlace_28.2.2.1 rfl
theorem dX7_rowPlace_33 : decode cX7_rowPlace 33 = .ok (.iadd, 1) := dAt wdX7_rowPlace_28 adX7_rowPlace_28.2.2.2.1 rfl
theorem dX7_rowPlace_34 : decode cX7_rowPlace 34 = .ok (.bipush 8, 2) := dAt wdX7_rowPlace_28 adX7_rowPlace_28.2.2.2.2.1 rfl
theorem dX7_rowPlace_36 : decode cX7_rowPlace 36 = .ok (.irem, 1) := dAt wdX7_rowPlace_28 adX7_rowPlace_28.2.2.2.2.2.1 rfl
theorem dX7_rowPlace_37 : decode cX7_rowPlace 37 = .ok (.iconst 4, 1) := dAt wdX7_rowPlace_28 adX7_rowPlace_28.2.2.2.2.2.2.1 rfl
theorem dX7_rowPlace_38 : decode cX7_rowPlace 38 = .ok (.imul, 1) := dAt wdX7_rowPlace_28 adX7_rowPlace_28.2.2.2.2.2.2.2.1 rfl
theorem dX7_rowPlace_39 : decode cX7_rowPlace 39 = .ok (.iload_n 2, 1) := dAt wdX7_rowPlace_28 adX7_rowPlace_28.2.2.2.2.2.2.2.2.1 rfl
theorem dX7_rowPlace_40 : decode cX7_rowPlace 40 = .ok (.iadd, 1) := dAt wdX7_rowPlace_28 adX7_rowPlace_28.2.2.2.2.2.2.2.2.2.1 rfl
theorem dX7_rowPlace_41 : decode cX7_rowPlace 41 = .ok (.ireturn, 1) := dAt wdX7_rowPlace_28 adX7_rowPlace_28.2.2.2.2.2.2.2.2.2.2 rfl
def bdX7_payOf_0 : ByteArray := .mk #[3, 54, 4, 3, 54, 5, 21, 5, 42, 180, 0, 60, 162, 0, 55, 42, 21, 5, 182, 0, 113, 58, 6, 25, 6, 180, 0, 175, 27, 160, 0, 32]
theorem wdX7_payOf_0 : LocW cX7_payOf 0 bdX7_payOf_0 := loc_of (by decide +kernel)
theorem adX7_payOf_0 : De bdX7_payOf_0 0 (.iconst 0) 1 ∧ De bdX7_payOf_0 1 (.istore 4) 2 ∧ De bdX7_payOf_0 3 (.iconst 0) 1 ∧ De bdX7_payOf_0 4 (.istore 5) 2 ∧ De bdX7_payOf_0 6 (.iload 5) 2 ∧ De bdX7_payOf_0 8 (.aload_n 0) 1 ∧ De bdX7_payOf_0 9 (.getfield 60) 3 ∧ De bdX7_payOf_0 12 (.if_icmp .ge 55) 3 ∧ De bdX7_payOf_0 15 (.aload_n 0) 1 ∧ De bdX7_payOf_0 16 (.iload 5) 2 ∧ De bdX7_payOf_0 18 (.invokevirtual 113) 3 ∧ De bdX7_payOf_0 21 (.astore 6) 2 ∧ De bdX7_payOf_0 23 (.aload 6) 2 ∧ De bdX7_payOf_0 25 (.getfield 175) 3 ∧ De bdX7_payOf_0 28 (.iload_n 1) 1 ∧ De bdX7_payOf_0 29 (.if_icmp .ne 32) 3 := by decide +kernel
theorem dX7_payOf_0 : decode cX7_payOf 0 = .ok (.iconst 0, 1) := dAt wdX7_payOf_0 adX7_payOf_0.1 rfl
theorem dX7_payOf_1 : decode cX7_payOf 1 = .ok (.istore 4, 2) := dAt wdX7_payOf_0 adX7_payOf_0.2.1 rfl
theorem dX7_payOf_3 : decode cX7_payOf 3 = .ok (.iconst 0, 1) := dAt wdX7_payOf_0 adX7_payOf_0.2.2.1 rfl
theorem dX7_payOf_4 : decode cX7_payOf 4 = .ok (.istore 5, 2) := dAt wdX7_payOf_0 adX7_payOf_0.2.2.2.1 rfl
theorem dX7_payOf_6 : decode cX7_payOf 6 = .ok (.iload 5, 2) := dAt wdX7_payOf_0 adX7_payOf_0.2.2.2.2.1 rfl
theorem dX7_payOf_8 : decode cX7_payOf 8 = .ok (.aload_n 0, 1) := dAt wdX7_payOf_0 adX7_payOf_0.2.2.2.2.2.1 rfl
theorem dX7_payOf_9 : decode cX7_payOf 9 = .ok (.getfield 60, 3) := dAt wdX7_payOf_0 adX7_payOf_0.2.2.2.2.2.2.1 rfl
theorem dX7_payOf_12 : decode cX7_payOf 12 = .ok (.if_icmp .ge 55, 3) := dAt wdX7_payOf_0 adX7_payOf_0.2.2.2.2.2.2.2.1 rfl
theorem dX7_payOf_15 : decode cX7_payOf 15 = .ok (.aload_n 0, 1) := dAt wdX7_payOf_0 adX7_payOf_0.2.2.2.2.2.2.2.2.1 rfl
theorem dX7_payOf_16 : decode cX7_payOf 16 = .ok (.iload 5, 2) := dAt wdX7_payOf_0 adX7_payOf_0.2.2.2.2.2.2.2.2.2.1 rfl
theorem dX7_payOf_18 : decode cX7_payOf 18 = .ok (.invokevirtual 113, 3) := dAt wdX7_payOf_0 adX7_payOf_0.2.2.2.2.2.2.2.2.2.2.1 rfl
theorem dX7_payOf_21 : decode cX7_payOf 21 = .ok (.astore 6, 2) := dAt wdX7_payOf_0 adX7_payOf_0.2.2.2.2.2.2.2.2.2.2.2.1 rfl
theorem dX7_payOf_23 : decode cX7_payOf 23 = .ok (.aload 6, 2) := dAt wdX7_payOf_0 adX7_payOf_0.2.2.2.2.2.2.2.2.2.2.2.2.1 rfl
theorem dX7_payOf_25 : decode cX7_payOf 25 = .ok (.getfield 175, 3) := dAt wdX7_payOf_0 adX7_payOf_0.2.2.2.2.2.2.2.2.2.2.2.2.2.1 rfl
theorem dX7_payOf_28 : decode cX7_payOf 28 = .ok (.iload_n 1, 1) := dAt wdX7_payOf_0 adX7_payOf_0.2.2.2.2.2.2.2.2.2.2.2.2.2.2.1 rfl
theorem dX7_payOf_29 : decode cX7_payOf 29 = .ok (.if_icmp .ne 32, 3) := dAt wdX7_payOf_0 adX7_payOf_0.2.2.2.2.2.2.2.2.2.2.2.2.2.2.2 rfl
def bdX7_payOf_32 : ByteArray := .mk #[25, 6, 180, 0, 163, 28, 161, 0, 23, 25, 6, 180, 0, 163, 29, 163, 0, 14, 21, 4, 42, 25, 6, 182, 1, 135, 96, 54, 4, 132, 5, 1, 167, 255, 198]
theorem wdX7_payOf_32 : LocW cX7_payOf 32 bdX7_payOf_32 := loc_of (by decide +kernel)
theorem adX7_payOf_32 : De bdX7_payOf_32 0 (.aload 6) 2 ∧ De bdX7_payOf_32 2 (.getfield 163) 3 ∧ De bdX7_payOf_32 5 (.iload_n 2) 1 ∧ De bdX7_payOf_32 6 (.if_icmp .lt 23) 3 ∧ De bdX7_payOf_32 9 (.aload 6) 2 ∧ De bdX7_payOf_32 11 (.getfield 163) 3 ∧ De bdX7_payOf_32 14 (.iload_n 3) 1 ∧ De bdX7_payOf_32 15 (.if_icmp .gt 14) 3 ∧ De bdX7_payOf_32 18 (.iload 4) 2 ∧ De bdX7_payOf_32 20 (.aload_n 0) 1 ∧ De bdX7_payOf_32 21 (.aload 6) 2 ∧ De bdX7_payOf_32 23 (.invokevirtual 391) 3 ∧ De bdX7_payOf_32 26 (.iadd) 1 ∧ De bdX7_payOf_32 27 (.istore 4) 2 ∧ De bdX7_payOf_32 29 (.iinc 5 1) 3 ∧ De bdX7_payOf_32 32 (.goto (-58)) 3 := by decide +kernel
theorem dX7_payOf_32 : decode cX7_payOf 32 = .ok (.aload 6, 2) := dAt wdX7_payOf_32 adX7_payOf_32.1 rfl
theorem dX7_payOf_34 : decode cX7_payOf 34 = .ok (.getfield 163, 3) := dAt wdX7_payOf_32 adX7_payOf_32.2.1 rfl
theorem dX7_payOf_37 : decode cX7_payOf 37 = .ok (.iload_n 2, 1) := dAt wdX7_payOf_32 adX7_payOf_32.2.2.1 rfl
theorem dX7_payOf_38 : decode cX7_payOf 38 = .ok (.if_icmp .lt 23, 3) := dAt wdX7_payOf_32 adX7_payOf_32.2.2.2.1 rfl
theorem dX7_payOf_41 : decode cX7_payOf 41 = .ok (.aload 6, 2) := dAt wdX7_payOf_32 adX7_payOf_32.2.2.2.2.1 rfl
theorem dX7_payOf_43 : decode cX7_payOf 43 = .ok (.getfield 163, 3) := dAt wdX7_payOf_32 adX7_payOf_32.2.2.2.2.2.1 rfl
theorem dX7_payOf_46 : decode cX7_payOf 46 = .ok (.iload_n 3, 1) := dAt wdX7_payOf_32 adX7_payOf_32.2.2.2.2.2.2.1 rfl
theorem dX7_payOf_47 : decode cX7_payOf 47 = .ok (.if_icmp .gt 14, 3) := dAt wdX7_payOf_32 adX7_payOf_32.2.2.2.2.2.2.2.1 rfl
theorem dX7_payOf_50 : decode cX7_payOf 50 = .ok (.iload 4, 2) := dAt wdX7_payOf_32 adX7_payOf_32.2.2.2.2.2.2.2.2.1 rfl
theorem dX7_payOf_52 : decode cX7_payOf 52 = .ok (.aload_n 0, 1) := dAt wdX7_payOf_32 adX7_payOf_32.2.2.2.2.2.2.2.2.2.1 rfl
theorem dX7_payOf_53 : decode cX7_payOf 53 = .ok (.aload 6, 2) := dAt wdX7_payOf_32 adX7_payOf_32.2.2.2.2.2.2.2.2.2.2.1 rfl
theorem dX7_payOf_55 : decode cX7_payOf 55 = .ok (.invokevirtual 391, 3) := dAt wdX7_payOf_32 adX7_payOf_32.2.2.2.2.2.2.2.2.2.2.2.1 rfl
theorem dX7_payOf_58 : decode cX7_payOf 58 = .ok (.iadd, 1) := dAt wdX7_payOf_32 adX7_payOf_32.2.2.2.2.2.2.2.2.2.2.2.2.1 rfl
theorem dX7_payOf_59 : decode cX7_payOf 59 = .ok (.istore 4, 2) := dAt wdX7_payOf_32 adX7_payOf_32.2.2.2.2.2.2.2.2.2.2.2.2.2.1 rfl
theorem dX7_payOf_61 : decode cX7_payOf 61 = .ok (.iinc 5 1, 3) := dAt wdX7_payOf_32 adX7_payOf_32.2.2.2.2.2.2.2.2.2.2.2.2.2.2.1 rfl
theorem dX7_payOf_64 : decode cX7_payOf 64 = .ok (.goto (-58), 3) := dAt wdX7_payOf_32 adX7_payOf_32.2.2.2.2.2.2.2.2.2.2.2.2.2.2.2 rfl
def bdX7_payOf_67 : ByteArray := .mk #[21, 4, 16, 10, 108, 172]
theorem wdX7_payOf_67 : LocW cX7_payOf 67 bdX7_payOf_67 := loc_of (by decide +kernel)
theorem adX7_payOf_67 : De bdX7_payOf_67 0 (.iload 4) 2 ∧ De bdX7_payOf_67 2 (.bipush 10) 2 ∧ De bdX7_payOf_67 4 (.idiv) 1 ∧ De bdX7_payOf_67 5 (.ireturn) 1 := by decide +kernel
theorem dX7_payOf_67 : decode cX7_payOf 67 = .ok (.iload 4, 2) := dAt wdX7_payOf_67 adX7_payOf_67.1 rfl
theorem dX7_payOf_69 : decode cX7_payOf 69 = .ok (.bipush 10, 2) := dAt wdX7_payOf_67 adX7_payOf_67.2.1 rfl
theorem dX7_payOf_71 : decode cX7_payOf 71 = .ok (.idiv, 1) := dAt wdX7_payOf_67 adX7_payOf_67.2.2.1 rfl
theorem dX7_payOf_72 : decode cX7_payOf 72 = .ok (.ireturn, 1) := dAt wdX7_payOf_67 adX7_payOf_67.2.2.2 rfl
def bdX7_payOfSlug_0 : ByteArray := .mk #[42, 43, 180, 1, 36, 182, 0, 120, 77, 44, 199, 0, 5, 3, 172, 42, 43, 180, 0, 163, 182, 0, 145, 78, 42, 43]
theorem wdX7_payOfSlug_0 : LocW cX7_payOfSlug 0 bdX7_payOfSlug_0 := loc_of (by decide +kernel)
theorem adX7_payOfSlug_0 : De bdX7_payOfSlug_0 0 (.aload_n 0) 1 ∧ De bdX7_payOfSlug_0 1 (.aload_n 1) 1 ∧ De bdX7_payOfSlug_0 2 (.getfield 292) 3 ∧ De bdX7_payOfSlug_0 5 (.invokevirtual 120) 3 ∧ De bdX7_payOfSlug_0 8 (.astore_n 2) 1 ∧ De bdX7_payOfSlug_0 9 (.aload_n 2) 1 ∧ De bdX7_payOfSlug_0 10 (.ifnonnull 5) 3 ∧ De bdX7_payOfSlug_0 13 (.iconst 0) 1 ∧ De bdX7_payOfSlug_0 14 (.ireturn) 1 ∧ De bdX7_payOfSlug_0 15 (.aload_n 0) 1 ∧ De bdX7_payOfSlug_0 16 (.aload_n 1) 1 ∧ De bdX7_payOfSlug_0 17 (.getfield 163) 3 ∧ De bdX7_payOfSlug_0 20 (.invokevirtual 145) 3 ∧ De bdX7_payOfSlug_0 23 (.astore_n 3) 1 ∧ De bdX7_payOfSlug_0 24 (.aload_n 0) 1 ∧ De bdX7_payOfSlug_0 25 (.aload_n 1) 1 := by decide +kernel
theorem dX7_payOfSlug_0 : decode cX7_payOfSlug 0 = .ok (.aload_n 0, 1) := dAt wdX7_payOfSlug_0 adX7_payOfSlug_0.1 rfl
theorem dX7_payOfSlug_1 : decode cX7_payOfSlug 1 = .ok (.aload_n 1, 1) := dAt wdX7_payOfSlug_0 adX7_payOfSlug_0.2.1 rfl
theorem dX7_payOfSlug_2 : decode cX7_payOfSlug 2 = .ok (.getfield 292, 3) := dAt wdX7_payOfSlug_0 adX7_payOfSlug_0.2.2.1 rfl
theorem dX7_payOfSlug_5 : decode cX7_payOfSlug 5 = .ok (.invokevirtual 120, 3) := dAt wdX7_payOfSlug_0 adX7_payOfSlug_0.2.2.2.1 rfl
theorem dX7_payOfSlug_8 : decode cX7_payOfSlug 8 = .ok (.astore_n 2, 1) := dAt wdX7_payOfSlug_0 adX7_payOfSlug_0.2.2.2.2.1 rfl
theorem dX7_payOfSlug_9 : decode cX7_payOfSlug 9 = .ok (.aload_n 2, 1) := dAt wdX7_payOfSlug_0 adX7_payOfSlug_0.2.2.2.2.2.1 rfl
theorem dX7_payOfSlug_10 : decode cX7_payOfSlug 10 = .ok (.ifnonnull 5, 3) := dAt wdX7_payOfSlug_0 adX7_payOfSlug_0.2.2.2.2.2.2.1 rfl
theorem dX7_payOfSlug_13 : decode cX7_payOfSlug 13 = .ok (.iconst 0, 1) := dAt wdX7_payOfSlug_0 adX7_payOfSlug_0.2.2.2.2.2.2.2.1 rfl
theorem dX7_payOfSlug_14 : decode cX7_payOfSlug 14 = .ok (.ireturn, 1) := dAt wdX7_payOfSlug_0 adX7_payOfSlug_0.2.2.2.2.2.2.2.2.1 rfl
theorem dX7_payOfSlug_15 : decode cX7_payOfSlug 15 = .ok (.aload_n 0, 1) := dAt wdX7_payOfSlug_0 adX7_payOfSlug_0.2.2.2.2.2.2.2.2.2.1 rfl
theorem dX7_payOfSlug_16 : decode cX7_payOfSlug 16 = .ok (.aload_n 1, 1) := dAt wdX7_payOfSlug_0 adX7_payOfSlug_0.2.2.2.2.2.2.2.2.2.2.1 rfl
theorem dX7_payOfSlug_17 : decode cX7_payOfSlug 17 = .ok (.getfield 163, 3) := dAt wdX7_payOfSlug_0 adX7_payOfSlug_0.2.2.2.2.2.2.2.2.2.2.2.1 rfl
theorem dX7_payOfSlug_20 : decode cX7_payOfSlug 20 = .ok (.invokevirtual 145, 3) := dAt wdX7_payOfSlug_0 adX7_payOfSlug_0.2.2.2.2.2.2.2.2.2.2.2.2.1 rfl
theorem dX7_payOfSlug_23 : decode cX7_payOfSlug 23 = .ok (.astore_n 3, 1) := dAt wdX7_payOfSlug_0 adX7_payOfSlug_0.2.2.2.2.2.2.2.2.2.2.2.2.2.1 rfl
theorem dX7_payOfSlug_24 : decode cX7_payOfSlug 24 = .ok (.aload_n 0, 1) := dAt wdX7_payOfSlug_0 adX7_payOfSlug_0.2.2.2.2.2.2.2.2.2.2.2.2.2.2.1 rfl
theorem dX7_payOfSlug_25 : decode cX7_payOfSlug 25 = .ok (.aload_n 1, 1) := dAt wdX7_payOfSlug_0 adX7_payOfSlug_0.2.2.2.2.2.2.2.2.2.2.2.2.2.2.2 rfl
def bdX7_payOfSlug_26 : ByteArray := .mk #[44, 182, 1, 139, 45, 42, 180, 0, 76, 182, 0, 178, 45, 7, 182, 1, 143, 54, 4, 21, 4, 2, 159, 0, 12, 45, 8, 182, 1, 143]
theorem wdX7_payOfSlug_26 : LocW cX7_payOfSlug 26 bdX7_payOfSlug_26 := loc_of (by decide +kernel)
theorem adX7_payOfSlug_26 : De bdX7_payOfSlug_26 0 (.aload_n 2) 1 ∧ De bdX7_payOfSlug_26 1 (.invokevirtual 395) 3 ∧ De bdX7_payOfSlug_26 4 (.aload_n 3) 1 ∧ De bdX7_payOfSlug_26 5 (.aload_n 0) 1 ∧ De bdX7_payOfSlug_26 6 (.getfield 76) 3 ∧ De bdX7_payOfSlug_26 9 (.invokevirtual 178) 3 ∧ De bdX7_payOfSlug_26 12 (.aload_n 3) 1 ∧ De bdX7_payOfSlug_26 13 (.iconst 4) 1 ∧ De bdX7_payOfSlug_26 14 (.invokevirtual 399) 3 ∧ De bdX7_payOfSlug_26 17 (.istore 4) 2 ∧ De bdX7_payOfSlug_26 19 (.iload 4) 2 ∧ De bdX7_payOfSlug_26 21 (.iconst (-1)) 1 ∧ De bdX7_payOfSlug_26 22 (.if_icmp .eq 12) 3 ∧ De bdX7_payOfSlug_26 25 (.aload_n 3) 1 ∧ De bdX7_payOfSlug_26 26 (.iconst 5) 1 ∧ De bdX7_payOfSlug_26 27 (.invokevirtual 399) 3 := by decide +kernel
theorem dX7_payOfSlug_26 : decode cX7_payOfSlug 26 = .ok (.aload_n 2, 1) := dAt wdX7_payOfSlug_26 adX7_payOfSlug_26.1 rfl
theorem dX7_payOfSlug_27 : decode cX7_payOfSlug 27 = .ok (.invokevirtual 395, 3) := dAt wdX7_payOfSlug_26 adX7_payOfSlug_26.2.1 rfl
theorem dX7_payOfSlug_30 : decode cX7_payOfSlug 30 = .ok (.aload_n 3, 1) := dAt wdX7_payOfSlug_26 adX7_payOfSlug_26.2.2.1 rfl
theorem dX7_payOfSlug_31 : decode cX7_payOfSlug 31 = .ok (.aload_n 0, 1) := dAt wdX7_payOfSlug_26 adX7_payOfSlug_26.2.2.2.1 rfl
theorem dX7_payOfSlug_32 : decode cX7_payOfSlug 32 = .ok (.getfield 76, 3) := dAt wdX7_payOfSlug_26 adX7_payOfSlug_26.2.2.2.2.1 rfl
theorem dX7_payOfSlug_35 : decode cX7_payOfSlug 35 = .ok (.invokevirtual 178, 3) := dAt wdX7_payOfSlug_26 adX7_payOfSlug_26.2.2.2.2.2.1 rfl
theorem dX7_payOfSlug_38 : decode cX7_payOfSlug 38 = .ok (.aload_n 3, 1) := dAt wdX7_payOfSlug_26 adX7_payOfSlug_26.2.2.2.2.2.2.1 rfl
theorem dX7_payOfSlug_39 : decode cX7_payOfSlug 39 = .ok (.iconst 4, 1) := dAt wdX7_payOfSlug_26 adX7_payOfSlug_26.2.2.2.2.2.2.2.1 rfl
theorem dX7_payOfSlug_40 : decode cX7_payOfSlug 40 = .ok (.invokevirtual 399, 3) := dAt wdX7_payOfSlug_26 adX7_payOfSlug_26.2.2.2.2.2.2.2.2.1 rfl
theorem dX7_payOfSlug_43 : decode cX7_payOfSlug 43 = .ok (.istore 4, 2) := dAt wdX7_payOfSlug_26 adX7_payOfSlug_26.2.2.2.2.2.2.2.2.2.1 rfl
theorem dX7_payOfSlug_45 : decode cX7_payOfSlug 45 = .ok (.iload 4, 2) := dAt wdX7_payOfSlug_26 adX7_payOfSlug_26.2.2.2.2.2.2.2.2.2.2.1 rfl
theorem dX7_payOfSlug_47 : decode cX7_payOfSlug 47 = .ok (.iconst (-1), 1) := dAt wdX7_payOfSlug_26 adX7_payOfSlug_26.2.2.2.2.2.2.2.2.2.2.2.1 rfl
theorem dX7_payOfSlug_48 : decode cX7_payOfSlug 48 = .ok (.if_icmp .eq 12, 3) := dAt wdX7_payOfSlug_26 adX7_payOfSlug_26.2.2.2.2.2.2.2.2.2.2.2.2.1 rfl
theorem dX7_payOfSlug_51 : decode cX7_payOfSlug 51 = .ok (.aload_n 3, 1) := dAt wdX7_payOfSlug_26 adX7_payOfSlug_26.2.2.2.2.2.2.2.2.2.2.2.2.2.1 rfl
theorem dX7_payOfSlug_52 : decode cX7_payOfSlug 52 = .ok (.iconst 5, 1) := dAt wdX7_payOfSlug_26 adX7_payOfSlug_26.2.2.2.2.2.2.2.2.2.2.2.2.2.2.1 rfl
theorem dX7_payOfSlug_53 : decode cX7_payOfSlug 53 = .ok (.invokevirtual 399, 3) := dAt wdX7_payOfSlug_26 adX7_payOfSlug_26.2.2.2.2.2.2.2.2.2.2.2.2.2.2.2 rfl
def bdX7_payOfSlug_56 : ByteArray := .mk #[2, 159, 0, 5, 3, 172, 45, 6, 182, 1, 143, 54, 5, 43, 180, 0, 172, 21, 5, 2, 160, 0, 7, 3, 167, 0, 10, 45]
theorem wdX7_payOfSlug_56 : LocW cX7_payOfSlug 56 bdX7_payOfSlug_56 := loc_of (by decide +kernel)
theorem adX7_payOfSlug_56 : De bdX7_payOfSlug_56 0 (.iconst (-1)) 1 ∧ De bdX7_payOfSlug_56 1 (.if_icmp .eq 5) 3 ∧ De bdX7_payOfSlug_56 4 (.iconst 0) 1 ∧ De bdX7_payOfSlug_56 5 (.ireturn) 1 ∧ De bdX7_payOfSlug_56 6 (.aload_n 3) 1 ∧ De bdX7_payOfSlug_56 7 (.iconst 3) 1 ∧ De bdX7_payOfSlug_56 8 (.invokevirtual 399) 3 ∧ De bdX7_payOfSlug_56 11 (.istore 5) 2 ∧ De bdX7_payOfSlug_56 13 (.aload_n 1) 1 ∧ De bdX7_payOfSlug_56 14 (.getfield 172) 3 ∧ De bdX7_payOfSlug_56 17 (.iload 5) 2 ∧ De bdX7_payOfSlug_56 19 (.iconst (-1)) 1 ∧ De bdX7_payOfSlug_56 20 (.if_icmp .ne 7) 3 ∧ De bdX7_payOfSlug_56 23 (.iconst 0) 1 ∧ De bdX7_payOfSlug_56 24 (.goto 10) 3 ∧ De bdX7_payOfSlug_56 27 (.aload_n 3) 1 := by decide +kernel
theorem dX7_payOfSlug_56 : decode cX7_payOfSlug 56 = .ok (.iconst (-1), 1) := dAt wdX7_payOfSlug_56 adX7_payOfSlug_56.1 rfl
theorem dX7_payOfSlug_57 : decode cX7_payOfSlug 57 = .ok (.if_icmp .eq 5, 3) := dAt wdX7_payOfSlug_56 adX7_payOfSlug_56.2.1 rfl
theorem dX7_payOfSlug_60 : decode cX7_payOfSlug 60 = .ok (.iconst 0, 1) := dAt wdX7_payOfSlug_56 adX7_payOfSlug_56.2.2.1 rfl
theorem dX7_payOfSlug_61 : decode cX7_payOfSlug 61 = .ok (.ireturn, 1) := dAt wdX7_payOfSlug_56 adX7_payOfSlug_56.2.2.2.1 rfl
theorem dX7_payOfSlug_62 : decode cX7_payOfSlug 62 = .ok (.aload_n 3, 1) := dAt wdX7_payOfSlug_56 adX7_payOfSlug_56.2.2.2.2.1 rfl
theorem dX7_payOfSlug_63 : decode cX7_payOfSlug 63 = .ok (.iconst 3, 1) := dAt wdX7_payOfSlug_56 adX7_payOfSlug_56.2.2.2.2.2.1 rfl
theorem dX7_payOfSlug_64 : decode cX7_payOfSlug 64 = .ok (.invokevirtual 399, 3) := dAt wdX7_payOfSlug_56 adX7_payOfSlug_56.2.2.2.2.2.2.1 rfl
theorem dX7_payOfSlug_67 : decode cX7_payOfSlug 67 = .ok (.istore 5, 2) := dAt wdX7_payOfSlug_56 adX7_payOfSlug_56.2.2.2.2.2.2.2.1 rfl
theorem dX7_payOfSlug_69 : decode cX7_payOfSlug 69 = .ok (.aload_n 1, 1) := dAt wdX7_payOfSlug_56 adX7_payOfSlug_56.2.2.2.2.2.2.2.2.1 rfl
theorem dX7_payOfSlug_70 : decode cX7_payOfSlug 70 = .ok (.getfield 172, 3) := dAt wdX7_payOfSlug_56 adX7_payOfSlug_56.2.2.2.2.2.2.2.2.2.1 rfl
theorem dX7_payOfSlug_73 : decode cX7_payOfSlug 73 = .ok (.iload 5, 2) := dAt wdX7_payOfSlug_56 adX7_payOfSlug_56.2.2.2.2.2.2.2.2.2.2.1 rfl
theorem dX7_payOfSlug_75 : decode cX7_payOfSlug 75 = .ok (.iconst (-1), 1) := dAt wdX7_payOfSlug_56 adX7_payOfSlug_56.2.2.2.2.2.2.2.2.2.2.2.1 rfl
theorem dX7_payOfSlug_76 : decode cX7_payOfSlug 76 = .ok (.if_icmp .ne 7, 3) := dAt wdX7_payOfSlug_56 adX7_payOfSlug_56.2.2.2.2.2.2.2.2.2.2.2.2.1 rfl
theorem dX7_payOfSlug_79 : decode cX7_payOfSlug 79 = .ok (.iconst 0, 1) := dAt wdX7_payOfSlug_56 adX7_payOfSlug_56.2.2.2.2.2.2.2.2.2.2.2.2.2.1 rfl
theorem dX7_payOfSlug_80 : decode cX7_payOfSlug 80 = .ok (.goto 10, 3) := dAt wdX7_payOfSlug_56 adX7_payOfSlug_56.2.2.2.2.2.2.2.2.2.2.2.2.2.2.1 rfl
theorem dX7_payOfSlug_83 : decode cX7_payOfSlug 83 = .ok (.aload_n 3, 1) := dAt wdX7_payOfSlug_56 adX7_payOfSlug_56.2.2.2.2.2.2.2.2.2.2.2.2.2.2.2 rfl
def bdX7_payOfSlug_84 : ByteArray := .mk #[180, 1, 146, 21, 5, 46, 184, 0, 193, 45, 180, 1, 146, 21, 4, 46, 104, 172]
theorem wdX7_payOfSlug_84 : LocW cX7_payOfSlug 84 bdX7_payOfSlug_84 := loc_of (by decide +kernel)
theorem adX7_payOfSlug_84 : De bdX7_payOfSlug_84 0 (.getfield 402) 3 ∧ De bdX7_payOfSlug_84 3 (.iload 5) 2 ∧ De bdX7_payOfSlug_84 5 (.iaload) 1 ∧ De bdX7_payOfSlug_84 6 (.invokestatic 193) 3 ∧ De bdX7_payOfSlug_84 9 (.aload_n 3) 1 ∧ De bdX7_payOfSlug_84 10 (.getfield 402) 3 ∧ De bdX7_payOfSlug_84 13 (.iload 4) 2 ∧ De bdX7_payOfSlug_84 15 (.iaload) 1 ∧ De bdX7_payOfSlug_84 16 (.imul) 1 ∧ De bdX7_payOfSlug_84 17 (.ireturn) 1 := by decide +kernel
theorem dX7_payOfSlug_84 : decode cX7_payOfSlug 84 = .ok (.getfield 402, 3) := dAt wdX7_payOfSlug_84 adX7_payOfSlug_84.1 rfl
theorem dX7_payOfSlug_87 : decode cX7_payOfSlug 87 = .ok (.iload 5, 2) := dAt wdX7_payOfSlug_84 adX7_payOfSlug_84.2.1 rfl
theorem dX7_payOfSlug_89 : decode cX7_payOfSlug 89 = .ok (.iaload, 1) := dAt wdX7_payOfSlug_84 adX7_payOfSlug_84.2.2.1 rfl
theorem dX7_payOfSlug_90 : decode cX7_payOfSlug 90 = .ok (.invokestatic 193, 3) := dAt wdX7_payOfSlug_84 adX7_payOfSlug_84.2.2.2.1 rfl
theorem dX7_payOfSlug_93 : decode cX7_payOfSlug 93 = .ok (.aload_n 3, 1) := dAt wdX7_payOfSlug_84 adX7_payOfSlug_84.2.2.2.2.1 rfl
theorem dX7_payOfSlug_94 : decode cX7_payOfSlug 94 = .ok (.getfield 402, 3) := dAt wdX7_payOfSlug_84 adX7_payOfSlug_84.2.2.2.2.2.1 rfl
theorem dX7_payOfSlug_97 : decode cX7_payOfSlug 97 = .ok (.iload 4, 2) := dAt wdX7_payOfSlug_84 adX7_payOfSlug_84.2.2.2.2.2.2.1 rfl
theorem dX7_payOfSlug_99 : decode cX7_payOfSlug 99 = .ok (.iaload, 1) := dAt wdX7_payOfSlug_84 adX7_payOfSlug_84.2.2.2.2.2.2.2.1 rfl
theorem dX7_payOfSlug_100 : decode cX7_payOfSlug 100 = .ok (.imul, 1) := dAt wdX7_payOfSlug_84 adX7_payOfSlug_84.2.2.2.2.2.2.2.2.1 rfl
theorem dX7_payOfSlug_101 : decode cX7_payOfSlug 101 = .ok (.ireturn, 1) := dAt wdX7_payOfSlug_84 adX7_payOfSlug_84.2.2.2.2.2.2.2.2.2 rfl
def bdX7_queuedLines_0 : ByteArray := .mk #[3, 61, 3, 62, 29, 43, 180, 0, 202, 162, 0, 74, 42, 43, 180, 0, 209, 29, 46, 182, 0, 120, 58, 4, 25, 4]
theorem wdX7_queuedLines_0 : LocW cX7_queuedLines 0 bdX7_queuedLines_0 := loc_of (by decide +kernel)
theorem adX7_queuedLines_0 : De bdX7_queuedLines_0 0 (.iconst 0) 1 ∧ De bdX7_queuedLines_0 1 (.istore_n 2) 1 ∧ De bdX7_queuedLines_0 2 (.iconst 0) 1 ∧ De bdX7_queuedLines_0 3 (.istore_n 3) 1 ∧ De bdX7_queuedLines_0 4 (.iload_n 3) 1 ∧ De bdX7_queuedLines_0 5 (.aload_n 1) 1 ∧ De bdX7_queuedLines_0 6 (.getfield 202) 3 ∧ De bdX7_queuedLines_0 9 (.if_icmp .ge 74) 3 ∧ De bdX7_queuedLines_0 12 (.aload_n 0) 1 ∧ De bdX7_queuedLines_0 13 (.aload_n 1) 1 ∧ De bdX7_queuedLines_0 14 (.getfield 209) 3 ∧ De bdX7_queuedLines_0 17 (.iload_n 3) 1 ∧ De bdX7_queuedLines_0 18 (.iaload) 1 ∧ De bdX7_queuedLines_0 19 (.invokevirtual 120) 3 ∧ De bdX7_queuedLines_0 22 (.astore 4) 2 ∧ De bdX7_queuedLines_0 24 (.aload 4) 2 := by decide +kernel
theorem dX7_queuedLines_0 : decode cX7_queuedLines 0 = .ok (.iconst 0, 1) := dAt wdX7_queuedLines_0 adX7_queuedLines_0.1 rfl
theorem dX7_queuedLines_1 : decode cX7_queuedLines 1 = .ok (.istore_n 2, 1) := dAt wdX7_queuedLines_0 adX7_queuedLines_0.2.1 rfl
theorem dX7_queuedLines_2 : decode cX7_queuedLines 2 = .ok (.iconst 0, 1) := dAt wdX7_queuedLines_0 adX7_queuedLines_0.2.2.1 rfl
theorem dX7_queuedLines_3 : decode cX7_queuedLines 3 = .ok (.istore_n 3, 1) := dAt wdX7_queuedLines_0 adX7_queuedLines_0.2.2.2.1 rfl
theorem dX7_queuedLines_4 : decode cX7_queuedLines 4 = .ok (.iload_n 3, 1) := dAt wdX7_queuedLines_0 adX7_queuedLines_0.2.2.2.2.1 rfl
theorem dX7_queuedLines_5 : decode cX7_queuedLines 5 = .ok (.aload_n 1, 1) := dAt wdX7_queuedLines_0 adX7_queuedLines_0.2.2.2.2.2.1 rfl
theorem dX7_queuedLines_6 : decode cX7_queuedLines 6 = .ok (.getfield 202, 3) := dAt wdX7_queuedLines_0 adX7_queuedLines_0.2.2.2.2.2.2.1 rfl
theorem dX7_queuedLines_9 : decode cX7_queuedLines 9 = .ok (.if_icmp .ge 74, 3) := dAt wdX7_queuedLines_0 adX7_queuedLines_0.2.2.2.2.2.2.2.1 rfl
theorem dX7_queuedLines_12 : decode cX7_queuedLines 12 = .ok (.aload_n 0, 1) := dAt wdX7_queuedLines_0 adX7_queuedLines_0.2.2.2.2.2.2.2.2.1 rfl
theorem dX7_queuedLines_13 : decode cX7_queuedLines 13 = .ok (.aload_n 1, 1) := dAt wdX7_queuedLines_0 adX7_queuedLines_0.2.2.2.2.2.2.2.2.2.1 rfl
theorem dX7_queuedLines_14 : decode cX7_queuedLines 14 = .ok (.getfield 209, 3) := dAt wdX7_queuedLines_0 adX7_queuedLines_0.2.2.2.2.2.2.2.2.2.2.1 rfl
theorem dX7_queuedLines_17 : decode cX7_queuedLines 17 = .ok (.iload_n 3, 1) := dAt wdX7_queuedLines_0 adX7_queuedLines_0.2.2.2.2.2.2.2.2.2.2.2.1 rfl
theorem dX7_queuedLines_18 : decode cX7_queuedLines 18 = .ok (.iaload, 1) := dAt wdX7_queuedLines_0 adX7_queuedLines_0.2.2.2.2.2.2.2.2.2.2.2.2.1 rfl
theorem dX7_queuedLines_19 : decode cX7_queuedLines 19 = .ok (.invokevirtual 120, 3) := dAt wdX7_queuedLines_0 adX7_queuedLines_0.2.2.2.2.2.2.2.2.2.2.2.2.2.1 rfl
theorem dX7_queuedLines_22 : decode cX7_queuedLines 22 = .ok (.astore 4, 2) := dAt wdX7_queuedLines_0 adX7_queuedLines_0.2.2.2.2.2.2.2.2.2.2.2.2.2.2.1 rfl
theorem dX7_queuedLines_24 : decode cX7_queuedLines 24 = .ok (.aload 4, 2) := dAt wdX7_queuedLines_0 adX7_queuedLines_0.2.2.2.2.2.2.2.2.2.2.2.2.2.2.2 rfl
def bdX7_queuedLines_26 : ByteArray := .mk #[198, 0, 35, 25, 4, 180, 0, 212, 154, 0, 27, 28, 3, 42, 25, 4, 42, 180, 0, 9, 182, 1, 0, 3, 182, 1, 4, 184, 0, 193, 96, 61]
theorem wdX7_queuedLines_26 : LocW cX7_queuedLines 26 bdX7_queuedLines_26 := loc_of (by decide +kernel)
theorem adX7_queuedLines_26 : De bdX7_queuedLines_26 0 (.ifnull 35) 3 ∧ De bdX7_queuedLines_26 3 (.aload 4) 2 ∧ De bdX7_queuedLines_26 5 (.getfield 212) 3 ∧ De bdX7_queuedLines_26 8 (.ifCond .ne 27) 3 ∧ De bdX7_queuedLines_26 11 (.iload_n 2) 1 ∧ De bdX7_queuedLines_26 12 (.iconst 0) 1 ∧ De bdX7_queuedLines_26 13 (.aload_n 0) 1 ∧ De bdX7_queuedLines_26 14 (.aload 4) 2 ∧ De bdX7_queuedLines_26 16 (.aload_n 0) 1 ∧ De bdX7_queuedLines_26 17 (.getfield 9) 3 ∧ De bdX7_queuedLines_26 20 (.invokevirtual 256) 3 ∧ De bdX7_queuedLines_26 23 (.iconst 0) 1 ∧ De bdX7_queuedLines_26 24 (.invokevirtual 260) 3 ∧ De bdX7_queuedLines_26 27 (.invokestatic 193) 3 ∧ De bdX7_queuedLines_26 30 (.iadd) 1 ∧ De bdX7_queuedLines_26 31 (.istore_n 2) 1 := by decide +kernel
theorem dX7_queuedLines_26 : decode cX7_queuedLines 26 = .ok (.ifnull 35, 3) := dAt wdX7_queuedLines_26 adX7_queuedLines_26.1 rfl
theorem dX7_queuedLines_29 : decode cX7_queuedLines 29 = .ok (.aload 4, 2) := dAt wdX7_queuedLines_26 adX7_queuedLines_26.2.1 rfl
theorem dX7_queuedLines_31 : decode cX7_queuedLines 31 = .ok (.getfield 212, 3) := dAt wdX7_queuedLines_26 adX7_queuedLines_26.2.2.1 rfl
theorem dX7_queuedLines_34 : decode cX7_queuedLines 34 = .ok (.ifCond .ne 27, 3) := dAt wdX7_queuedLines_26 adX7_queuedLines_26.2.2.2.1 rfl
theorem dX7_queuedLines_37 : decode cX7_queuedLines 37 = .ok (.iload_n 2, 1) := dAt wdX7_queuedLines_26 adX7_queuedLines_26.2.2.2.2.1 rfl
theorem dX7_queuedLines_38 : decode cX7_queuedLines 38 = .ok (.iconst 0, 1) := dAt wdX7_queuedLines_26 adX7_queuedLines_26.2.2.2.2.2.1 rfl
theorem dX7_queuedLines_39 : decode cX7_queuedLines 39 = .ok (.aload_n 0, 1) := dAt wdX7_queuedLines_26 adX7_queuedLines_26.2.2.2.2.2.2.1 rfl
theorem dX7_queuedLines_40 : decode cX7_queuedLines 40 = .ok (.aload 4, 2) := dAt wdX7_queuedLines_26 adX7_queuedLines_26.2.2.2.2.2.2.2.1 rfl
theorem dX7_queuedLines_42 : decode cX7_queuedLines 42 = .ok (.aload_n 0, 1) := dAt wdX7_queuedLines_26 adX7_queuedLines_26.2.2.2.2.2.2.2.2.1 rfl
theorem dX7_queuedLines_43 : decode cX7_queuedLines 43 = .ok (.getfield 9, 3) := dAt wdX7_queuedLines_26 adX7_queuedLines_26.2.2.2.2.2.2.2.2.2.1 rfl
theorem dX7_queuedLines_46 : decode cX7_queuedLines 46 = .ok (.invokevirtual 256, 3) := dAt wdX7_queuedLines_26 adX7_queuedLines_26.2.2.2.2.2.2.2.2.2.2.1 rfl
theorem dX7_queuedLines_49 : decode cX7_queuedLines 49 = .ok (.iconst 0, 1) := dAt wdX7_queuedLines_26 adX7_queuedLines_26.2.2.2.2.2.2.2.2.2.2.2.1 rfl
theorem dX7_queuedLines_50 : decode cX7_queuedLines 50 = .ok (.invokevirtual 260, 3) := dAt wdX7_queuedLines_26 adX7_queuedLines_26.2.2.2.2.2.2.2.2.2.2.2.2.1 rfl
theorem dX7_queuedLines_53 : decode cX7_queuedLines 53 = .ok (.invokestatic 193, 3) := dAt wdX7_queuedLines_26 adX7_queuedLines_26.2.2.2.2.2.2.2.2.2.2.2.2.2.1 rfl
theorem dX7_queuedLines_56 : decode cX7_queuedLines 56 = .ok (.iadd, 1) := dAt wdX7_queuedLines_26 adX7_queuedLines_26.2.2.2.2.2.2.2.2.2.2.2.2.2.2.1 rfl
theorem dX7_queuedLines_57 : decode cX7_queuedLines 57 = .ok (.istore_n 2, 1) := dAt wdX7_queuedLines_26 adX7_queuedLines_26.2.2.2.2.2.2.2.2.2.2.2.2.2.2.2 rfl
def bdX7_queuedLines_58 : ByteArray := .mk #[167, 0, 19, 28, 43, 180, 0, 222, 29, 46, 43, 180, 0, 228, 29, 46, 100, 96, 61, 132, 3, 1, 167, 255, 180, 28]
theorem wdX7_queuedLines_58 : LocW cX7_queuedLines 58 bdX7_queuedLines_58 := loc_of (by decide +kernel)
theorem adX7_queuedLines_58 : De bdX7_queuedLines_58 0 (.goto 19) 3 ∧ De bdX7_queuedLines_58 3 (.iload_n 2) 1 ∧ De bdX7_queuedLines_58 4 (.aload_n 1) 1 ∧ De bdX7_queuedLines_58 5 (.getfield 222) 3 ∧ De bdX7_queuedLines_58 8 (.iload_n 3) 1 ∧ De bdX7_queuedLines_58 9 (.iaload) 1 ∧ De bdX7_queuedLines_58 10 (.aload_n 1) 1 ∧ De bdX7_queuedLines_58 11 (.getfield 228) 3 ∧ De bdX7_queuedLines_58 14 (.iload_n 3) 1 ∧ De bdX7_queuedLines_58 15 (.iaload) 1 ∧ De bdX7_queuedLines_58 16 (.isub) 1 ∧ De bdX7_queuedLines_58 17 (.iadd) 1 ∧ De bdX7_queuedLines_58 18 (.istore_n 2) 1 ∧ De bdX7_queuedLines_58 19 (.iinc 3 1) 3 ∧ De bdX7_queuedLines_58 22 (.goto (-76)) 3 ∧ De bdX7_queuedLines_58 25 (.iload_n 2) 1 := by decide +kernel
theorem dX7_queuedLines_58 : decode cX7_queuedLines 58 = .ok (.goto 19, 3) := dAt wdX7_queuedLines_58 adX7_queuedLines_58.1 rfl
theorem dX7_queuedLines_61 : decode cX7_queuedLines 61 = .ok (.iload_n 2, 1) := dAt wdX7_queuedLines_58 adX7_queuedLines_58.2.1 rfl
theorem dX7_queuedLines_62 : decode cX7_queuedLines 62 = .ok (.aload_n 1, 1) := dAt wdX7_queuedLines_58 adX7_queuedLines_58.2.2.1 rfl
theorem dX7_queuedLines_63 : decode cX7_queuedLines 63 = .ok (.getfield 222, 3) := dAt wdX7_queuedLines_58 adX7_queuedLines_58.2.2.2.1 rfl
theorem dX7_queuedLines_66 : decode cX7_queuedLines 66 = .ok (.iload_n 3, 1) := dAt wdX7_queuedLines_58 adX7_queuedLines_58.2.2.2.2.1 rfl
theorem dX7_queuedLines_67 : decode cX7_queuedLines 67 = .ok (.iaload, 1) := dAt wdX7_queuedLines_58 adX7_queuedLines_58.2.2.2.2.2.1 rfl
theorem dX7_queuedLines_68 : decode cX7_queuedLines 68 = .ok (.aload_n 1, 1) := dAt wdX7_queuedLines_58 adX7_queuedLines_58.2.2.2.2.2.2.1 rfl
theorem dX7_queuedLines_69 : decode cX7_queuedLines 69 = .ok (.getfield 228, 3) := dAt wdX7_queuedLines_58 adX7_queuedLines_58.2.2.2.2.2.2.2.1 rfl
theorem dX7_queuedLines_72 : decode cX7_queuedLines 72 = .ok (.iload_n 3, 1) := dAt wdX7_queuedLines_58 adX7_queuedLines_58.2.2.2.2.2.2.2.2.1 rfl
theorem dX7_queuedLines_73 : decode cX7_queuedLines 73 = .ok (.iaload, 1) := dAt wdX7_queuedLines_58 adX7_queuedLines_58.2.2.2.2.2.2.2.2.2.1 rfl
theorem dX7_queuedLines_74 : decode cX7_queuedLines 74 = .ok (.isub, 1) := dAt wdX7_queuedLines_58 adX7_queuedLines_58.2.2.2.2.2.2.2.2.2.2.1 rfl
theorem dX7_queuedLines_75 : decode cX7_queuedLines 75 = .ok (.iadd, 1) := dAt wdX7_queuedLines_58 adX7_queuedLines_58.2.2.2.2.2.2.2.2.2.2.2.1 rfl
theorem dX7_queuedLines_76 : decode cX7_queuedLines 76 = .ok (.istore_n 2, 1) := dAt wdX7_queuedLines_58 adX7_queuedLines_58.2.2.2.2.2.2.2.2.2.2.2.2.1 rfl
theorem dX7_queuedLines_77 : decode cX7_queuedLines 77 = .ok (.iinc 3 1, 3) := dAt wdX7_queuedLines_58 adX7_queuedLines_58.2.2.2.2.2.2.2.2.2.2.2.2.2.1 rfl
theorem dX7_queuedLines_80 : decode cX7_queuedLines 80 = .ok (.goto (-76), 3) := dAt wdX7_queuedLines_58 adX7_queuedLines_58.2.2.2.2.2.2.2.2.2.2.2.2.2.2.1 rfl
theorem dX7_queuedLines_83 : decode cX7_queuedLines 83 = .ok (.iload_n 2, 1) := dAt wdX7_queuedLines_58 adX7_queuedLines_58.2.2.2.2.2.2.2.2.2.2.2.2.2.2.2 rfl
def bdX7_queuedLines_84 : ByteArray := .mk #[172]
theorem wdX7_queuedLines_84 : LocW cX7_queuedLines 84 bdX7_queuedLines_84 := loc_of (by decide +kernel)
theorem adX7_queuedLines_84 : De bdX7_queuedLines_84 0 (.ireturn) 1 := by decide +kernel
theorem dX7_queuedLines_84 : decode cX7_queuedLines 84 = .ok (.ireturn, 1) := dAt wdX7_queuedLines_84 adX7_queuedLines_84 rfl
def bdX8_init_0 : ByteArray := .mk #[42, 183, 0, 3, 42, 16, 32, 188, 8, 181, 0, 9, 42, 16, 32, 188, 8, 181, 0, 15, 42, 3, 181, 0, 18, 42, 3, 181, 0, 22]
theorem wdX8_init_0 : LocW cX8_init 0 bdX8_init_0 := loc_of (by decide +kernel)
theorem adX8_init_0 : De bdX8_init_0 0 (.aload_n 0) 1 ∧ De bdX8_init_0 1 (.invokespecial 3) 3 ∧ De bdX8_init_0 4 (.aload_n 0) 1 ∧ De bdX8_init_0 5 (.bipush 32) 2 ∧ De bdX8_init_0 7 (.newarray .byte) 2 ∧ De bdX8_init_0 9 (.putfield 9) 3 ∧ De bdX8_init_0 12 (.aload_n 0) 1 ∧ De bdX8_init_0 13 (.bipush 32) 2 ∧ De bdX8_init_0 15 (.newarray .byte) 2 ∧ De bdX8_init_0 17 (.putfield 15) 3 ∧ De bdX8_init_0 20 (.aload_n 0) 1 ∧ De bdX8_init_0 21 (.iconst 0) 1 ∧ De bdX8_init_0 22 (.putfield 18) 3 ∧ De bdX8_init_0 25 (.aload_n 0) 1 ∧ De bdX8_init_0 26 (.iconst 0) 1 ∧ De bdX8_init_0 27 (.putfield 22) 3 := by decide +kernel
theorem dX8_init_0 : decode cX8_init 0 = .ok (.aload_n 0, 1) := dAt wdX8_init_0 adX8_init_0.1 rfl
theorem dX8_init_1 : decode cX8_init 1 = .ok (.invokespecial 3, 3) := dAt wdX8_init_0 adX8_init_0.2.1 rfl
theorem dX8_init_4 : decode cX8_init 4 = .ok (.aload_n 0, 1) := dAt wdX8_init_0 adX8_init_0.2.2.1 rfl
theorem dX8_init_5 : decode cX8_init 5 = .ok (.bipush 32, 2) := dAt wdX8_init_0 adX8_init_0.2.2.2.1 rfl
theorem dX8_init_7 : decode cX8_init 7 = .ok (.newarray .byte, 2) := dAt wdX8_init_0 adX8_init_0.2.2.2.2.1 rfl
theorem dX8_init_9 : decode cX8_init 9 = .ok (.putfield 9, 3) := dAt wdX8_init_0 adX8_init_0.2.2.2.2.2.1 rfl
theorem dX8_init_12 : decode cX8_init 12 = .ok (.aload_n 0, 1) := dAt wdX8_init_0 adX8_init_0.2.2.2.2.2.2.1 rfl
theorem dX8_init_13 : decode cX8_init 13 = .ok (.bipush 32, 2) := dAt wdX8_init_0 adX8_init_0.2.2.2.2.2.2.2.1 rfl
theorem dX8_init_15 : decode cX8_init 15 = .ok (.newarray .byte, 2) := dAt wdX8_init_0 adX8_init_0.2.2.2.2.2.2.2.2.1 rfl
theorem dX8_init_17 : decode cX8_init 17 = .ok (.putfield 15, 3) := dAt wdX8_init_0 adX8_init_0.2.2.2.2.2.2.2.2.2.1 rfl
theorem dX8_init_20 : decode cX8_init 20 = .ok (.aload_n 0, 1) := dAt wdX8_init_0 adX8_init_0.2.2.2.2.2.2.2.2.2.2.1 rfl
theorem dX8_init_21 : decode cX8_init 21 = .ok (.iconst 0, 1) := dAt wdX8_init_0 adX8_init_0.2.2.2.2.2.2.2.2.2.2.2.1 rfl
theorem dX8_init_22 : decode cX8_init 22 = .ok (.putfield 18, 3) := dAt wdX8_init_0 adX8_init_0.2.2.2.2.2.2.2.2.2.2.2.2.1 rfl
theorem dX8_init_25 : decode cX8_init 25 = .ok (.aload_n 0, 1) := dAt wdX8_init_0 adX8_init_0.2.2.2.2.2.2.2.2.2.2.2.2.2.1 rfl
theorem dX8_init_26 : decode cX8_init 26 = .ok (.iconst 0, 1) := dAt wdX8_init_0 adX8_init_0.2.2.2.2.2.2.2.2.2.2.2.2.2.2.1 rfl
theorem dX8_init_27 : decode cX8_init 27 = .ok (.putfield 22, 3) := dAt wdX8_init_0 adX8_init_0.2.2.2.2.2.2.2.2.2.2.2.2.2.2.2 rfl
def bdX8_init_30 : ByteArray := .mk #[42, 3, 181, 0, 25, 42, 2, 181, 0, 28, 42, 3, 181, 0, 31, 42, 3, 181, 0, 34, 42, 3, 181, 0, 37, 42]
theorem wdX8_init_30 : LocW cX8_init 30 bdX8_init_30 := loc_of (by decide +kernel)
theorem adX8_init_30 : De bdX8_init_30 0 (.aload_n 0) 1 ∧ De bdX8_init_30 1 (.iconst 0) 1 ∧ De bdX8_init_30 2 (.putfield 25) 3 ∧ De bdX8_init_30 5 (.aload_n 0) 1 ∧ De bdX8_init_30 6 (.iconst (-1)) 1 ∧ De bdX8_init_30 7 (.putfield 28) 3 ∧ De bdX8_init_30 10 (.aload_n 0) 1 ∧ De bdX8_init_30 11 (.iconst 0) 1 ∧ De bdX8_init_30 12 (.putfield 31) 3 ∧ De bdX8_init_30 15 (.aload_n 0) 1 ∧ De bdX8_init_30 16 (.iconst 0) 1 ∧ De bdX8_init_30 17 (.putfield 34) 3 ∧ De bdX8_init_30 20 (.aload_n 0) 1 ∧ De bdX8_init_30 21 (.iconst 0) 1 ∧ De bdX8_init_30 22 (.putfield 37) 3 ∧ De bdX8_init_30 25 (.aload_n 0) 1 := by decide +kernel
theorem dX8_init_30 : decode cX8_init 30 = .ok (.aload_n 0, 1) := dAt wdX8_init_30 adX8_init_30.1 rfl
theorem dX8_init_31 : decode cX8_init 31 = .ok (.iconst 0, 1) := dAt wdX8_init_30 adX8_init_30.2.1 rfl
theorem dX8_init_32 : decode cX8_init 32 = .ok (.putfield 25, 3) := dAt wdX8_init_30 adX8_init_30.2.2.1 rfl
theorem dX8_init_35 : decode cX8_init 35 = .ok (.aload_n 0, 1) := dAt wdX8_init_30 adX8_init_30.2.2.2.1 rfl
theorem dX8_init_36 : decode cX8_init 36 = .ok (.iconst (-1), 1) := dAt wdX8_init_30 adX8_init_30.2.2.2.2.1 rfl
theorem dX8_init_37 : decode cX8_init 37 = .ok (.putfield 28, 3) := dAt wdX8_init_30 adX8_init_30.2.2.2.2.2.1 rfl
theorem dX8_init_40 : decode cX8_init 40 = .ok (.aload_n 0, 1) := dAt wdX8_init_30 adX8_init_30.2.2.2.2.2.2.1 rfl
theorem dX8_init_41 : decode cX8_init 41 = .ok (.iconst 0, 1) := dAt wdX8_init_30 adX8_init_30.2.2.2.2.2.2.2.1 rfl
theorem dX8_init_42 : decode cX8_init 42 = .ok (.putfield 31, 3) := dAt wdX8_init_30 adX8_init_30.2.2.2.2.2.2.2.2.1 rfl
theorem dX8_init_45 : decode cX8_init 45 = .ok (.aload_n 0, 1) := dAt wdX8_init_30 adX8_init_30.2.2.2.2.2.2.2.2.2.1 rfl
theorem dX8_init_46 : decode cX8_init 46 = .ok (.iconst 0, 1) := dAt wdX8_init_30 adX8_init_30.2.2.2.2.2.2.2.2.2.2.1 rfl
theorem dX8_init_47 : decode cX8_init 47 = .ok (.putfield 34, 3) := dAt wdX8_init_30 adX8_init_30.2.2.2.2.2.2.2.2.2.2.2.1 rfl
theorem dX8_init_50 : decode cX8_init 50 = .ok (.aload_n 0, 1) := dAt wdX8_init_30 adX8_init_30.2.2.2.2.2.2.2.2.2.2.2.2.1 rfl
theorem dX8_init_51 : decode cX8_init 51 = .ok (.iconst 0, 1) := dAt wdX8_init_30 adX8_init_30.2.2.2.2.2.2.2.2.2.2.2.2.2.1 rfl
theorem dX8_init_52 : decode cX8_init 52 = .ok (.putfield 37, 3) := dAt wdX8_init_30 adX8_init_30.2.2.2.2.2.2.2.2.2.2.2.2.2.2.1 rfl
theorem dX8_init_55 : decode cX8_init 55 = .ok (.aload_n 0, 1) := dAt wdX8_init_30 adX8_init_30.2.2.2.2.2.2.2.2.2.2.2.2.2.2.2 rfl
def bdX8_init_56 : ByteArray := .mk #[3, 181, 0, 40, 42, 3, 181, 0, 43, 42, 2, 181, 0, 46, 42, 2, 181, 0, 49, 42, 3, 181, 0, 52, 42, 3]
theorem wdX8_init_56 : LocW cX8_init 56 bdX8_init_56 := loc_of (by decide +kernel)
theorem adX8_init_56 : De bdX8_init_56 0 (.iconst 0) 1 ∧ De bdX8_init_56 1 (.putfield 40) 3 ∧ De bdX8_init_56 4 (.aload_n 0) 1 ∧ De bdX8_init_56 5 (.iconst 0) 1 ∧ De bdX8_init_56 6 (.putfield 43) 3 ∧ De bdX8_init_56 9 (.aload_n 0) 1 ∧ De bdX8_init_56 10 (.iconst (-1)) 1 ∧ De bdX8_init_56 11 (.putfield 46) 3 ∧ De bdX8_init_56 14 (.aload_n 0) 1 ∧ De bdX8_init_56 15 (.iconst (-1)) 1 ∧ De bdX8_init_56 16 (.putfield 49) 3 ∧ De bdX8_init_56 19 (.aload_n 0) 1 ∧ De bdX8_init_56 20 (.iconst 0) 1 ∧ De bdX8_init_56 21 (.putfield 52) 3 ∧ De bdX8_init_56 24 (.aload_n 0) 1 ∧ De bdX8_init_56 25 (.iconst 0) 1 := by decide +kernel
theorem dX8_init_56 : decode cX8_init 56 = .ok (.iconst 0, 1) := dAt wdX8_init_56 adX8_init_56.1 rfl
theorem dX8_init_57 : decode cX8_init 57 = .ok (.putfield 40, 3) := dAt wdX8_init_56 adX8_init_56.2.1 rfl
theorem dX8_init_60 : decode cX8_init 60 = .ok (.aload_n 0, 1) := dAt wdX8_init_56 adX8_init_56.2.2.1 rfl
theorem dX8_init_61 : decode cX8_init 61 = .ok (.iconst 0, 1) := dAt wdX8_init_56 adX8_init_56.2.2.2.1 rfl
theorem dX8_init_62 : decode cX8_init 62 = .ok (.putfield 43, 3) := dAt wdX8_init_56 adX8_init_56.2.2.2.2.1 rfl
theorem dX8_init_65 : decode cX8_init 65 = .ok (.aload_n 0, 1) := dAt wdX8_init_56 adX8_init_56.2.2.2.2.2.1 rfl
theorem dX8_init_66 : decode cX8_init 66 = .ok (.iconst (-1), 1) := dAt wdX8_init_56 adX8_init_56.2.2.2.2.2.2.1 rfl
theorem dX8_init_67 : decode cX8_init 67 = .ok (.putfield 46, 3) := dAt wdX8_init_56 adX8_init_56.2.2.2.2.2.2.2.1 rfl
theorem dX8_init_70 : decode cX8_init 70 = .ok (.aload_n 0, 1) := dAt wdX8_init_56 adX8_init_56.2.2.2.2.2.2.2.2.1 rfl
theorem dX8_init_71 : decode cX8_init 71 = .ok (.iconst (-1), 1) := dAt wdX8_init_56 adX8_init_56.2.2.2.2.2.2.2.2.2.1 rfl
theorem dX8_init_72 : decode cX8_init 72 = .ok (.putfield 49, 3) := dAt wdX8_init_56 adX8_init_56.2.2.2.2.2.2.2.2.2.2.1 rfl
theorem dX8_init_75 : decode cX8_init 75 = .ok (.aload_n 0, 1) := dAt wdX8_init_56 adX8_init_56.2.2.2.2.2.2.2.2.2.2.2.1 rfl
theorem dX8_init_76 : decode cX8_init 76 = .ok (.iconst 0, 1) := dAt wdX8_init_56 adX8_init_56.2.2.2.2.2.2.2.2.2.2.2.2.1 rfl
theorem dX8_init_77 : decode cX8_init 77 = .ok (.putfield 52, 3) := dAt wdX8_init_56 adX8_init_56.2.2.2.2.2.2.2.2.2.2.2.2.2.1 rfl
theorem dX8_init_80 : decode cX8_init 80 = .ok (.aload_n 0, 1) := dAt wdX8_init_56 adX8_init_56.2.2.2.2.2.2.2.2.2.2.2.2.2.2.1 rfl
theorem dX8_init_81 : decode cX8_init 81 = .ok (.iconst 0, 1) := dAt wdX8_init_56 adX8_init_56.2.2.2.2.2.2.2.2.2.2.2.2.2.2.2 rfl
def bdX8_init_82 : ByteArray := .mk #[181, 0, 55, 177]
theorem wdX8_init_82 : LocW cX8_init 82 bdX8_init_82 := loc_of (by decide +kernel)
theorem adX8_init_82 : De bdX8_init_82 0 (.putfield 55) 3 ∧ De bdX8_init_82 3 (.return_) 1 := by decide +kernel
theorem dX8_init_82 : decode cX8_init 82 = .ok (.putfield 55, 3) := dAt wdX8_init_82 adX8_init_82.1 rfl
theorem dX8_init_85 : decode cX8_init 85 = .ok (.return_, 1) := dAt wdX8_init_82 adX8_init_82.2 rfl
def bdX8_takeAll_0 : ByteArray := .mk #[42, 43, 180, 0, 9, 43, 180, 0, 18, 182, 0, 59, 43, 180, 0, 15, 3, 42, 180, 0, 15, 3, 42, 180, 0, 18, 184, 0, 63, 42]
theorem wdX8_takeAll_0 : LocW cX8_takeAll 0 bdX8_takeAll_0 := loc_of (by decide +kernel)
theorem adX8_takeAll_0 : De bdX8_takeAll_0 0 (.aload_n 0) 1 ∧ De bdX8_takeAll_0 1 (.aload_n 1) 1 ∧ De bdX8_takeAll_0 2 (.getfield 9) 3 ∧ De bdX8_takeAll_0 5 (.aload_n 1) 1 ∧ De bdX8_takeAll_0 6 (.getfield 18) 3 ∧ De bdX8_takeAll_0 9 (.invokevirtual 59) 3 ∧ De bdX8_takeAll_0 12 (.aload_n 1) 1 ∧ De bdX8_takeAll_0 13 (.getfield 15) 3 ∧ De bdX8_takeAll_0 16 (.iconst 0) 1 ∧ De bdX8_takeAll_0 17 (.aload_n 0) 1 ∧ De bdX8_takeAll_0 18 (.getfield 15) 3 ∧ De bdX8_takeAll_0 21 (.iconst 0) 1 ∧ De bdX8_takeAll_0 22 (.aload_n 0) 1 ∧ De bdX8_takeAll_0 23 (.getfield 18) 3 ∧ De bdX8_takeAll_0 26 (.invokestatic 63) 3 ∧ De bdX8_takeAll_0 29 (.aload_n 0) 1 := by decide +kernel
theorem dX8_takeAll_0 : decode cX8_takeAll 0 = .ok (.aload_n 0, 1) := dAt wdX8_takeAll_0 adX8_takeAll_0.1 rfl
theorem dX8_takeAll_1 : decode cX8_takeAll 1 = .ok (.aload_n 1, 1) := dAt wdX8_takeAll_0 adX8_takeAll_0.2.1 rfl
theorem dX8_takeAll_2 : decode cX8_takeAll 2 = .ok (.getfield 9, 3) := dAt wdX8_takeAll_0 adX8_takeAll_0.2.2.1 rfl
theorem dX8_takeAll_5 : decode cX8_takeAll 5 = .ok (.aload_n 1, 1) := dAt wdX8_takeAll_0 adX8_takeAll_0.2.2.2.1 rfl
theorem dX8_takeAll_6 : decode cX8_takeAll 6 = .ok (.getfield 18, 3) := dAt wdX8_takeAll_0 adX8_takeAll_0.2.2.2.2.1 rfl
theorem dX8_takeAll_9 : decode cX8_takeAll 9 = .ok (.invokevirtual 59, 3) := dAt wdX8_takeAll_0 adX8_takeAll_0.2.2.2.2.2.1 rfl
theorem dX8_takeAll_12 : decode cX8_takeAll 12 = .ok (.aload_n 1, 1) := dAt wdX8_takeAll_0 adX8_takeAll_0.2.2.2.2.2.2.1 rfl
theorem dX8_takeAll_13 : decode cX8_takeAll 13 = .ok (.getfield 15, 3) := dAt wdX8_takeAll_0 adX8_takeAll_0.2.2.2.2.2.2.2.1 rfl
theorem dX8_takeAll_16 : decode cX8_takeAll 16 = .ok (.iconst 0, 1) := dAt wdX8_takeAll_0 adX8_takeAll_0.2.2.2.2.2.2.2.2.1 rfl
theorem dX8_takeAll_17 : decode cX8_takeAll 17 = .ok (.aload_n 0, 1) := dAt wdX8_takeAll_0 adX8_takeAll_0.2.2.2.2.2.2.2.2.2.1 rfl
theorem dX8_takeAll_18 : decode cX8_takeAll 18 = .ok (.getfield 15, 3) := dAt wdX8_takeAll_0 adX8_takeAll_0.2.2.2.2.2.2.2.2.2.2.1 rfl
theorem dX8_takeAll_21 : decode cX8_takeAll 21 = .ok (.iconst 0, 1) := dAt wdX8_takeAll_0 adX8_takeAll_0.2.2.2.2.2.2.2.2.2.2.2.1 rfl
theorem dX8_takeAll_22 : decode cX8_takeAll 22 = .ok (.aload_n 0, 1) := dAt wdX8_takeAll_0 adX8_takeAll_0.2.2.2.2.2.2.2.2.2.2.2.2.1 rfl
theorem dX8_takeAll_23 : decode cX8_takeAll 23 = .ok (.getfield 18, 3) := dAt wdX8_takeAll_0 adX8_takeAll_0.2.2.2.2.2.2.2.2.2.2.2.2.2.1 rfl
theorem dX8_takeAll_26 : decode cX8_takeAll 26 = .ok (.invokestatic 63, 3) := dAt wdX8_takeAll_0 adX8_takeAll_0.2.2.2.2.2.2.2.2.2.2.2.2.2.2.1 rfl
theorem dX8_takeAll_29 : decode cX8_takeAll 29 = .ok (.aload_n 0, 1) := dAt wdX8_takeAll_0 adX8_takeAll_0.2.2.2.2.2.2.2.2.2.2.2.2.2.2.2 rfl
def bdX8_takeAll_30 : ByteArray := .mk #[43, 180, 0, 25, 181, 0, 25, 42, 43, 180, 0, 28, 181, 0, 28, 42, 43, 180, 0, 31, 181, 0, 31, 42, 43, 180, 0, 34, 181, 0, 34, 42]
theorem wdX8_takeAll_30 : LocW cX8_takeAll 30 bdX8_takeAll_30 := loc_of (by decide +kernel)
theorem adX8_takeAll_30 : De bdX8_takeAll_30 0 (.aload_n 1) 1 ∧ De bdX8_takeAll_30 1 (.getfield 25) 3 ∧ De bdX8_takeAll_30 4 (.putfield 25) 3 ∧ De bdX8_takeAll_30 7 (.aload_n 0) 1 ∧ De bdX8_takeAll_30 8 (.aload_n 1) 1 ∧ De bdX8_takeAll_30 9 (.getfield 28) 3 ∧ De bdX8_takeAll_30 12 (.putfield 28) 3 ∧ De bdX8_takeAll_30 15 (.aload_n 0) 1 ∧ De bdX8_takeAll_30 16 (.aload_n 1) 1 ∧ De bdX8_takeAll_30 17 (.getfield 31) 3 ∧ De bdX8_takeAll_30 20 (.putfield 31) 3 ∧ De bdX8_takeAll_30 23 (.aload_n 0) 1 ∧ De bdX8_takeAll_30 24 (.aload_n 1) 1 ∧ De bdX8_takeAll_30 25 (.getfield 34) 3 ∧ De bdX8_takeAll_30 28 (.putfield 34) 3 ∧ De bdX8_takeAll_30 31 (.aload_n 0) 1 := by decide +kernel
theorem dX8_takeAll_30 : decode cX8_takeAll 30 = .ok (.aload_n 1, 1) := dAt wdX8_takeAll_30 adX8_takeAll_30.1 rfl
theorem dX8_takeAll_31 : decode cX8_takeAll 31 = .ok (.getfield 25, 3) := dAt wdX8_takeAll_30 adX8_takeAll_30.2.1 rfl
theorem dX8_takeAll_34 : decode cX8_takeAll 34 = .ok (.putfield 25, 3) := dAt wdX8_takeAll_30 adX8_takeAll_30.2.2.1 rfl
theorem dX8_takeAll_37 : decode cX8_takeAll 37 = .ok (.aload_n 0, 1) := dAt wdX8_takeAll_30 adX8_takeAll_30.2.2.2.1 rfl
theorem dX8_takeAll_38 : decode cX8_takeAll 38 = .ok (.aload_n 1, 1) := dAt wdX8_takeAll_30 adX8_takeAll_30.2.2.2.2.1 rfl
theorem dX8_takeAll_39 : decode cX8_takeAll 39 = .ok (.getfield 28, 3) := dAt wdX8_takeAll_30 adX8_takeAll_30.2.2.2.2.2.1 rfl
theorem dX8_takeAll_42 : decode cX8_takeAll 42 = .ok (.putfield 28, 3) := dAt wdX8_takeAll_30 adX8_takeAll_30.2.2.2.2.2.2.1 rfl
theorem dX8_takeAll_45 : decode cX8_takeAll 45 = .ok (.aload_n 0, 1) := dAt wdX8_takeAll_30 adX8_takeAll_30.2.2.2.2.2.2.2.1 rfl
theorem dX8_takeAll_46 : decode cX8_takeAll 46 = .ok (.aload_n 1, 1) := dAt wdX8_takeAll_30 adX8_takeAll_30.2.2.2.2.2.2.2.2.1 rfl
theorem dX8_takeAll_47 : decode cX8_takeAll 47 = .ok (.getfield 31, 3) := dAt wdX8_takeAll_30 adX8_takeAll_30.2.2.2.2.2.2.2.2.2.1 rfl
theorem dX8_takeAll_50 : decode cX8_takeAll 50 = .ok (.putfield 31, 3) := dAt wdX8_takeAll_30 adX8_takeAll_30.2.2.2.2.2.2.2.2.2.2.1 rfl
theorem dX8_takeAll_53 : decode cX8_takeAll 53 = .ok (.aload_n 0, 1) := dAt wdX8_takeAll_30 adX8_takeAll_30.2.2.2.2.2.2.2.2.2.2.2.1 rfl
theorem dX8_takeAll_54 : decode cX8_takeAll 54 = .ok (.aload_n 1, 1) := dAt wdX8_takeAll_30 adX8_takeAll_30.2.2.2.2.2.2.2.2.2.2.2.2.1 rfl
theorem dX8_takeAll_55 : decode cX8_takeAll 55 = .ok (.getfield 34, 3) := dAt wdX8_takeAll_30 adX8_takeAll_30.2.2.2.2.2.2.2.2.2.2.2.2.2.1 rfl
theorem dX8_takeAll_58 : decode cX8_takeAll 58 = .ok (.putfield 34, 3) := dAt wdX8_takeAll_30 adX8_takeAll_30.2.2.2.2.2.2.2.2.2.2.2.2.2.2.1 rfl
theorem dX8_takeAll_61 : decode cX8_takeAll 61 = .ok (.aload_n 0, 1) := dAt wdX8_takeAll_30 adX8_takeAll_30.2.2.2.2.2.2.2.2.2.2.2.2.2.2.2 rfl
def bdX8_takeAll_62 : ByteArray := .mk #[43, 180, 0, 37, 181, 0, 37, 42, 43, 180, 0, 40, 181, 0, 40, 42, 43, 180, 0, 43, 181, 0, 43, 42, 43, 180, 0, 46, 181, 0, 46, 42]
theorem wdX8_takeAll_62 : LocW cX8_takeAll 62 bdX8_takeAll_62 := loc_of (by decide +kernel)
theorem adX8_takeAll_62 : De bdX8_takeAll_62 0 (.aload_n 1) 1 ∧ De bdX8_takeAll_62 1 (.getfield 37) 3 ∧ De bdX8_takeAll_62 4 (.putfield 37) 3 ∧ De bdX8_takeAll_62 7 (.aload_n 0) 1 ∧ De bdX8_takeAll_62 8 (.aload_n 1) 1 ∧ De bdX8_takeAll_62 9 (.getfield 40) 3 ∧ De bdX8_takeAll_62 12 (.putfield 40) 3 ∧ De bdX8_takeAll_62 15 (.aload_n 0) 1 ∧ De bdX8_takeAll_62 16 (.aload_n 1) 1 ∧ De bdX8_takeAll_62 17 (.getfield 43) 3 ∧ De bdX8_takeAll_62 20 (.putfield 43) 3 ∧ De bdX8_takeAll_62 23 (.aload_n 0) 1 ∧ De bdX8_takeAll_62 24 (.aload_n 1) 1 ∧ De bdX8_takeAll_62 25 (.getfield 46) 3 ∧ De bdX8_takeAll_62 28 (.putfield 46) 3 ∧ De bdX8_takeAll_62 31 (.aload_n 0) 1 := by decide +kernel
theorem dX8_takeAll_62 : decode cX8_takeAll 62 = .ok (.aload_n 1, 1) := dAt wdX8_takeAll_62 adX8_takeAll_62.1 rfl
theorem dX8_takeAll_63 : decode cX8_takeAll 63 = .ok (.getfield 37, 3) := dAt wdX8_takeAll_62 adX8_takeAll_62.2.1 rfl
theorem dX8_takeAll_66 : decode cX8_takeAll 66 = .ok (.putfield 37, 3) := dAt wdX8_takeAll_62 adX8_takeAll_62.2.2.1 rfl
theorem dX8_takeAll_69 : decode cX8_takeAll 69 = .ok (.aload_n 0, 1) := dAt wdX8_takeAll_62 adX8_takeAll_62.2.2.2.1 rfl
theorem dX8_takeAll_70 : decode cX8_takeAll 70 = .ok (.aload_n 1, 1) := dAt wdX8_takeAll_62 adX8_takeAll_62.2.2.2.2.1 rfl
theorem dX8_takeAll_71 : decode cX8_takeAll 71 = .ok (.getfield 40, 3) := dAt wdX8_takeAll_62 adX8_takeAll_62.2.2.2.2.2.1 rfl
theorem dX8_takeAll_74 : decode cX8_takeAll 74 = .ok (.putfield 40, 3) := dAt wdX8_takeAll_62 adX8_takeAll_62.2.2.2.2.2.2.1 rfl
theorem dX8_takeAll_77 : decode cX8_takeAll 77 = .ok (.aload_n 0, 1) := dAt wdX8_takeAll_62 adX8_takeAll_62.2.2.2.2.2.2.2.1 rfl
theorem dX8_takeAll_78 : decode cX8_takeAll 78 = .ok (.aload_n 1, 1) := dAt wdX8_takeAll_62 adX8_takeAll_62.2.2.2.2.2.2.2.2.1 rfl
theorem dX8_takeAll_79 : decode cX8_takeAll 79 = .ok (.getfield 43, 3) := dAt wdX8_takeAll_62 adX8_takeAll_62.2.2.2.2.2.2.2.2.2.1 rfl
theorem dX8_takeAll_82 : decode cX8_takeAll 82 = .ok (.putfield 43, 3) := dAt wdX8_takeAll_62 adX8_takeAll_62.2.2.2.2.2.2.2.2.2.2.1 rfl
theorem dX8_takeAll_85 : decode cX8_takeAll 85 = .ok (.aload_n 0, 1) := dAt wdX8_takeAll_62 adX8_takeAll_62.2.2.2.2.2.2.2.2.2.2.2.1 rfl
theorem dX8_takeAll_86 : decode cX8_takeAll 86 = .ok (.aload_n 1, 1) := dAt wdX8_takeAll_62 adX8_takeAll_62.2.2.2.2.2.2.2.2.2.2.2.2.1 rfl
theorem dX8_takeAll_87 : decode cX8_takeAll 87 = .ok (.getfield 46, 3) := dAt wdX8_takeAll_62 adX8_takeAll_62.2.2.2.2.2.2.2.2.2.2.2.2.2.1 rfl
theorem dX8_takeAll_90 : decode cX8_takeAll 90 = .ok (.putfield 46, 3) := dAt wdX8_takeAll_62 adX8_takeAll_62.2.2.2.2.2.2.2.2.2.2.2.2.2.2.1 rfl
theorem dX8_takeAll_93 : decode cX8_takeAll 93 = .ok (.aload_n 0, 1) := dAt wdX8_takeAll_62 adX8_takeAll_62.2.2.2.2.2.2.2.2.2.2.2.2.2.2.2 rfl
def bdX8_takeAll_94 : ByteArray := .mk #[43, 180, 0, 49, 181, 0, 49, 42, 43, 180, 0, 52, 181, 0, 52, 42, 43, 180, 0, 55, 181, 0, 55, 177]
theorem wdX8_takeAll_94 : LocW cX8_takeAll 94 bdX8_takeAll_94 := loc_of (by decide +kernel)
theorem adX8_takeAll_94 : De bdX8_takeAll_94 0 (.aload_n 1) 1 ∧ De bdX8_takeAll_94 1 (.getfield 49) 3 ∧ De bdX8_takeAll_94 4 (.putfield 49) 3 ∧ De bdX8_takeAll_94 7 (.aload_n 0) 1 ∧ De bdX8_takeAll_94 8 (.aload_n 1) 1 ∧ De bdX8_takeAll_94 9 (.getfield 52) 3 ∧ De bdX8_takeAll_94 12 (.putfield 52) 3 ∧ De bdX8_takeAll_94 15 (.aload_n 0) 1 ∧ De bdX8_takeAll_94 16 (.aload_n 1) 1 ∧ De bdX8_takeAll_94 17 (.getfield 55) 3 ∧ De bdX8_takeAll_94 20 (.putfield 55) 3 ∧ De bdX8_takeAll_94 23 (.return_) 1 := by decide +kernel
theorem dX8_takeAll_94 : decode cX8_takeAll 94 = .ok (.aload_n 1, 1) := dAt wdX8_takeAll_94 adX8_takeAll_94.1 rfl
theorem dX8_takeAll_95 : decode cX8_takeAll 95 = .ok (.getfield 49, 3) := dAt wdX8_takeAll_94 adX8_takeAll_94.2.1 rfl
theorem dX8_takeAll_98 : decode cX8_takeAll 98 = .ok (.putfield 49, 3) := dAt wdX8_takeAll_94 adX8_takeAll_94.2.2.1 rfl
theorem dX8_takeAll_101 : decode cX8_takeAll 101 = .ok (.aload_n 0, 1) := dAt wdX8_takeAll_94 adX8_takeAll_94.2.2.2.1 rfl
theorem dX8_takeAll_102 : decode cX8_takeAll 102 = .ok (.aload_n 1, 1) := dAt wdX8_takeAll_94 adX8_takeAll_94.2.2.2.2.1 rfl
theorem dX8_takeAll_103 : decode cX8_takeAll 103 = .ok (.getfield 52, 3) := dAt wdX8_takeAll_94 adX8_takeAll_94.2.2.2.2.2.1 rfl
theorem dX8_takeAll_106 : decode cX8_takeAll 106 = .ok (.putfield 52, 3) := dAt wdX8_takeAll_94 adX8_takeAll_94.2.2.2.2.2.2.1 rfl
theorem dX8_takeAll_109 : decode cX8_takeAll 109 = .ok (.aload_n 0, 1) := dAt wdX8_takeAll_94 adX8_takeAll_94.2.2.2.2.2.2.2.1 rfl
theorem dX8_takeAll_110 : decode cX8_takeAll 110 = .ok (.aload_n 1, 1) := dAt wdX8_takeAll_94 adX8_takeAll_94.2.2.2.2.2.2.2.2.1 rfl
theorem dX8_takeAll_111 : decode cX8_takeAll 111 = .ok (.getfield 55, 3) := dAt wdX8_takeAll_94 adX8_takeAll_94.2.2.2.2.2.2.2.2.2.1 rfl
theorem dX8_takeAll_114 : decode cX8_takeAll 114 = .ok (.putfield 55, 3) := dAt wdX8_takeAll_94 adX8_takeAll_94.2.2.2.2.2.2.2.2.2.2.1 rfl
theorem dX8_takeAll_117 : decode cX8_takeAll 117 = .ok (.return_, 1) := dAt wdX8_takeAll_94 adX8_takeAll_94.2.2.2.2.2.2.2.2.2.2.2 rfl
def bdX8_takeText_0 : ByteArray := .mk #[42, 3, 28, 43, 190, 184, 0, 69, 184, 0, 75, 181, 0, 18, 42, 180, 0, 9, 190, 42, 180, 0, 18, 161, 0, 15, 42, 180, 0, 15]
theorem wdX8_takeText_0 : LocW cX8_takeText 0 bdX8_takeText_0 := loc_of (by decide +kernel)
theorem adX8_takeText_0 : De bdX8_takeText_0 0 (.aload_n 0) 1 ∧ De bdX8_takeText_0 1 (.iconst 0) 1 ∧ De bdX8_takeText_0 2 (.iload_n 2) 1 ∧ De bdX8_takeText_0 3 (.aload_n 1) 1 ∧ De bdX8_takeText_0 4 (.arraylength) 1 ∧ De bdX8_takeText_0 5 (.invokestatic 69) 3 ∧ De bdX8_takeText_0 8 (.invokestatic 75) 3 ∧ De bdX8_takeText_0 11 (.putfield 18) 3 ∧ De bdX8_takeText_0 14 (.aload_n 0) 1 ∧ De bdX8_takeText_0 15 (.getfield 9) 3 ∧ De bdX8_takeText_0 18 (.arraylength) 1 ∧ De bdX8_takeText_0 19 (.aload_n 0) 1 ∧ De bdX8_takeText_0 20 (.getfield 18) 3 ∧ De bdX8_takeText_0 23 (.if_icmp .lt 15) 3 ∧ De bdX8_takeText_0 26 (.aload_n 0) 1 ∧ De bdX8_takeText_0 27 (.getfield 15) 3 := by decide +kernel
theorem dX8_takeText_0 : decode cX8_takeText 0 = .ok (.aload_n 0, 1) := dAt wdX8_takeText_0 adX8_takeText_0.1 rfl
theorem dX8_takeText_1 : decode cX8_takeText 1 = .ok (.iconst 0, 1) := dAt wdX8_takeText_0 adX8_takeText_0.2.1 rfl
theorem dX8_takeText_2 : decode cX8_takeText 2 = .ok (.iload_n 2, 1) := dAt wdX8_takeText_0 adX8_takeText_0.2.2.1 rfl
theorem dX8_takeText_3 : decode cX8_takeText 3 = .ok (.aload_n 1, 1) := dAt wdX8_takeText_0 adX8_takeText_0.2.2.2.1 rfl
theorem dX8_takeText_4 : decode cX8_takeText 4 = .ok (.arraylength, 1) := dAt wdX8_takeText_0 adX8_takeText_0.2.2.2.2.1 rfl
theorem dX8_takeText_5 : decode cX8_takeText 5 = .ok (.invokestatic 69, 3) := dAt wdX8_takeText_0 adX8_takeText_0.2.2.2.2.2.1 rfl
theorem dX8_takeText_8 : decode cX8_takeText 8 = .ok (.invokestatic 75, 3) := dAt wdX8_takeText_0 adX8_takeText_0.2.2.2.2.2.2.1 rfl
theorem dX8_takeText_11 : decode cX8_takeText 11 = .ok (.putfield 18, 3) := dAt wdX8_takeText_0 adX8_takeText_0.2.2.2.2.2.2.2.1 rfl
theorem dX8_takeText_14 : decode cX8_takeText 14 = .ok (.aload_n 0, 1) := dAt wdX8_takeText_0 adX8_takeText_0.2.2.2.2.2.2.2.2.1 rfl
theorem dX8_takeText_15 : decode cX8_takeText 15 = .ok (.getfield 9, 3) := dAt wdX8_takeText_0 adX8_takeText_0.2.2.2.2.2.2.2.2.2.1 rfl
theorem dX8_takeText_18 : decode cX8_takeText 18 = .ok (.arraylength, 1) := dAt wdX8_takeText_0 adX8_takeText_0.2.2.2.2.2.2.2.2.2.2.1 rfl
theorem dX8_takeText_19 : decode cX8_takeText 19 = .ok (.aload_n 0, 1) := dAt wdX8_takeText_0 adX8_takeText_0.2.2.2.2.2.2.2.2.2.2.2.1 rfl
theorem dX8_takeText_20 : decode cX8_takeText 20 = .ok (.getfield 18, 3) := dAt wdX8_takeText_0 adX8_takeText_0.2.2.2.2.2.2.2.2.2.2.2.2.1 rfl
theorem dX8_takeText_23 : decode cX8_takeText 23 = .ok (.if_icmp .lt 15, 3) := dAt wdX8_takeText_0 adX8_takeText_0.2.2.2.2.2.2.2.2.2.2.2.2.2.1 rfl
theorem dX8_takeText_26 : decode cX8_takeText 26 = .ok (.aload_n 0, 1) := dAt wdX8_takeText_0 adX8_takeText_0.2.2.2.2.2.2.2.2.2.2.2.2.2.2.1 rfl
theorem dX8_takeText_27 : decode cX8_takeText 27 = .ok (.getfield 15, 3) := dAt wdX8_takeText_0 adX8_takeText_0.2.2.2.2.2.2.2.2.2.2.2.2.2.2.2 rfl
def bdX8_takeText_30 : ByteArray := .mk #[190, 42, 180, 0, 18, 162, 0, 29, 42, 42, 180, 0, 18, 184, 0, 78, 188, 8, 181, 0, 9, 42, 42, 180, 0, 18, 184, 0, 78, 188, 8, 181, 0, 15]
theorem wdX8_takeText_30 : LocW cX8_takeText 30 bdX8_takeText_30 := loc_of (by decide +kernel)
theorem adX8_takeText_30 : De bdX8_takeText_30 0 (.arraylength) 1 ∧ De bdX8_takeText_30 1 (.aload_n 0) 1 ∧ De bdX8_takeText_30 2 (.getfield 18) 3 ∧ De bdX8_takeText_30 5 (.if_icmp .ge 29) 3 ∧ De bdX8_takeText_30 8 (.aload_n 0) 1 ∧ De bdX8_takeText_30 9 (.aload_n 0) 1 ∧ De bdX8_takeText_30 10 (.getfield 18) 3 ∧ De bdX8_takeText_30 13 (.invokestatic 78) 3 ∧ De bdX8_takeText_30 16 (.newarray .byte) 2 ∧ De bdX8_takeText_30 18 (.putfield 9) 3 ∧ De bdX8_takeText_30 21 (.aload_n 0) 1 ∧ De bdX8_takeText_30 22 (.aload_n 0) 1 ∧ De bdX8_takeText_30 23 (.getfield 18) 3 ∧ De bdX8_takeText_30 26 (.invokestatic 78) 3 ∧ De bdX8_takeText_30 29 (.newarray .byte) 2 ∧ De bdX8_takeText_30 31 (.putfield 15) 3 := by decide +kernel
theorem dX8_takeText_30 : decode cX8_takeText 30 = .ok (.arraylength, 1) := dAt wdX8_takeText_30 adX8_takeText_30.1 rfl
theorem dX8_takeText_31 : decode cX8_takeText 31 = .ok (.aload_n 0, 1) := dAt wdX8_takeText_30 adX8_takeText_30.2.1 rfl
theorem dX8_takeText_32 : decode cX8_takeText 32 = .ok (.getfield 18, 3) := dAt wdX8_takeText_30 adX8_takeText_30.2.2.1 rfl
theorem dX8_takeText_35 : decode cX8_takeText 35 = .ok (.if_icmp .ge 29, 3) := dAt wdX8_takeText_30 adX8_takeText_30.2.2.2.1 rfl
theorem dX8_takeText_38 : decode cX8_takeText 38 = .ok (.aload_n 0, 1) := dAt wdX8_takeText_30 adX8_takeText_30.2.2.2.2.1 rfl
theorem dX8_takeText_39 : decode cX8_takeText 39 = .ok (.aload_n 0, 1) := dAt wdX8_takeText_30 adX8_takeText_30.2.2.2.2.2.1 rfl
theorem dX8_takeText_40 : decode cX8_takeText 40 = .ok (.getfield 18, 3) := dAt wdX8_takeText_30 adX8_takeText_30.2.2.2.2.2.2.1 rfl
theorem dX8_takeText_43 : decode cX8_takeText 43 = .ok (.invokestatic 78, 3) := dAt wdX8_takeText_30 adX8_takeText_30.2.2.2.2.2.2.2.1 rfl
theorem dX8_takeText_46 : decode cX8_takeText 46 = .ok (.newarray .byte, 2) := dAt wdX8_takeText_30 adX8_takeText_30.2.2.2.2.2.2.2.2.1 rfl
theorem dX8_takeText_48 : decode cX8_takeText 48 = .ok (.putfield 9, 3) := dAt wdX8_takeText_30 adX8_takeText_30.2.2.2.2.2.2.2.2.2.1 rfl
theorem dX8_takeText_51 : decode cX8_takeText 51 = .ok (.aload_n 0, 1) := dAt wdX8_takeText_30 adX8_takeText_30.2.2.2.2.2.2.2.2.2.2.1 rfl
theorem dX8_takeText_52 : decode cX8_takeText 52 = .ok (.aload_n 0, 1) := dAt wdX8_takeText_30 adX8_takeText_30.2.2.2.2.2.2.2.2.2.2.2.1 rfl
theorem dX8_takeText_53 : decode cX8_takeText 53 = .ok (.getfield 18, 3) := dAt wdX8_takeText_30 adX8_takeText_30.2.2.2.2.2.2.2.2.2.2.2.2.1 rfl
theorem dX8_takeText_56 : decode cX8_takeText 56 = .ok (.invokestatic 78, 3) := dAt wdX8_takeText_30 adX8_takeText_30.2.2.2.2.2.2.2.2.2.2.2.2.2.1 rfl
theorem dX8_takeText_59 : decode cX8_takeText 59 = .ok (.newarray .byte, 2) := dAt wdX8_takeText_30 adX8_takeText_30.2.2.2.2.2.2.2.2.2.2.2.2.2.2.1 rfl
theorem dX8_takeText_61 : decode cX8_takeText 61 = .ok (.putfield 15, 3) := dAt wdX8_takeText_30 adX8_takeText_30.2.2.2.2.2.2.2.2.2.2.2.2.2.2.2 rfl
def bdX8_takeText_64 : ByteArray := .mk #[43, 3, 42, 180, 0, 9, 3, 42, 180, 0, 18, 184, 0, 63, 43, 3, 42, 180, 0, 15, 3, 42, 180, 0, 18, 184, 0, 63]
theorem wdX8_takeText_64 : LocW cX8_takeText 64 bdX8_takeText_64 := loc_of (by decide +kernel)
theorem adX8_takeText_64 : De bdX8_takeText_64 0 (.aload_n 1) 1 ∧ De bdX8_takeText_64 1 (.iconst 0) 1 ∧ De bdX8_takeText_64 2 (.aload_n 0) 1 ∧ De bdX8_takeText_64 3 (.getfield 9) 3 ∧ De bdX8_takeText_64 6 (.iconst 0) 1 ∧ De bdX8_takeText_64 7 (.aload_n 0) 1 ∧ De bdX8_takeText_64 8 (.getfield 18) 3 ∧ De bdX8_takeText_64 11 (.invokestatic 63) 3 ∧ De bdX8_takeText_64 14 (.aload_n 1) 1 ∧ De bdX8_takeText_64 15 (.iconst 0) 1 ∧ De bdX8_takeText_64 16 (.aload_n 0) 1 ∧ De bdX8_takeText_64 17 (.getfield 15) 3 ∧ De bdX8_takeText_64 20 (.iconst 0) 1 ∧ De bdX8_takeText_64 21 (.aload_n 0) 1 ∧ De bdX8_takeText_64 22 (.getfield 18) 3 ∧ De bdX8_takeText_64 25 (.invokestatic 63) 3 := by decide +kernel
theorem dX8_takeText_64 : decode cX8_takeText 64 = .ok (.aload_n 1, 1) := dAt wdX8_takeText_64 adX8_takeText_64.1 rfl
theorem dX8_takeText_65 : decode cX8_takeText 65 = .ok (.iconst 0, 1) := dAt wdX8_takeText_64 adX8_takeText_64.2.1 rfl
theorem dX8_takeText_66 : decode cX8_takeText 66 = .ok (.aload_n 0, 1) := dAt wdX8_takeText_64 adX8_takeText_64.2.2.1 rfl
theorem dX8_takeText_67 : decode cX8_takeText 67 = .ok (.getfield 9, 3) := dAt wdX8_takeText_64 adX8_takeText_64.2.2.2.1 rfl
theorem dX8_takeText_70 : decode cX8_takeText 70 = .ok (.iconst 0, 1) := dAt wdX8_takeText_64 adX8_takeText_64.2.2.2.2.1 rfl
theorem dX8_takeText_71 : decode cX8_takeText 71 = .ok (.aload_n 0, 1) := dAt wdX8_takeText_64 adX8_takeText_64.2.2.2.2.2.1 rfl
theorem dX8_takeText_72 : decode cX8_takeText 72 = .ok (.getfield 18, 3) := dAt wdX8_takeText_64 adX8_takeText_64.2.2.2.2.2.2.1 rfl
theorem dX8_takeText_75 : decode cX8_takeText 75 = .ok (.invokestatic 63, 3) := dAt wdX8_takeText_64 adX8_takeText_64.2.2.2.2.2.2.2.1 rfl
theorem dX8_takeText_78 : decode cX8_takeText 78 = .ok (.aload_n 1, 1) := dAt wdX8_takeText_64 adX8_takeText_64.2.2.2.2.2.2.2.2.1 rfl
theorem dX8_takeText_79 : decode cX8_takeText 79 = .ok (.iconst 0, 1) := dAt wdX8_takeText_64 adX8_takeText_64.2.2.2.2.2.2.2.2.2.1 rfl
theorem dX8_takeText_80 : decode cX8_takeText 80 = .ok (.aload_n 0, 1) := dAt wdX8_takeText_64 adX8_takeText_64.2.2.2.2.2.2.2.2.2.2.1 rfl
theorem dX8_takeText_81 : decode cX8_takeText 81 = .ok (.getfield 15, 3) := dAt wdX8_takeText_64 adX8_takeText_64.2.2.2.2.2.2.2.2.2.2.2.1 rfl
theorem dX8_takeText_84 : decode cX8_takeText 84 = .ok (.iconst 0, 1) := dAt wdX8_takeText_64 adX8_takeText_64.2.2.2.2.2.2.2.2.2.2.2.2.1 rfl
theorem dX8_takeText_85 : decode cX8_takeText 85 = .ok (.aload_n 0, 1) := dAt wdX8_takeText_64 adX8_takeText_64.2.2.2.2.2.2.2.2.2.2.2.2.2.1 rfl
theorem dX8_takeText_86 : decode cX8_takeText 86 = .ok (.getfield 18, 3) := dAt wdX8_takeText_64 adX8_takeText_64.2.2.2.2.2.2.2.2.2.2.2.2.2.2.1 rfl
theorem dX8_takeText_89 : decode cX8_takeText 89 = .ok (.invokestatic 63, 3) := dAt wdX8_takeText_64 adX8_takeText_64.2.2.2.2.2.2.2.2.2.2.2.2.2.2.2 rfl
def bdX8_takeText_92 : ByteArray := .mk #[42, 3, 181, 0, 22, 3, 62, 29, 42, 180, 0, 18, 162, 0, 34, 42, 89, 180, 0, 22, 42, 180, 0, 9, 29, 51]
theorem wdX8_takeText_92 : LocW cX8_takeText 92 bdX8_takeText_92 := loc_of (by decide +kernel)
theorem adX8_takeText_92 : De bdX8_takeText_92 0 (.aload_n 0) 1 ∧ De bdX8_takeText_92 1 (.iconst 0) 1 ∧ De bdX8_takeText_92 2 (.putfield 22) 3 ∧ De bdX8_takeText_92 5 (.iconst 0) 1 ∧ De bdX8_takeText_92 6 (.istore_n 3) 1 ∧ De bdX8_takeText_92 7 (.iload_n 3) 1 ∧ De bdX8_takeText_92 8 (.aload_n 0) 1 ∧ De bdX8_takeText_92 9 (.getfield 18) 3 ∧ De bdX8_takeText_92 12 (.if_icmp .ge 34) 3 ∧ De bdX8_takeText_92 15 (.aload_n 0) 1 ∧ De bdX8_takeText_92 16 (.dup) 1 ∧ De bdX8_takeText_92 17 (.getfield 22) 3 ∧ De bdX8_takeText_92 20 (.aload_n 0) 1 ∧ De bdX8_takeText_92 21 (.getfield 9) 3 ∧ De bdX8_takeText_92 24 (.iload_n 3) 1 ∧ De bdX8_takeText_92 25 (.baload) 1 := by decide +kernel
theorem dX8_takeText_92 : decode cX8_takeText 92 = .ok (.aload_n 0, 1) := dAt wdX8_takeText_92 adX8_takeText_92.1 rfl
theorem dX8_takeText_93 : decode cX8_takeText 93 = .ok (.iconst 0, 1) := dAt wdX8_takeText_92 adX8_takeText_92.2.1 rfl
theorem dX8_takeText_94 : decode cX8_takeText 94 = .ok (.putfield 22, 3) := dAt wdX8_takeText_92 adX8_takeText_92.2.2.1 rfl
theorem dX8_takeText_97 : decode cX8_takeText 97 = .ok (.iconst 0, 1) := dAt wdX8_takeText_92 adX8_takeText_92.2.2.2.1 rfl
theorem dX8_takeText_98 : decode cX8_takeText 98 = .ok (.istore_n 3, 1) := dAt wdX8_takeText_92 adX8_takeText_92.2.2.2.2.1 rfl
theorem dX8_takeText_99 : decode cX8_takeText 99 = .ok (.iload_n 3, 1) := dAt wdX8_takeText_92 adX8_takeText_92.2.2.2.2.2.1 rfl
theorem dX8_takeText_100 : decode cX8_takeText 100 = .ok (.aload_n 0, 1) := dAt wdX8_takeText_92 adX8_takeText_92.2.2.2.2.2.2.1 rfl
theorem dX8_takeText_101 : decode cX8_takeText 101 = .ok (.getfield 18, 3) := dAt wdX8_takeText_92 adX8_takeText_92.2.2.2.2.2.2.2.1 rfl
theorem dX8_takeText_104 : decode cX8_takeText 104 = .ok (.if_icmp .ge 34, 3) := dAt wdX8_takeText_92 adX8_takeText_92.2.2.2.2.2.2.2.2.1 rfl
theorem dX8_takeText_107 : decode cX8_takeText 107 = .ok (.aload_n 0, 1) := dAt wdX8_takeText_92 adX8_takeText_92.2.2.2.2.2.2.2.2.2.1 rfl
theorem dX8_takeText_108 : decode cX8_takeText 108 = .ok (.dup, 1) := dAt wdX8_takeText_92 adX8_takeText_92.2.2.2.2.2.2.2.2.2.2.1 rfl
theorem dX8_takeText_109 : decode cX8_takeText 109 = .ok (.getfield 22, 3) := dAt wdX8_takeText_92 adX8_takeText_92.2.2.2.2.2.2.2.2.2.2.2.1 rfl
theorem dX8_takeText_112 : decode cX8_takeText 112 = .ok (.aload_n 0, 1) := dAt wdX8_takeText_92 adX8_takeText_92.2.2.2.2.2.2.2.2.2.2.2.2.1 rfl
theorem dX8_takeText_113 : decode cX8_takeText 113 = .ok (.getfield 9, 3) := dAt wdX8_takeText_92 adX8_takeText_92.2.2.2.2.2.2.2.2.2.2.2.2.2.1 rfl
theorem dX8_takeText_116 : decode cX8_takeText 116 = .ok (.iload_n 3, 1) := dAt wdX8_takeText_92 adX8_takeText_92.2.2.2.2.2.2.2.2.2.2.2.2.2.2.1 rfl
theorem dX8_takeText_117 : decode cX8_takeText 117 = .ok (.baload, 1) := dAt wdX8_takeText_92 adX8_takeText_92.2.2.2.2.2.2.2.2.2.2.2.2.2.2.2 rfl
def bdX8_takeText_118 : ByteArray := .mk #[16, 32, 160, 0, 7, 3, 167, 0, 4, 4, 96, 181, 0, 22, 132, 3, 1, 167, 255, 220, 42, 3, 181, 0, 25, 42, 3, 181, 0, 52, 177]
theorem wdX8_takeText_118 : LocW cX8_takeText 118 bdX8_takeText_118 := loc_of (by decide +kernel)
theorem adX8_takeText_118 : De bdX8_takeText_118 0 (.bipush 32) 2 ∧ De bdX8_takeText_118 2 (.if_icmp .ne 7) 3 ∧ De bdX8_takeText_118 5 (.iconst 0) 1 ∧ De bdX8_takeText_118 6 (.goto 4) 3 ∧ De bdX8_takeText_118 9 (.iconst 1) 1 ∧ De bdX8_takeText_118 10 (.iadd) 1 ∧ De bdX8_takeText_118 11 (.putfield 22) 3 ∧ De bdX8_takeText_118 14 (.iinc 3 1) 3 ∧ De bdX8_takeText_118 17 (.goto (-36)) 3 ∧ De bdX8_takeText_118 20 (.aload_n 0) 1 ∧ De bdX8_takeText_118 21 (.iconst 0) 1 ∧ De bdX8_takeText_118 22 (.putfield 25) 3 ∧ De bdX8_takeText_118 25 (.aload_n 0) 1 ∧ De bdX8_takeText_118 26 (.iconst 0) 1 ∧ De bdX8_takeText_118 27 (.putfield 52) 3 ∧ De bdX8_takeText_118 30 (.return_) 1 := by decide +kernel
theorem dX8_takeText_118 : decode cX8_takeText 118 = .ok (.bipush 32, 2) := dAt wdX8_takeText_118 adX8_takeText_118.1 rfl
theorem dX8_takeText_120 : decode cX8_takeText 120 = .ok (.if_icmp .ne 7, 3) := dAt wdX8_takeText_118 adX8_takeText_118.2.1 rfl
theorem dX8_takeText_123 : decode cX8_takeText 123 = .ok (.iconst 0, 1) := dAt wdX8_takeText_118 adX8_takeText_118.2.2.1 rfl
theorem dX8_takeText_124 : decode cX8_takeText 124 = .ok (.goto 4, 3) := dAt wdX8_takeText_118 adX8_takeText_118.2.2.2.1 rfl
theorem dX8_takeText_127 : decode cX8_takeText 127 = .ok (.iconst 1, 1) := dAt wdX8_takeText_118 adX8_takeText_118.2.2.2.2.1 rfl
theorem dX8_takeText_128 : decode cX8_takeText 128 = .ok (.iadd, 1) := dAt wdX8_takeText_118 adX8_takeText_118.2.2.2.2.2.1 rfl
theorem dX8_takeText_129 : decode cX8_takeText 129 = .ok (.putfield 22, 3) := dAt wdX8_takeText_118 adX8_takeText_118.2.2.2.2.2.2.1 rfl
theorem dX8_takeText_132 : decode cX8_takeText 132 = .ok (.iinc 3 1, 3) := dAt wdX8_takeText_118 adX8_takeText_118.2.2.2.2.2.2.2.1 rfl
theorem dX8_takeText_135 : decode cX8_takeText 135 = .ok (.goto (-36), 3) := dAt wdX8_takeText_118 adX8_takeText_118.2.2.2.2.2.2.2.2.1 rfl
theorem dX8_takeText_138 : decode cX8_takeText 138 = .ok (.aload_n 0, 1) := dAt wdX8_takeText_118 adX8_takeText_118.2.2.2.2.2.2.2.2.2.1 rfl
theorem dX8_takeText_139 : decode cX8_takeText 139 = .ok (.iconst 0, 1) := dAt wdX8_takeText_118 adX8_takeText_118.2.2.2.2.2.2.2.2.2.2.1 rfl
theorem dX8_takeText_140 : decode cX8_takeText 140 = .ok (.putfield 25, 3) := dAt wdX8_takeText_118 adX8_takeText_118.2.2.2.2.2.2.2.2.2.2.2.1 rfl
theorem dX8_takeText_143 : decode cX8_takeText 143 = .ok (.aload_n 0, 1) := dAt wdX8_takeText_118 adX8_takeText_118.2.2.2.2.2.2.2.2.2.2.2.2.1 rfl
theorem dX8_takeText_144 : decode cX8_takeText 144 = .ok (.iconst 0, 1) := dAt wdX8_takeText_118 adX8_takeText_118.2.2.2.2.2.2.2.2.2.2.2.2.2.1 rfl
theorem dX8_takeText_145 : decode cX8_takeText 145 = .ok (.putfield 52, 3) := dAt wdX8_takeText_118 adX8_takeText_118.2.2.2.2.2.2.2.2.2.2.2.2.2.2.1 rfl
theorem dX8_takeText_148 : decode cX8_takeText 148 = .ok (.return_, 1) := dAt wdX8_takeText_118 adX8_takeText_118.2.2.2.2.2.2.2.2.2.2.2.2.2.2.2 rfl
def bdX8_roomFor_0 : ByteArray := .mk #[16, 32, 60, 27, 26, 162, 0, 17, 27, 17, 2, 0, 162, 0, 10, 27, 5, 104, 60, 167, 255, 240, 27, 26, 184, 0, 75]
theorem wdX8_roomFor_0 : LocW cX8_roomFor 0 bdX8_roomFor_0 := loc_of (by decide +kernel)
theorem adX8_roomFor_0 : De bdX8_roomFor_0 0 (.bipush 32) 2 ∧ De bdX8_roomFor_0 2 (.istore_n 1) 1 ∧ De bdX8_roomFor_0 3 (.iload_n 1) 1 ∧ De bdX8_roomFor_0 4 (.iload_n 0) 1 ∧ De bdX8_roomFor_0 5 (.if_icmp .ge 17) 3 ∧ De bdX8_roomFor_0 8 (.iload_n 1) 1 ∧ De bdX8_roomFor_0 9 (.sipush 512) 3 ∧ De bdX8_roomFor_0 12 (.if_icmp .ge 10) 3 ∧ De bdX8_roomFor_0 15 (.iload_n 1) 1 ∧ De bdX8_roomFor_0 16 (.iconst 2) 1 ∧ De bdX8_roomFor_0 17 (.imul) 1 ∧ De bdX8_roomFor_0 18 (.istore_n 1) 1 ∧ De bdX8_roomFor_0 19 (.goto (-16)) 3 ∧ De bdX8_roomFor_0 22 (.iload_n 1) 1 ∧ De bdX8_roomFor_0 23 (.iload_n 0) 1 ∧ De bdX8_roomFor_0 24 (.invokestatic 75) 3 := by decide +kernel
theorem dX8_roomFor_0 : decode cX8_roomFor 0 = .ok (.bipush 32, 2) := dAt wdX8_roomFor_0 adX8_roomFor_0.1 rfl
theorem dX8_roomFor_2 : decode cX8_roomFor 2 = .ok (.istore_n 1, 1) := dAt wdX8_roomFor_0 adX8_roomFor_0.2.1 rfl
theorem dX8_roomFor_3 : decode cX8_roomFor 3 = .ok (.iload_n 1, 1) := dAt wdX8_roomFor_0 adX8_roomFor_0.2.2.1 rfl
theorem dX8_roomFor_4 : decode cX8_roomFor 4 = .ok (.iload_n 0, 1) := dAt wdX8_roomFor_0 adX8_roomFor_0.2.2.2.1 rfl
theorem dX8_roomFor_5 : decode cX8_roomFor 5 = .ok (.if_icmp .ge 17, 3) := dAt wdX8_roomFor_0 adX8_roomFor_0.2.2.2.2.1 rfl
theorem dX8_roomFor_8 : decode cX8_roomFor 8 = .ok (.iload_n 1, 1) := dAt wdX8_roomFor_0 adX8_roomFor_0.2.2.2.2.2.1 rfl
theorem dX8_roomFor_9 : decode cX8_roomFor 9 = .ok (.sipush 512, 3) := dAt wdX8_roomFor_0 adX8_roomFor_0.2.2.2.2.2.2.1 rfl
theorem dX8_roomFor_12 : decode cX8_roomFor 12 = .ok (.if_icmp .ge 10, 3) := dAt wdX8_roomFor_0 adX8_roomFor_0.2.2.2.2.2.2.2.1 rfl
theorem dX8_roomFor_15 : decode cX8_roomFor 15 = .ok (.iload_n 1, 1) := dAt wdX8_roomFor_0 adX8_roomFor_0.2.2.2.2.2.2.2.2.1 rfl
theorem dX8_roomFor_16 : decode cX8_roomFor 16 = .ok (.iconst 2, 1) := dAt wdX8_roomFor_0 adX8_roomFor_0.2.2.2.2.2.2.2.2.2.1 rfl
theorem dX8_roomFor_17 : decode cX8_roomFor 17 = .ok (.imul, 1) := dAt wdX8_roomFor_0 adX8_roomFor_0.2.2.2.2.2.2.2.2.2.2.1 rfl
theorem dX8_roomFor_18 : decode cX8_roomFor 18 = .ok (.istore_n 1, 1) := dAt wdX8_roomFor_0 adX8_roomFor_0.2.2.2.2.2.2.2.2.2.2.2.1 rfl
theorem dX8_roomFor_19 : decode cX8_roomFor 19 = .ok (.goto (-16), 3) := dAt wdX8_roomFor_0 adX8_roomFor_0.2.2.2.2.2.2.2.2.2.2.2.2.1 rfl
theorem dX8_roomFor_22 : decode cX8_roomFor 22 = .ok (.iload_n 1, 1) := dAt wdX8_roomFor_0 adX8_roomFor_0.2.2.2.2.2.2.2.2.2.2.2.2.2.1 rfl
theorem dX8_roomFor_23 : decode cX8_roomFor 23 = .ok (.iload_n 0, 1) := dAt wdX8_roomFor_0 adX8_roomFor_0.2.2.2.2.2.2.2.2.2.2.2.2.2.2.1 rfl
theorem dX8_roomFor_24 : decode cX8_roomFor 24 = .ok (.invokestatic 75, 3) := dAt wdX8_roomFor_0 adX8_roomFor_0.2.2.2.2.2.2.2.2.2.2.2.2.2.2.2 rfl
def bdX8_roomFor_27 : ByteArray := .mk #[172]
theorem wdX8_roomFor_27 : LocW cX8_roomFor 27 bdX8_roomFor_27 := loc_of (by decide +kernel)
theorem adX8_roomFor_27 : De bdX8_roomFor_27 0 (.ireturn) 1 := by decide +kernel
theorem dX8_roomFor_27 : decode cX8_roomFor 27 = .ok (.ireturn, 1) := dAt wdX8_roomFor_27 adX8_roomFor_27 rfl
def bdX8_byteOfLetter_0 : ByteArray := .mk #[3, 61, 3, 62, 29, 42, 180, 0, 18, 162, 0, 31, 42, 180, 0, 15, 29, 51, 184, 0, 82, 153, 0, 13, 28, 27]
theorem wdX8_byteOfLetter_0 : LocW cX8_byteOfLetter 0 bdX8_byteOfLetter_0 := loc_of (by decide +kernel)
theorem adX8_byteOfLetter_0 : De bdX8_byteOfLetter_0 0 (.iconst 0) 1 ∧ De bdX8_byteOfLetter_0 1 (.istore_n 2) 1 ∧ De bdX8_byteOfLetter_0 2 (.iconst 0) 1 ∧ De bdX8_byteOfLetter_0 3 (.istore_n 3) 1 ∧ De bdX8_byteOfLetter_0 4 (.iload_n 3) 1 ∧ De bdX8_byteOfLetter_0 5 (.aload_n 0) 1 ∧ De bdX8_byteOfLetter_0 6 (.getfield 18) 3 ∧ De bdX8_byteOfLetter_0 9 (.if_icmp .ge 31) 3 ∧ De bdX8_byteOfLetter_0 12 (.aload_n 0) 1 ∧ De bdX8_byteOfLetter_0 13 (.getfield 15) 3 ∧ De bdX8_byteOfLetter_0 16 (.iload_n 3) 1 ∧ De bdX8_byteOfLetter_0 17 (.baload) 1 ∧ De bdX8_byteOfLetter_0 18 (.invokestatic 82) 3 ∧ De bdX8_byteOfLetter_0 21 (.ifCond .eq 13) 3 ∧ De bdX8_byteOfLetter_0 24 (.iload_n 2) 1 ∧ De bdX8_byteOfLetter_0 25 (.iload_n 1) 1 := by decide +kernel
theorem dX8_byteOfLetter_0 : decode cX8_byteOfLetter 0 = .ok (.iconst 0, 1) := dAt wdX8_byteOfLetter_0 adX8_byteOfLetter_0.1 rfl
theorem dX8_byteOfLetter_1 : decode cX8_byteOfLetter 1 = .ok (.istore_n 2, 1) := dAt wdX8_byteOfLetter_0 adX8_byteOfLetter_0.2.1 rfl
theorem dX8_byteOfLetter_2 : decode cX8_byteOfLetter 2 = .ok (.iconst 0, 1) := dAt wdX8_byteOfLetter_0 adX8_byteOfLetter_0.2.2.1 rfl
theorem dX8_byteOfLetter_3 : decode cX8_byteOfLetter 3 = .ok (.istore_n 3, 1) := dAt wdX8_byteOfLetter_0 adX8_byteOfLetter_0.2.2.2.1 rfl
theorem dX8_byteOfLetter_4 : decode cX8_byteOfLetter 4 = .ok (.iload_n 3, 1) := dAt wdX8_byteOfLetter_0 adX8_byteOfLetter_0.2.2.2.2.1 rfl
theorem dX8_byteOfLetter_5 : decode cX8_byteOfLetter 5 = .ok (.aload_n 0, 1) := dAt wdX8_byteOfLetter_0 adX8_byteOfLetter_0.2.2.2.2.2.1 rfl
theorem dX8_byteOfLetter_6 : decode cX8_byteOfLetter 6 = .ok (.getfield 18, 3) := dAt wdX8_byteOfLetter_0 adX8_byteOfLetter_0.2.2.2.2.2.2.1 rfl
theorem dX8_byteOfLetter_9 : decode cX8_byteOfLetter 9 = .ok (.if_icmp .ge 31, 3) := dAt wdX8_byteOfLetter_0 adX8_byteOfLetter_0.2.2.2.2.2.2.2.1 rfl
theorem dX8_byteOfLetter_12 : decode cX8_byteOfLetter 12 = .ok (.aload_n 0, 1) := dAt wdX8_byteOfLetter_0 adX8_byteOfLetter_0.2.2.2.2.2.2.2.2.1 rfl
theorem dX8_byteOfLetter_13 : decode cX8_byteOfLetter 13 = .ok (.getfield 15, 3) := dAt wdX8_byteOfLetter_0 adX8_byteOfLetter_0.2.2.2.2.2.2.2.2.2.1 rfl
theorem dX8_byteOfLetter_16 : decode cX8_byteOfLetter 16 = .ok (.iload_n 3, 1) := dAt wdX8_byteOfLetter_0 adX8_byteOfLetter_0.2.2.2.2.2.2.2.2.2.2.1 rfl
theorem dX8_byteOfLetter_17 : decode cX8_byteOfLetter 17 = .ok (.baload, 1) := dAt wdX8_byteOfLetter_0 adX8_byteOfLetter_0.2.2.2.2.2.2.2.2.2.2.2.1 rfl
theorem dX8_byteOfLetter_18 : decode cX8_byteOfLetter 18 = .ok (.invokestatic 82, 3) := dAt wdX8_byteOfLetter_0 adX8_byteOfLetter_0.2.2.2.2.2.2.2.2.2.2.2.2.1 rfl
theorem dX8_byteOfLetter_21 : decode cX8_byteOfLetter 21 = .ok (.ifCond .eq 13, 3) := dAt wdX8_byteOfLetter_0 adX8_byteOfLetter_0.2.2.2.2.2.2.2.2.2.2.2.2.2.1 rfl
theorem dX8_byteOfLetter_24 : decode cX8_byteOfLetter 24 = .ok (.iload_n 2, 1) := dAt wdX8_byteOfLetter_0 adX8_byteOfLetter_0.2.2.2.2.2.2.2.2.2.2.2.2.2.2.1 rfl
theorem dX8_byteOfLetter_25 : decode cX8_byteOfLetter 25 = .ok (.iload_n 1, 1) := dAt wdX8_byteOfLetter_0 adX8_byteOfLetter_0.2.2.2.2.2.2.2.2.2.2.2.2.2.2.2 rfl
def bdX8_byteOfLetter_26 : ByteArray := .mk #[160, 0, 5, 29, 172, 132, 2, 1, 132, 3, 1, 167, 255, 223, 2, 172]
theorem wdX8_byteOfLetter_26 : LocW cX8_byteOfLetter 26 bdX8_byteOfLetter_26 := loc_of (by decide +kernel)
theorem adX8_byteOfLetter_26 : De bdX8_byteOfLetter_26 0 (.if_icmp .ne 5) 3 ∧ De bdX8_byteOfLetter_26 3 (.iload_n 3) 1 ∧ De bdX8_byteOfLetter_26 4 (.ireturn) 1 ∧ De bdX8_byteOfLetter_26 5 (.iinc 2 1) 3 ∧ De bdX8_byteOfLetter_26 8 (.iinc 3 1) 3 ∧ De bdX8_byteOfLetter_26 11 (.goto (-33)) 3 ∧ De bdX8_byteOfLetter_26 14 (.iconst (-1)) 1 ∧ De bdX8_byteOfLetter_26 15 (.ireturn) 1 := by decide +kernel
theorem dX8_byteOfLetter_26 : decode cX8_byteOfLetter 26 = .ok (.if_icmp .ne 5, 3) := dAt wdX8_byteOfLetter_26 adX8_byteOfLetter_26.1 rfl
theorem dX8_byteOfLetter_29 : decode cX8_byteOfLetter 29 = .ok (.iload_n 3, 1) := dAt wdX8_byteOfLetter_26 adX8_byteOfLetter_26.2.1 rfl
theorem dX8_byteOfLetter_30 : decode cX8_byteOfLetter 30 = .ok (.ireturn, 1) := dAt wdX8_byteOfLetter_26 adX8_byteOfLetter_26.2.2.1 rfl
theorem dX8_byteOfLetter_31 : decode cX8_byteOfLetter 31 = .ok (.iinc 2 1, 3) := dAt wdX8_byteOfLetter_26 adX8_byteOfLetter_26.2.2.2.1 rfl
theorem dX8_byteOfLetter_34 : decode cX8_byteOfLetter 34 = .ok (.iinc 3 1, 3) := dAt wdX8_byteOfLetter_26 adX8_byteOfLetter_26.2.2.2.2.1 rfl
theorem dX8_byteOfLetter_37 : decode cX8_byteOfLetter 37 = .ok (.goto (-33), 3) := dAt wdX8_byteOfLetter_26 adX8_byteOfLetter_26.2.2.2.2.2.1 rfl
theorem dX8_byteOfLetter_40 : decode cX8_byteOfLetter 40 = .ok (.iconst (-1), 1) := dAt wdX8_byteOfLetter_26 adX8_byteOfLetter_26.2.2.2.2.2.2.1 rfl
theorem dX8_byteOfLetter_41 : decode cX8_byteOfLetter 41 = .ok (.ireturn, 1) := dAt wdX8_byteOfLetter_26 adX8_byteOfLetter_26.2.2.2.2.2.2.2 rfl
def bdX8_tellLetter_0 : ByteArray := .mk #[27, 155, 0, 21, 27, 42, 180, 0, 18, 162, 0, 13, 42, 180, 0, 15, 27, 51, 28, 160, 0, 5, 3, 172, 42, 89]
theorem wdX8_tellLetter_0 : LocW cX8_tellLetter 0 bdX8_tellLetter_0 := loc_of (by decide +kernel)
theorem adX8_tellLetter_0 : De bdX8_tellLetter_0 0 (.iload_n 1) 1 ∧ De bdX8_tellLetter_0 1 (.ifCond .lt 21) 3 ∧ De bdX8_tellLetter_0 4 (.iload_n 1) 1 ∧ De bdX8_tellLetter_0 5 (.aload_n 0) 1 ∧ De bdX8_tellLetter_0 6 (.getfield 18) 3 ∧ De bdX8_tellLetter_0 9 (.if_icmp .ge 13) 3 ∧ De bdX8_tellLetter_0 12 (.aload_n 0) 1 ∧ De bdX8_tellLetter_0 13 (.getfield 15) 3 ∧ De bdX8_tellLetter_0 16 (.iload_n 1) 1 ∧ De bdX8_tellLetter_0 17 (.baload) 1 ∧ De bdX8_tellLetter_0 18 (.iload_n 2) 1 ∧ De bdX8_tellLetter_0 19 (.if_icmp .ne 5) 3 ∧ De bdX8_tellLetter_0 22 (.iconst 0) 1 ∧ De bdX8_tellLetter_0 23 (.ireturn) 1 ∧ De bdX8_tellLetter_0 24 (.aload_n 0) 1 ∧ De bdX8_tellLetter_0 25 (.dup) 1 := by decide +kernel
theorem dX8_tellLetter_0 : decode cX8_tellLetter 0 = .ok (.iload_n 1, 1) := dAt wdX8_tellLetter_0 adX8_tellLetter_0.1 rfl
theorem dX8_tellLetter_1 : decode cX8_tellLetter 1 = .ok (.ifCond .lt 21, 3) := dAt wdX8_tellLetter_0 adX8_tellLetter_0.2.1 rfl
theorem dX8_tellLetter_4 : decode cX8_tellLetter 4 = .ok (.iload_n 1, 1) := dAt wdX8_tellLetter_0 adX8_tellLetter_0.2.2.1 rfl
theorem dX8_tellLetter_5 : decode cX8_tellLetter 5 = .ok (.aload_n 0, 1) := dAt wdX8_tellLetter_0 adX8_tellLetter_0.2.2.2.1 rfl
theorem dX8_tellLetter_6 : decode cX8_tellLetter 6 = .ok (.getfield 18, 3) := dAt wdX8_tellLetter_0 adX8_tellLetter_0.2.2.2.2.1 rfl
theorem dX8_tellLetter_9 : decode cX8_tellLetter 9 = .ok (.if_icmp .ge 13, 3) := dAt wdX8_tellLetter_0 adX8_tellLetter_0.2.2.2.2.2.1 rfl
theorem dX8_tellLetter_12 : decode cX8_tellLetter 12 = .ok (.aload_n 0, 1) := dAt wdX8_tellLetter_0 adX8_tellLetter_0.2.2.2.2.2.2.1 rfl
theorem dX8_tellLetter_13 : decode cX8_tellLetter 13 = .ok (.getfield 15, 3) := dAt wdX8_tellLetter_0 adX8_tellLetter_0.2.2.2.2.2.2.2.1 rfl
theorem dX8_tellLetter_16 : decode cX8_tellLetter 16 = .ok (.iload_n 1, 1) := dAt wdX8_tellLetter_0 adX8_tellLetter_0.2.2.2.2.2.2.2.2.1 rfl
theorem dX8_tellLetter_17 : decode cX8_tellLetter 17 = .ok (.baload, 1) := dAt wdX8_tellLetter_0 adX8_tellLetter_0.2.2.2.2.2.2.2.2.2.1 rfl
theorem dX8_tellLetter_18 : decode cX8_tellLetter 18 = .ok (.iload_n 2, 1) := dAt wdX8_tellLetter_0 adX8_tellLetter_0.2.2.2.2.2.2.2.2.2.2.1 rfl
theorem dX8_tellLetter_19 : decode cX8_tellLetter 19 = .ok (.if_icmp .ne 5, 3) := dAt wdX8_tellLetter_0 adX8_tellLetter_0.2.2.2.2.2.2.2.2.2.2.2.1 rfl
theorem dX8_tellLetter_22 : decode cX8_tellLetter 22 = .ok (.iconst 0, 1) := dAt wdX8_tellLetter_0 adX8_tellLetter_0.2.2.2.2.2.2.2.2.2.2.2.2.1 rfl
theorem dX8_tellLetter_23 : decode cX8_tellLetter 23 = .ok (.ireturn, 1) := dAt wdX8_tellLetter_0 adX8_tellLetter_0.2.2.2.2.2.2.2.2.2.2.2.2.2.1 rfl
theorem dX8_tellLetter_24 : decode cX8_tellLetter 24 = .ok (.aload_n 0, 1) := dAt wdX8_tellLetter_0 adX8_tellLetter_0.2.2.2.2.2.2.2.2.2.2.2.2.2.2.1 rfl
theorem dX8_tellLetter_25 : decode cX8_tellLetter 25 = .ok (.dup, 1) := dAt wdX8_tellLetter_0 adX8_tellLetter_0.2.2.2.2.2.2.2.2.2.2.2.2.2.2.2 rfl
def bdX8_tellLetter_26 : ByteArray := .mk #[180, 0, 25, 42, 180, 0, 15, 27, 51, 42, 180, 0, 9, 27, 51, 160, 0, 7, 3, 167, 0, 4, 4, 100, 181, 0, 25, 42]
theorem wdX8_tellLetter_26 : LocW cX8_tellLetter 26 bdX8_tellLetter_26 := loc_of (by decide +kernel)
theorem adX8_tellLetter_26 : De bdX8_tellLetter_26 0 (.getfield 25) 3 ∧ De bdX8_tellLetter_26 3 (.aload_n 0) 1 ∧ De bdX8_tellLetter_26 4 (.getfield 15) 3 ∧ De bdX8_tellLetter_26 7 (.iload_n 1) 1 ∧ De bdX8_tellLetter_26 8 (.baload) 1 ∧ De bdX8_tellLetter_26 9 (.aload_n 0) 1 ∧ De bdX8_tellLetter_26 10 (.getfield 9) 3 ∧ De bdX8_tellLetter_26 13 (.iload_n 1) 1 ∧ De bdX8_tellLetter_26 14 (.baload) 1 ∧ De bdX8_tellLetter_26 15 (.if_icmp .ne 7) 3 ∧ De bdX8_tellLetter_26 18 (.iconst 0) 1 ∧ De bdX8_tellLetter_26 19 (.goto 4) 3 ∧ De bdX8_tellLetter_26 22 (.iconst 1) 1 ∧ De bdX8_tellLetter_26 23 (.isub) 1 ∧ De bdX8_tellLetter_26 24 (.putfield 25) 3 ∧ De bdX8_tellLetter_26 27 (.aload_n 0) 1 := by decide +kernel
theorem dX8_tellLetter_26 : decode cX8_tellLetter 26 = .ok (.getfield 25, 3) := dAt wdX8_tellLetter_26 adX8_tellLetter_26.1 rfl
theorem dX8_tellLetter_29 : decode cX8_tellLetter 29 = .ok (.aload_n 0, 1) := dAt wdX8_tellLetter_26 adX8_tellLetter_26.2.1 rfl
theorem dX8_tellLetter_30 : decode cX8_tellLetter 30 = .ok (.getfield 15, 3) := dAt wdX8_tellLetter_26 adX8_tellLetter_26.2.2.1 rfl
theorem dX8_tellLetter_33 : decode cX8_tellLetter 33 = .ok (.iload_n 1, 1) := dAt wdX8_tellLetter_26 adX8_tellLetter_26.2.2.2.1 rfl
theorem dX8_tellLetter_34 : decode cX8_tellLetter 34 = .ok (.baload, 1) := dAt wdX8_tellLetter_26 adX8_tellLetter_26.2.2.2.2.1 rfl
theorem dX8_tellLetter_35 : decode cX8_tellLetter 35 = .ok (.aload_n 0, 1) := dAt wdX8_tellLetter_26 adX8_tellLetter_26.2.2.2.2.2.1 rfl
theorem dX8_tellLetter_36 : decode cX8_tellLetter 36 = .ok (.getfield 9, 3) := dAt wdX8_tellLetter_26 adX8_tellLetter_26.2.2.2.2.2.2.1 rfl
theorem dX8_tellLetter_39 : decode cX8_tellLetter 39 = .ok (.iload_n 1, 1) := dAt wdX8_tellLetter_26 adX8_tellLetter_26.2.2.2.2.2.2.2.1 rfl
theorem dX8_tellLetter_40 : decode cX8_tellLetter 40 = .ok (.baload, 1) := dAt wdX8_tellLetter_26 adX8_tellLetter_26.2.2.2.2.2.2.2.2.1 rfl
theorem dX8_tellLetter_41 : decode cX8_tellLetter 41 = .ok (.if_icmp .ne 7, 3) := dAt wdX8_tellLetter_26 adX8_tellLetter_26.2.2.2.2.2.2.2.2.2.1 rfl
theorem dX8_tellLetter_44 : decode cX8_tellLetter 44 = .ok (.iconst 0, 1) := dAt wdX8_tellLetter_26 adX8_tellLetter_26.2.2.2.2.2.2.2.2.2.2.1 rfl
theorem dX8_tellLetter_45 : decode cX8_tellLetter 45 = .ok (.goto 4, 3) := dAt wdX8_tellLetter_26 adX8_tellLetter_26.2.2.2.2.2.2.2.2.2.2.2.1 rfl
theorem dX8_tellLetter_48 : decode cX8_tellLetter 48 = .ok (.iconst 1, 1) := dAt wdX8_tellLetter_26 adX8_tellLetter_26.2.2.2.2.2.2.2.2.2.2.2.2.1 rfl
theorem dX8_tellLetter_49 : decode cX8_tellLetter 49 = .ok (.isub, 1) := dAt wdX8_tellLetter_26 adX8_tellLetter_26.2.2.2.2.2.2.2.2.2.2.2.2.2.1 rfl
theorem dX8_tellLetter_50 : decode cX8_tellLetter 50 = .ok (.putfield 25, 3) := dAt wdX8_tellLetter_26 adX8_tellLetter_26.2.2.2.2.2.2.2.2.2.2.2.2.2.2.1 rfl
theorem dX8_tellLetter_53 : decode cX8_tellLetter 53 = .ok (.aload_n 0, 1) := dAt wdX8_tellLetter_26 adX8_tellLetter_26.2.2.2.2.2.2.2.2.2.2.2.2.2.2.2 rfl
def bdX8_tellLetter_54 : ByteArray := .mk #[180, 0, 15, 27, 28, 145, 84, 42, 89, 180, 0, 25, 42, 180, 0, 15, 27, 51, 42, 180, 0, 9, 27, 51]
theorem wdX8_tellLetter_54 : LocW cX8_tellLetter 54 bdX8_tellLetter_54 := loc_of (by decide +kernel)
theorem adX8_tellLetter_54 : De bdX8_tellLetter_54 0 (.getfield 15) 3 ∧ De bdX8_tellLetter_54 3 (.iload_n 1) 1 ∧ De bdX8_tellLetter_54 4 (.iload_n 2) 1 ∧ De bdX8_tellLetter_54 5 (.i2b) 1 ∧ De bdX8_tellLetter_54 6 (.bastore) 1 ∧ De bdX8_tellLetter_54 7 (.aload_n 0) 1 ∧ De bdX8_tellLetter_54 8 (.dup) 1 ∧ De bdX8_tellLetter_54 9 (.getfield 25) 3 ∧ De bdX8_tellLetter_54 12 (.aload_n 0) 1 ∧ De bdX8_tellLetter_54 13 (.getfield 15) 3 ∧ De bdX8_tellLetter_54 16 (.iload_n 1) 1 ∧ De bdX8_tellLetter_54 17 (.baload) 1 ∧ De bdX8_tellLetter_54 18 (.aload_n 0) 1 ∧ De bdX8_tellLetter_54 19 (.getfield 9) 3 ∧ De bdX8_tellLetter_54 22 (.iload_n 1) 1 ∧ De bdX8_tellLetter_54 23 (.baload) 1 := by decide +kernel
theorem dX8_tellLetter_54 : decode cX8_tellLetter 54 = .ok (.getfield 15, 3) := dAt wdX8_tellLetter_54 adX8_tellLetter_54.1 rfl
theorem dX8_tellLetter_57 : decode cX8_tellLetter 57 = .ok (.iload_n 1, 1) := dAt wdX8_tellLetter_54 adX8_tellLetter_54.2.1 rfl
theorem dX8_tellLetter_58 : decode cX8_tellLetter 58 = .ok (.iload_n 2, 1) := dAt wdX8_tellLetter_54 adX8_tellLetter_54.2.2.1 rfl
theorem dX8_tellLetter_59 : decode cX8_tellLetter 59 = .ok (.i2b, 1) := dAt wdX8_tellLetter_54 adX8_tellLetter_54.2.2.2.1 rfl
theorem dX8_tellLetter_60 : decode cX8_tellLetter 60 = .ok (.bastore, 1) := dAt wdX8_tellLetter_54 adX8_tellLetter_54.2.2.2.2.1 rfl
theorem dX8_tellLetter_61 : decode cX8_tellLetter 61 = .ok (.aload_n 0, 1) := dAt wdX8_tellLetter_54 adX8_tellLetter_54.2.2.2.2.2.1 rfl
theorem dX8_tellLetter_62 : decode cX8_tellLetter 62 = .ok (.dup, 1) := dAt wdX8_tellLetter_54 adX8_tellLetter_54.2.2.2.2.2.2.1 rfl
theorem dX8_tellLetter_63 : decode cX8_tellLetter 63 = .ok (.getfield 25, 3) := dAt wdX8_tellLetter_54 adX8_tellLetter_54.2.2.2.2.2.2.2.1 rfl
theorem dX8_tellLetter_66 : decode cX8_tellLetter 66 = .ok (.aload_n 0, 1) := dAt wdX8_tellLetter_54 adX8_tellLetter_54.2.2.2.2.2.2.2.2.1 rfl
theorem dX8_tellLetter_67 : decode cX8_tellLetter 67 = .ok (.getfield 15, 3) := dAt wdX8_tellLetter_54 adX8_tellLetter_54.2.2.2.2.2.2.2.2.2.1 rfl
theorem dX8_tellLetter_70 : decode cX8_tellLetter 70 = .ok (.iload_n 1, 1) := dAt wdX8_tellLetter_54 adX8_tellLetter_54.2.2.2.2.2.2.2.2.2.2.1 rfl
theorem dX8_tellLetter_71 : decode cX8_tellLetter 71 = .ok (.baload, 1) := dAt wdX8_tellLetter_54 adX8_tellLetter_54.2.2.2.2.2.2.2.2.2.2.2.1 rfl
theorem dX8_tellLetter_72 : decode cX8_tellLetter 72 = .ok (.aload_n 0, 1) := dAt wdX8_tellLetter_54 adX8_tellLetter_54.2.2.2.2.2.2.2.2.2.2.2.2.1 rfl
theorem dX8_tellLetter_73 : decode cX8_tellLetter 73 = .ok (.getfield 9, 3) := dAt wdX8_tellLetter_54 adX8_tellLetter_54.2.2.2.2.2.2.2.2.2.2.2.2.2.1 rfl
theorem dX8_tellLetter_76 : decode cX8_tellLetter 76 = .ok (.iload_n 1, 1) := dAt wdX8_tellLetter_54 adX8_tellLetter_54.2.2.2.2.2.2.2.2.2.2.2.2.2.2.1 rfl
theorem dX8_tellLetter_77 : decode cX8_tellLetter 77 = .ok (.baload, 1) := dAt wdX8_tellLetter_54 adX8_tellLetter_54.2.2.2.2.2.2.2.2.2.2.2.2.2.2.2 rfl
def bdX8_tellLetter_78 : ByteArray := .mk #[160, 0, 7, 3, 167, 0, 4, 4, 96, 181, 0, 25, 4, 172]
theorem wdX8_tellLetter_78 : LocW cX8_tellLetter 78 bdX8_tellLetter_78 := loc_of (by decide +kernel)
theorem adX8_tellLetter_78 : De bdX8_tellLetter_78 0 (.if_icmp .ne 7) 3 ∧ De bdX8_tellLetter_78 3 (.iconst 0) 1 ∧ De bdX8_tellLetter_78 4 (.goto 4) 3 ∧ De bdX8_tellLetter_78 7 (.iconst 1) 1 ∧ De bdX8_tellLetter_78 8 (.iadd) 1 ∧ De bdX8_tellLetter_78 9 (.putfield 25) 3 ∧ De bdX8_tellLetter_78 12 (.iconst 1) 1 ∧ De bdX8_tellLetter_78 13 (.ireturn) 1 := by decide +kernel
theorem dX8_tellLetter_78 : decode cX8_tellLetter 78 = .ok (.if_icmp .ne 7, 3) := dAt wdX8_tellLetter_78 adX8_tellLetter_78.1 rfl
theorem dX8_tellLetter_81 : decode cX8_tellLetter 81 = .ok (.iconst 0, 1) := dAt wdX8_tellLetter_78 adX8_tellLetter_78.2.1 rfl
theorem dX8_tellLetter_82 : decode cX8_tellLetter 82 = .ok (.goto 4, 3) := dAt wdX8_tellLetter_78 adX8_tellLetter_78.2.2.1 rfl
theorem dX8_tellLetter_85 : decode cX8_tellLetter 85 = .ok (.iconst 1, 1) := dAt wdX8_tellLetter_78 adX8_tellLetter_78.2.2.2.1 rfl
theorem dX8_tellLetter_86 : decode cX8_tellLetter 86 = .ok (.iadd, 1) := dAt wdX8_tellLetter_78 adX8_tellLetter_78.2.2.2.2.1 rfl
theorem dX8_tellLetter_87 : decode cX8_tellLetter 87 = .ok (.putfield 25, 3) := dAt wdX8_tellLetter_78 adX8_tellLetter_78.2.2.2.2.2.1 rfl
theorem dX8_tellLetter_90 : decode cX8_tellLetter 90 = .ok (.iconst 1, 1) := dAt wdX8_tellLetter_78 adX8_tellLetter_78.2.2.2.2.2.2.1 rfl
theorem dX8_tellLetter_91 : decode cX8_tellLetter 91 = .ok (.ireturn, 1) := dAt wdX8_tellLetter_78 adX8_tellLetter_78.2.2.2.2.2.2.2 rfl
def bdX8_saysText_0 : ByteArray := .mk #[42, 180, 0, 15, 42, 180, 0, 18, 43, 28, 184, 0, 88, 172]
theorem wdX8_saysText_0 : LocW cX8_saysText 0 bdX8_saysText_0 := loc_of (by decide +kernel)
theorem adX8_saysText_0 : De bdX8_saysText_0 0 (.aload_n 0) 1 ∧ De bdX8_saysText_0 1 (.getfield 15) 3 ∧ De bdX8_saysText_0 4 (.aload_n 0) 1 ∧ De bdX8_saysText_0 5 (.getfield 18) 3 ∧ De bdX8_saysText_0 8 (.aload_n 1) 1 ∧ De bdX8_saysText_0 9 (.iload_n 2) 1 ∧ De bdX8_saysText_0 10 (.invokestatic 88) 3 ∧ De bdX8_saysText_0 13 (.ireturn) 1 := by decide +kernel
theorem dX8_saysText_0 : decode cX8_saysText 0 = .ok (.aload_n 0, 1) := dAt wdX8_saysText_0 adX8_saysText_0.1 rfl
theorem dX8_saysText_1 : decode cX8_saysText 1 = .ok (.getfield 15, 3) := dAt wdX8_saysText_0 adX8_saysText_0.2.1 rfl
theorem dX8_saysText_4 : decode cX8_saysText 4 = .ok (.aload_n 0, 1) := dAt wdX8_saysText_0 adX8_saysText_0.2.2.1 rfl
theorem dX8_saysText_5 : decode cX8_saysText 5 = .ok (.getfield 18, 3) := dAt wdX8_saysText_0 adX8_saysText_0.2.2.2.1 rfl
theorem dX8_saysText_8 : decode cX8_saysText 8 = .ok (.aload_n 1, 1) := dAt wdX8_saysText_0 adX8_saysText_0.2.2.2.2.1 rfl
theorem dX8_saysText_9 : decode cX8_saysText 9 = .ok (.iload_n 2, 1) := dAt wdX8_saysText_0 adX8_saysText_0.2.2.2.2.2.1 rfl
theorem dX8_saysText_10 : decode cX8_saysText 10 = .ok (.invokestatic 88, 3) := dAt wdX8_saysText_0 adX8_saysText_0.2.2.2.2.2.2.1 rfl
theorem dX8_saysText_13 : decode cX8_saysText 13 = .ok (.ireturn, 1) := dAt wdX8_saysText_0 adX8_saysText_0.2.2.2.2.2.2.2 rfl
def bdX8_sameBytes_0 : ByteArray := .mk #[27, 29, 160, 0, 15, 27, 42, 190, 163, 0, 9, 29, 44, 190, 164, 0, 5, 3, 172, 3, 54, 4, 21, 4]
theorem wdX8_sameBytes_0 : LocW cX8_sameBytes 0 bdX8_sameBytes_0 := loc_of (by decide +kernel)
theorem adX8_sameBytes_0 : De bdX8_sameBytes_0 0 (.iload_n 1) 1 ∧ De bdX8_sameBytes_0 1 (.iload_n 3) 1 ∧ De bdX8_sameBytes_0 2 (.if_icmp .ne 15) 3 ∧ De bdX8_sameBytes_0 5 (.iload_n 1) 1 ∧ De bdX8_sameBytes_0 6 (.aload_n 0) 1 ∧ De bdX8_sameBytes_0 7 (.arraylength) 1 ∧ De bdX8_sameBytes_0 8 (.if_icmp .gt 9) 3 ∧ De bdX8_sameBytes_0 11 (.iload_n 3) 1 ∧ De bdX8_sameBytes_0 12 (.aload_n 2) 1 ∧ De bdX8_sameBytes_0 13 (.arraylength) 1 ∧ De bdX8_sameBytes_0 14 (.if_icmp .le 5) 3 ∧ De bdX8_sameBytes_0 17 (.iconst 0) 1 ∧ De bdX8_sameBytes_0 18 (.ireturn) 1 ∧ De bdX8_sameBytes_0 19 (.iconst 0) 1 ∧ De bdX8_sameBytes_0 20 (.istore 4) 2 ∧ De bdX8_sameBytes_0 22 (.iload 4) 2 := by decide +kernel
theorem dX8_sameBytes_0 : decode cX8_sameBytes 0 = .ok (.iload_n 1, 1) := dAt wdX8_sameBytes_0 adX8_sameBytes_0.1 rfl
theorem dX8_sameBytes_1 : decode cX8_sameBytes 1 = .ok (.iload_n 3, 1) := dAt wdX8_sameBytes_0 adX8_sameBytes_0.2.1 rfl
theorem dX8_sameBytes_2 : decode cX8_sameBytes 2 = .ok (.if_icmp .ne 15, 3) := dAt wdX8_sameBytes_0 adX8_sameBytes_0.2.2.1 rfl
theorem dX8_sameBytes_5 : decode cX8_sameBytes 5 = .ok (.iload_n 1, 1) := dAt wdX8_sameBytes_0 adX8_sameBytes_0.2.2.2.1 rfl
theorem dX8_sameBytes_6 : decode cX8_sameBytes 6 = .ok (.aload_n 0, 1) := dAt wdX8_sameBytes_0 adX8_sameBytes_0.2.2.2.2.1 rfl
theorem dX8_sameBytes_7 : decode cX8_sameBytes 7 = .ok (.arraylength, 1) := dAt wdX8_sameBytes_0 adX8_sameBytes_0.2.2.2.2.2.1 rfl
theorem dX8_sameBytes_8 : decode cX8_sameBytes 8 = .ok (.if_icmp .gt 9, 3) := dAt wdX8_sameBytes_0 adX8_sameBytes_0.2.2.2.2.2.2.1 rfl
theorem dX8_sameBytes_11 : decode cX8_sameBytes 11 = .ok (.iload_n 3, 1) := dAt wdX8_sameBytes_0 adX8_sameBytes_0.2.2.2.2.2.2.2.1 rfl
theorem dX8_sameBytes_12 : decode cX8_sameBytes 12 = .ok (.aload_n 2, 1) := dAt wdX8_sameBytes_0 adX8_sameBytes_0.2.2.2.2.2.2.2.2.1 rfl
theorem dX8_sameBytes_13 : decode cX8_sameBytes 13 = .ok (.arraylength, 1) := dAt wdX8_sameBytes_0 adX8_sameBytes_0.2.2.2.2.2.2.2.2.2.1 rfl
theorem dX8_sameBytes_14 : decode cX8_sameBytes 14 = .ok (.if_icmp .le 5, 3) := dAt wdX8_sameBytes_0 adX8_sameBytes_0.2.2.2.2.2.2.2.2.2.2.1 rfl
theorem dX8_sameBytes_17 : decode cX8_sameBytes 17 = .ok (.iconst 0, 1) := dAt wdX8_sameBytes_0 adX8_sameBytes_0.2.2.2.2.2.2.2.2.2.2.2.1 rfl
theorem dX8_sameBytes_18 : decode cX8_sameBytes 18 = .ok (.ireturn, 1) := dAt wdX8_sameBytes_0 adX8_sameBytes_0.2.2.2.2.2.2.2.2.2.2.2.2.1 rfl
theorem dX8_sameBytes_19 : decode cX8_sameBytes 19 = .ok (.iconst 0, 1) := dAt wdX8_sameBytes_0 adX8_sameBytes_0.2.2.2.2.2.2.2.2.2.2.2.2.2.1 rfl
theorem dX8_sameBytes_20 : decode cX8_sameBytes 20 = .ok (.istore 4, 2) := dAt wdX8_sameBytes_0 adX8_sameBytes_0.2.2.2.2.2.2.2.2.2.2.2.2.2.2.1 rfl
theorem dX8_sameBytes_22 : decode cX8_sameBytes 22 = .ok (.iload 4, 2) := dAt wdX8_sameBytes_0 adX8_sameBytes_0.2.2.2.2.2.2.2.2.2.2.2.2.2.2.2 rfl
def bdX8_sameBytes_24 : ByteArray := .mk #[27, 162, 0, 22, 42, 21, 4, 51, 44, 21, 4, 51, 159, 0, 5, 3, 172, 132, 4, 1, 167, 255, 234, 4, 172]
theorem wdX8_sameBytes_24 : LocW cX8_sameBytes 24 bdX8_sameBytes_24 := loc_of (by decide +kernel)
theorem adX8_sameBytes_24 : De bdX8_sameBytes_24 0 (.iload_n 1) 1 ∧ De bdX8_sameBytes_24 1 (.if_icmp .ge 22) 3 ∧ De bdX8_sameBytes_24 4 (.aload_n 0) 1 ∧ De bdX8_sameBytes_24 5 (.iload 4) 2 ∧ De bdX8_sameBytes_24 7 (.baload) 1 ∧ De bdX8_sameBytes_24 8 (.aload_n 2) 1 ∧ De bdX8_sameBytes_24 9 (.iload 4) 2 ∧ De bdX8_sameBytes_24 11 (.baload) 1 ∧ De bdX8_sameBytes_24 12 (.if_icmp .eq 5) 3 ∧ De bdX8_sameBytes_24 15 (.iconst 0) 1 ∧ De bdX8_sameBytes_24 16 (.ireturn) 1 ∧ De bdX8_sameBytes_24 17 (.iinc 4 1) 3 ∧ De bdX8_sameBytes_24 20 (.goto (-22)) 3 ∧ De bdX8_sameBytes_24 23 (.iconst 1) 1 ∧ De bdX8_sameBytes_24 24 (.ireturn) 1 := by decide +kernel
theorem dX8_sameBytes_24 : decode cX8_sameBytes 24 = .ok (.iload_n 1, 1) := dAt wdX8_sameBytes_24 adX8_sameBytes_24.1 rfl
theorem dX8_sameBytes_25 : decode cX8_sameBytes 25 = .ok (.if_icmp .ge 22, 3) := dAt wdX8_sameBytes_24 adX8_sameBytes_24.2.1 rfl
theorem dX8_sameBytes_28 : decode cX8_sameBytes 28 = .ok (.aload_n 0, 1) := dAt wdX8_sameBytes_24 adX8_sameBytes_24.2.2.1 rfl
theorem dX8_sameBytes_29 : decode cX8_sameBytes 29 = .ok (.iload 4, 2) := dAt wdX8_sameBytes_24 adX8_sameBytes_24.2.2.2.1 rfl
theorem dX8_sameBytes_31 : decode cX8_sameBytes 31 = .ok (.baload, 1) := dAt wdX8_sameBytes_24 adX8_sameBytes_24.2.2.2.2.1 rfl
theorem dX8_sameBytes_32 : decode cX8_sameBytes 32 = .ok (.aload_n 2, 1) := dAt wdX8_sameBytes_24 adX8_sameBytes_24.2.2.2.2.2.1 rfl
theorem dX8_sameBytes_33 : decode cX8_sameBytes 33 = .ok (.iload 4, 2) := dAt wdX8_sameBytes_24 adX8_sameBytes_24.2.2.2.2.2.2.1 rfl
theorem dX8_sameBytes_35 : decode cX8_sameBytes 35 = .ok (.baload, 1) := dAt wdX8_sameBytes_24 adX8_sameBytes_24.2.2.2.2.2.2.2.1 rfl
theorem dX8_sameBytes_36 : decode cX8_sameBytes 36 = .ok (.if_icmp .eq 5, 3) := dAt wdX8_sameBytes_24 adX8_sameBytes_24.2.2.2.2.2.2.2.2.1 rfl
theorem dX8_sameBytes_39 : decode cX8_sameBytes 39 = .ok (.iconst 0, 1) := dAt wdX8_sameBytes_24 adX8_sameBytes_24.2.2.2.2.2.2.2.2.2.1 rfl
theorem dX8_sameBytes_40 : decode cX8_sameBytes 40 = .ok (.ireturn, 1) := dAt wdX8_sameBytes_24 adX8_sameBytes_24.2.2.2.2.2.2.2.2.2.2.1 rfl
theorem dX8_sameBytes_41 : decode cX8_sameBytes 41 = .ok (.iinc 4 1, 3) := dAt wdX8_sameBytes_24 adX8_sameBytes_24.2.2.2.2.2.2.2.2.2.2.2.1 rfl
theorem dX8_sameBytes_44 : decode cX8_sameBytes 44 = .ok (.goto (-22), 3) := dAt wdX8_sameBytes_24 adX8_sameBytes_24.2.2.2.2.2.2.2.2.2.2.2.2.1 rfl
theorem dX8_sameBytes_47 : decode cX8_sameBytes 47 = .ok (.iconst 1, 1) := dAt wdX8_sameBytes_24 adX8_sameBytes_24.2.2.2.2.2.2.2.2.2.2.2.2.2.1 rfl
theorem dX8_sameBytes_48 : decode cX8_sameBytes 48 = .ok (.ireturn, 1) := dAt wdX8_sameBytes_24 adX8_sameBytes_24.2.2.2.2.2.2.2.2.2.2.2.2.2.2 rfl
def bdX9_init_0 : ByteArray := .mk #[42, 183, 0, 3, 42, 3, 181, 0, 9, 42, 3, 181, 0, 15, 42, 16, 12, 188, 10, 181, 0, 18, 42, 16, 12, 188, 10, 181, 0, 22]
theorem wdX9_init_0 : LocW cX9_init 0 bdX9_init_0 := loc_of (by decide +kernel)
theorem adX9_init_0 : De bdX9_init_0 0 (.aload_n 0) 1 ∧ De bdX9_init_0 1 (.invokespecial 3) 3 ∧ De bdX9_init_0 4 (.aload_n 0) 1 ∧ De bdX9_init_0 5 (.iconst 0) 1 ∧ De bdX9_init_0 6 (.putfield 9) 3 ∧ De bdX9_init_0 9 (.aload_n 0) 1 ∧ De bdX9_init_0 10 (.iconst 0) 1 ∧ De bdX9_init_0 11 (.putfield 15) 3 ∧ De bdX9_init_0 14 (.aload_n 0) 1 ∧ De bdX9_init_0 15 (.bipush 12) 2 ∧ De bdX9_init_0 17 (.newarray .int) 2 ∧ De bdX9_init_0 19 (.putfield 18) 3 ∧ De bdX9_init_0 22 (.aload_n 0) 1 ∧ De bdX9_init_0 23 (.bipush 12) 2 ∧ De bdX9_init_0 25 (.newarray .int) 2 ∧ De bdX9_init_0 27 (.putfield 22) 3 := by decide +kernel
theorem dX9_init_0 : decode cX9_init 0 = .ok (.aload_n 0, 1) := dAt wdX9_init_0 adX9_init_0.1 rfl
theorem dX9_init_1 : decode cX9_init 1 = .ok (.invokespecial 3, 3) := dAt wdX9_init_0 adX9_init_0.2.1 rfl
theorem dX9_init_4 : decode cX9_init 4 = .ok (.aload_n 0, 1) := dAt wdX9_init_0 adX9_init_0.2.2.1 rfl
theorem dX9_init_5 : decode cX9_init 5 = .ok (.iconst 0, 1) := dAt wdX9_init_0 adX9_init_0.2.2.2.1 rfl
theorem dX9_init_6 : decode cX9_init 6 = .ok (.putfield 9, 3) := dAt wdX9_init_0 adX9_init_0.2.2.2.2.1 rfl
theorem dX9_init_9 : decode cX9_init 9 = .ok (.aload_n 0, 1) := dAt wdX9_init_0 adX9_init_0.2.2.2.2.2.1 rfl
theorem dX9_init_10 : decode cX9_init 10 = .ok (.iconst 0, 1) := dAt wdX9_init_0 adX9_init_0.2.2.2.2.2.2.1 rfl
theorem dX9_init_11 : decode cX9_init 11 = .ok (.putfield 15, 3) := dAt wdX9_init_0 adX9_init_0.2.2.2.2.2.2.2.1 rfl
theorem dX9_init_14 : decode cX9_init 14 = .ok (.aload_n 0, 1) := dAt wdX9_init_0 adX9_init_0.2.2.2.2.2.2.2.2.1 rfl
theorem dX9_init_15 : decode cX9_init 15 = .ok (.bipush 12, 2) := dAt wdX9_init_0 adX9_init_0.2.2.2.2.2.2.2.2.2.1 rfl
theorem dX9_init_17 : decode cX9_init 17 = .ok (.newarray .int, 2) := dAt wdX9_init_0 adX9_init_0.2.2.2.2.2.2.2.2.2.2.1 rfl
theorem dX9_init_19 : decode cX9_init 19 = .ok (.putfield 18, 3) := dAt wdX9_init_0 adX9_init_0.2.2.2.2.2.2.2.2.2.2.2.1 rfl
theorem dX9_init_22 : decode cX9_init 22 = .ok (.aload_n 0, 1) := dAt wdX9_init_0 adX9_init_0.2.2.2.2.2.2.2.2.2.2.2.2.1 rfl
theorem dX9_init_23 : decode cX9_init 23 = .ok (.bipush 12, 2) := dAt wdX9_init_0 adX9_init_0.2.2.2.2.2.2.2.2.2.2.2.2.2.1 rfl
theorem dX9_init_25 : decode cX9_init 25 = .ok (.newarray .int, 2) := dAt wdX9_init_0 adX9_init_0.2.2.2.2.2.2.2.2.2.2.2.2.2.2.1 rfl
theorem dX9_init_27 : decode cX9_init 27 = .ok (.putfield 22, 3) := dAt wdX9_init_0 adX9_init_0.2.2.2.2.2.2.2.2.2.2.2.2.2.2.2 rfl
def bdX9_init_30 : ByteArray := .mk #[42, 16, 12, 188, 10, 181, 0, 25, 42, 16, 12, 188, 10, 181, 0, 28, 42, 17, 1, 0, 188, 10, 181, 0, 31, 42, 16, 12, 188, 4, 181, 0, 34]
theorem wdX9_init_30 : LocW cX9_init 30 bdX9_init_30 := loc_of (by decide +kernel)
theorem adX9_init_30 : De bdX9_init_30 0 (.aload_n 0) 1 ∧ De bdX9_init_30 1 (.bipush 12) 2 ∧ De bdX9_init_30 3 (.newarray .int) 2 ∧ De bdX9_init_30 5 (.putfield 25) 3 ∧ De bdX9_init_30 8 (.aload_n 0) 1 ∧ De bdX9_init_30 9 (.bipush 12) 2 ∧ De bdX9_init_30 11 (.newarray .int) 2 ∧ De bdX9_init_30 13 (.putfield 28) 3 ∧ De bdX9_init_30 16 (.aload_n 0) 1 ∧ De bdX9_init_30 17 (.sipush 256) 3 ∧ De bdX9_init_30 20 (.newarray .int) 2 ∧ De bdX9_init_30 22 (.putfield 31) 3 ∧ De bdX9_init_30 25 (.aload_n 0) 1 ∧ De bdX9_init_30 26 (.bipush 12) 2 ∧ De bdX9_init_30 28 (.newarray .boolean) 2 ∧ De bdX9_init_30 30 (.putfield 34) 3 := by decide +kernel
theorem dX9_init_30 : decode cX9_init 30 = .ok (.aload_n 0, 1) := dAt wdX9_init_30 adX9_init_30.1 rfl
theorem dX9_init_31 : decode cX9_init 31 = .ok (.bipush 12, 2) := dAt wdX9_init_30 adX9_init_30.2.1 rfl
theorem dX9_init_33 : decode cX9_init 33 = .ok (.newarray .int, 2) := dAt wdX9_init_30 adX9_init_30.2.2.1 rfl
theorem dX9_init_35 : decode cX9_init 35 = .ok (.putfield 25, 3) := dAt wdX9_init_30 adX9_init_30.2.2.2.1 rfl
theorem dX9_init_38 : decode cX9_init 38 = .ok (.aload_n 0, 1) := dAt wdX9_init_30 adX9_init_30.2.2.2.2.1 rfl
theorem dX9_init_39 : decode cX9_init 39 = .ok (.bipush 12, 2) := dAt wdX9_init_30 adX9_init_30.2.2.2.2.2.1 rfl
theorem dX9_init_41 : decode cX9_init 41 = .ok (.newarray .int, 2) := dAt wdX9_init_30 adX9_init_30.2.2.2.2.2.2.1 rfl
theorem dX9_init_43 : decode cX9_init 43 = .ok (.putfield 28, 3) := dAt wdX9_init_30 adX9_init_30.2.2.2.2.2.2.2.1 rfl
theorem dX9_init_46 : decode cX9_init 46 = .ok (.aload_n 0, 1) := dAt wdX9_init_30 adX9_init_30.2.2.2.2.2.2.2.2.1 rfl
theorem dX9_init_47 : decode cX9_init 47 = .ok (.sipush 256, 3) := dAt wdX9_init_30 adX9_init_30.2.2.2.2.2.2.2.2.2.1 rfl
theorem dX9_init_50 : decode cX9_init 50 = .ok (.newarray .int, 2) := dAt wdX9_init_30 adX9_init_30.2.2.2.2.2.2.2.2.2.2.1 rfl
theorem dX9_init_52 : decode cX9_init 52 = .ok (.putfield 31, 3) := dAt wdX9_init_30 adX9_init_30.2.2.2.2.2.2.2.2.2.2.2.1 rfl
theorem dX9_init_55 : decode cX9_init 55 = .ok (.aload_n 0, 1) := dAt wdX9_init_30 adX9_init_30.2.2.2.2.2.2.2.2.2.2.2.2.1 rfl
theorem dX9_init_56 : decode cX9_init 56 = .ok (.bipush 12, 2) := dAt wdX9_init_30 adX9_init_30.2.2.2.2.2.2.2.2.2.2.2.2.2.1 rfl
theorem dX9_init_58 : decode cX9_init 58 = .ok (.newarray .boolean, 2) := dAt wdX9_init_30 adX9_init_30.2.2.2.2.2.2.2.2.2.2.2.2.2.2.1 rfl
theorem dX9_init_60 : decode cX9_init 60 = .ok (.putfield 34, 3) := dAt wdX9_init_30 adX9_init_30.2.2.2.2.2.2.2.2.2.2.2.2.2.2.2 rfl
def bdX9_init_63 : ByteArray := .mk #[42, 16, 64, 188, 4, 181, 0, 38, 177]
theorem wdX9_init_63 : LocW cX9_init 63 bdX9_init_63 := loc_of (by decide +kernel)
theorem adX9_init_63 : De bdX9_init_63 0 (.aload_n 0) 1 ∧ De bdX9_init_63 1 (.bipush 64) 2 ∧ De bdX9_init_63 3 (.newarray .boolean) 2 ∧ De bdX9_init_63 5 (.putfield 38) 3 ∧ De bdX9_init_63 8 (.return_) 1 := by decide +kernel
theorem dX9_init_63 : decode cX9_init 63 = .ok (.aload_n 0, 1) := dAt wdX9_init_63 adX9_init_63.1 rfl
theorem dX9_init_64 : decode cX9_init 64 = .ok (.bipush 64, 2) := dAt wdX9_init_63 adX9_init_63.2.1 rfl
theorem dX9_init_66 : decode cX9_init 66 = .ok (.newarray .boolean, 2) := dAt wdX9_init_63 adX9_init_63.2.2.1 rfl
theorem dX9_init_68 : decode cX9_init 68 = .ok (.putfield 38, 3) := dAt wdX9_init_63 adX9_init_63.2.2.2.1 rfl
theorem dX9_init_71 : decode cX9_init 71 = .ok (.return_, 1) := dAt wdX9_init_63 adX9_init_63.2.2.2.2 rfl
def bdX9_takeAll_0 : ByteArray := .mk #[42, 43, 180, 0, 9, 181, 0, 9, 42, 43, 180, 0, 15, 181, 0, 15, 43, 180, 0, 18, 3, 42, 180, 0, 18, 3, 42, 180, 0, 18]
theorem wdX9_takeAll_0 : LocW cX9_takeAll 0 bdX9_takeAll_0 := loc_of (by decide +kernel)
theorem adX9_takeAll_0 : De bdX9_takeAll_0 0 (.aload_n 0) 1 ∧ De bdX9_takeAll_0 1 (.aload_n 1) 1 ∧ De bdX9_takeAll_0 2 (.getfield 9) 3 ∧ De bdX9_takeAll_0 5 (.putfield 9) 3 ∧ De bdX9_takeAll_0 8 (.aload_n 0) 1 ∧ De bdX9_takeAll_0 9 (.aload_n 1) 1 ∧ De bdX9_takeAll_0 10 (.getfield 15) 3 ∧ De bdX9_takeAll_0 13 (.putfield 15) 3 ∧ De bdX9_takeAll_0 16 (.aload_n 1) 1 ∧ De bdX9_takeAll_0 17 (.getfield 18) 3 ∧ De bdX9_takeAll_0 20 (.iconst 0) 1 ∧ De bdX9_takeAll_0 21 (.aload_n 0) 1 ∧ De bdX9_takeAll_0 22 (.getfield 18) 3 ∧ De bdX9_takeAll_0 25 (.iconst 0) 1 ∧ De bdX9_takeAll_0 26 (.aload_n 0) 1 ∧ De bdX9_takeAll_0 27 (.getfield 18) 3 := by decide +kernel
theorem dX9_takeAll_0 : decode cX9_takeAll 0 = .ok (.aload_n 0, 1) := dAt wdX9_takeAll_0 adX9_takeAll_0.1 rfl
theorem dX9_takeAll_1 : decode cX9_takeAll 1 = .ok (.aload_n 1, 1) := dAt wdX9_takeAll_0 adX9_takeAll_0.2.1 rfl
theorem dX9_takeAll_2 : decode cX9_takeAll 2 = .ok (.getfield 9, 3) := dAt wdX9_takeAll_0 adX9_takeAll_0.2.2.1 rfl
theorem dX9_takeAll_5 : decode cX9_takeAll 5 = .ok (.putfield 9, 3) := dAt wdX9_takeAll_0 adX9_takeAll_0.2.2.2.1 rfl
theorem dX9_takeAll_8 : decode cX9_takeAll 8 = .ok (.aload_n 0, 1) := dAt wdX9_takeAll_0 adX9_takeAll_0.2.2.2.2.1 rfl
theorem dX9_takeAll_9 : decode cX9_takeAll 9 = .ok (.aload_n 1, 1) := dAt wdX9_takeAll_0 adX9_takeAll_0.2.2.2.2.2.1 rfl
theorem dX9_takeAll_10 : decode cX9_takeAll 10 = .ok (.getfield 15, 3) := dAt wdX9_takeAll_0 adX9_takeAll_0.2.2.2.2.2.2.1 rfl
theorem dX9_takeAll_13 : decode cX9_takeAll 13 = .ok (.putfield 15, 3) := dAt wdX9_takeAll_0 adX9_takeAll_0.2.2.2.2.2.2.2.1 rfl
theorem dX9_takeAll_16 : decode cX9_takeAll 16 = .ok (.aload_n 1, 1) := dAt wdX9_takeAll_0 adX9_takeAll_0.2.2.2.2.2.2.2.2.1 rfl
theorem dX9_takeAll_17 : decode cX9_takeAll 17 = .ok (.getfield 18, 3) := dAt wdX9_takeAll_0 adX9_takeAll_0.2.2.2.2.2.2.2.2.2.1 rfl
theorem dX9_takeAll_20 : decode cX9_takeAll 20 = .ok (.iconst 0, 1) := dAt wdX9_takeAll_0 adX9_takeAll_0.2.2.2.2.2.2.2.2.2.2.1 rfl
theorem dX9_takeAll_21 : decode cX9_takeAll 21 = .ok (.aload_n 0, 1) := dAt wdX9_takeAll_0 adX9_takeAll_0.2.2.2.2.2.2.2.2.2.2.2.1 rfl
theorem dX9_takeAll_22 : decode cX9_takeAll 22 = .ok (.getfield 18, 3) := dAt wdX9_takeAll_0 adX9_takeAll_0.2.2.2.2.2.2.2.2.2.2.2.2.1 rfl
theorem dX9_takeAll_25 : decode cX9_takeAll 25 = .ok (.iconst 0, 1) := dAt wdX9_takeAll_0 adX9_takeAll_0.2.2.2.2.2.2.2.2.2.2.2.2.2.1 rfl
theorem dX9_takeAll_26 : decode cX9_takeAll 26 = .ok (.aload_n 0, 1) := dAt wdX9_takeAll_0 adX9_takeAll_0.2.2.2.2.2.2.2.2.2.2.2.2.2.2.1 rfl
theorem dX9_takeAll_27 : decode cX9_takeAll 27 = .ok (.getfield 18, 3) := dAt wdX9_takeAll_0 adX9_takeAll_0.2.2.2.2.2.2.2.2.2.2.2.2.2.2.2 rfl
def bdX9_takeAll_30 : ByteArray := .mk #[190, 184, 0, 41, 43, 180, 0, 22, 3, 42, 180, 0, 22, 3, 42, 180, 0, 22, 190, 184, 0, 41, 43, 180, 0, 25, 3, 42]
theorem wdX9_takeAll_30 : LocW cX9_takeAll 30 bdX9_takeAll_30 := loc_of (by decide +kernel)
theorem adX9_takeAll_30 : De bdX9_takeAll_30 0 (.arraylength) 1 ∧ De bdX9_takeAll_30 1 (.invokestatic 41) 3 ∧ De bdX9_takeAll_30 4 (.aload_n 1) 1 ∧ De bdX9_takeAll_30 5 (.getfield 22) 3 ∧ De bdX9_takeAll_30 8 (.iconst 0) 1 ∧ De bdX9_takeAll_30 9 (.aload_n 0) 1 ∧ De bdX9_takeAll_30 10 (.getfield 22) 3 ∧ De bdX9_takeAll_30 13 (.iconst 0) 1 ∧ De bdX9_takeAll_30 14 (.aload_n 0) 1 ∧ De bdX9_takeAll_30 15 (.getfield 22) 3 ∧ De bdX9_takeAll_30 18 (.arraylength) 1 ∧ De bdX9_takeAll_30 19 (.invokestatic 41) 3 ∧ De bdX9_takeAll_30 22 (.aload_n 1) 1 ∧ De bdX9_takeAll_30 23 (.getfield 25) 3 ∧ De bdX9_takeAll_30 26 (.iconst 0) 1 ∧ De bdX9_takeAll_30 27 (.aload_n 0) 1 := by decide +kernel
theorem dX9_takeAll_30 : decode cX9_takeAll 30 = .ok (.arraylength, 1) := dAt wdX9_takeAll_30 adX9_takeAll_30.1 rfl
theorem dX9_takeAll_31 : decode cX9_takeAll 31 = .ok (.invokestatic 41, 3) := dAt wdX9_takeAll_30 adX9_takeAll_30.2.1 rfl
theorem dX9_takeAll_34 : decode cX9_takeAll 34 = .ok (.aload_n 1, 1) := dAt wdX9_takeAll_30 adX9_takeAll_30.2.2.1 rfl
theorem dX9_takeAll_35 : decode cX9_takeAll 35 = .ok (.getfield 22, 3) := dAt wdX9_takeAll_30 adX9_takeAll_30.2.2.2.1 rfl
theorem dX9_takeAll_38 : decode cX9_takeAll 38 = .ok (.iconst 0, 1) := dAt wdX9_takeAll_30 adX9_takeAll_30.2.2.2.2.1 rfl
theorem dX9_takeAll_39 : decode cX9_takeAll 39 = .ok (.aload_n 0, 1) := dAt wdX9_takeAll_30 adX9_takeAll_30.2.2.2.2.2.1 rfl
theorem dX9_takeAll_40 : decode cX9_takeAll 40 = .ok (.getfield 22, 3) := dAt wdX9_takeAll_30 adX9_takeAll_30.2.2.2.2.2.2.1 rfl
theorem dX9_takeAll_43 : decode cX9_takeAll 43 = .ok (.iconst 0, 1) := dAt wdX9_takeAll_30 adX9_takeAll_30.2.2.2.2.2.2.2.1 rfl
theorem dX9_takeAll_44 : decode cX9_takeAll 44 = .ok (.aload_n 0, 1) := dAt wdX9_takeAll_30 adX9_takeAll_30.2.2.2.2.2.2.2.2.1 rfl
theorem dX9_takeAll_45 : decode cX9_takeAll 45 = .ok (.getfield 22, 3) := dAt wdX9_takeAll_30 adX9_takeAll_30.2.2.2.2.2.2.2.2.2.1 rfl
theorem dX9_takeAll_48 : decode cX9_takeAll 48 = .ok (.arraylength, 1) := dAt wdX9_takeAll_30 adX9_takeAll_30.2.2.2.2.2.2.2.2.2.2.1 rfl
theorem dX9_takeAll_49 : decode cX9_takeAll 49 = .ok (.invokestatic 41, 3) := dAt wdX9_takeAll_30 adX9_takeAll_30.2.2.2.2.2.2.2.2.2.2.2.1 rfl
theorem dX9_takeAll_52 : decode cX9_takeAll 52 = .ok (.aload_n 1, 1) := dAt wdX9_takeAll_30 adX9_takeAll_30.2.2.2.2.2.2.2.2.2.2.2.2.1 rfl
theorem dX9_takeAll_53 : decode cX9_takeAll 53 = .ok (.getfield 25, 3) := dAt wdX9_takeAll_30 adX9_takeAll_30.2.2.2.2.2.2.2.2.2.2.2.2.2.1 rfl
theorem dX9_takeAll_56 : decode cX9_takeAll 56 = .ok (.iconst 0, 1) := dAt wdX9_takeAll_30 adX9_takeAll_30.2.2.2.2.2.2.2.2.2.2.2.2.2.2.1 rfl
theorem dX9_takeAll_57 : decode cX9_takeAll 57 = .ok (.aload_n 0, 1) := dAt wdX9_takeAll_30 adX9_takeAll_30.2.2.2.2.2.2.2.2.2.2.2.2.2.2.2 rfl
def bdX9_takeAll_58 : ByteArray := .mk #[180, 0, 25, 3, 42, 180, 0, 25, 190, 184, 0, 41, 43, 180, 0, 28, 3, 42, 180, 0, 28, 3, 42, 180, 0, 28, 190, 184, 0, 41]
theorem wdX9_takeAll_58 : LocW cX9_takeAll 58 bdX9_takeAll_58 := loc_of (by decide +kernel)
theorem adX9_takeAll_58 : De bdX9_takeAll_58 0 (.getfield 25) 3 ∧ De bdX9_takeAll_58 3 (.iconst 0) 1 ∧ De bdX9_takeAll_58 4 (.aload_n 0) 1 ∧ De bdX9_takeAll_58 5 (.getfield 25) 3 ∧ De bdX9_takeAll_58 8 (.arraylength) 1 ∧ De bdX9_takeAll_58 9 (.invokestatic 41) 3 ∧ De bdX9_takeAll_58 12 (.aload_n 1) 1 ∧ De bdX9_takeAll_58 13 (.getfield 28) 3 ∧ De bdX9_takeAll_58 16 (.iconst 0) 1 ∧ De bdX9_takeAll_58 17 (.aload_n 0) 1 ∧ De bdX9_takeAll_58 18 (.getfield 28) 3 ∧ De bdX9_takeAll_58 21 (.iconst 0) 1 ∧ De bdX9_takeAll_58 22 (.aload_n 0) 1 ∧ De bdX9_takeAll_58 23 (.getfield 28) 3 ∧ De bdX9_takeAll_58 26 (.arraylength) 1 ∧ De bdX9_takeAll_58 27 (.invokestatic 41) 3 := by decide +kernel
theorem dX9_takeAll_58 : decode cX9_takeAll 58 = .ok (.getfield 25, 3) := dAt wdX9_takeAll_58 adX9_takeAll_58.1 rfl
theorem dX9_takeAll_61 : decode cX9_takeAll 61 = .ok (.iconst 0, 1) := dAt wdX9_takeAll_58 adX9_takeAll_58.2.1 rfl
theorem dX9_takeAll_62 : decode cX9_takeAll 62 = .ok (.aload_n 0, 1) := dAt wdX9_takeAll_58 adX9_takeAll_58.2.2.1 rfl
theorem dX9_takeAll_63 : decode cX9_takeAll 63 = .ok (.getfield 25, 3) := dAt wdX9_takeAll_58 adX9_takeAll_58.2.2.2.1 rfl
theorem dX9_takeAll_66 : decode cX9_takeAll 66 = .ok (.arraylength, 1) := dAt wdX9_takeAll_58 adX9_takeAll_58.2.2.2.2.1 rfl
theorem dX9_takeAll_67 : decode cX9_takeAll 67 = .ok (.invokestatic 41, 3) := dAt wdX9_takeAll_58 adX9_takeAll_58.2.2.2.2.2.1 rfl
theorem dX9_takeAll_70 : decode cX9_takeAll 70 = .ok (.aload_n 1, 1) := dAt wdX9_takeAll_58 adX9_takeAll_58.2.2.2.2.2.2.1 rfl
theorem dX9_takeAll_71 : decode cX9_takeAll 71 = .ok (.getfield 28, 3) := dAt wdX9_takeAll_58 adX9_takeAll_58.2.2.2.2.2.2.2.1 rfl
theorem dX9_takeAll_74 : decode cX9_takeAll 74 = .ok (.iconst 0, 1) := dAt wdX9_takeAll_58 adX9_takeAll_58.2.2.2.2.2.2.2.2.1 rfl
theorem dX9_takeAll_75 : decode cX9_takeAll 75 = .ok (.aload_n 0, 1) := dAt wdX9_takeAll_58 adX9_takeAll_58.2.2.2.2.2.2.2.2.2.1 rfl
theorem dX9_takeAll_76 : decode cX9_takeAll 76 = .ok (.getfield 28, 3) := dAt wdX9_takeAll_58 adX9_takeAll_58.2.2.2.2.2.2.2.2.2.2.1 rfl
theorem dX9_takeAll_79 : decode cX9_takeAll 79 = .ok (.iconst 0, 1) := dAt wdX9_takeAll_58 adX9_takeAll_58.2.2.2.2.2.2.2.2.2.2.2.1 rfl
theorem dX9_takeAll_80 : decode cX9_takeAll 80 = .ok (.aload_n 0, 1) := dAt wdX9_takeAll_58 adX9_takeAll_58.2.2.2.2.2.2.2.2.2.2.2.2.1 rfl
theorem dX9_takeAll_81 : decode cX9_takeAll 81 = .ok (.getfield 28, 3) := dAt wdX9_takeAll_58 adX9_takeAll_58.2.2.2.2.2.2.2.2.2.2.2.2.2.1 rfl
theorem dX9_takeAll_84 : decode cX9_takeAll 84 = .ok (.arraylength, 1) := dAt wdX9_takeAll_58 adX9_takeAll_58.2.2.2.2.2.2.2.2.2.2.2.2.2.2.1 rfl
theorem dX9_takeAll_85 : decode cX9_takeAll 85 = .ok (.invokestatic 41, 3) := dAt wdX9_takeAll_58 adX9_takeAll_58.2.2.2.2.2.2.2.2.2.2.2.2.2.2.2 rfl
def bdX9_takeAll_88 : ByteArray := .mk #[43, 180, 0, 31, 3, 42, 180, 0, 31, 3, 42, 180, 0, 31, 190, 184, 0, 41, 177]
theorem wdX9_takeAll_88 : LocW cX9_takeAll 88 bdX9_takeAll_88 := loc_of (by decide +kernel)
theorem adX9_takeAll_88 : De bdX9_takeAll_88 0 (.aload_n 1) 1 ∧ De bdX9_takeAll_88 1 (.getfield 31) 3 ∧ De bdX9_takeAll_88 4 (.iconst 0) 1 ∧ De bdX9_takeAll_88 5 (.aload_n 0) 1 ∧ De bdX9_takeAll_88 6 (.getfield 31) 3 ∧ De bdX9_takeAll_88 9 (.iconst 0) 1 ∧ De bdX9_takeAll_88 10 (.aload_n 0) 1 ∧ De bdX9_takeAll_88 11 (.getfield 31) 3 ∧ De bdX9_takeAll_88 14 (.arraylength) 1 ∧ De bdX9_takeAll_88 15 (.invokestatic 41) 3 ∧ De bdX9_takeAll_88 18 (.return_) 1 := by decide +kernel
theorem dX9_takeAll_88 : decode cX9_takeAll 88 = .ok (.aload_n 1, 1) := dAt wdX9_takeAll_88 adX9_takeAll_88.1 rfl
theorem dX9_takeAll_89 : decode cX9_takeAll 89 = .ok (.getfield 31, 3) := dAt wdX9_takeAll_88 adX9_takeAll_88.2.1 rfl
theorem dX9_takeAll_92 : decode cX9_takeAll 92 = .ok (.iconst 0, 1) := dAt wdX9_takeAll_88 adX9_takeAll_88.2.2.1 rfl
theorem dX9_takeAll_93 : decode cX9_takeAll 93 = .ok (.aload_n 0, 1) := dAt wdX9_takeAll_88 adX9_takeAll_88.2.2.2.1 rfl
theorem dX9_takeAll_94 : decode cX9_takeAll 94 = .ok (.getfield 31, 3) := dAt wdX9_takeAll_88 adX9_takeAll_88.2.2.2.2.1 rfl
theorem dX9_takeAll_97 : decode cX9_takeAll 97 = .ok (.iconst 0, 1) := dAt wdX9_takeAll_88 adX9_takeAll_88.2.2.2.2.2.1 rfl
theorem dX9_takeAll_98 : decode cX9_takeAll 98 = .ok (.aload_n 0, 1) := dAt wdX9_takeAll_88 adX9_takeAll_88.2.2.2.2.2.2.1 rfl
theorem dX9_takeAll_99 : decode cX9_takeAll 99 = .ok (.getfield 31, 3) := dAt wdX9_takeAll_88 adX9_takeAll_88.2.2.2.2.2.2.2.1 rfl
theorem dX9_takeAll_102 : decode cX9_takeAll 102 = .ok (.arraylength, 1) := dAt wdX9_takeAll_88 adX9_takeAll_88.2.2.2.2.2.2.2.2.1 rfl
theorem dX9_takeAll_103 : decode cX9_takeAll 103 = .ok (.invokestatic 41, 3) := dAt wdX9_takeAll_88 adX9_takeAll_88.2.2.2.2.2.2.2.2.2.1 rfl
theorem dX9_takeAll_106 : decode cX9_takeAll 106 = .ok (.return_, 1) := dAt wdX9_takeAll_88 adX9_takeAll_88.2.2.2.2.2.2.2.2.2.2 rfl
def bdX9_addRule_0 : ByteArray := .mk #[42, 180, 0, 15, 16, 12, 161, 0, 4, 177, 42, 180, 0, 18, 42, 180, 0, 15, 27, 79, 42, 180, 0, 22, 42, 180, 0, 15, 28]
theorem wdX9_addRule_0 : LocW cX9_addRule 0 bdX9_addRule_0 := loc_of (by decide +kernel)
theorem adX9_addRule_0 : De bdX9_addRule_0 0 (.aload_n 0) 1 ∧ De bdX9_addRule_0 1 (.getfield 15) 3 ∧ De bdX9_addRule_0 4 (.bipush 12) 2 ∧ De bdX9_addRule_0 6 (.if_icmp .lt 4) 3 ∧ De bdX9_addRule_0 9 (.return_) 1 ∧ De bdX9_addRule_0 10 (.aload_n 0) 1 ∧ De bdX9_addRule_0 11 (.getfield 18) 3 ∧ De bdX9_addRule_0 14 (.aload_n 0) 1 ∧ De bdX9_addRule_0 15 (.getfield 15) 3 ∧ De bdX9_addRule_0 18 (.iload_n 1) 1 ∧ De bdX9_addRule_0 19 (.iastore) 1 ∧ De bdX9_addRule_0 20 (.aload_n 0) 1 ∧ De bdX9_addRule_0 21 (.getfield 22) 3 ∧ De bdX9_addRule_0 24 (.aload_n 0) 1 ∧ De bdX9_addRule_0 25 (.getfield 15) 3 ∧ De bdX9_addRule_0 28 (.iload_n 2) 1 := by decide +kernel
theorem dX9_addRule_0 : decode cX9_addRule 0 = .ok (.aload_n 0, 1) := dAt wdX9_addRule_0 adX9_addRule_0.1 rfl
theorem dX9_addRule_1 : decode cX9_addRule 1 = .ok (.getfield 15, 3) := dAt wdX9_addRule_0 adX9_addRule_0.2.1 rfl
theorem dX9_addRule_4 : decode cX9_addRule 4 = .ok (.bipush 12, 2) := dAt wdX9_addRule_0 adX9_addRule_0.2.2.1 rfl
theorem dX9_addRule_6 : decode cX9_addRule 6 = .ok (.if_icmp .lt 4, 3) := dAt wdX9_addRule_0 adX9_addRule_0.2.2.2.1 rfl
theorem dX9_addRule_9 : decode cX9_addRule 9 = .ok (.return_, 1) := dAt wdX9_addRule_0 adX9_addRule_0.2.2.2.2.1 rfl
theorem dX9_addRule_10 : decode cX9_addRule 10 = .ok (.aload_n 0, 1) := dAt wdX9_addRule_0 adX9_addRule_0.2.2.2.2.2.1 rfl
theorem dX9_addRule_11 : decode cX9_addRule 11 = .ok (.getfield 18, 3) := dAt wdX9_addRule_0 adX9_addRule_0.2.2.2.2.2.2.1 rfl
theorem dX9_addRule_14 : decode cX9_addRule 14 = .ok (.aload_n 0, 1) := dAt wdX9_addRule_0 adX9_addRule_0.2.2.2.2.2.2.2.1 rfl
theorem dX9_addRule_15 : decode cX9_addRule 15 = .ok (.getfield 15, 3) := dAt wdX9_addRule_0 adX9_addRule_0.2.2.2.2.2.2.2.2.1 rfl
theorem dX9_addRule_18 : decode cX9_addRule 18 = .ok (.iload_n 1, 1) := dAt wdX9_addRule_0 adX9_addRule_0.2.2.2.2.2.2.2.2.2.1 rfl
theorem dX9_addRule_19 : decode cX9_addRule 19 = .ok (.iastore, 1) := dAt wdX9_addRule_0 adX9_addRule_0.2.2.2.2.2.2.2.2.2.2.1 rfl
theorem dX9_addRule_20 : decode cX9_addRule 20 = .ok (.aload_n 0, 1) := dAt wdX9_addRule_0 adX9_addRule_0.2.2.2.2.2.2.2.2.2.2.2.1 rfl
theorem dX9_addRule_21 : decode cX9_addRule 21 = .ok (.getfield 22, 3) := dAt wdX9_addRule_0 adX9_addRule_0.2.2.2.2.2.2.2.2.2.2.2.2.1 rfl
theorem dX9_addRule_24 : decode cX9_addRule 24 = .ok (.aload_n 0, 1) := dAt wdX9_addRule_0 adX9_addRule_0.2.2.2.2.2.2.2.2.2.2.2.2.2.1 rfl
theorem dX9_addRule_25 : decode cX9_addRule 25 = .ok (.getfield 15, 3) := dAt wdX9_addRule_0 adX9_addRule_0.2.2.2.2.2.2.2.2.2.2.2.2.2.2.1 rfl
theorem dX9_addRule_28 : decode cX9_addRule 28 = .ok (.iload_n 2, 1) := dAt wdX9_addRule_0 adX9_addRule_0.2.2.2.2.2.2.2.2.2.2.2.2.2.2.2 rfl
def bdX9_addRule_29 : ByteArray := .mk #[79, 42, 180, 0, 25, 42, 180, 0, 15, 29, 79, 42, 180, 0, 28, 42, 180, 0, 15, 42, 180, 0, 15, 154, 0, 7, 3, 167, 0, 14]
theorem wdX9_addRule_29 : LocW cX9_addRule 29 bdX9_addRule_29 := loc_of (by decide +kernel)
theorem adX9_addRule_29 : De bdX9_addRule_29 0 (.iastore) 1 ∧ De bdX9_addRule_29 1 (.aload_n 0) 1 ∧ De bdX9_addRule_29 2 (.getfield 25) 3 ∧ De bdX9_addRule_29 5 (.aload_n 0) 1 ∧ De bdX9_addRule_29 6 (.getfield 15) 3 ∧ De bdX9_addRule_29 9 (.iload_n 3) 1 ∧ De bdX9_addRule_29 10 (.iastore) 1 ∧ De bdX9_addRule_29 11 (.aload_n 0) 1 ∧ De bdX9_addRule_29 12 (.getfield 28) 3 ∧ De bdX9_addRule_29 15 (.aload_n 0) 1 ∧ De bdX9_addRule_29 16 (.getfield 15) 3 ∧ De bdX9_addRule_29 19 (.aload_n 0) 1 ∧ De bdX9_addRule_29 20 (.getfield 15) 3 ∧ De bdX9_addRule_29 23 (.ifCond .ne 7) 3 ∧ De bdX9_addRule_29 26 (.iconst 0) 1 ∧ De bdX9_addRule_29 27 (.goto 14) 3 := by decide +kernel
theorem dX9_addRule_29 : decode cX9_addRule 29 = .ok (.iastore, 1) := dAt wdX9_addRule_29 adX9_addRule_29.1 rfl
theorem dX9_addRule_30 : decode cX9_addRule 30 = .ok (.aload_n 0, 1) := dAt wdX9_addRule_29 adX9_addRule_29.2.1 rfl
theorem dX9_addRule_31 : decode cX9_addRule 31 = .ok (.getfield 25, 3) := dAt wdX9_addRule_29 adX9_addRule_29.2.2.1 rfl
theorem dX9_addRule_34 : decode cX9_addRule 34 = .ok (.aload_n 0, 1) := dAt wdX9_addRule_29 adX9_addRule_29.2.2.2.1 rfl
theorem dX9_addRule_35 : decode cX9_addRule 35 = .ok (.getfield 15, 3) := dAt wdX9_addRule_29 adX9_addRule_29.2.2.2.2.1 rfl
theorem dX9_addRule_38 : decode cX9_addRule 38 = .ok (.iload_n 3, 1) := dAt wdX9_addRule_29 adX9_addRule_29.2.2.2.2.2.1 rfl
theorem dX9_addRule_39 : decode cX9_addRule 39 = .ok (.iastore, 1) := dAt wdX9_addRule_29 adX9_addRule_29.2.2.2.2.2.2.1 rfl
theorem dX9_addRule_40 : decode cX9_addRule 40 = .ok (.aload_n 0, 1) := dAt wdX9_addRule_29 adX9_addRule_29.2.2.2.2.2.2.2.1 rfl
theorem dX9_addRule_41 : decode cX9_addRule 41 = .ok (.getfield 28, 3) := dAt wdX9_addRule_29 adX9_addRule_29.2.2.2.2.2.2.2.2.1 rfl
theorem dX9_addRule_44 : decode cX9_addRule 44 = .ok (.aload_n 0, 1) := dAt wdX9_addRule_29 adX9_addRule_29.2.2.2.2.2.2.2.2.2.1 rfl
theorem dX9_addRule_45 : decode cX9_addRule 45 = .ok (.getfield 15, 3) := dAt wdX9_addRule_29 adX9_addRule_29.2.2.2.2.2.2.2.2.2.2.1 rfl
theorem dX9_addRule_48 : decode cX9_addRule 48 = .ok (.aload_n 0, 1) := dAt wdX9_addRule_29 adX9_addRule_29.2.2.2.2.2.2.2.2.2.2.2.1 rfl
theorem dX9_addRule_49 : decode cX9_addRule 49 = .ok (.getfield 15, 3) := dAt wdX9_addRule_29 adX9_addRule_29.2.2.2.2.2.2.2.2.2.2.2.2.1 rfl
theorem dX9_addRule_52 : decode cX9_addRule 52 = .ok (.ifCond .ne 7, 3) := dAt wdX9_addRule_29 adX9_addRule_29.2.2.2.2.2.2.2.2.2.2.2.2.2.1 rfl
theorem dX9_addRule_55 : decode cX9_addRule 55 = .ok (.iconst 0, 1) := dAt wdX9_addRule_29 adX9_addRule_29.2.2.2.2.2.2.2.2.2.2.2.2.2.2.1 rfl
theorem dX9_addRule_56 : decode cX9_addRule 56 = .ok (.goto 14, 3) := dAt wdX9_addRule_29 adX9_addRule_29.2.2.2.2.2.2.2.2.2.2.2.2.2.2.2 rfl
def bdX9_addRule_59 : ByteArray := .mk #[42, 180, 0, 28, 42, 180, 0, 15, 4, 100, 46, 79, 42, 89, 180, 0, 15, 4, 96, 181, 0, 15, 177]
theorem wdX9_addRule_59 : LocW cX9_addRule 59 bdX9_addRule_59 := loc_of (by decide +kernel)
theorem adX9_addRule_59 : De bdX9_addRule_59 0 (.aload_n 0) 1 ∧ De bdX9_addRule_59 1 (.getfield 28) 3 ∧ De bdX9_addRule_59 4 (.aload_n 0) 1 ∧ De bdX9_addRule_59 5 (.getfield 15) 3 ∧ De bdX9_addRule_59 8 (.iconst 1) 1 ∧ De bdX9_addRule_59 9 (.isub) 1 ∧ De bdX9_addRule_59 10 (.iaload) 1 ∧ De bdX9_addRule_59 11 (.iastore) 1 ∧ De bdX9_addRule_59 12 (.aload_n 0) 1 ∧ De bdX9_addRule_59 13 (.dup) 1 ∧ De bdX9_addRule_59 14 (.getfield 15) 3 ∧ De bdX9_addRule_59 17 (.iconst 1) 1 ∧ De bdX9_addRule_59 18 (.iadd) 1 ∧ De bdX9_addRule_59 19 (.putfield 15) 3 ∧ De bdX9_addRule_59 22 (.return_) 1 := by decide +kernel
theorem dX9_addRule_59 : decode cX9_addRule 59 = .ok (.aload_n 0, 1) := dAt wdX9_addRule_59 adX9_addRule_59.1 rfl
theorem dX9_addRule_60 : decode cX9_addRule 60 = .ok (.getfield 28, 3) := dAt wdX9_addRule_59 adX9_addRule_59.2.1 rfl
theorem dX9_addRule_63 : decode cX9_addRule 63 = .ok (.aload_n 0, 1) := dAt wdX9_addRule_59 adX9_addRule_59.2.2.1 rfl
theorem dX9_addRule_64 : decode cX9_addRule 64 = .ok (.getfield 15, 3) := dAt wdX9_addRule_59 adX9_addRule_59.2.2.2.1 rfl
theorem dX9_addRule_67 : decode cX9_addRule 67 = .ok (.iconst 1, 1) := dAt wdX9_addRule_59 adX9_addRule_59.2.2.2.2.1 rfl
theorem dX9_addRule_68 : decode cX9_addRule 68 = .ok (.isub, 1) := dAt wdX9_addRule_59 adX9_addRule_59.2.2.2.2.2.1 rfl
theorem dX9_addRule_69 : decode cX9_addRule 69 = .ok (.iaload, 1) := dAt wdX9_addRule_59 adX9_addRule_59.2.2.2.2.2.2.1 rfl
theorem dX9_addRule_70 : decode cX9_addRule 70 = .ok (.iastore, 1) := dAt wdX9_addRule_59 adX9_addRule_59.2.2.2.2.2.2.2.1 rfl
theorem dX9_addRule_71 : decode cX9_addRule 71 = .ok (.aload_n 0, 1) := dAt wdX9_addRule_59 adX9_addRule_59.2.2.2.2.2.2.2.2.1 rfl
theorem dX9_addRule_72 : decode cX9_addRule 72 = .ok (.dup, 1) := dAt wdX9_addRule_59 adX9_addRule_59.2.2.2.2.2.2.2.2.2.1 rfl
theorem dX9_addRule_73 : decode cX9_addRule 73 = .ok (.getfield 15, 3) := dAt wdX9_addRule_59 adX9_addRule_59.2.2.2.2.2.2.2.2.2.2.1 rfl
theorem dX9_addRule_76 : decode cX9_addRule 76 = .ok (.iconst 1, 1) := dAt wdX9_addRule_59 adX9_addRule_59.2.2.2.2.2.2.2.2.2.2.2.1 rfl
theorem dX9_addRule_77 : decode cX9_addRule 77 = .ok (.iadd, 1) := dAt wdX9_addRule_59 adX9_addRule_59.2.2.2.2.2.2.2.2.2.2.2.2.1 rfl
theorem dX9_addRule_78 : decode cX9_addRule 78 = .ok (.putfield 15, 3) := dAt wdX9_addRule_59 adX9_addRule_59.2.2.2.2.2.2.2.2.2.2.2.2.2.1 rfl
theorem dX9_addRule_81 : decode cX9_addRule 81 = .ok (.return_, 1) := dAt wdX9_addRule_59 adX9_addRule_59.2.2.2.2.2.2.2.2.2.2.2.2.2.2 rfl
def bdX9_addCode_0 : ByteArray := .mk #[42, 180, 0, 15, 153, 0, 22, 42, 180, 0, 28, 42, 180, 0, 15, 4, 100, 46, 42, 180, 0, 31, 190, 161, 0, 4, 177, 42]
theorem wdX9_addCode_0 : LocW cX9_addCode 0 bdX9_addCode_0 := loc_of (by decide +kernel)
theorem adX9_addCode_0 : De bdX9_addCode_0 0 (.aload_n 0) 1 ∧ De bdX9_addCode_0 1 (.getfield 15) 3 ∧ De bdX9_addCode_0 4 (.ifCond .eq 22) 3 ∧ De bdX9_addCode_0 7 (.aload_n 0) 1 ∧ De bdX9_addCode_0 8 (.getfield 28) 3 ∧ De bdX9_addCode_0 11 (.aload_n 0) 1 ∧ De bdX9_addCode_0 12 (.getfield 15) 3 ∧ De bdX9_addCode_0 15 (.iconst 1) 1 ∧ De bdX9_addCode_0 16 (.isub) 1 ∧ De bdX9_addCode_0 17 (.iaload) 1 ∧ De bdX9_addCode_0 18 (.aload_n 0) 1 ∧ De bdX9_addCode_0 19 (.getfield 31) 3 ∧ De bdX9_addCode_0 22 (.arraylength) 1 ∧ De bdX9_addCode_0 23 (.if_icmp .lt 4) 3 ∧ De bdX9_addCode_0 26 (.return_) 1 ∧ De bdX9_addCode_0 27 (.aload_n 0) 1 := by decide +kernel
theorem dX9_addCode_0 : decode cX9_addCode 0 = .ok (.aload_n 0, 1) := dAt wdX9_addCode_0 adX9_addCode_0.1 rfl
theorem dX9_addCode_1 : decode cX9_addCode 1 = .ok (.getfield 15, 3) := dAt wdX9_addCode_0 adX9_addCode_0.2.1 rfl
theorem dX9_addCode_4 : decode cX9_addCode 4 = .ok (.ifCond .eq 22, 3) := dAt wdX9_addCode_0 adX9_addCode_0.2.2.1 rfl
theorem dX9_addCode_7 : decode cX9_addCode 7 = .ok (.aload_n 0, 1) := dAt wdX9_addCode_0 adX9_addCode_0.2.2.2.1 rfl
theorem dX9_addCode_8 : decode cX9_addCode 8 = .ok (.getfield 28, 3) := dAt wdX9_addCode_0 adX9_addCode_0.2.2.2.2.1 rfl
theorem dX9_addCode_11 : decode cX9_addCode 11 = .ok (.aload_n 0, 1) := dAt wdX9_addCode_0 adX9_addCode_0.2.2.2.2.2.1 rfl
theorem dX9_addCode_12 : decode cX9_addCode 12 = .ok (.getfield 15, 3) := dAt wdX9_addCode_0 adX9_addCode_0.2.2.2.2.2.2.1 rfl
theorem dX9_addCode_15 : decode cX9_addCode 15 = .ok (.iconst 1, 1) := dAt wdX9_addCode_0 adX9_addCode_0.2.2.2.2.2.2.2.1 rfl
theorem dX9_addCode_16 : decode cX9_addCode 16 = .ok (.isub, 1) := dAt wdX9_addCode_0 adX9_addCode_0.2.2.2.2.2.2.2.2.1 rfl
theorem dX9_addCode_17 : decode cX9_addCode 17 = .ok (.iaload, 1) := dAt wdX9_addCode_0 adX9_addCode_0.2.2.2.2.2.2.2.2.2.1 rfl
theorem dX9_addCode_18 : decode cX9_addCode 18 = .ok (.aload_n 0, 1) := dAt wdX9_addCode_0 adX9_addCode_0.2.2.2.2.2.2.2.2.2.2.1 rfl
theorem dX9_addCode_19 : decode cX9_addCode 19 = .ok (.getfield 31, 3) := dAt wdX9_addCode_0 adX9_addCode_0.2.2.2.2.2.2.2.2.2.2.2.1 rfl
theorem dX9_addCode_22 : decode cX9_addCode 22 = .ok (.arraylength, 1) := dAt wdX9_addCode_0 adX9_addCode_0.2.2.2.2.2.2.2.2.2.2.2.2.1 rfl
theorem dX9_addCode_23 : decode cX9_addCode 23 = .ok (.if_icmp .lt 4, 3) := dAt wdX9_addCode_0 adX9_addCode_0.2.2.2.2.2.2.2.2.2.2.2.2.2.1 rfl
theorem dX9_addCode_26 : decode cX9_addCode 26 = .ok (.return_, 1) := dAt wdX9_addCode_0 adX9_addCode_0.2.2.2.2.2.2.2.2.2.2.2.2.2.2.1 rfl
theorem dX9_addCode_27 : decode cX9_addCode 27 = .ok (.aload_n 0, 1) := dAt wdX9_addCode_0 adX9_addCode_0.2.2.2.2.2.2.2.2.2.2.2.2.2.2.2 rfl
