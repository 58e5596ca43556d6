def bdX9_addCode_28 : ByteArray := .mk #[180, 0, 31, 42, 180, 0, 28, 42, 180, 0, 15, 4, 100, 46, 16, 32, 28, 104, 27, 96, 79, 42, 180, 0, 28]
theorem wdX9_addCode_28 : LocW cX9_addCode 28 bdX9_addCode_28 := loc_of (by decide +kernel)
theorem adX9_addCode_28 : De bdX9_addCode_28 0 (.getfield 31) 3 ∧ De bdX9_addCode_28 3 (.aload_n 0) 1 ∧ De bdX9_addCode_28 4 (.getfield 28) 3 ∧ De bdX9_addCode_28 7 (.aload_n 0) 1 ∧ De bdX9_addCode_28 8 (.getfield 15) 3 ∧ De bdX9_addCode_28 11 (.iconst 1) 1 ∧ De bdX9_addCode_28 12 (.isub) 1 ∧ De bdX9_addCode_28 13 (.iaload) 1 ∧ De bdX9_addCode_28 14 (.bipush 32) 2 ∧ De bdX9_addCode_28 16 (.iload_n 2) 1 ∧ De bdX9_addCode_28 17 (.imul) 1 ∧ De bdX9_addCode_28 18 (.iload_n 1) 1 ∧ De bdX9_addCode_28 19 (.iadd) 1 ∧ De bdX9_addCode_28 20 (.iastore) 1 ∧ De bdX9_addCode_28 21 (.aload_n 0) 1 ∧ De bdX9_addCode_28 22 (.getfield 28) 3 := by decide +kernel
theorem dX9_addCode_28 : decode cX9_addCode 28 = .ok (.getfield 31, 3) := dAt wdX9_addCode_28 adX9_addCode_28.1 rfl
theorem dX9_addCode_31 : decode cX9_addCode 31 = .ok (.aload_n 0, 1) := dAt wdX9_addCode_28 adX9_addCode_28.2.1 rfl
theorem dX9_addCode_32 : decode cX9_addCode 32 = .ok (.getfield 28, 3) := dAt wdX9_addCode_28 adX9_addCode_28.2.2.1 rfl
theorem dX9_addCode_35 : decode cX9_addCode 35 = .ok (.aload_n 0, 1) := dAt wdX9_addCode_28 adX9_addCode_28.2.2.2.1 rfl
theorem dX9_addCode_36 : decode cX9_addCode 36 = .ok (.getfield 15, 3) := dAt wdX9_addCode_28 adX9_addCode_28.2.2.2.2.1 rfl
theorem dX9_addCode_39 : decode cX9_addCode 39 = .ok (.iconst 1, 1) := dAt wdX9_addCode_28 adX9_addCode_28.2.2.2.2.2.1 rfl
theorem dX9_addCode_40 : decode cX9_addCode 40 = .ok (.isub, 1) := dAt wdX9_addCode_28 adX9_addCode_28.2.2.2.2.2.2.1 rfl
theorem dX9_addCode_41 : decode cX9_addCode 41 = .ok (.iaload, 1) := dAt wdX9_addCode_28 adX9_addCode_28.2.2.2.2.2.2.2.1 rfl
theorem dX9_addCode_42 : decode cX9_addCode 42 = .ok (.bipush 32, 2) := dAt wdX9_addCode_28 adX9_addCode_28.2.2.2.2.2.2.2.2.1 rfl
theorem dX9_addCode_44 : decode cX9_addCode 44 = .ok (.iload_n 2, 1) := dAt wdX9_addCode_28 adX9_addCode_28.2.2.2.2.2.2.2.2.2.1 rfl
theorem dX9_addCode_45 : decode cX9_addCode 45 = .ok (.imul, 1) := dAt wdX9_addCode_28 adX9_addCode_28.2.2.2.2.2.2.2.2.2.2.1 rfl
theorem dX9_addCode_46 : decode cX9_addCode 46 = .ok (.iload_n 1, 1) := dAt wdX9_addCode_28 adX9_addCode_28.2.2.2.2.2.2.2.2.2.2.2.1 rfl
theorem dX9_addCode_47 : decode cX9_addCode 47 = .ok (.iadd, 1) := dAt wdX9_addCode_28 adX9_addCode_28.2.2.2.2.2.2.2.2.2.2.2.2.1 rfl
theorem dX9_addCode_48 : decode cX9_addCode 48 = .ok (.iastore, 1) := dAt wdX9_addCode_28 adX9_addCode_28.2.2.2.2.2.2.2.2.2.2.2.2.2.1 rfl
theorem dX9_addCode_49 : decode cX9_addCode 49 = .ok (.aload_n 0, 1) := dAt wdX9_addCode_28 adX9_addCode_28.2.2.2.2.2.2.2.2.2.2.2.2.2.2.1 rfl
theorem dX9_addCode_50 : decode cX9_addCode 50 = .ok (.getfield 28, 3) := dAt wdX9_addCode_28 adX9_addCode_28.2.2.2.2.2.2.2.2.2.2.2.2.2.2.2 rfl
def bdX9_addCode_53 : ByteArray := .mk #[42, 180, 0, 15, 4, 100, 92, 46, 4, 96, 79, 177]
theorem wdX9_addCode_53 : LocW cX9_addCode 53 bdX9_addCode_53 := loc_of (by decide +kernel)
theorem adX9_addCode_53 : De bdX9_addCode_53 0 (.aload_n 0) 1 ∧ De bdX9_addCode_53 1 (.getfield 15) 3 ∧ De bdX9_addCode_53 4 (.iconst 1) 1 ∧ De bdX9_addCode_53 5 (.isub) 1 ∧ De bdX9_addCode_53 6 (.dup2) 1 ∧ De bdX9_addCode_53 7 (.iaload) 1 ∧ De bdX9_addCode_53 8 (.iconst 1) 1 ∧ De bdX9_addCode_53 9 (.iadd) 1 ∧ De bdX9_addCode_53 10 (.iastore) 1 ∧ De bdX9_addCode_53 11 (.return_) 1 := by decide +kernel
theorem dX9_addCode_53 : decode cX9_addCode 53 = .ok (.aload_n 0, 1) := dAt wdX9_addCode_53 adX9_addCode_53.1 rfl
theorem dX9_addCode_54 : decode cX9_addCode 54 = .ok (.getfield 15, 3) := dAt wdX9_addCode_53 adX9_addCode_53.2.1 rfl
theorem dX9_addCode_57 : decode cX9_addCode 57 = .ok (.iconst 1, 1) := dAt wdX9_addCode_53 adX9_addCode_53.2.2.1 rfl
theorem dX9_addCode_58 : decode cX9_addCode 58 = .ok (.isub, 1) := dAt wdX9_addCode_53 adX9_addCode_53.2.2.2.1 rfl
theorem dX9_addCode_59 : decode cX9_addCode 59 = .ok (.dup2, 1) := dAt wdX9_addCode_53 adX9_addCode_53.2.2.2.2.1 rfl
theorem dX9_addCode_60 : decode cX9_addCode 60 = .ok (.iaload, 1) := dAt wdX9_addCode_53 adX9_addCode_53.2.2.2.2.2.1 rfl
theorem dX9_addCode_61 : decode cX9_addCode 61 = .ok (.iconst 1, 1) := dAt wdX9_addCode_53 adX9_addCode_53.2.2.2.2.2.2.1 rfl
theorem dX9_addCode_62 : decode cX9_addCode 62 = .ok (.iadd, 1) := dAt wdX9_addCode_53 adX9_addCode_53.2.2.2.2.2.2.2.1 rfl
theorem dX9_addCode_63 : decode cX9_addCode 63 = .ok (.iastore, 1) := dAt wdX9_addCode_53 adX9_addCode_53.2.2.2.2.2.2.2.2.1 rfl
theorem dX9_addCode_64 : decode cX9_addCode 64 = .ok (.return_, 1) := dAt wdX9_addCode_53 adX9_addCode_53.2.2.2.2.2.2.2.2.2 rfl
def bdX9_weigh_0 : ByteArray := .mk #[3, 61, 3, 62, 29, 42, 180, 0, 15, 162, 0, 90, 3, 54, 4, 28, 54, 5, 21, 5, 42, 180, 0, 28, 29]
theorem wdX9_weigh_0 : LocW cX9_weigh 0 bdX9_weigh_0 := loc_of (by decide +kernel)
theorem adX9_weigh_0 : De bdX9_weigh_0 0 (.iconst 0) 1 ∧ De bdX9_weigh_0 1 (.istore_n 2) 1 ∧ De bdX9_weigh_0 2 (.iconst 0) 1 ∧ De bdX9_weigh_0 3 (.istore_n 3) 1 ∧ De bdX9_weigh_0 4 (.iload_n 3) 1 ∧ De bdX9_weigh_0 5 (.aload_n 0) 1 ∧ De bdX9_weigh_0 6 (.getfield 15) 3 ∧ De bdX9_weigh_0 9 (.if_icmp .ge 90) 3 ∧ De bdX9_weigh_0 12 (.iconst 0) 1 ∧ De bdX9_weigh_0 13 (.istore 4) 2 ∧ De bdX9_weigh_0 15 (.iload_n 2) 1 ∧ De bdX9_weigh_0 16 (.istore 5) 2 ∧ De bdX9_weigh_0 18 (.iload 5) 2 ∧ De bdX9_weigh_0 20 (.aload_n 0) 1 ∧ De bdX9_weigh_0 21 (.getfield 28) 3 ∧ De bdX9_weigh_0 24 (.iload_n 3) 1 := by decide +kernel
theorem dX9_weigh_0 : decode cX9_weigh 0 = .ok (.iconst 0, 1) := dAt wdX9_weigh_0 adX9_weigh_0.1 rfl
theorem dX9_weigh_1 : decode cX9_weigh 1 = .ok (.istore_n 2, 1) := dAt wdX9_weigh_0 adX9_weigh_0.2.1 rfl
theorem dX9_weigh_2 : decode cX9_weigh 2 = .ok (.iconst 0, 1) := dAt wdX9_weigh_0 adX9_weigh_0.2.2.1 rfl
theorem dX9_weigh_3 : decode cX9_weigh 3 = .ok (.istore_n 3, 1) := dAt wdX9_weigh_0 adX9_weigh_0.2.2.2.1 rfl
theorem dX9_weigh_4 : decode cX9_weigh 4 = .ok (.iload_n 3, 1) := dAt wdX9_weigh_0 adX9_weigh_0.2.2.2.2.1 rfl
theorem dX9_weigh_5 : decode cX9_weigh 5 = .ok (.aload_n 0, 1) := dAt wdX9_weigh_0 adX9_weigh_0.2.2.2.2.2.1 rfl
theorem dX9_weigh_6 : decode cX9_weigh 6 = .ok (.getfield 15, 3) := dAt wdX9_weigh_0 adX9_weigh_0.2.2.2.2.2.2.1 rfl
theorem dX9_weigh_9 : decode cX9_weigh 9 = .ok (.if_icmp .ge 90, 3) := dAt wdX9_weigh_0 adX9_weigh_0.2.2.2.2.2.2.2.1 rfl
theorem dX9_weigh_12 : decode cX9_weigh 12 = .ok (.iconst 0, 1) := dAt wdX9_weigh_0 adX9_weigh_0.2.2.2.2.2.2.2.2.1 rfl
theorem dX9_weigh_13 : decode cX9_weigh 13 = .ok (.istore 4, 2) := dAt wdX9_weigh_0 adX9_weigh_0.2.2.2.2.2.2.2.2.2.1 rfl
theorem dX9_weigh_15 : decode cX9_weigh 15 = .ok (.iload_n 2, 1) := dAt wdX9_weigh_0 adX9_weigh_0.2.2.2.2.2.2.2.2.2.2.1 rfl
theorem dX9_weigh_16 : decode cX9_weigh 16 = .ok (.istore 5, 2) := dAt wdX9_weigh_0 adX9_weigh_0.2.2.2.2.2.2.2.2.2.2.2.1 rfl
theorem dX9_weigh_18 : decode cX9_weigh 18 = .ok (.iload 5, 2) := dAt wdX9_weigh_0 adX9_weigh_0.2.2.2.2.2.2.2.2.2.2.2.2.1 rfl
theorem dX9_weigh_20 : decode cX9_weigh 20 = .ok (.aload_n 0, 1) := dAt wdX9_weigh_0 adX9_weigh_0.2.2.2.2.2.2.2.2.2.2.2.2.2.1 rfl
theorem dX9_weigh_21 : decode cX9_weigh 21 = .ok (.getfield 28, 3) := dAt wdX9_weigh_0 adX9_weigh_0.2.2.2.2.2.2.2.2.2.2.2.2.2.2.1 rfl
theorem dX9_weigh_24 : decode cX9_weigh 24 = .ok (.iload_n 3, 1) := dAt wdX9_weigh_0 adX9_weigh_0.2.2.2.2.2.2.2.2.2.2.2.2.2.2.2 rfl
def bdX9_weigh_25 : ByteArray := .mk #[46, 162, 0, 35, 21, 5, 42, 180, 0, 31, 190, 162, 0, 25, 42, 42, 180, 0, 31, 21, 5, 46, 43, 21, 4, 182, 0, 47, 54, 4]
theorem wdX9_weigh_25 : LocW cX9_weigh 25 bdX9_weigh_25 := loc_of (by decide +kernel)
theorem adX9_weigh_25 : De bdX9_weigh_25 0 (.iaload) 1 ∧ De bdX9_weigh_25 1 (.if_icmp .ge 35) 3 ∧ De bdX9_weigh_25 4 (.iload 5) 2 ∧ De bdX9_weigh_25 6 (.aload_n 0) 1 ∧ De bdX9_weigh_25 7 (.getfield 31) 3 ∧ De bdX9_weigh_25 10 (.arraylength) 1 ∧ De bdX9_weigh_25 11 (.if_icmp .ge 25) 3 ∧ De bdX9_weigh_25 14 (.aload_n 0) 1 ∧ De bdX9_weigh_25 15 (.aload_n 0) 1 ∧ De bdX9_weigh_25 16 (.getfield 31) 3 ∧ De bdX9_weigh_25 19 (.iload 5) 2 ∧ De bdX9_weigh_25 21 (.iaload) 1 ∧ De bdX9_weigh_25 22 (.aload_n 1) 1 ∧ De bdX9_weigh_25 23 (.iload 4) 2 ∧ De bdX9_weigh_25 25 (.invokevirtual 47) 3 ∧ De bdX9_weigh_25 28 (.istore 4) 2 := by decide +kernel
theorem dX9_weigh_25 : decode cX9_weigh 25 = .ok (.iaload, 1) := dAt wdX9_weigh_25 adX9_weigh_25.1 rfl
theorem dX9_weigh_26 : decode cX9_weigh 26 = .ok (.if_icmp .ge 35, 3) := dAt wdX9_weigh_25 adX9_weigh_25.2.1 rfl
theorem dX9_weigh_29 : decode cX9_weigh 29 = .ok (.iload 5, 2) := dAt wdX9_weigh_25 adX9_weigh_25.2.2.1 rfl
theorem dX9_weigh_31 : decode cX9_weigh 31 = .ok (.aload_n 0, 1) := dAt wdX9_weigh_25 adX9_weigh_25.2.2.2.1 rfl
theorem dX9_weigh_32 : decode cX9_weigh 32 = .ok (.getfield 31, 3) := dAt wdX9_weigh_25 adX9_weigh_25.2.2.2.2.1 rfl
theorem dX9_weigh_35 : decode cX9_weigh 35 = .ok (.arraylength, 1) := dAt wdX9_weigh_25 adX9_weigh_25.2.2.2.2.2.1 rfl
theorem dX9_weigh_36 : decode cX9_weigh 36 = .ok (.if_icmp .ge 25, 3) := dAt wdX9_weigh_25 adX9_weigh_25.2.2.2.2.2.2.1 rfl
theorem dX9_weigh_39 : decode cX9_weigh 39 = .ok (.aload_n 0, 1) := dAt wdX9_weigh_25 adX9_weigh_25.2.2.2.2.2.2.2.1 rfl
theorem dX9_weigh_40 : decode cX9_weigh 40 = .ok (.aload_n 0, 1) := dAt wdX9_weigh_25 adX9_weigh_25.2.2.2.2.2.2.2.2.1 rfl
theorem dX9_weigh_41 : decode cX9_weigh 41 = .ok (.getfield 31, 3) := dAt wdX9_weigh_25 adX9_weigh_25.2.2.2.2.2.2.2.2.2.1 rfl
theorem dX9_weigh_44 : decode cX9_weigh 44 = .ok (.iload 5, 2) := dAt wdX9_weigh_25 adX9_weigh_25.2.2.2.2.2.2.2.2.2.2.1 rfl
theorem dX9_weigh_46 : decode cX9_weigh 46 = .ok (.iaload, 1) := dAt wdX9_weigh_25 adX9_weigh_25.2.2.2.2.2.2.2.2.2.2.2.1 rfl
theorem dX9_weigh_47 : decode cX9_weigh 47 = .ok (.aload_n 1, 1) := dAt wdX9_weigh_25 adX9_weigh_25.2.2.2.2.2.2.2.2.2.2.2.2.1 rfl
theorem dX9_weigh_48 : decode cX9_weigh 48 = .ok (.iload 4, 2) := dAt wdX9_weigh_25 adX9_weigh_25.2.2.2.2.2.2.2.2.2.2.2.2.2.1 rfl
theorem dX9_weigh_50 : decode cX9_weigh 50 = .ok (.invokevirtual 47, 3) := dAt wdX9_weigh_25 adX9_weigh_25.2.2.2.2.2.2.2.2.2.2.2.2.2.2.1 rfl
theorem dX9_weigh_53 : decode cX9_weigh 53 = .ok (.istore 4, 2) := dAt wdX9_weigh_25 adX9_weigh_25.2.2.2.2.2.2.2.2.2.2.2.2.2.2.2 rfl
def bdX9_weigh_55 : ByteArray := .mk #[132, 5, 1, 167, 255, 216, 42, 180, 0, 34, 29, 21, 4, 153, 0, 12, 42, 180, 0, 38, 3, 51, 153, 0, 7, 4, 167, 0, 4, 3, 84]
theorem wdX9_weigh_55 : LocW cX9_weigh 55 bdX9_weigh_55 := loc_of (by decide +kernel)
theorem adX9_weigh_55 : De bdX9_weigh_55 0 (.iinc 5 1) 3 ∧ De bdX9_weigh_55 3 (.goto (-40)) 3 ∧ De bdX9_weigh_55 6 (.aload_n 0) 1 ∧ De bdX9_weigh_55 7 (.getfield 34) 3 ∧ De bdX9_weigh_55 10 (.iload_n 3) 1 ∧ De bdX9_weigh_55 11 (.iload 4) 2 ∧ De bdX9_weigh_55 13 (.ifCond .eq 12) 3 ∧ De bdX9_weigh_55 16 (.aload_n 0) 1 ∧ De bdX9_weigh_55 17 (.getfield 38) 3 ∧ De bdX9_weigh_55 20 (.iconst 0) 1 ∧ De bdX9_weigh_55 21 (.baload) 1 ∧ De bdX9_weigh_55 22 (.ifCond .eq 7) 3 ∧ De bdX9_weigh_55 25 (.iconst 1) 1 ∧ De bdX9_weigh_55 26 (.goto 4) 3 ∧ De bdX9_weigh_55 29 (.iconst 0) 1 ∧ De bdX9_weigh_55 30 (.bastore) 1 := by decide +kernel
theorem dX9_weigh_55 : decode cX9_weigh 55 = .ok (.iinc 5 1, 3) := dAt wdX9_weigh_55 adX9_weigh_55.1 rfl
theorem dX9_weigh_58 : decode cX9_weigh 58 = .ok (.goto (-40), 3) := dAt wdX9_weigh_55 adX9_weigh_55.2.1 rfl
theorem dX9_weigh_61 : decode cX9_weigh 61 = .ok (.aload_n 0, 1) := dAt wdX9_weigh_55 adX9_weigh_55.2.2.1 rfl
theorem dX9_weigh_62 : decode cX9_weigh 62 = .ok (.getfield 34, 3) := dAt wdX9_weigh_55 adX9_weigh_55.2.2.2.1 rfl
theorem dX9_weigh_65 : decode cX9_weigh 65 = .ok (.iload_n 3, 1) := dAt wdX9_weigh_55 adX9_weigh_55.2.2.2.2.1 rfl
theorem dX9_weigh_66 : decode cX9_weigh 66 = .ok (.iload 4, 2) := dAt wdX9_weigh_55 adX9_weigh_55.2.2.2.2.2.1 rfl
theorem dX9_weigh_68 : decode cX9_weigh 68 = .ok (.ifCond .eq 12, 3) := dAt wdX9_weigh_55 adX9_weigh_55.2.2.2.2.2.2.1 rfl
theorem dX9_weigh_71 : decode cX9_weigh 71 = .ok (.aload_n 0, 1) := dAt wdX9_weigh_55 adX9_weigh_55.2.2.2.2.2.2.2.1 rfl
theorem dX9_weigh_72 : decode cX9_weigh 72 = .ok (.getfield 38, 3) := dAt wdX9_weigh_55 adX9_weigh_55.2.2.2.2.2.2.2.2.1 rfl
theorem dX9_weigh_75 : decode cX9_weigh 75 = .ok (.iconst 0, 1) := dAt wdX9_weigh_55 adX9_weigh_55.2.2.2.2.2.2.2.2.2.1 rfl
theorem dX9_weigh_76 : decode cX9_weigh 76 = .ok (.baload, 1) := dAt wdX9_weigh_55 adX9_weigh_55.2.2.2.2.2.2.2.2.2.2.1 rfl
theorem dX9_weigh_77 : decode cX9_weigh 77 = .ok (.ifCond .eq 7, 3) := dAt wdX9_weigh_55 adX9_weigh_55.2.2.2.2.2.2.2.2.2.2.2.1 rfl
theorem dX9_weigh_80 : decode cX9_weigh 80 = .ok (.iconst 1, 1) := dAt wdX9_weigh_55 adX9_weigh_55.2.2.2.2.2.2.2.2.2.2.2.2.1 rfl
theorem dX9_weigh_81 : decode cX9_weigh 81 = .ok (.goto 4, 3) := dAt wdX9_weigh_55 adX9_weigh_55.2.2.2.2.2.2.2.2.2.2.2.2.2.1 rfl
theorem dX9_weigh_84 : decode cX9_weigh 84 = .ok (.iconst 0, 1) := dAt wdX9_weigh_55 adX9_weigh_55.2.2.2.2.2.2.2.2.2.2.2.2.2.2.1 rfl
theorem dX9_weigh_85 : decode cX9_weigh 85 = .ok (.bastore, 1) := dAt wdX9_weigh_55 adX9_weigh_55.2.2.2.2.2.2.2.2.2.2.2.2.2.2.2 rfl
def bdX9_weigh_86 : ByteArray := .mk #[42, 180, 0, 28, 29, 46, 61, 132, 3, 1, 167, 255, 164, 177]
theorem wdX9_weigh_86 : LocW cX9_weigh 86 bdX9_weigh_86 := loc_of (by decide +kernel)
theorem adX9_weigh_86 : De bdX9_weigh_86 0 (.aload_n 0) 1 ∧ De bdX9_weigh_86 1 (.getfield 28) 3 ∧ De bdX9_weigh_86 4 (.iload_n 3) 1 ∧ De bdX9_weigh_86 5 (.iaload) 1 ∧ De bdX9_weigh_86 6 (.istore_n 2) 1 ∧ De bdX9_weigh_86 7 (.iinc 3 1) 3 ∧ De bdX9_weigh_86 10 (.goto (-92)) 3 ∧ De bdX9_weigh_86 13 (.return_) 1 := by decide +kernel
theorem dX9_weigh_86 : decode cX9_weigh 86 = .ok (.aload_n 0, 1) := dAt wdX9_weigh_86 adX9_weigh_86.1 rfl
theorem dX9_weigh_87 : decode cX9_weigh 87 = .ok (.getfield 28, 3) := dAt wdX9_weigh_86 adX9_weigh_86.2.1 rfl
theorem dX9_weigh_90 : decode cX9_weigh 90 = .ok (.iload_n 3, 1) := dAt wdX9_weigh_86 adX9_weigh_86.2.2.1 rfl
theorem dX9_weigh_91 : decode cX9_weigh 91 = .ok (.iaload, 1) := dAt wdX9_weigh_86 adX9_weigh_86.2.2.2.1 rfl
theorem dX9_weigh_92 : decode cX9_weigh 92 = .ok (.istore_n 2, 1) := dAt wdX9_weigh_86 adX9_weigh_86.2.2.2.2.1 rfl
theorem dX9_weigh_93 : decode cX9_weigh 93 = .ok (.iinc 3 1, 3) := dAt wdX9_weigh_86 adX9_weigh_86.2.2.2.2.2.1 rfl
theorem dX9_weigh_96 : decode cX9_weigh 96 = .ok (.goto (-92), 3) := dAt wdX9_weigh_86 adX9_weigh_86.2.2.2.2.2.2.1 rfl
theorem dX9_weigh_99 : decode cX9_weigh 99 = .ok (.return_, 1) := dAt wdX9_weigh_86 adX9_weigh_86.2.2.2.2.2.2.2 rfl
def bdX9_lastThatHolds_0 : ByteArray := .mk #[42, 180, 0, 15, 4, 100, 61, 28, 155, 0, 30, 42, 180, 0, 18, 28, 46, 27, 160, 0, 14, 42, 180, 0, 34, 28]
theorem wdX9_lastThatHolds_0 : LocW cX9_lastThatHolds 0 bdX9_lastThatHolds_0 := loc_of (by decide +kernel)
theorem adX9_lastThatHolds_0 : De bdX9_lastThatHolds_0 0 (.aload_n 0) 1 ∧ De bdX9_lastThatHolds_0 1 (.getfield 15) 3 ∧ De bdX9_lastThatHolds_0 4 (.iconst 1) 1 ∧ De bdX9_lastThatHolds_0 5 (.isub) 1 ∧ De bdX9_lastThatHolds_0 6 (.istore_n 2) 1 ∧ De bdX9_lastThatHolds_0 7 (.iload_n 2) 1 ∧ De bdX9_lastThatHolds_0 8 (.ifCond .lt 30) 3 ∧ De bdX9_lastThatHolds_0 11 (.aload_n 0) 1 ∧ De bdX9_lastThatHolds_0 12 (.getfield 18) 3 ∧ De bdX9_lastThatHolds_0 15 (.iload_n 2) 1 ∧ De bdX9_lastThatHolds_0 16 (.iaload) 1 ∧ De bdX9_lastThatHolds_0 17 (.iload_n 1) 1 ∧ De bdX9_lastThatHolds_0 18 (.if_icmp .ne 14) 3 ∧ De bdX9_lastThatHolds_0 21 (.aload_n 0) 1 ∧ De bdX9_lastThatHolds_0 22 (.getfield 34) 3 ∧ De bdX9_lastThatHolds_0 25 (.iload_n 2) 1 := by decide +kernel
theorem dX9_lastThatHolds_0 : decode cX9_lastThatHolds 0 = .ok (.aload_n 0, 1) := dAt wdX9_lastThatHolds_0 adX9_lastThatHolds_0.1 rfl
theorem dX9_lastThatHolds_1 : decode cX9_lastThatHolds 1 = .ok (.getfield 15, 3) := dAt wdX9_lastThatHolds_0 adX9_lastThatHolds_0.2.1 rfl
theorem dX9_lastThatHolds_4 : decode cX9_lastThatHolds 4 = .ok (.iconst 1, 1) := dAt wdX9_lastThatHolds_0 adX9_lastThatHolds_0.2.2.1 rfl
theorem dX9_lastThatHolds_5 : decode cX9_lastThatHolds 5 = .ok (.isub, 1) := dAt wdX9_lastThatHolds_0 adX9_lastThatHolds_0.2.2.2.1 rfl
theorem dX9_lastThatHolds_6 : decode cX9_lastThatHolds 6 = .ok (.istore_n 2, 1) := dAt wdX9_lastThatHolds_0 adX9_lastThatHolds_0.2.2.2.2.1 rfl
theorem dX9_lastThatHolds_7 : decode cX9_lastThatHolds 7 = .ok (.iload_n 2, 1) := dAt wdX9_lastThatHolds_0 adX9_lastThatHolds_0.2.2.2.2.2.1 rfl
theorem dX9_lastThatHolds_8 : decode cX9_lastThatHolds 8 = .ok (.ifCond .lt 30, 3) := dAt wdX9_lastThatHolds_0 adX9_lastThatHolds_0.2.2.2.2.2.2.1 rfl
theorem dX9_lastThatHolds_11 : decode cX9_lastThatHolds 11 = .ok (.aload_n 0, 1) := dAt wdX9_lastThatHolds_0 adX9_lastThatHolds_0.2.2.2.2.2.2.2.1 rfl
theorem dX9_lastThatHolds_12 : decode cX9_lastThatHolds 12 = .ok (.getfield 18, 3) := dAt wdX9_lastThatHolds_0 adX9_lastThatHolds_0.2.2.2.2.2.2.2.2.1 rfl
theorem dX9_lastThatHolds_15 : decode cX9_lastThatHolds 15 = .ok (.iload_n 2, 1) := dAt wdX9_lastThatHolds_0 adX9_lastThatHolds_0.2.2.2.2.2.2.2.2.2.1 rfl
theorem dX9_lastThatHolds_16 : decode cX9_lastThatHolds 16 = .ok (.iaload, 1) := dAt wdX9_lastThatHolds_0 adX9_lastThatHolds_0.2.2.2.2.2.2.2.2.2.2.1 rfl
theorem dX9_lastThatHolds_17 : decode cX9_lastThatHolds 17 = .ok (.iload_n 1, 1) := dAt wdX9_lastThatHolds_0 adX9_lastThatHolds_0.2.2.2.2.2.2.2.2.2.2.2.1 rfl
theorem dX9_lastThatHolds_18 : decode cX9_lastThatHolds 18 = .ok (.if_icmp .ne 14, 3) := dAt wdX9_lastThatHolds_0 adX9_lastThatHolds_0.2.2.2.2.2.2.2.2.2.2.2.2.1 rfl
theorem dX9_lastThatHolds_21 : decode cX9_lastThatHolds 21 = .ok (.aload_n 0, 1) := dAt wdX9_lastThatHolds_0 adX9_lastThatHolds_0.2.2.2.2.2.2.2.2.2.2.2.2.2.1 rfl
theorem dX9_lastThatHolds_22 : decode cX9_lastThatHolds 22 = .ok (.getfield 34, 3) := dAt wdX9_lastThatHolds_0 adX9_lastThatHolds_0.2.2.2.2.2.2.2.2.2.2.2.2.2.2.1 rfl
theorem dX9_lastThatHolds_25 : decode cX9_lastThatHolds 25 = .ok (.iload_n 2, 1) := dAt wdX9_lastThatHolds_0 adX9_lastThatHolds_0.2.2.2.2.2.2.2.2.2.2.2.2.2.2.2 rfl
def bdX9_lastThatHolds_26 : ByteArray := .mk #[51, 153, 0, 5, 28, 172, 132, 2, 255, 167, 255, 228, 2, 172]
theorem wdX9_lastThatHolds_26 : LocW cX9_lastThatHolds 26 bdX9_lastThatHolds_26 := loc_of (by decide +kernel)
theorem adX9_lastThatHolds_26 : De bdX9_lastThatHolds_26 0 (.baload) 1 ∧ De bdX9_lastThatHolds_26 1 (.ifCond .eq 5) 3 ∧ De bdX9_lastThatHolds_26 4 (.iload_n 2) 1 ∧ De bdX9_lastThatHolds_26 5 (.ireturn) 1 ∧ De bdX9_lastThatHolds_26 6 (.iinc 2 (-1)) 3 ∧ De bdX9_lastThatHolds_26 9 (.goto (-28)) 3 ∧ De bdX9_lastThatHolds_26 12 (.iconst (-1)) 1 ∧ De bdX9_lastThatHolds_26 13 (.ireturn) 1 := by decide +kernel
theorem dX9_lastThatHolds_26 : decode cX9_lastThatHolds 26 = .ok (.baload, 1) := dAt wdX9_lastThatHolds_26 adX9_lastThatHolds_26.1 rfl
theorem dX9_lastThatHolds_27 : decode cX9_lastThatHolds 27 = .ok (.ifCond .eq 5, 3) := dAt wdX9_lastThatHolds_26 adX9_lastThatHolds_26.2.1 rfl
theorem dX9_lastThatHolds_30 : decode cX9_lastThatHolds 30 = .ok (.iload_n 2, 1) := dAt wdX9_lastThatHolds_26 adX9_lastThatHolds_26.2.2.1 rfl
theorem dX9_lastThatHolds_31 : decode cX9_lastThatHolds 31 = .ok (.ireturn, 1) := dAt wdX9_lastThatHolds_26 adX9_lastThatHolds_26.2.2.2.1 rfl
theorem dX9_lastThatHolds_32 : decode cX9_lastThatHolds 32 = .ok (.iinc 2 (-1), 3) := dAt wdX9_lastThatHolds_26 adX9_lastThatHolds_26.2.2.2.2.1 rfl
theorem dX9_lastThatHolds_35 : decode cX9_lastThatHolds 35 = .ok (.goto (-28), 3) := dAt wdX9_lastThatHolds_26 adX9_lastThatHolds_26.2.2.2.2.2.1 rfl
theorem dX9_lastThatHolds_38 : decode cX9_lastThatHolds 38 = .ok (.iconst (-1), 1) := dAt wdX9_lastThatHolds_26 adX9_lastThatHolds_26.2.2.2.2.2.2.1 rfl
theorem dX9_lastThatHolds_39 : decode cX9_lastThatHolds 39 = .ok (.ireturn, 1) := dAt wdX9_lastThatHolds_26 adX9_lastThatHolds_26.2.2.2.2.2.2.2 rfl
def bdX9_lastClose_0 : ByteArray := .mk #[42, 180, 0, 15, 4, 100, 61, 28, 155, 0, 37, 42, 180, 0, 18, 28, 46, 16, 6, 160, 0, 20, 42, 180, 0, 22, 28]
theorem wdX9_lastClose_0 : LocW cX9_lastClose 0 bdX9_lastClose_0 := loc_of (by decide +kernel)
theorem adX9_lastClose_0 : De bdX9_lastClose_0 0 (.aload_n 0) 1 ∧ De bdX9_lastClose_0 1 (.getfield 15) 3 ∧ De bdX9_lastClose_0 4 (.iconst 1) 1 ∧ De bdX9_lastClose_0 5 (.isub) 1 ∧ De bdX9_lastClose_0 6 (.istore_n 2) 1 ∧ De bdX9_lastClose_0 7 (.iload_n 2) 1 ∧ De bdX9_lastClose_0 8 (.ifCond .lt 37) 3 ∧ De bdX9_lastClose_0 11 (.aload_n 0) 1 ∧ De bdX9_lastClose_0 12 (.getfield 18) 3 ∧ De bdX9_lastClose_0 15 (.iload_n 2) 1 ∧ De bdX9_lastClose_0 16 (.iaload) 1 ∧ De bdX9_lastClose_0 17 (.bipush 6) 2 ∧ De bdX9_lastClose_0 19 (.if_icmp .ne 20) 3 ∧ De bdX9_lastClose_0 22 (.aload_n 0) 1 ∧ De bdX9_lastClose_0 23 (.getfield 22) 3 ∧ De bdX9_lastClose_0 26 (.iload_n 2) 1 := by decide +kernel
theorem dX9_lastClose_0 : decode cX9_lastClose 0 = .ok (.aload_n 0, 1) := dAt wdX9_lastClose_0 adX9_lastClose_0.1 rfl
theorem dX9_lastClose_1 : decode cX9_lastClose 1 = .ok (.getfield 15, 3) := dAt wdX9_lastClose_0 adX9_lastClose_0.2.1 rfl
theorem dX9_lastClose_4 : decode cX9_lastClose 4 = .ok (.iconst 1, 1) := dAt wdX9_lastClose_0 adX9_lastClose_0.2.2.1 rfl
theorem dX9_lastClose_5 : decode cX9_lastClose 5 = .ok (.isub, 1) := dAt wdX9_lastClose_0 adX9_lastClose_0.2.2.2.1 rfl
theorem dX9_lastClose_6 : decode cX9_lastClose 6 = .ok (.istore_n 2, 1) := dAt wdX9_lastClose_0 adX9_lastClose_0.2.2.2.2.1 rfl
theorem dX9_lastClose_7 : decode cX9_lastClose 7 = .ok (.iload_n 2, 1) := dAt wdX9_lastClose_0 adX9_lastClose_0.2.2.2.2.2.1 rfl
theorem dX9_lastClose_8 : decode cX9_lastClose 8 = .ok (.ifCond .lt 37, 3) := dAt wdX9_lastClose_0 adX9_lastClose_0.2.2.2.2.2.2.1 rfl
theorem dX9_lastClose_11 : decode cX9_lastClose 11 = .ok (.aload_n 0, 1) := dAt wdX9_lastClose_0 adX9_lastClose_0.2.2.2.2.2.2.2.1 rfl
theorem dX9_lastClose_12 : decode cX9_lastClose 12 = .ok (.getfield 18, 3) := dAt wdX9_lastClose_0 adX9_lastClose_0.2.2.2.2.2.2.2.2.1 rfl
theorem dX9_lastClose_15 : decode cX9_lastClose 15 = .ok (.iload_n 2, 1) := dAt wdX9_lastClose_0 adX9_lastClose_0.2.2.2.2.2.2.2.2.2.1 rfl
theorem dX9_lastClose_16 : decode cX9_lastClose 16 = .ok (.iaload, 1) := dAt wdX9_lastClose_0 adX9_lastClose_0.2.2.2.2.2.2.2.2.2.2.1 rfl
theorem dX9_lastClose_17 : decode cX9_lastClose 17 = .ok (.bipush 6, 2) := dAt wdX9_lastClose_0 adX9_lastClose_0.2.2.2.2.2.2.2.2.2.2.2.1 rfl
theorem dX9_lastClose_19 : decode cX9_lastClose 19 = .ok (.if_icmp .ne 20, 3) := dAt wdX9_lastClose_0 adX9_lastClose_0.2.2.2.2.2.2.2.2.2.2.2.2.1 rfl
theorem dX9_lastClose_22 : decode cX9_lastClose 22 = .ok (.aload_n 0, 1) := dAt wdX9_lastClose_0 adX9_lastClose_0.2.2.2.2.2.2.2.2.2.2.2.2.2.1 rfl
theorem dX9_lastClose_23 : decode cX9_lastClose 23 = .ok (.getfield 22, 3) := dAt wdX9_lastClose_0 adX9_lastClose_0.2.2.2.2.2.2.2.2.2.2.2.2.2.2.1 rfl
theorem dX9_lastClose_26 : decode cX9_lastClose 26 = .ok (.iload_n 2, 1) := dAt wdX9_lastClose_0 adX9_lastClose_0.2.2.2.2.2.2.2.2.2.2.2.2.2.2.2 rfl
def bdX9_lastClose_27 : ByteArray := .mk #[46, 27, 160, 0, 10, 42, 180, 0, 25, 28, 46, 172, 132, 2, 255, 167, 255, 221, 2, 172]
theorem wdX9_lastClose_27 : LocW cX9_lastClose 27 bdX9_lastClose_27 := loc_of (by decide +kernel)
theorem adX9_lastClose_27 : De bdX9_lastClose_27 0 (.iaload) 1 ∧ De bdX9_lastClose_27 1 (.iload_n 1) 1 ∧ De bdX9_lastClose_27 2 (.if_icmp .ne 10) 3 ∧ De bdX9_lastClose_27 5 (.aload_n 0) 1 ∧ De bdX9_lastClose_27 6 (.getfield 25) 3 ∧ De bdX9_lastClose_27 9 (.iload_n 2) 1 ∧ De bdX9_lastClose_27 10 (.iaload) 1 ∧ De bdX9_lastClose_27 11 (.ireturn) 1 ∧ De bdX9_lastClose_27 12 (.iinc 2 (-1)) 3 ∧ De bdX9_lastClose_27 15 (.goto (-35)) 3 ∧ De bdX9_lastClose_27 18 (.iconst (-1)) 1 ∧ De bdX9_lastClose_27 19 (.ireturn) 1 := by decide +kernel
theorem dX9_lastClose_27 : decode cX9_lastClose 27 = .ok (.iaload, 1) := dAt wdX9_lastClose_27 adX9_lastClose_27.1 rfl
theorem dX9_lastClose_28 : decode cX9_lastClose 28 = .ok (.iload_n 1, 1) := dAt wdX9_lastClose_27 adX9_lastClose_27.2.1 rfl
theorem dX9_lastClose_29 : decode cX9_lastClose 29 = .ok (.if_icmp .ne 10, 3) := dAt wdX9_lastClose_27 adX9_lastClose_27.2.2.1 rfl
theorem dX9_lastClose_32 : decode cX9_lastClose 32 = .ok (.aload_n 0, 1) := dAt wdX9_lastClose_27 adX9_lastClose_27.2.2.2.1 rfl
theorem dX9_lastClose_33 : decode cX9_lastClose 33 = .ok (.getfield 25, 3) := dAt wdX9_lastClose_27 adX9_lastClose_27.2.2.2.2.1 rfl
theorem dX9_lastClose_36 : decode cX9_lastClose 36 = .ok (.iload_n 2, 1) := dAt wdX9_lastClose_27 adX9_lastClose_27.2.2.2.2.2.1 rfl
theorem dX9_lastClose_37 : decode cX9_lastClose 37 = .ok (.iaload, 1) := dAt wdX9_lastClose_27 adX9_lastClose_27.2.2.2.2.2.2.1 rfl
theorem dX9_lastClose_38 : decode cX9_lastClose 38 = .ok (.ireturn, 1) := dAt wdX9_lastClose_27 adX9_lastClose_27.2.2.2.2.2.2.2.1 rfl
theorem dX9_lastClose_39 : decode cX9_lastClose 39 = .ok (.iinc 2 (-1), 3) := dAt wdX9_lastClose_27 adX9_lastClose_27.2.2.2.2.2.2.2.2.1 rfl
theorem dX9_lastClose_42 : decode cX9_lastClose 42 = .ok (.goto (-35), 3) := dAt wdX9_lastClose_27 adX9_lastClose_27.2.2.2.2.2.2.2.2.2.1 rfl
theorem dX9_lastClose_45 : decode cX9_lastClose 45 = .ok (.iconst (-1), 1) := dAt wdX9_lastClose_27 adX9_lastClose_27.2.2.2.2.2.2.2.2.2.2.1 rfl
theorem dX9_lastClose_46 : decode cX9_lastClose 46 = .ok (.ireturn, 1) := dAt wdX9_lastClose_27 adX9_lastClose_27.2.2.2.2.2.2.2.2.2.2.2 rfl
def bdX9_depthAfter_0 : ByteArray := .mk #[27, 16, 31, 126, 54, 4, 21, 4, 16, 29, 160, 0, 34, 29, 4, 161, 0, 29, 42, 180, 0, 38, 29, 4, 100, 42]
theorem wdX9_depthAfter_0 : LocW cX9_depthAfter 0 bdX9_depthAfter_0 := loc_of (by decide +kernel)
theorem adX9_depthAfter_0 : De bdX9_depthAfter_0 0 (.iload_n 1) 1 ∧ De bdX9_depthAfter_0 1 (.bipush 31) 2 ∧ De bdX9_depthAfter_0 3 (.iand) 1 ∧ De bdX9_depthAfter_0 4 (.istore 4) 2 ∧ De bdX9_depthAfter_0 6 (.iload 4) 2 ∧ De bdX9_depthAfter_0 8 (.bipush 29) 2 ∧ De bdX9_depthAfter_0 10 (.if_icmp .ne 34) 3 ∧ De bdX9_depthAfter_0 13 (.iload_n 3) 1 ∧ De bdX9_depthAfter_0 14 (.iconst 1) 1 ∧ De bdX9_depthAfter_0 15 (.if_icmp .lt 29) 3 ∧ De bdX9_depthAfter_0 18 (.aload_n 0) 1 ∧ De bdX9_depthAfter_0 19 (.getfield 38) 3 ∧ De bdX9_depthAfter_0 22 (.iload_n 3) 1 ∧ De bdX9_depthAfter_0 23 (.iconst 1) 1 ∧ De bdX9_depthAfter_0 24 (.isub) 1 ∧ De bdX9_depthAfter_0 25 (.aload_n 0) 1 := by decide +kernel
theorem dX9_depthAfter_0 : decode cX9_depthAfter 0 = .ok (.iload_n 1, 1) := dAt wdX9_depthAfter_0 adX9_depthAfter_0.1 rfl
theorem dX9_depthAfter_1 : decode cX9_depthAfter 1 = .ok (.bipush 31, 2) := dAt wdX9_depthAfter_0 adX9_depthAfter_0.2.1 rfl
theorem dX9_depthAfter_3 : decode cX9_depthAfter 3 = .ok (.iand, 1) := dAt wdX9_depthAfter_0 adX9_depthAfter_0.2.2.1 rfl
theorem dX9_depthAfter_4 : decode cX9_depthAfter 4 = .ok (.istore 4, 2) := dAt wdX9_depthAfter_0 adX9_depthAfter_0.2.2.2.1 rfl
theorem dX9_depthAfter_6 : decode cX9_depthAfter 6 = .ok (.iload 4, 2) := dAt wdX9_depthAfter_0 adX9_depthAfter_0.2.2.2.2.1 rfl
theorem dX9_depthAfter_8 : decode cX9_depthAfter 8 = .ok (.bipush 29, 2) := dAt wdX9_depthAfter_0 adX9_depthAfter_0.2.2.2.2.2.1 rfl
theorem dX9_depthAfter_10 : decode cX9_depthAfter 10 = .ok (.if_icmp .ne 34, 3) := dAt wdX9_depthAfter_0 adX9_depthAfter_0.2.2.2.2.2.2.1 rfl
theorem dX9_depthAfter_13 : decode cX9_depthAfter 13 = .ok (.iload_n 3, 1) := dAt wdX9_depthAfter_0 adX9_depthAfter_0.2.2.2.2.2.2.2.1 rfl
theorem dX9_depthAfter_14 : decode cX9_depthAfter 14 = .ok (.iconst 1, 1) := dAt wdX9_depthAfter_0 adX9_depthAfter_0.2.2.2.2.2.2.2.2.1 rfl
theorem dX9_depthAfter_15 : decode cX9_depthAfter 15 = .ok (.if_icmp .lt 29, 3) := dAt wdX9_depthAfter_0 adX9_depthAfter_0.2.2.2.2.2.2.2.2.2.1 rfl
theorem dX9_depthAfter_18 : decode cX9_depthAfter 18 = .ok (.aload_n 0, 1) := dAt wdX9_depthAfter_0 adX9_depthAfter_0.2.2.2.2.2.2.2.2.2.2.1 rfl
theorem dX9_depthAfter_19 : decode cX9_depthAfter 19 = .ok (.getfield 38, 3) := dAt wdX9_depthAfter_0 adX9_depthAfter_0.2.2.2.2.2.2.2.2.2.2.2.1 rfl
theorem dX9_depthAfter_22 : decode cX9_depthAfter 22 = .ok (.iload_n 3, 1) := dAt wdX9_depthAfter_0 adX9_depthAfter_0.2.2.2.2.2.2.2.2.2.2.2.2.1 rfl
theorem dX9_depthAfter_23 : decode cX9_depthAfter 23 = .ok (.iconst 1, 1) := dAt wdX9_depthAfter_0 adX9_depthAfter_0.2.2.2.2.2.2.2.2.2.2.2.2.2.1 rfl
theorem dX9_depthAfter_24 : decode cX9_depthAfter 24 = .ok (.isub, 1) := dAt wdX9_depthAfter_0 adX9_depthAfter_0.2.2.2.2.2.2.2.2.2.2.2.2.2.2.1 rfl
theorem dX9_depthAfter_25 : decode cX9_depthAfter 25 = .ok (.aload_n 0, 1) := dAt wdX9_depthAfter_0 adX9_depthAfter_0.2.2.2.2.2.2.2.2.2.2.2.2.2.2.2 rfl
def bdX9_depthAfter_26 : ByteArray := .mk #[180, 0, 38, 29, 4, 100, 51, 154, 0, 7, 4, 167, 0, 4, 3, 84, 29, 172, 21, 4, 16, 27, 160, 0, 47, 29]
theorem wdX9_depthAfter_26 : LocW cX9_depthAfter 26 bdX9_depthAfter_26 := loc_of (by decide +kernel)
theorem adX9_depthAfter_26 : De bdX9_depthAfter_26 0 (.getfield 38) 3 ∧ De bdX9_depthAfter_26 3 (.iload_n 3) 1 ∧ De bdX9_depthAfter_26 4 (.iconst 1) 1 ∧ De bdX9_depthAfter_26 5 (.isub) 1 ∧ De bdX9_depthAfter_26 6 (.baload) 1 ∧ De bdX9_depthAfter_26 7 (.ifCond .ne 7) 3 ∧ De bdX9_depthAfter_26 10 (.iconst 1) 1 ∧ De bdX9_depthAfter_26 11 (.goto 4) 3 ∧ De bdX9_depthAfter_26 14 (.iconst 0) 1 ∧ De bdX9_depthAfter_26 15 (.bastore) 1 ∧ De bdX9_depthAfter_26 16 (.iload_n 3) 1 ∧ De bdX9_depthAfter_26 17 (.ireturn) 1 ∧ De bdX9_depthAfter_26 18 (.iload 4) 2 ∧ De bdX9_depthAfter_26 20 (.bipush 27) 2 ∧ De bdX9_depthAfter_26 22 (.if_icmp .ne 47) 3 ∧ De bdX9_depthAfter_26 25 (.iload_n 3) 1 := by decide +kernel
theorem dX9_depthAfter_26 : decode cX9_depthAfter 26 = .ok (.getfield 38, 3) := dAt wdX9_depthAfter_26 adX9_depthAfter_26.1 rfl
theorem dX9_depthAfter_29 : decode cX9_depthAfter 29 = .ok (.iload_n 3, 1) := dAt wdX9_depthAfter_26 adX9_depthAfter_26.2.1 rfl
theorem dX9_depthAfter_30 : decode cX9_depthAfter 30 = .ok (.iconst 1, 1) := dAt wdX9_depthAfter_26 adX9_depthAfter_26.2.2.1 rfl
theorem dX9_depthAfter_31 : decode cX9_depthAfter 31 = .ok (.isub, 1) := dAt wdX9_depthAfter_26 adX9_depthAfter_26.2.2.2.1 rfl
theorem dX9_depthAfter_32 : decode cX9_depthAfter 32 = .ok (.baload, 1) := dAt wdX9_depthAfter_26 adX9_depthAfter_26.2.2.2.2.1 rfl
theorem dX9_depthAfter_33 : decode cX9_depthAfter 33 = .ok (.ifCond .ne 7, 3) := dAt wdX9_depthAfter_26 adX9_depthAfter_26.2.2.2.2.2.1 rfl
theorem dX9_depthAfter_36 : decode cX9_depthAfter 36 = .ok (.iconst 1, 1) := dAt wdX9_depthAfter_26 adX9_depthAfter_26.2.2.2.2.2.2.1 rfl
theorem dX9_depthAfter_37 : decode cX9_depthAfter 37 = .ok (.goto 4, 3) := dAt wdX9_depthAfter_26 adX9_depthAfter_26.2.2.2.2.2.2.2.1 rfl
theorem dX9_depthAfter_40 : decode cX9_depthAfter 40 = .ok (.iconst 0, 1) := dAt wdX9_depthAfter_26 adX9_depthAfter_26.2.2.2.2.2.2.2.2.1 rfl
theorem dX9_depthAfter_41 : decode cX9_depthAfter 41 = .ok (.bastore, 1) := dAt wdX9_depthAfter_26 adX9_depthAfter_26.2.2.2.2.2.2.2.2.2.1 rfl
theorem dX9_depthAfter_42 : decode cX9_depthAfter 42 = .ok (.iload_n 3, 1) := dAt wdX9_depthAfter_26 adX9_depthAfter_26.2.2.2.2.2.2.2.2.2.2.1 rfl
theorem dX9_depthAfter_43 : decode cX9_depthAfter 43 = .ok (.ireturn, 1) := dAt wdX9_depthAfter_26 adX9_depthAfter_26.2.2.2.2.2.2.2.2.2.2.2.1 rfl
theorem dX9_depthAfter_44 : decode cX9_depthAfter 44 = .ok (.iload 4, 2) := dAt wdX9_depthAfter_26 adX9_depthAfter_26.2.2.2.2.2.2.2.2.2.2.2.2.1 rfl
theorem dX9_depthAfter_46 : decode cX9_depthAfter 46 = .ok (.bipush 27, 2) := dAt wdX9_depthAfter_26 adX9_depthAfter_26.2.2.2.2.2.2.2.2.2.2.2.2.2.1 rfl
theorem dX9_depthAfter_48 : decode cX9_depthAfter 48 = .ok (.if_icmp .ne 47, 3) := dAt wdX9_depthAfter_26 adX9_depthAfter_26.2.2.2.2.2.2.2.2.2.2.2.2.2.2.1 rfl
theorem dX9_depthAfter_51 : decode cX9_depthAfter 51 = .ok (.iload_n 3, 1) := dAt wdX9_depthAfter_26 adX9_depthAfter_26.2.2.2.2.2.2.2.2.2.2.2.2.2.2.2 rfl
def bdX9_depthAfter_52 : ByteArray := .mk #[5, 161, 0, 42, 42, 180, 0, 38, 29, 5, 100, 42, 180, 0, 38, 29, 5, 100, 51, 153, 0, 18, 42, 180, 0, 38]
theorem wdX9_depthAfter_52 : LocW cX9_depthAfter 52 bdX9_depthAfter_52 := loc_of (by decide +kernel)
theorem adX9_depthAfter_52 : De bdX9_depthAfter_52 0 (.iconst 2) 1 ∧ De bdX9_depthAfter_52 1 (.if_icmp .lt 42) 3 ∧ De bdX9_depthAfter_52 4 (.aload_n 0) 1 ∧ De bdX9_depthAfter_52 5 (.getfield 38) 3 ∧ De bdX9_depthAfter_52 8 (.iload_n 3) 1 ∧ De bdX9_depthAfter_52 9 (.iconst 2) 1 ∧ De bdX9_depthAfter_52 10 (.isub) 1 ∧ De bdX9_depthAfter_52 11 (.aload_n 0) 1 ∧ De bdX9_depthAfter_52 12 (.getfield 38) 3 ∧ De bdX9_depthAfter_52 15 (.iload_n 3) 1 ∧ De bdX9_depthAfter_52 16 (.iconst 2) 1 ∧ De bdX9_depthAfter_52 17 (.isub) 1 ∧ De bdX9_depthAfter_52 18 (.baload) 1 ∧ De bdX9_depthAfter_52 19 (.ifCond .eq 18) 3 ∧ De bdX9_depthAfter_52 22 (.aload_n 0) 1 ∧ De bdX9_depthAfter_52 23 (.getfield 38) 3 := by decide +kernel
theorem dX9_depthAfter_52 : decode cX9_depthAfter 52 = .ok (.iconst 2, 1) := dAt wdX9_depthAfter_52 adX9_depthAfter_52.1 rfl
theorem dX9_depthAfter_53 : decode cX9_depthAfter 53 = .ok (.if_icmp .lt 42, 3) := dAt wdX9_depthAfter_52 adX9_depthAfter_52.2.1 rfl
theorem dX9_depthAfter_56 : decode cX9_depthAfter 56 = .ok (.aload_n 0, 1) := dAt wdX9_depthAfter_52 adX9_depthAfter_52.2.2.1 rfl
theorem dX9_depthAfter_57 : decode cX9_depthAfter 57 = .ok (.getfield 38, 3) := dAt wdX9_depthAfter_52 adX9_depthAfter_52.2.2.2.1 rfl
theorem dX9_depthAfter_60 : decode cX9_depthAfter 60 = .ok (.iload_n 3, 1) := dAt wdX9_depthAfter_52 adX9_depthAfter_52.2.2.2.2.1 rfl
theorem dX9_depthAfter_61 : decode cX9_depthAfter 61 = .ok (.iconst 2, 1) := dAt wdX9_depthAfter_52 adX9_depthAfter_52.2.2.2.2.2.1 rfl
theorem dX9_depthAfter_62 : decode cX9_depthAfter 62 = .ok (.isub, 1) := dAt wdX9_depthAfter_52 adX9_depthAfter_52.2.2.2.2.2.2.1 rfl
theorem dX9_depthAfter_63 : decode cX9_depthAfter 63 = .ok (.aload_n 0, 1) := dAt wdX9_depthAfter_52 adX9_depthAfter_52.2.2.2.2.2.2.2.1 rfl
theorem dX9_depthAfter_64 : decode cX9_depthAfter 64 = .ok (.getfield 38, 3) := dAt wdX9_depthAfter_52 adX9_depthAfter_52.2.2.2.2.2.2.2.2.1 rfl
theorem dX9_depthAfter_67 : decode cX9_depthAfter 67 = .ok (.iload_n 3, 1) := dAt wdX9_depthAfter_52 adX9_depthAfter_52.2.2.2.2.2.2.2.2.2.1 rfl
theorem dX9_depthAfter_68 : decode cX9_depthAfter 68 = .ok (.iconst 2, 1) := dAt wdX9_depthAfter_52 adX9_depthAfter_52.2.2.2.2.2.2.2.2.2.2.1 rfl
theorem dX9_depthAfter_69 : decode cX9_depthAfter 69 = .ok (.isub, 1) := dAt wdX9_depthAfter_52 adX9_depthAfter_52.2.2.2.2.2.2.2.2.2.2.2.1 rfl
theorem dX9_depthAfter_70 : decode cX9_depthAfter 70 = .ok (.baload, 1) := dAt wdX9_depthAfter_52 adX9_depthAfter_52.2.2.2.2.2.2.2.2.2.2.2.2.1 rfl
theorem dX9_depthAfter_71 : decode cX9_depthAfter 71 = .ok (.ifCond .eq 18, 3) := dAt wdX9_depthAfter_52 adX9_depthAfter_52.2.2.2.2.2.2.2.2.2.2.2.2.2.1 rfl
theorem dX9_depthAfter_74 : decode cX9_depthAfter 74 = .ok (.aload_n 0, 1) := dAt wdX9_depthAfter_52 adX9_depthAfter_52.2.2.2.2.2.2.2.2.2.2.2.2.2.2.1 rfl
theorem dX9_depthAfter_75 : decode cX9_depthAfter 75 = .ok (.getfield 38, 3) := dAt wdX9_depthAfter_52 adX9_depthAfter_52.2.2.2.2.2.2.2.2.2.2.2.2.2.2.2 rfl
def bdX9_depthAfter_78 : ByteArray := .mk #[29, 4, 100, 51, 153, 0, 7, 4, 167, 0, 4, 3, 84, 29, 4, 100, 172, 21, 4, 16, 28, 160, 0, 47]
theorem wdX9_depthAfter_78 : LocW cX9_depthAfter 78 bdX9_depthAfter_78 := loc_of (by decide +kernel)
theorem adX9_depthAfter_78 : De bdX9_depthAfter_78 0 (.iload_n 3) 1 ∧ De bdX9_depthAfter_78 1 (.iconst 1) 1 ∧ De bdX9_depthAfter_78 2 (.isub) 1 ∧ De bdX9_depthAfter_78 3 (.baload) 1 ∧ De bdX9_depthAfter_78 4 (.ifCond .eq 7) 3 ∧ De bdX9_depthAfter_78 7 (.iconst 1) 1 ∧ De bdX9_depthAfter_78 8 (.goto 4) 3 ∧ De bdX9_depthAfter_78 11 (.iconst 0) 1 ∧ De bdX9_depthAfter_78 12 (.bastore) 1 ∧ De bdX9_depthAfter_78 13 (.iload_n 3) 1 ∧ De bdX9_depthAfter_78 14 (.iconst 1) 1 ∧ De bdX9_depthAfter_78 15 (.isub) 1 ∧ De bdX9_depthAfter_78 16 (.ireturn) 1 ∧ De bdX9_depthAfter_78 17 (.iload 4) 2 ∧ De bdX9_depthAfter_78 19 (.bipush 28) 2 ∧ De bdX9_depthAfter_78 21 (.if_icmp .ne 47) 3 := by decide +kernel
theorem dX9_depthAfter_78 : decode cX9_depthAfter 78 = .ok (.iload_n 3, 1) := dAt wdX9_depthAfter_78 adX9_depthAfter_78.1 rfl
theorem dX9_depthAfter_79 : decode cX9_depthAfter 79 = .ok (.iconst 1, 1) := dAt wdX9_depthAfter_78 adX9_depthAfter_78.2.1 rfl
theorem dX9_depthAfter_80 : decode cX9_depthAfter 80 = .ok (.isub, 1) := dAt wdX9_depthAfter_78 adX9_depthAfter_78.2.2.1 rfl
theorem dX9_depthAfter_81 : decode cX9_depthAfter 81 = .ok (.baload, 1) := dAt wdX9_depthAfter_78 adX9_depthAfter_78.2.2.2.1 rfl
theorem dX9_depthAfter_82 : decode cX9_depthAfter 82 = .ok (.ifCond .eq 7, 3) := dAt wdX9_depthAfter_78 adX9_depthAfter_78.2.2.2.2.1 rfl
theorem dX9_depthAfter_85 : decode cX9_depthAfter 85 = .ok (.iconst 1, 1) := dAt wdX9_depthAfter_78 adX9_depthAfter_78.2.2.2.2.2.1 rfl
theorem dX9_depthAfter_86 : decode cX9_depthAfter 86 = .ok (.goto 4, 3) := dAt wdX9_depthAfter_78 adX9_depthAfter_78.2.2.2.2.2.2.1 rfl
theorem dX9_depthAfter_89 : decode cX9_depthAfter 89 = .ok (.iconst 0, 1) := dAt wdX9_depthAfter_78 adX9_depthAfter_78.2.2.2.2.2.2.2.1 rfl
theorem dX9_depthAfter_90 : decode cX9_depthAfter 90 = .ok (.bastore, 1) := dAt wdX9_depthAfter_78 adX9_depthAfter_78.2.2.2.2.2.2.2.2.1 rfl
theorem dX9_depthAfter_91 : decode cX9_depthAfter 91 = .ok (.iload_n 3, 1) := dAt wdX9_depthAfter_78 adX9_depthAfter_78.2.2.2.2.2.2.2.2.2.1 rfl
theorem dX9_depthAfter_92 : decode cX9_depthAfter 92 = .ok (.iconst 1, 1) := dAt wdX9_depthAfter_78 adX9_depthAfter_78.2.2.2.2.2.2.2.2.2.2.1 rfl
theorem dX9_depthAfter_93 : decode cX9_depthAfter 93 = .ok (.isub, 1) := dAt wdX9_depthAfter_78 adX9_depthAfter_78.2.2.2.2.2.2.2.2.2.2.2.1 rfl
theorem dX9_depthAfter_94 : decode cX9_depthAfter 94 = .ok (.ireturn, 1) := dAt wdX9_depthAfter_78 adX9_depthAfter_78.2.2.2.2.2.2.2.2.2.2.2.2.1 rfl
theorem dX9_depthAfter_95 : decode cX9_depthAfter 95 = .ok (.iload 4, 2) := dAt wdX9_depthAfter_78 adX9_depthAfter_78.2.2.2.2.2.2.2.2.2.2.2.2.2.1 rfl
theorem dX9_depthAfter_97 : decode cX9_depthAfter 97 = .ok (.bipush 28, 2) := dAt wdX9_depthAfter_78 adX9_depthAfter_78.2.2.2.2.2.2.2.2.2.2.2.2.2.2.1 rfl
theorem dX9_depthAfter_99 : decode cX9_depthAfter 99 = .ok (.if_icmp .ne 47, 3) := dAt wdX9_depthAfter_78 adX9_depthAfter_78.2.2.2.2.2.2.2.2.2.2.2.2.2.2.2 rfl
def bdX9_depthAfter_102 : ByteArray := .mk #[29, 5, 161, 0, 42, 42, 180, 0, 38, 29, 5, 100, 42, 180, 0, 38, 29, 5, 100, 51, 154, 0, 14, 42]
theorem wdX9_depthAfter_102 : LocW cX9_depthAfter 102 bdX9_depthAfter_102 := loc_of (by decide +kernel)
theorem adX9_depthAfter_102 : De bdX9_depthAfter_102 0 (.iload_n 3) 1 ∧ De bdX9_depthAfter_102 1 (.iconst 2) 1 ∧ De bdX9_depthAfter_102 2 (.if_icmp .lt 42) 3 ∧ De bdX9_depthAfter_102 5 (.aload_n 0) 1 ∧ De bdX9_depthAfter_102 6 (.getfield 38) 3 ∧ De bdX9_depthAfter_102 9 (.iload_n 3) 1 ∧ De bdX9_depthAfter_102 10 (.iconst 2) 1 ∧ De bdX9_depthAfter_102 11 (.isub) 1 ∧ De bdX9_depthAfter_102 12 (.aload_n 0) 1 ∧ De bdX9_depthAfter_102 13 (.getfield 38) 3 ∧ De bdX9_depthAfter_102 16 (.iload_n 3) 1 ∧ De bdX9_depthAfter_102 17 (.iconst 2) 1 ∧ De bdX9_depthAfter_102 18 (.isub) 1 ∧ De bdX9_depthAfter_102 19 (.baload) 1 ∧ De bdX9_depthAfter_102 20 (.ifCond .ne 14) 3 ∧ De bdX9_depthAfter_102 23 (.aload_n 0) 1 := by decide +kernel
theorem dX9_depthAfter_102 : decode cX9_depthAfter 102 = .ok (.iload_n 3, 1) := dAt wdX9_depthAfter_102 adX9_depthAfter_102.1 rfl
theorem dX9_depthAfter_103 : decode cX9_depthAfter 103 = .ok (.iconst 2, 1) := dAt wdX9_depthAfter_102 adX9_depthAfter_102.2.1 rfl
theorem dX9_depthAfter_104 : decode cX9_depthAfter 104 = .ok (.if_icmp .lt 42, 3) := dAt wdX9_depthAfter_102 adX9_depthAfter_102.2.2.1 rfl
theorem dX9_depthAfter_107 : decode cX9_depthAfter 107 = .ok (.aload_n 0, 1) := dAt wdX9_depthAfter_102 adX9_depthAfter_102.2.2.2.1 rfl
theorem dX9_depthAfter_108 : decode cX9_depthAfter 108 = .ok (.getfield 38, 3) := dAt wdX9_depthAfter_102 adX9_depthAfter_102.2.2.2.2.1 rfl
theorem dX9_depthAfter_111 : decode cX9_depthAfter 111 = .ok (.iload_n 3, 1) := dAt wdX9_depthAfter_102 adX9_depthAfter_102.2.2.2.2.2.1 rfl
theorem dX9_depthAfter_112 : decode cX9_depthAfter 112 = .ok (.iconst 2, 1) := dAt wdX9_depthAfter_102 adX9_depthAfter_102.2.2.2.2.2.2.1 rfl
theorem dX9_depthAfter_113 : decode cX9_depthAfter 113 = .ok (.isub, 1) := dAt wdX9_depthAfter_102 adX9_depthAfter_102.2.2.2.2.2.2.2.1 rfl
theorem dX9_depthAfter_114 : decode cX9_depthAfter 114 = .ok (.aload_n 0, 1) := dAt wdX9_depthAfter_102 adX9_depthAfter_102.2.2.2.2.2.2.2.2.1 rfl
theorem dX9_depthAfter_115 : decode cX9_depthAfter 115 = .ok (.getfield 38, 3) := dAt wdX9_depthAfter_102 adX9_depthAfter_102.2.2.2.2.2.2.2.2.2.1 rfl
theorem dX9_depthAfter_118 : decode cX9_depthAfter 118 = .ok (.iload_n 3, 1) := dAt wdX9_depthAfter_102 adX9_depthAfter_102.2.2.2.2.2.2.2.2.2.2.1 rfl
theorem dX9_depthAfter_119 : decode cX9_depthAfter 119 = .ok (.iconst 2, 1) := dAt wdX9_depthAfter_102 adX9_depthAfter_102.2.2.2.2.2.2.2.2.2.2.2.1 rfl
theorem dX9_depthAfter_120 : decode cX9_depthAfter 120 = .ok (.isub, 1) := dAt wdX9_depthAfter_102 adX9_depthAfter_102.2.2.2.2.2.2.2.2.2.2.2.2.1 rfl
theorem dX9_depthAfter_121 : decode cX9_depthAfter 121 = .ok (.baload, 1) := dAt wdX9_depthAfter_102 adX9_depthAfter_102.2.2.2.2.2.2.2.2.2.2.2.2.2.1 rfl
theorem dX9_depthAfter_122 : decode cX9_depthAfter 122 = .ok (.ifCond .ne 14, 3) := dAt wdX9_depthAfter_102 adX9_depthAfter_102.2.2.2.2.2.2.2.2.2.2.2.2.2.2.1 rfl
theorem dX9_depthAfter_125 : decode cX9_depthAfter 125 = .ok (.aload_n 0, 1) := dAt wdX9_depthAfter_102 adX9_depthAfter_102.2.2.2.2.2.2.2.2.2.2.2.2.2.2.2 rfl
def bdX9_depthAfter_126 : ByteArray := .mk #[180, 0, 38, 29, 4, 100, 51, 153, 0, 7, 4, 167, 0, 4, 3, 84, 29, 4, 100, 172, 21, 4, 16, 27]
theorem wdX9_depthAfter_126 : LocW cX9_depthAfter 126 bdX9_depthAfter_126 := loc_of (by decide +kernel)
theorem adX9_depthAfter_126 : De bdX9_depthAfter_126 0 (.getfield 38) 3 ∧ De bdX9_depthAfter_126 3 (.iload_n 3) 1 ∧ De bdX9_depthAfter_126 4 (.iconst 1) 1 ∧ De bdX9_depthAfter_126 5 (.isub) 1 ∧ De bdX9_depthAfter_126 6 (.baload) 1 ∧ De bdX9_depthAfter_126 7 (.ifCond .eq 7) 3 ∧ De bdX9_depthAfter_126 10 (.iconst 1) 1 ∧ De bdX9_depthAfter_126 11 (.goto 4) 3 ∧ De bdX9_depthAfter_126 14 (.iconst 0) 1 ∧ De bdX9_depthAfter_126 15 (.bastore) 1 ∧ De bdX9_depthAfter_126 16 (.iload_n 3) 1 ∧ De bdX9_depthAfter_126 17 (.iconst 1) 1 ∧ De bdX9_depthAfter_126 18 (.isub) 1 ∧ De bdX9_depthAfter_126 19 (.ireturn) 1 ∧ De bdX9_depthAfter_126 20 (.iload 4) 2 ∧ De bdX9_depthAfter_126 22 (.bipush 27) 2 := by decide +kernel
theorem dX9_depthAfter_126 : decode cX9_depthAfter 126 = .ok (.getfield 38, 3) := dAt wdX9_depthAfter_126 adX9_depthAfter_126.1 rfl
theorem dX9_depthAfter_129 : decode cX9_depthAfter 129 = .ok (.iload_n 3, 1) := dAt wdX9_depthAfter_126 adX9_depthAfter_126.2.1 rfl
theorem dX9_depthAfter_130 : decode cX9_depthAfter 130 = .ok (.iconst 1, 1) := dAt wdX9_depthAfter_126 adX9_depthAfter_126.2.2.1 rfl
theorem dX9_depthAfter_131 : decode cX9_depthAfter 131 = .ok (.isub, 1) := dAt wdX9_depthAfter_126 adX9_depthAfter_126.2.2.2.1 rfl
theorem dX9_depthAfter_132 : decode cX9_depthAfter 132 = .ok (.baload, 1) := dAt wdX9_depthAfter_126 adX9_depthAfter_126.2.2.2.2.1 rfl
theorem dX9_depthAfter_133 : decode cX9_depthAfter 133 = .ok (.ifCond .eq 7, 3) := dAt wdX9_depthAfter_126 adX9_depthAfter_126.2.2.2.2.2.1 rfl
theorem dX9_depthAfter_136 : decode cX9_depthAfter 136 = .ok (.iconst 1, 1) := dAt wdX9_depthAfter_126 adX9_depthAfter_126.2.2.2.2.2.2.1 rfl
theorem dX9_depthAfter_137 : decode cX9_depthAfter 137 = .ok (.goto 4, 3) := dAt wdX9_depthAfter_126 adX9_depthAfter_126.2.2.2.2.2.2.2.1 rfl
theorem dX9_depthAfter_140 : decode cX9_depthAfter 140 = .ok (.iconst 0, 1) := dAt wdX9_depthAfter_126 adX9_depthAfter_126.2.2.2.2.2.2.2.2.1 rfl
theorem dX9_depthAfter_141 : decode cX9_depthAfter 141 = .ok (.bastore, 1) := dAt wdX9_depthAfter_126 adX9_depthAfter_126.2.2.2.2.2.2.2.2.2.1 rfl
theorem dX9_depthAfter_142 : decode cX9_depthAfter 142 = .ok (.iload_n 3, 1) := dAt wdX9_depthAfter_126 adX9_depthAfter_126.2.2.2.2.2.2.2.2.2.2.1 rfl
theorem dX9_depthAfter_143 : decode cX9_depthAfter 143 = .ok (.iconst 1, 1) := dAt wdX9_depthAfter_126 adX9_depthAfter_126.2.2.2.2.2.2.2.2.2.2.2.1 rfl
theorem dX9_depthAfter_144 : decode cX9_depthAfter 144 = .ok (.isub, 1) := dAt wdX9_depthAfter_126 adX9_depthAfter_126.2.2.2.2.2.2.2.2.2.2.2.2.1 rfl
theorem dX9_depthAfter_145 : decode cX9_depthAfter 145 = .ok (.ireturn, 1) := dAt wdX9_depthAfter_126 adX9_depthAfter_126.2.2.2.2.2.2.2.2.2.2.2.2.2.1 rfl
theorem dX9_depthAfter_146 : decode cX9_depthAfter 146 = .ok (.iload 4, 2) := dAt wdX9_depthAfter_126 adX9_depthAfter_126.2.2.2.2.2.2.2.2.2.2.2.2.2.2.1 rfl
theorem dX9_depthAfter_148 : decode cX9_depthAfter 148 = .ok (.bipush 27, 2) := dAt wdX9_depthAfter_126 adX9_depthAfter_126.2.2.2.2.2.2.2.2.2.2.2.2.2.2.2 rfl
def bdX9_depthAfter_150 : ByteArray := .mk #[162, 0, 12, 29, 42, 180, 0, 38, 190, 161, 0, 5, 29, 172, 42, 180, 0, 38, 29, 21, 4, 27, 8, 122, 44]
theorem wdX9_depthAfter_150 : LocW cX9_depthAfter 150 bdX9_depthAfter_150 := loc_of (by decide +kernel)
theorem adX9_depthAfter_150 : De bdX9_depthAfter_150 0 (.if_icmp .ge 12) 3 ∧ De bdX9_depthAfter_150 3 (.iload_n 3) 1 ∧ De bdX9_depthAfter_150 4 (.aload_n 0) 1 ∧ De bdX9_depthAfter_150 5 (.getfield 38) 3 ∧ De bdX9_depthAfter_150 8 (.arraylength) 1 ∧ De bdX9_depthAfter_150 9 (.if_icmp .lt 5) 3 ∧ De bdX9_depthAfter_150 12 (.iload_n 3) 1 ∧ De bdX9_depthAfter_150 13 (.ireturn) 1 ∧ De bdX9_depthAfter_150 14 (.aload_n 0) 1 ∧ De bdX9_depthAfter_150 15 (.getfield 38) 3 ∧ De bdX9_depthAfter_150 18 (.iload_n 3) 1 ∧ De bdX9_depthAfter_150 19 (.iload 4) 2 ∧ De bdX9_depthAfter_150 21 (.iload_n 1) 1 ∧ De bdX9_depthAfter_150 22 (.iconst 5) 1 ∧ De bdX9_depthAfter_150 23 (.ishr) 1 ∧ De bdX9_depthAfter_150 24 (.aload_n 2) 1 := by decide +kernel
theorem dX9_depthAfter_150 : decode cX9_depthAfter 150 = .ok (.if_icmp .ge 12, 3) := dAt wdX9_depthAfter_150 adX9_depthAfter_150.1 rfl
theorem dX9_depthAfter_153 : decode cX9_depthAfter 153 = .ok (.iload_n 3, 1) := dAt wdX9_depthAfter_150 adX9_depthAfter_150.2.1 rfl
theorem dX9_depthAfter_154 : decode cX9_depthAfter 154 = .ok (.aload_n 0, 1) := dAt wdX9_depthAfter_150 adX9_depthAfter_150.2.2.1 rfl
theorem dX9_depthAfter_155 : decode cX9_depthAfter 155 = .ok (.getfield 38, 3) := dAt wdX9_depthAfter_150 adX9_depthAfter_150.2.2.2.1 rfl
theorem dX9_depthAfter_158 : decode cX9_depthAfter 158 = .ok (.arraylength, 1) := dAt wdX9_depthAfter_150 adX9_depthAfter_150.2.2.2.2.1 rfl
theorem dX9_depthAfter_159 : decode cX9_depthAfter 159 = .ok (.if_icmp .lt 5, 3) := dAt wdX9_depthAfter_150 adX9_depthAfter_150.2.2.2.2.2.1 rfl
theorem dX9_depthAfter_162 : decode cX9_depthAfter 162 = .ok (.iload_n 3, 1) := dAt wdX9_depthAfter_150 adX9_depthAfter_150.2.2.2.2.2.2.1 rfl
theorem dX9_depthAfter_163 : decode cX9_depthAfter 163 = .ok (.ireturn, 1) := dAt wdX9_depthAfter_150 adX9_depthAfter_150.2.2.2.2.2.2.2.1 rfl
theorem dX9_depthAfter_164 : decode cX9_depthAfter 164 = .ok (.aload_n 0, 1) := dAt wdX9_depthAfter_150 adX9_depthAfter_150.2.2.2.2.2.2.2.2.1 rfl
theorem dX9_depthAfter_165 : decode cX9_depthAfter 165 = .ok (.getfield 38, 3) := dAt wdX9_depthAfter_150 adX9_depthAfter_150.2.2.2.2.2.2.2.2.2.1 rfl
theorem dX9_depthAfter_168 : decode cX9_depthAfter 168 = .ok (.iload_n 3, 1) := dAt wdX9_depthAfter_150 adX9_depthAfter_150.2.2.2.2.2.2.2.2.2.2.1 rfl
theorem dX9_depthAfter_169 : decode cX9_depthAfter 169 = .ok (.iload 4, 2) := dAt wdX9_depthAfter_150 adX9_depthAfter_150.2.2.2.2.2.2.2.2.2.2.2.1 rfl
theorem dX9_depthAfter_171 : decode cX9_depthAfter 171 = .ok (.iload_n 1, 1) := dAt wdX9_depthAfter_150 adX9_depthAfter_150.2.2.2.2.2.2.2.2.2.2.2.2.1 rfl
theorem dX9_depthAfter_172 : decode cX9_depthAfter 172 = .ok (.iconst 5, 1) := dAt wdX9_depthAfter_150 adX9_depthAfter_150.2.2.2.2.2.2.2.2.2.2.2.2.2.1 rfl
theorem dX9_depthAfter_173 : decode cX9_depthAfter 173 = .ok (.ishr, 1) := dAt wdX9_depthAfter_150 adX9_depthAfter_150.2.2.2.2.2.2.2.2.2.2.2.2.2.2.1 rfl
theorem dX9_depthAfter_174 : decode cX9_depthAfter 174 = .ok (.aload_n 2, 1) := dAt wdX9_depthAfter_150 adX9_depthAfter_150.2.2.2.2.2.2.2.2.2.2.2.2.2.2.2 rfl
def bdX9_depthAfter_175 : ByteArray := .mk #[184, 0, 51, 84, 29, 4, 96, 172]
theorem wdX9_depthAfter_175 : LocW cX9_depthAfter 175 bdX9_depthAfter_175 := loc_of (by decide +kernel)
theorem adX9_depthAfter_175 : De bdX9_depthAfter_175 0 (.invokestatic 51) 3 ∧ De bdX9_depthAfter_175 3 (.bastore) 1 ∧ De bdX9_depthAfter_175 4 (.iload_n 3) 1 ∧ De bdX9_depthAfter_175 5 (.iconst 1) 1 ∧ De bdX9_depthAfter_175 6 (.iadd) 1 ∧ De bdX9_depthAfter_175 7 (.ireturn) 1 := by decide +kernel
theorem dX9_depthAfter_175 : decode cX9_depthAfter 175 = .ok (.invokestatic 51, 3) := dAt wdX9_depthAfter_175 adX9_depthAfter_175.1 rfl
theorem dX9_depthAfter_178 : decode cX9_depthAfter 178 = .ok (.bastore, 1) := dAt wdX9_depthAfter_175 adX9_depthAfter_175.2.1 rfl
theorem dX9_depthAfter_179 : decode cX9_depthAfter 179 = .ok (.iload_n 3, 1) := dAt wdX9_depthAfter_175 adX9_depthAfter_175.2.2.1 rfl
theorem dX9_depthAfter_180 : decode cX9_depthAfter 180 = .ok (.iconst 1, 1) := dAt wdX9_depthAfter_175 adX9_depthAfter_175.2.2.2.1 rfl
theorem dX9_depthAfter_181 : decode cX9_depthAfter 181 = .ok (.iadd, 1) := dAt wdX9_depthAfter_175 adX9_depthAfter_175.2.2.2.2.1 rfl
theorem dX9_depthAfter_182 : decode cX9_depthAfter 182 = .ok (.ireturn, 1) := dAt wdX9_depthAfter_175 adX9_depthAfter_175.2.2.2.2.2 rfl
def bdX9_isTrue_0 : ByteArray := .mk #[26, 16, 9, 112, 62, 29, 155, 0, 9, 29, 44, 190, 161, 0, 5, 3, 172, 26, 16, 18, 161, 0, 16, 44]
theorem wdX9_isTrue_0 : LocW cX9_isTrue 0 bdX9_isTrue_0 := loc_of (by decide +kernel)
theorem adX9_isTrue_0 : De bdX9_isTrue_0 0 (.iload_n 0) 1 ∧ De bdX9_isTrue_0 1 (.bipush 9) 2 ∧ De bdX9_isTrue_0 3 (.irem) 1 ∧ De bdX9_isTrue_0 4 (.istore_n 3) 1 ∧ De bdX9_isTrue_0 5 (.iload_n 3) 1 ∧ De bdX9_isTrue_0 6 (.ifCond .lt 9) 3 ∧ De bdX9_isTrue_0 9 (.iload_n 3) 1 ∧ De bdX9_isTrue_0 10 (.aload_n 2) 1 ∧ De bdX9_isTrue_0 11 (.arraylength) 1 ∧ De bdX9_isTrue_0 12 (.if_icmp .lt 5) 3 ∧ De bdX9_isTrue_0 15 (.iconst 0) 1 ∧ De bdX9_isTrue_0 16 (.ireturn) 1 ∧ De bdX9_isTrue_0 17 (.iload_n 0) 1 ∧ De bdX9_isTrue_0 18 (.bipush 18) 2 ∧ De bdX9_isTrue_0 20 (.if_icmp .lt 16) 3 ∧ De bdX9_isTrue_0 23 (.aload_n 2) 1 := by decide +kernel
theorem dX9_isTrue_0 : decode cX9_isTrue 0 = .ok (.iload_n 0, 1) := dAt wdX9_isTrue_0 adX9_isTrue_0.1 rfl
theorem dX9_isTrue_1 : decode cX9_isTrue 1 = .ok (.bipush 9, 2) := dAt wdX9_isTrue_0 adX9_isTrue_0.2.1 rfl
theorem dX9_isTrue_3 : decode cX9_isTrue 3 = .ok (.irem, 1) := dAt wdX9_isTrue_0 adX9_isTrue_0.2.2.1 rfl
theorem dX9_isTrue_4 : decode cX9_isTrue 4 = .ok (.istore_n 3, 1) := dAt wdX9_isTrue_0 adX9_isTrue_0.2.2.2.1 rfl
theorem dX9_isTrue_5 : decode cX9_isTrue 5 = .ok (.iload_n 3, 1) := dAt wdX9_isTrue_0 adX9_isTrue_0.2.2.2.2.1 rfl
theorem dX9_isTrue_6 : decode cX9_isTrue 6 = .ok (.ifCond .lt 9, 3) := dAt wdX9_isTrue_0 adX9_isTrue_0.2.2.2.2.2.1 rfl
theorem dX9_isTrue_9 : decode cX9_isTrue 9 = .ok (.iload_n 3, 1) := dAt wdX9_isTrue_0 adX9_isTrue_0.2.2.2.2.2.2.1 rfl
theorem dX9_isTrue_10 : decode cX9_isTrue 10 = .ok (.aload_n 2, 1) := dAt wdX9_isTrue_0 adX9_isTrue_0.2.2.2.2.2.2.2.1 rfl
theorem dX9_isTrue_11 : decode cX9_isTrue 11 = .ok (.arraylength, 1) := dAt wdX9_isTrue_0 adX9_isTrue_0.2.2.2.2.2.2.2.2.1 rfl
theorem dX9_isTrue_12 : decode cX9_isTrue 12 = .ok (.if_icmp .lt 5, 3) := dAt wdX9_isTrue_0 adX9_isTrue_0.2.2.2.2.2.2.2.2.2.1 rfl
theorem dX9_isTrue_15 : decode cX9_isTrue 15 = .ok (.iconst 0, 1) := dAt wdX9_isTrue_0 adX9_isTrue_0.2.2.2.2.2.2.2.2.2.2.1 rfl
theorem dX9_isTrue_16 : decode cX9_isTrue 16 = .ok (.ireturn, 1) := dAt wdX9_isTrue_0 adX9_isTrue_0.2.2.2.2.2.2.2.2.2.2.2.1 rfl
theorem dX9_isTrue_17 : decode cX9_isTrue 17 = .ok (.iload_n 0, 1) := dAt wdX9_isTrue_0 adX9_isTrue_0.2.2.2.2.2.2.2.2.2.2.2.2.1 rfl
theorem dX9_isTrue_18 : decode cX9_isTrue 18 = .ok (.bipush 18, 2) := dAt wdX9_isTrue_0 adX9_isTrue_0.2.2.2.2.2.2.2.2.2.2.2.2.2.1 rfl
theorem dX9_isTrue_20 : decode cX9_isTrue 20 = .ok (.if_icmp .lt 16, 3) := dAt wdX9_isTrue_0 adX9_isTrue_0.2.2.2.2.2.2.2.2.2.2.2.2.2.2.1 rfl
theorem dX9_isTrue_23 : decode cX9_isTrue 23 = .ok (.aload_n 2, 1) := dAt wdX9_isTrue_0 adX9_isTrue_0.2.2.2.2.2.2.2.2.2.2.2.2.2.2.2 rfl
def bdX9_isTrue_24 : ByteArray := .mk #[29, 46, 27, 164, 0, 7, 4, 167, 0, 4, 3, 172, 26, 16, 9, 161, 0, 16, 44, 29, 46, 27, 162, 0, 7]
theorem wdX9_isTrue_24 : LocW cX9_isTrue 24 bdX9_isTrue_24 := loc_of (by decide +kernel)
theorem adX9_isTrue_24 : De bdX9_isTrue_24 0 (.iload_n 3) 1 ∧ De bdX9_isTrue_24 1 (.iaload) 1 ∧ De bdX9_isTrue_24 2 (.iload_n 1) 1 ∧ De bdX9_isTrue_24 3 (.if_icmp .le 7) 3 ∧ De bdX9_isTrue_24 6 (.iconst 1) 1 ∧ De bdX9_isTrue_24 7 (.goto 4) 3 ∧ De bdX9_isTrue_24 10 (.iconst 0) 1 ∧ De bdX9_isTrue_24 11 (.ireturn) 1 ∧ De bdX9_isTrue_24 12 (.iload_n 0) 1 ∧ De bdX9_isTrue_24 13 (.bipush 9) 2 ∧ De bdX9_isTrue_24 15 (.if_icmp .lt 16) 3 ∧ De bdX9_isTrue_24 18 (.aload_n 2) 1 ∧ De bdX9_isTrue_24 19 (.iload_n 3) 1 ∧ De bdX9_isTrue_24 20 (.iaload) 1 ∧ De bdX9_isTrue_24 21 (.iload_n 1) 1 ∧ De bdX9_isTrue_24 22 (.if_icmp .ge 7) 3 := by decide +kernel
theorem dX9_isTrue_24 : decode cX9_isTrue 24 = .ok (.iload_n 3, 1) := dAt wdX9_isTrue_24 adX9_isTrue_24.1 rfl
theorem dX9_isTrue_25 : decode cX9_isTrue 25 = .ok (.iaload, 1) := dAt wdX9_isTrue_24 adX9_isTrue_24.2.1 rfl
theorem dX9_isTrue_26 : decode cX9_isTrue 26 = .ok (.iload_n 1, 1) := dAt wdX9_isTrue_24 adX9_isTrue_24.2.2.1 rfl
theorem dX9_isTrue_27 : decode cX9_isTrue 27 = .ok (.if_icmp .le 7, 3) := dAt wdX9_isTrue_24 adX9_isTrue_24.2.2.2.1 rfl
theorem dX9_isTrue_30 : decode cX9_isTrue 30 = .ok (.iconst 1, 1) := dAt wdX9_isTrue_24 adX9_isTrue_24.2.2.2.2.1 rfl
theorem dX9_isTrue_31 : decode cX9_isTrue 31 = .ok (.goto 4, 3) := dAt wdX9_isTrue_24 adX9_isTrue_24.2.2.2.2.2.1 rfl
theorem dX9_isTrue_34 : decode cX9_isTrue 34 = .ok (.iconst 0, 1) := dAt wdX9_isTrue_24 adX9_isTrue_24.2.2.2.2.2.2.1 rfl
theorem dX9_isTrue_35 : decode cX9_isTrue 35 = .ok (.ireturn, 1) := dAt wdX9_isTrue_24 adX9_isTrue_24.2.2.2.2.2.2.2.1 rfl
theorem dX9_isTrue_36 : decode cX9_isTrue 36 = .ok (.iload_n 0, 1) := dAt wdX9_isTrue_24 adX9_isTrue_24.2.2.2.2.2.2.2.2.1 rfl
theorem dX9_isTrue_37 : decode cX9_isTrue 37 = .ok (.bipush 9, 2) := dAt wdX9_isTrue_24 adX9_isTrue_24.2.2.2.2.2.2.2.2.2.1 rfl
theorem dX9_isTrue_39 : decode cX9_isTrue 39 = .ok (.if_icmp .lt 16, 3) := dAt wdX9_isTrue_24 adX9_isTrue_24.2.2.2.2.2.2.2.2.2.2.1 rfl
theorem dX9_isTrue_42 : decode cX9_isTrue 42 = .ok (.aload_n 2, 1) := dAt wdX9_isTrue_24 adX9_isTrue_24.2.2.2.2.2.2.2.2.2.2.2.1 rfl
theorem dX9_isTrue_43 : decode cX9_isTrue 43 = .ok (.iload_n 3, 1) := dAt wdX9_isTrue_24 adX9_isTrue_24.2.2.2.2.2.2.2.2.2.2.2.2.1 rfl
theorem dX9_isTrue_44 : decode cX9_isTrue 44 = .ok (.iaload, 1) := dAt wdX9_isTrue_24 adX9_isTrue_24.2.2.2.2.2.2.2.2.2.2.2.2.2.1 rfl
theorem dX9_isTrue_45 : decode cX9_isTrue 45 = .ok (.iload_n 1, 1) := dAt wdX9_isTrue_24 adX9_isTrue_24.2.2.2.2.2.2.2.2.2.2.2.2.2.2.1 rfl
theorem dX9_isTrue_46 : decode cX9_isTrue 46 = .ok (.if_icmp .ge 7, 3) := dAt wdX9_isTrue_24 adX9_isTrue_24.2.2.2.2.2.2.2.2.2.2.2.2.2.2.2 rfl
def bdX9_isTrue_49 : ByteArray := .mk #[4, 167, 0, 4, 3, 172, 44, 29, 46, 158, 0, 7, 4, 167, 0, 4, 3, 172]
theorem wdX9_isTrue_49 : LocW cX9_isTrue 49 bdX9_isTrue_49 := loc_of (by decide +kernel)
theorem adX9_isTrue_49 : De bdX9_isTrue_49 0 (.iconst 1) 1 ∧ De bdX9_isTrue_49 1 (.goto 4) 3 ∧ De bdX9_isTrue_49 4 (.iconst 0) 1 ∧ De bdX9_isTrue_49 5 (.ireturn) 1 ∧ De bdX9_isTrue_49 6 (.aload_n 2) 1 ∧ De bdX9_isTrue_49 7 (.iload_n 3) 1 ∧ De bdX9_isTrue_49 8 (.iaload) 1 ∧ De bdX9_isTrue_49 9 (.ifCond .le 7) 3 ∧ De bdX9_isTrue_49 12 (.iconst 1) 1 ∧ De bdX9_isTrue_49 13 (.goto 4) 3 ∧ De bdX9_isTrue_49 16 (.iconst 0) 1 ∧ De bdX9_isTrue_49 17 (.ireturn) 1 := by decide +kernel
theorem dX9_isTrue_49 : decode cX9_isTrue 49 = .ok (.iconst 1, 1) := dAt wdX9_isTrue_49 adX9_isTrue_49.1 rfl
theorem dX9_isTrue_50 : decode cX9_isTrue 50 = .ok (.goto 4, 3) := dAt wdX9_isTrue_49 adX9_isTrue_49.2.1 rfl
theorem dX9_isTrue_53 : decode cX9_isTrue 53 = .ok (.iconst 0, 1) := dAt wdX9_isTrue_49 adX9_isTrue_49.2.2.1 rfl
theorem dX9_isTrue_54 : decode cX9_isTrue 54 = .ok (.ireturn, 1) := dAt wdX9_isTrue_49 adX9_isTrue_49.2.2.2.1 rfl
theorem dX9_isTrue_55 : decode cX9_isTrue 55 = .ok (.aload_n 2, 1) := dAt wdX9_isTrue_49 adX9_isTrue_49.2.2.2.2.1 rfl
theorem dX9_isTrue_56 : decode cX9_isTrue 56 = .ok (.iload_n 3, 1) := dAt wdX9_isTrue_49 adX9_isTrue_49.2.2.2.2.2.1 rfl
theorem dX9_isTrue_57 : decode cX9_isTrue 57 = .ok (.iaload, 1) := dAt wdX9_isTrue_49 adX9_isTrue_49.2.2.2.2.2.2.1 rfl
theorem dX9_isTrue_58 : decode cX9_isTrue 58 = .ok (.ifCond .le 7, 3) := dAt wdX9_isTrue_49 adX9_isTrue_49.2.2.2.2.2.2.2.1 rfl
theorem dX9_isTrue_61 : decode cX9_isTrue 61 = .ok (.iconst 1, 1) := dAt wdX9_isTrue_49 adX9_isTrue_49.2.2.2.2.2.2.2.2.1 rfl
theorem dX9_isTrue_62 : decode cX9_isTrue 62 = .ok (.goto 4, 3) := dAt wdX9_isTrue_49 adX9_isTrue_49.2.2.2.2.2.2.2.2.2.1 rfl
theorem dX9_isTrue_65 : decode cX9_isTrue 65 = .ok (.iconst 0, 1) := dAt wdX9_isTrue_49 adX9_isTrue_49.2.2.2.2.2.2.2.2.2.2.1 rfl
theorem dX9_isTrue_66 : decode cX9_isTrue 66 = .ok (.ireturn, 1) := dAt wdX9_isTrue_49 adX9_isTrue_49.2.2.2.2.2.2.2.2.2.2.2 rfl
def bdX10_init_0 : ByteArray := .mk #[42, 183, 0, 3, 42, 3, 181, 0, 9, 42, 3, 181, 0, 15, 42, 2, 181, 0, 18, 42, 17, 1, 145, 188, 10, 181, 0, 21, 42]
theorem wdX10_init_0 : LocW cX10_init 0 bdX10_init_0 := loc_of (by decide +kernel)
theorem adX10_init_0 : De bdX10_init_0 0 (.aload_n 0) 1 ∧ De bdX10_init_0 1 (.invokespecial 3) 3 ∧ De bdX10_init_0 4 (.aload_n 0) 1 ∧ De bdX10_init_0 5 (.iconst 0) 1 ∧ De bdX10_init_0 6 (.putfield 9) 3 ∧ De bdX10_init_0 9 (.aload_n 0) 1 ∧ De bdX10_init_0 10 (.iconst 0) 1 ∧ De bdX10_init_0 11 (.putfield 15) 3 ∧ De bdX10_init_0 14 (.aload_n 0) 1 ∧ De bdX10_init_0 15 (.iconst (-1)) 1 ∧ De bdX10_init_0 16 (.putfield 18) 3 ∧ De bdX10_init_0 19 (.aload_n 0) 1 ∧ De bdX10_init_0 20 (.sipush 401) 3 ∧ De bdX10_init_0 23 (.newarray .int) 2 ∧ De bdX10_init_0 25 (.putfield 21) 3 ∧ De bdX10_init_0 28 (.aload_n 0) 1 := by decide +kernel
theorem dX10_init_0 : decode cX10_init 0 = .ok (.aload_n 0, 1) := dAt wdX10_init_0 adX10_init_0.1 rfl
theorem dX10_init_1 : decode cX10_init 1 = .ok (.invokespecial 3, 3) := dAt wdX10_init_0 adX10_init_0.2.1 rfl
theorem dX10_init_4 : decode cX10_init 4 = .ok (.aload_n 0, 1) := dAt wdX10_init_0 adX10_init_0.2.2.1 rfl
theorem dX10_init_5 : decode cX10_init 5 = .ok (.iconst 0, 1) := dAt wdX10_init_0 adX10_init_0.2.2.2.1 rfl
theorem dX10_init_6 : decode cX10_init 6 = .ok (.putfield 9, 3) := dAt wdX10_init_0 adX10_init_0.2.2.2.2.1 rfl
theorem dX10_init_9 : decode cX10_init 9 = .ok (.aload_n 0, 1) := dAt wdX10_init_0 adX10_init_0.2.2.2.2.2.1 rfl
theorem dX10_init_10 : decode cX10_init 10 = .ok (.iconst 0, 1) := dAt wdX10_init_0 adX10_init_0.2.2.2.2.2.2.1 rfl
theorem dX10_init_11 : decode cX10_init 11 = .ok (.putfield 15, 3) := dAt wdX10_init_0 adX10_init_0.2.2.2.2.2.2.2.1 rfl
theorem dX10_init_14 : decode cX10_init 14 = .ok (.aload_n 0, 1) := dAt wdX10_init_0 adX10_init_0.2.2.2.2.2.2.2.2.1 rfl
theorem dX10_init_15 : decode cX10_init 15 = .ok (.iconst (-1), 1) := dAt wdX10_init_0 adX10_init_0.2.2.2.2.2.2.2.2.2.1 rfl
theorem dX10_init_16 : decode cX10_init 16 = .ok (.putfield 18, 3) := dAt wdX10_init_0 adX10_init_0.2.2.2.2.2.2.2.2.2.2.1 rfl
theorem dX10_init_19 : decode cX10_init 19 = .ok (.aload_n 0, 1) := dAt wdX10_init_0 adX10_init_0.2.2.2.2.2.2.2.2.2.2.2.1 rfl
theorem dX10_init_20 : decode cX10_init 20 = .ok (.sipush 401, 3) := dAt wdX10_init_0 adX10_init_0.2.2.2.2.2.2.2.2.2.2.2.2.1 rfl
theorem dX10_init_23 : decode cX10_init 23 = .ok (.newarray .int, 2) := dAt wdX10_init_0 adX10_init_0.2.2.2.2.2.2.2.2.2.2.2.2.2.1 rfl
theorem dX10_init_25 : decode cX10_init 25 = .ok (.putfield 21, 3) := dAt wdX10_init_0 adX10_init_0.2.2.2.2.2.2.2.2.2.2.2.2.2.2.1 rfl
theorem dX10_init_28 : decode cX10_init 28 = .ok (.aload_n 0, 1) := dAt wdX10_init_0 adX10_init_0.2.2.2.2.2.2.2.2.2.2.2.2.2.2.2 rfl
def bdX10_init_29 : ByteArray := .mk #[187, 0, 25, 89, 183, 0, 27, 181, 0, 28, 42, 43, 181, 0, 32, 177]
theorem wdX10_init_29 : LocW cX10_init 29 bdX10_init_29 := loc_of (by decide +kernel)
theorem adX10_init_29 : De bdX10_init_29 0 (.new 25) 3 ∧ De bdX10_init_29 3 (.dup) 1 ∧ De bdX10_init_29 4 (.invokespecial 27) 3 ∧ De bdX10_init_29 7 (.putfield 28) 3 ∧ De bdX10_init_29 10 (.aload_n 0) 1 ∧ De bdX10_init_29 11 (.aload_n 1) 1 ∧ De bdX10_init_29 12 (.putfield 32) 3 ∧ De bdX10_init_29 15 (.return_) 1 := by decide +kernel
theorem dX10_init_29 : decode cX10_init 29 = .ok (.new 25, 3) := dAt wdX10_init_29 adX10_init_29.1 rfl
theorem dX10_init_32 : decode cX10_init 32 = .ok (.dup, 1) := dAt wdX10_init_29 adX10_init_29.2.1 rfl
theorem dX10_init_33 : decode cX10_init 33 = .ok (.invokespecial 27, 3) := dAt wdX10_init_29 adX10_init_29.2.2.1 rfl
theorem dX10_init_36 : decode cX10_init 36 = .ok (.putfield 28, 3) := dAt wdX10_init_29 adX10_init_29.2.2.2.1 rfl
theorem dX10_init_39 : decode cX10_init 39 = .ok (.aload_n 0, 1) := dAt wdX10_init_29 adX10_init_29.2.2.2.2.1 rfl
theorem dX10_init_40 : decode cX10_init 40 = .ok (.aload_n 1, 1) := dAt wdX10_init_29 adX10_init_29.2.2.2.2.2.1 rfl
theorem dX10_init_41 : decode cX10_init 41 = .ok (.putfield 32, 3) := dAt wdX10_init_29 adX10_init_29.2.2.2.2.2.2.1 rfl
theorem dX10_init_44 : decode cX10_init 44 = .ok (.return_, 1) := dAt wdX10_init_29 adX10_init_29.2.2.2.2.2.2.2 rfl
def bdX10_firstWrong_0 : ByteArray := .mk #[42, 180, 0, 28, 3, 181, 0, 36, 42, 27, 42, 180, 0, 32, 190, 184, 0, 39, 181, 0, 9, 42, 3, 181, 0, 15, 42, 2]
theorem wdX10_firstWrong_0 : LocW cX10_firstWrong 0 bdX10_firstWrong_0 := loc_of (by decide +kernel)
theorem adX10_firstWrong_0 : De bdX10_firstWrong_0 0 (.aload_n 0) 1 ∧ De bdX10_firstWrong_0 1 (.getfield 28) 3 ∧ De bdX10_firstWrong_0 4 (.iconst 0) 1 ∧ De bdX10_firstWrong_0 5 (.putfield 36) 3 ∧ De bdX10_firstWrong_0 8 (.aload_n 0) 1 ∧ De bdX10_firstWrong_0 9 (.iload_n 1) 1 ∧ De bdX10_firstWrong_0 10 (.aload_n 0) 1 ∧ De bdX10_firstWrong_0 11 (.getfield 32) 3 ∧ De bdX10_firstWrong_0 14 (.arraylength) 1 ∧ De bdX10_firstWrong_0 15 (.invokestatic 39) 3 ∧ De bdX10_firstWrong_0 18 (.putfield 9) 3 ∧ De bdX10_firstWrong_0 21 (.aload_n 0) 1 ∧ De bdX10_firstWrong_0 22 (.iconst 0) 1 ∧ De bdX10_firstWrong_0 23 (.putfield 15) 3 ∧ De bdX10_firstWrong_0 26 (.aload_n 0) 1 ∧ De bdX10_firstWrong_0 27 (.iconst (-1)) 1 := by decide +kernel
theorem dX10_firstWrong_0 : decode cX10_firstWrong 0 = .ok (.aload_n 0, 1) := dAt wdX10_firstWrong_0 adX10_firstWrong_0.1 rfl
theorem dX10_firstWrong_1 : decode cX10_firstWrong 1 = .ok (.getfield 28, 3) := dAt wdX10_firstWrong_0 adX10_firstWrong_0.2.1 rfl
theorem dX10_firstWrong_4 : decode cX10_firstWrong 4 = .ok (.iconst 0, 1) := dAt wdX10_firstWrong_0 adX10_firstWrong_0.2.2.1 rfl
theorem dX10_firstWrong_5 : decode cX10_firstWrong 5 = .ok (.putfield 36, 3) := dAt wdX10_firstWrong_0 adX10_firstWrong_0.2.2.2.1 rfl
theorem dX10_firstWrong_8 : decode cX10_firstWrong 8 = .ok (.aload_n 0, 1) := dAt wdX10_firstWrong_0 adX10_firstWrong_0.2.2.2.2.1 rfl
theorem dX10_firstWrong_9 : decode cX10_firstWrong 9 = .ok (.iload_n 1, 1) := dAt wdX10_firstWrong_0 adX10_firstWrong_0.2.2.2.2.2.1 rfl
theorem dX10_firstWrong_10 : decode cX10_firstWrong 10 = .ok (.aload_n 0, 1) := dAt wdX10_firstWrong_0 adX10_firstWrong_0.2.2.2.2.2.2.1 rfl
theorem dX10_firstWrong_11 : decode cX10_firstWrong 11 = .ok (.getfield 32, 3) := dAt wdX10_firstWrong_0 adX10_firstWrong_0.2.2.2.2.2.2.2.1 rfl
theorem dX10_firstWrong_14 : decode cX10_firstWrong 14 = .ok (.arraylength, 1) := dAt wdX10_firstWrong_0 adX10_firstWrong_0.2.2.2.2.2.2.2.2.1 rfl
theorem dX10_firstWrong_15 : decode cX10_firstWrong 15 = .ok (.invokestatic 39, 3) := dAt wdX10_firstWrong_0 adX10_firstWrong_0.2.2.2.2.2.2.2.2.2.1 rfl
theorem dX10_firstWrong_18 : decode cX10_firstWrong 18 = .ok (.putfield 9, 3) := dAt wdX10_firstWrong_0 adX10_firstWrong_0.2.2.2.2.2.2.2.2.2.2.1 rfl
theorem dX10_firstWrong_21 : decode cX10_firstWrong 21 = .ok (.aload_n 0, 1) := dAt wdX10_firstWrong_0 adX10_firstWrong_0.2.2.2.2.2.2.2.2.2.2.2.1 rfl
theorem dX10_firstWrong_22 : decode cX10_firstWrong 22 = .ok (.iconst 0, 1) := dAt wdX10_firstWrong_0 adX10_firstWrong_0.2.2.2.2.2.2.2.2.2.2.2.2.1 rfl
theorem dX10_firstWrong_23 : decode cX10_firstWrong 23 = .ok (.putfield 15, 3) := dAt wdX10_firstWrong_0 adX10_firstWrong_0.2.2.2.2.2.2.2.2.2.2.2.2.2.1 rfl
theorem dX10_firstWrong_26 : decode cX10_firstWrong 26 = .ok (.aload_n 0, 1) := dAt wdX10_firstWrong_0 adX10_firstWrong_0.2.2.2.2.2.2.2.2.2.2.2.2.2.2.1 rfl
theorem dX10_firstWrong_27 : decode cX10_firstWrong 27 = .ok (.iconst (-1), 1) := dAt wdX10_firstWrong_0 adX10_firstWrong_0.2.2.2.2.2.2.2.2.2.2.2.2.2.2.2 rfl
def bdX10_firstWrong_28 : ByteArray := .mk #[181, 0, 18, 42, 182, 0, 45, 42, 180, 0, 21, 3, 46, 42, 180, 0, 9, 162, 0, 7, 4, 167, 0, 4, 3, 61, 3, 62]
theorem wdX10_firstWrong_28 : LocW cX10_firstWrong 28 bdX10_firstWrong_28 := loc_of (by decide +kernel)
theorem adX10_firstWrong_28 : De bdX10_firstWrong_28 0 (.putfield 18) 3 ∧ De bdX10_firstWrong_28 3 (.aload_n 0) 1 ∧ De bdX10_firstWrong_28 4 (.invokevirtual 45) 3 ∧ De bdX10_firstWrong_28 7 (.aload_n 0) 1 ∧ De bdX10_firstWrong_28 8 (.getfield 21) 3 ∧ De bdX10_firstWrong_28 11 (.iconst 0) 1 ∧ De bdX10_firstWrong_28 12 (.iaload) 1 ∧ De bdX10_firstWrong_28 13 (.aload_n 0) 1 ∧ De bdX10_firstWrong_28 14 (.getfield 9) 3 ∧ De bdX10_firstWrong_28 17 (.if_icmp .ge 7) 3 ∧ De bdX10_firstWrong_28 20 (.iconst 1) 1 ∧ De bdX10_firstWrong_28 21 (.goto 4) 3 ∧ De bdX10_firstWrong_28 24 (.iconst 0) 1 ∧ De bdX10_firstWrong_28 25 (.istore_n 2) 1 ∧ De bdX10_firstWrong_28 26 (.iconst 0) 1 ∧ De bdX10_firstWrong_28 27 (.istore_n 3) 1 := by decide +kernel
theorem dX10_firstWrong_28 : decode cX10_firstWrong 28 = .ok (.putfield 18, 3) := dAt wdX10_firstWrong_28 adX10_firstWrong_28.1 rfl
theorem dX10_firstWrong_31 : decode cX10_firstWrong 31 = .ok (.aload_n 0, 1) := dAt wdX10_firstWrong_28 adX10_firstWrong_28.2.1 rfl
theorem dX10_firstWrong_32 : decode cX10_firstWrong 32 = .ok (.invokevirtual 45, 3) := dAt wdX10_firstWrong_28 adX10_firstWrong_28.2.2.1 rfl
theorem dX10_firstWrong_35 : decode cX10_firstWrong 35 = .ok (.aload_n 0, 1) := dAt wdX10_firstWrong_28 adX10_firstWrong_28.2.2.2.1 rfl
theorem dX10_firstWrong_36 : decode cX10_firstWrong 36 = .ok (.getfield 21, 3) := dAt wdX10_firstWrong_28 adX10_firstWrong_28.2.2.2.2.1 rfl
theorem dX10_firstWrong_39 : decode cX10_firstWrong 39 = .ok (.iconst 0, 1) := dAt wdX10_firstWrong_28 adX10_firstWrong_28.2.2.2.2.2.1 rfl
theorem dX10_firstWrong_40 : decode cX10_firstWrong 40 = .ok (.iaload, 1) := dAt wdX10_firstWrong_28 adX10_firstWrong_28.2.2.2.2.2.2.1 rfl
theorem dX10_firstWrong_41 : decode cX10_firstWrong 41 = .ok (.aload_n 0, 1) := dAt wdX10_firstWrong_28 adX10_firstWrong_28.2.2.2.2.2.2.2.1 rfl
theorem dX10_firstWrong_42 : decode cX10_firstWrong 42 = .ok (.getfield 9, 3) := dAt wdX10_firstWrong_28 adX10_firstWrong_28.2.2.2.2.2.2.2.2.1 rfl
theorem dX10_firstWrong_45 : decode cX10_firstWrong 45 = .ok (.if_icmp .ge 7, 3) := dAt wdX10_firstWrong_28 adX10_firstWrong_28.2.2.2.2.2.2.2.2.2.1 rfl
theorem dX10_firstWrong_48 : decode cX10_firstWrong 48 = .ok (.iconst 1, 1) := dAt wdX10_firstWrong_28 adX10_firstWrong_28.2.2.2.2.2.2.2.2.2.2.1 rfl
theorem dX10_firstWrong_49 : decode cX10_firstWrong 49 = .ok (.goto 4, 3) := dAt wdX10_firstWrong_28 adX10_firstWrong_28.2.2.2.2.2.2.2.2.2.2.2.1 rfl
theorem dX10_firstWrong_52 : decode cX10_firstWrong 52 = .ok (.iconst 0, 1) := dAt wdX10_firstWrong_28 adX10_firstWrong_28.2.2.2.2.2.2.2.2.2.2.2.2.1 rfl
theorem dX10_firstWrong_53 : decode cX10_firstWrong 53 = .ok (.istore_n 2, 1) := dAt wdX10_firstWrong_28 adX10_firstWrong_28.2.2.2.2.2.2.2.2.2.2.2.2.2.1 rfl
theorem dX10_firstWrong_54 : decode cX10_firstWrong 54 = .ok (.iconst 0, 1) := dAt wdX10_firstWrong_28 adX10_firstWrong_28.2.2.2.2.2.2.2.2.2.2.2.2.2.2.1 rfl
theorem dX10_firstWrong_55 : decode cX10_firstWrong 55 = .ok (.istore_n 3, 1) := dAt wdX10_firstWrong_28 adX10_firstWrong_28.2.2.2.2.2.2.2.2.2.2.2.2.2.2.2 rfl
def bdX10_firstWrong_56 : ByteArray := .mk #[28, 153, 0, 35, 29, 16, 12, 162, 0, 29, 42, 182, 0, 48, 153, 0, 14, 42, 182, 0, 52, 153, 0, 7, 4, 167, 0, 4, 3, 61, 132, 3, 1]
theorem wdX10_firstWrong_56 : LocW cX10_firstWrong 56 bdX10_firstWrong_56 := loc_of (by decide +kernel)
theorem adX10_firstWrong_56 : De bdX10_firstWrong_56 0 (.iload_n 2) 1 ∧ De bdX10_firstWrong_56 1 (.ifCond .eq 35) 3 ∧ De bdX10_firstWrong_56 4 (.iload_n 3) 1 ∧ De bdX10_firstWrong_56 5 (.bipush 12) 2 ∧ De bdX10_firstWrong_56 7 (.if_icmp .ge 29) 3 ∧ De bdX10_firstWrong_56 10 (.aload_n 0) 1 ∧ De bdX10_firstWrong_56 11 (.invokevirtual 48) 3 ∧ De bdX10_firstWrong_56 14 (.ifCond .eq 14) 3 ∧ De bdX10_firstWrong_56 17 (.aload_n 0) 1 ∧ De bdX10_firstWrong_56 18 (.invokevirtual 52) 3 ∧ De bdX10_firstWrong_56 21 (.ifCond .eq 7) 3 ∧ De bdX10_firstWrong_56 24 (.iconst 1) 1 ∧ De bdX10_firstWrong_56 25 (.goto 4) 3 ∧ De bdX10_firstWrong_56 28 (.iconst 0) 1 ∧ De bdX10_firstWrong_56 29 (.istore_n 2) 1 ∧ De bdX10_firstWrong_56 30 (.iinc 3 1) 3 := by decide +kernel
theorem dX10_firstWrong_56 : decode cX10_firstWrong 56 = .ok (.iload_n 2, 1) := dAt wdX10_firstWrong_56 adX10_firstWrong_56.1 rfl
theorem dX10_firstWrong_57 : decode cX10_firstWrong 57 = .ok (.ifCond .eq 35, 3) := dAt wdX10_firstWrong_56 adX10_firstWrong_56.2.1 rfl
theorem dX10_firstWrong_60 : decode cX10_firstWrong 60 = .ok (.iload_n 3, 1) := dAt wdX10_firstWrong_56 adX10_firstWrong_56.2.2.1 rfl
theorem dX10_firstWrong_61 : decode cX10_firstWrong 61 = .ok (.bipush 12, 2) := dAt wdX10_firstWrong_56 adX10_firstWrong_56.2.2.2.1 rfl
theorem dX10_firstWrong_63 : decode cX10_firstWrong 63 = .ok (.if_icmp .ge 29, 3) := dAt wdX10_firstWrong_56 adX10_firstWrong_56.2.2.2.2.1 rfl
theorem dX10_firstWrong_66 : decode cX10_firstWrong 66 = .ok (.aload_n 0, 1) := dAt wdX10_firstWrong_56 adX10_firstWrong_56.2.2.2.2.2.1 rfl
theorem dX10_firstWrong_67 : decode cX10_firstWrong 67 = .ok (.invokevirtual 48, 3) := dAt wdX10_firstWrong_56 adX10_firstWrong_56.2.2.2.2.2.2.1 rfl
theorem dX10_firstWrong_70 : decode cX10_firstWrong 70 = .ok (.ifCond .eq 14, 3) := dAt wdX10_firstWrong_56 adX10_firstWrong_56.2.2.2.2.2.2.2.1 rfl
theorem dX10_firstWrong_73 : decode cX10_firstWrong 73 = .ok (.aload_n 0, 1) := dAt wdX10_firstWrong_56 adX10_firstWrong_56.2.2.2.2.2.2.2.2.1 rfl
theorem dX10_firstWrong_74 : decode cX10_firstWrong 74 = .ok (.invokevirtual 52, 3) := dAt wdX10_firstWrong_56 adX10_firstWrong_56.2.2.2.2.2.2.2.2.2.1 rfl
theorem dX10_firstWrong_77 : decode cX10_firstWrong 77 = .ok (.ifCond .eq 7, 3) := dAt wdX10_firstWrong_56 adX10_firstWrong_56.2.2.2.2.2.2.2.2.2.2.1 rfl
theorem dX10_firstWrong_80 : decode cX10_firstWrong 80 = .ok (.iconst 1, 1) := dAt wdX10_firstWrong_56 adX10_firstWrong_56.2.2.2.2.2.2.2.2.2.2.2.1 rfl
theorem dX10_firstWrong_81 : decode cX10_firstWrong 81 = .ok (.goto 4, 3) := dAt wdX10_firstWrong_56 adX10_firstWrong_56.2.2.2.2.2.2.2.2.2.2.2.2.1 rfl
theorem dX10_firstWrong_84 : decode cX10_firstWrong 84 = .ok (.iconst 0, 1) := dAt wdX10_firstWrong_56 adX10_firstWrong_56.2.2.2.2.2.2.2.2.2.2.2.2.2.1 rfl
theorem dX10_firstWrong_85 : decode cX10_firstWrong 85 = .ok (.istore_n 2, 1) := dAt wdX10_firstWrong_56 adX10_firstWrong_56.2.2.2.2.2.2.2.2.2.2.2.2.2.2.1 rfl
theorem dX10_firstWrong_86 : decode cX10_firstWrong 86 = .ok (.iinc 3 1, 3) := dAt wdX10_firstWrong_56 adX10_firstWrong_56.2.2.2.2.2.2.2.2.2.2.2.2.2.2.2 rfl
def bdX10_firstWrong_89 : ByteArray := .mk #[167, 255, 223, 42, 180, 0, 18, 172]
theorem wdX10_firstWrong_89 : LocW cX10_firstWrong 89 bdX10_firstWrong_89 := loc_of (by decide +kernel)
theorem adX10_firstWrong_89 : De bdX10_firstWrong_89 0 (.goto (-33)) 3 ∧ De bdX10_firstWrong_89 3 (.aload_n 0) 1 ∧ De bdX10_firstWrong_89 4 (.getfield 18) 3 ∧ De bdX10_firstWrong_89 7 (.ireturn) 1 := by decide +kernel
theorem dX10_firstWrong_89 : decode cX10_firstWrong 89 = .ok (.goto (-33), 3) := dAt wdX10_firstWrong_89 adX10_firstWrong_89.1 rfl
theorem dX10_firstWrong_92 : decode cX10_firstWrong 92 = .ok (.aload_n 0, 1) := dAt wdX10_firstWrong_89 adX10_firstWrong_89.2.1 rfl
theorem dX10_firstWrong_93 : decode cX10_firstWrong 93 = .ok (.getfield 18, 3) := dAt wdX10_firstWrong_89 adX10_firstWrong_89.2.2.1 rfl
theorem dX10_firstWrong_96 : decode cX10_firstWrong 96 = .ok (.ireturn, 1) := dAt wdX10_firstWrong_89 adX10_firstWrong_89.2.2.2 rfl
def bdX10_findInk_0 : ByteArray := .mk #[42, 180, 0, 21, 42, 180, 0, 9, 42, 180, 0, 9, 79, 42, 180, 0, 9, 4, 100, 60, 27, 155, 0, 38, 42, 180, 0, 21]
theorem wdX10_findInk_0 : LocW cX10_findInk 0 bdX10_findInk_0 := loc_of (by decide +kernel)
theorem adX10_findInk_0 : De bdX10_findInk_0 0 (.aload_n 0) 1 ∧ De bdX10_findInk_0 1 (.getfield 21) 3 ∧ De bdX10_findInk_0 4 (.aload_n 0) 1 ∧ De bdX10_findInk_0 5 (.getfield 9) 3 ∧ De bdX10_findInk_0 8 (.aload_n 0) 1 ∧ De bdX10_findInk_0 9 (.getfield 9) 3 ∧ De bdX10_findInk_0 12 (.iastore) 1 ∧ De bdX10_findInk_0 13 (.aload_n 0) 1 ∧ De bdX10_findInk_0 14 (.getfield 9) 3 ∧ De bdX10_findInk_0 17 (.iconst 1) 1 ∧ De bdX10_findInk_0 18 (.isub) 1 ∧ De bdX10_findInk_0 19 (.istore_n 1) 1 ∧ De bdX10_findInk_0 20 (.iload_n 1) 1 ∧ De bdX10_findInk_0 21 (.ifCond .lt 38) 3 ∧ De bdX10_findInk_0 24 (.aload_n 0) 1 ∧ De bdX10_findInk_0 25 (.getfield 21) 3 := by decide +kernel
theorem dX10_findInk_0 : decode cX10_findInk 0 = .ok (.aload_n 0, 1) := dAt wdX10_findInk_0 adX10_findInk_0.1 rfl
theorem dX10_findInk_1 : decode cX10_findInk 1 = .ok (.getfield 21, 3) := dAt wdX10_findInk_0 adX10_findInk_0.2.1 rfl
theorem dX10_findInk_4 : decode cX10_findInk 4 = .ok (.aload_n 0, 1) := dAt wdX10_findInk_0 adX10_findInk_0.2.2.1 rfl
theorem dX10_findInk_5 : decode cX10_findInk 5 = .ok (.getfield 9, 3) := dAt wdX10_findInk_0 adX10_findInk_0.2.2.2.1 rfl
theorem dX10_findInk_8 : decode cX10_findInk 8 = .ok (.aload_n 0, 1) := dAt wdX10_findInk_0 adX10_findInk_0.2.2.2.2.1 rfl
theorem dX10_findInk_9 : decode cX10_findInk 9 = .ok (.getfield 9, 3) := dAt wdX10_findInk_0 adX10_findInk_0.2.2.2.2.2.1 rfl
theorem dX10_findInk_12 : decode cX10_findInk 12 = .ok (.iastore, 1) := dAt wdX10_findInk_0 adX10_findInk_0.2.2.2.2.2.2.1 rfl
theorem dX10_findInk_13 : decode cX10_findInk 13 = .ok (.aload_n 0, 1) := dAt wdX10_findInk_0 adX10_findInk_0.2.2.2.2.2.2.2.1 rfl
theorem dX10_findInk_14 : decode cX10_findInk 14 = .ok (.getfield 9, 3) := dAt wdX10_findInk_0 adX10_findInk_0.2.2.2.2.2.2.2.2.1 rfl
theorem dX10_findInk_17 : decode cX10_findInk 17 = .ok (.iconst 1, 1) := dAt wdX10_findInk_0 adX10_findInk_0.2.2.2.2.2.2.2.2.2.1 rfl
theorem dX10_findInk_18 : decode cX10_findInk 18 = .ok (.isub, 1) := dAt wdX10_findInk_0 adX10_findInk_0.2.2.2.2.2.2.2.2.2.2.1 rfl
theorem dX10_findInk_19 : decode cX10_findInk 19 = .ok (.istore_n 1, 1) := dAt wdX10_findInk_0 adX10_findInk_0.2.2.2.2.2.2.2.2.2.2.2.1 rfl
theorem dX10_findInk_20 : decode cX10_findInk 20 = .ok (.iload_n 1, 1) := dAt wdX10_findInk_0 adX10_findInk_0.2.2.2.2.2.2.2.2.2.2.2.2.1 rfl
theorem dX10_findInk_21 : decode cX10_findInk 21 = .ok (.ifCond .lt 38, 3) := dAt wdX10_findInk_0 adX10_findInk_0.2.2.2.2.2.2.2.2.2.2.2.2.2.1 rfl
theorem dX10_findInk_24 : decode cX10_findInk 24 = .ok (.aload_n 0, 1) := dAt wdX10_findInk_0 adX10_findInk_0.2.2.2.2.2.2.2.2.2.2.2.2.2.2.1 rfl
theorem dX10_findInk_25 : decode cX10_findInk 25 = .ok (.getfield 21, 3) := dAt wdX10_findInk_0 adX10_findInk_0.2.2.2.2.2.2.2.2.2.2.2.2.2.2.2 rfl
def bdX10_findInk_28 : ByteArray := .mk #[27, 42, 180, 0, 32, 27, 51, 16, 32, 160, 0, 14, 42, 180, 0, 21, 27, 4, 96, 46, 167, 0, 4, 27, 79]
theorem wdX10_findInk_28 : LocW cX10_findInk 28 bdX10_findInk_28 := loc_of (by decide +kernel)
theorem adX10_findInk_28 : De bdX10_findInk_28 0 (.iload_n 1) 1 ∧ De bdX10_findInk_28 1 (.aload_n 0) 1 ∧ De bdX10_findInk_28 2 (.getfield 32) 3 ∧ De bdX10_findInk_28 5 (.iload_n 1) 1 ∧ De bdX10_findInk_28 6 (.baload) 1 ∧ De bdX10_findInk_28 7 (.bipush 32) 2 ∧ De bdX10_findInk_28 9 (.if_icmp .ne 14) 3 ∧ De bdX10_findInk_28 12 (.aload_n 0) 1 ∧ De bdX10_findInk_28 13 (.getfield 21) 3 ∧ De bdX10_findInk_28 16 (.iload_n 1) 1 ∧ De bdX10_findInk_28 17 (.iconst 1) 1 ∧ De bdX10_findInk_28 18 (.iadd) 1 ∧ De bdX10_findInk_28 19 (.iaload) 1 ∧ De bdX10_findInk_28 20 (.goto 4) 3 ∧ De bdX10_findInk_28 23 (.iload_n 1) 1 ∧ De bdX10_findInk_28 24 (.iastore) 1 := by decide +kernel
theorem dX10_findInk_28 : decode cX10_findInk 28 = .ok (.iload_n 1, 1) := dAt wdX10_findInk_28 adX10_findInk_28.1 rfl
theorem dX10_findInk_29 : decode cX10_findInk 29 = .ok (.aload_n 0, 1) := dAt wdX10_findInk_28 adX10_findInk_28.2.1 rfl
theorem dX10_findInk_30 : decode cX10_findInk 30 = .ok (.getfield 32, 3) := dAt wdX10_findInk_28 adX10_findInk_28.2.2.1 rfl
theorem dX10_findInk_33 : decode cX10_findInk 33 = .ok (.iload_n 1, 1) := dAt wdX10_findInk_28 adX10_findInk_28.2.2.2.1 rfl
theorem dX10_findInk_34 : decode cX10_findInk 34 = .ok (.baload, 1) := dAt wdX10_findInk_28 adX10_findInk_28.2.2.2.2.1 rfl
theorem dX10_findInk_35 : decode cX10_findInk 35 = .ok (.bipush 32, 2) := dAt wdX10_findInk_28 adX10_findInk_28.2.2.2.2.2.1 rfl
theorem dX10_findInk_37 : decode cX10_findInk 37 = .ok (.if_icmp .ne 14, 3) := dAt wdX10_findInk_28 adX10_findInk_28.2.2.2.2.2.2.1 rfl
theorem dX10_findInk_40 : decode cX10_findInk 40 = .ok (.aload_n 0, 1) := dAt wdX10_findInk_28 adX10_findInk_28.2.2.2.2.2.2.2.1 rfl
theorem dX10_findInk_41 : decode cX10_findInk 41 = .ok (.getfield 21, 3) := dAt wdX10_findInk_28 adX10_findInk_28.2.2.2.2.2.2.2.2.1 rfl
theorem dX10_findInk_44 : decode cX10_findInk 44 = .ok (.iload_n 1, 1) := dAt wdX10_findInk_28 adX10_findInk_28.2.2.2.2.2.2.2.2.2.1 rfl
theorem dX10_findInk_45 : decode cX10_findInk 45 = .ok (.iconst 1, 1) := dAt wdX10_findInk_28 adX10_findInk_28.2.2.2.2.2.2.2.2.2.2.1 rfl
theorem dX10_findInk_46 : decode cX10_findInk 46 = .ok (.iadd, 1) := dAt wdX10_findInk_28 adX10_findInk_28.2.2.2.2.2.2.2.2.2.2.2.1 rfl
theorem dX10_findInk_47 : decode cX10_findInk 47 = .ok (.iaload, 1) := dAt wdX10_findInk_28 adX10_findInk_28.2.2.2.2.2.2.2.2.2.2.2.2.1 rfl
theorem dX10_findInk_48 : decode cX10_findInk 48 = .ok (.goto 4, 3) := dAt wdX10_findInk_28 adX10_findInk_28.2.2.2.2.2.2.2.2.2.2.2.2.2.1 rfl
theorem dX10_findInk_51 : decode cX10_findInk 51 = .ok (.iload_n 1, 1) := dAt wdX10_findInk_28 adX10_findInk_28.2.2.2.2.2.2.2.2.2.2.2.2.2.2.1 rfl
theorem dX10_findInk_52 : decode cX10_findInk 52 = .ok (.iastore, 1) := dAt wdX10_findInk_28 adX10_findInk_28.2.2.2.2.2.2.2.2.2.2.2.2.2.2.2 rfl
def bdX10_findInk_53 : ByteArray := .mk #[132, 1, 255, 167, 255, 220, 177]
theorem wdX10_findInk_53 : LocW cX10_findInk 53 bdX10_findInk_53 := loc_of (by decide +kernel)
theorem adX10_findInk_53 : De bdX10_findInk_53 0 (.iinc 1 (-1)) 3 ∧ De bdX10_findInk_53 3 (.goto (-36)) 3 ∧ De bdX10_findInk_53 6 (.return_) 1 := by decide +kernel
theorem dX10_findInk_53 : decode cX10_findInk 53 = .ok (.iinc 1 (-1), 3) := dAt wdX10_findInk_53 adX10_findInk_53.1 rfl
theorem dX10_findInk_56 : decode cX10_findInk 56 = .ok (.goto (-36), 3) := dAt wdX10_findInk_53 adX10_findInk_53.2.1 rfl
theorem dX10_findInk_59 : decode cX10_findInk 59 = .ok (.return_, 1) := dAt wdX10_findInk_53 adX10_findInk_53.2.2 rfl
def bdX10_anotherFollows_0 : ByteArray := .mk #[42, 180, 0, 21, 42, 180, 0, 15, 46, 42, 180, 0, 9, 161, 0, 5, 3, 172, 42, 16, 59, 182, 0, 55, 154, 0, 8, 42, 182, 0, 59]
theorem wdX10_anotherFollows_0 : LocW cX10_anotherFollows 0 bdX10_anotherFollows_0 := loc_of (by decide +kernel)
theorem adX10_anotherFollows_0 : De bdX10_anotherFollows_0 0 (.aload_n 0) 1 ∧ De bdX10_anotherFollows_0 1 (.getfield 21) 3 ∧ De bdX10_anotherFollows_0 4 (.aload_n 0) 1 ∧ De bdX10_anotherFollows_0 5 (.getfield 15) 3 ∧ De bdX10_anotherFollows_0 8 (.iaload) 1 ∧ De bdX10_anotherFollows_0 9 (.aload_n 0) 1 ∧ De bdX10_anotherFollows_0 10 (.getfield 9) 3 ∧ De bdX10_anotherFollows_0 13 (.if_icmp .lt 5) 3 ∧ De bdX10_anotherFollows_0 16 (.iconst 0) 1 ∧ De bdX10_anotherFollows_0 17 (.ireturn) 1 ∧ De bdX10_anotherFollows_0 18 (.aload_n 0) 1 ∧ De bdX10_anotherFollows_0 19 (.bipush 59) 2 ∧ De bdX10_anotherFollows_0 21 (.invokevirtual 55) 3 ∧ De bdX10_anotherFollows_0 24 (.ifCond .ne 8) 3 ∧ De bdX10_anotherFollows_0 27 (.aload_n 0) 1 ∧ De bdX10_anotherFollows_0 28 (.invokevirtual 59) 3 := by decide +kernel
theorem dX10_anotherFollows_0 : decode cX10_anotherFollows 0 = .ok (.aload_n 0, 1) := dAt wdX10_anotherFollows_0 adX10_anotherFollows_0.1 rfl
theorem dX10_anotherFollows_1 : decode cX10_anotherFollows 1 = .ok (.getfield 21, 3) := dAt wdX10_anotherFollows_0 adX10_anotherFollows_0.2.1 rfl
theorem dX10_anotherFollows_4 : decode cX10_anotherFollows 4 = .ok (.aload_n 0, 1) := dAt wdX10_anotherFollows_0 adX10_anotherFollows_0.2.2.1 rfl
theorem dX10_anotherFollows_5 : decode cX10_anotherFollows 5 = .ok (.getfield 15, 3) := dAt wdX10_anotherFollows_0 adX10_anotherFollows_0.2.2.2.1 rfl
theorem dX10_anotherFollows_8 : decode cX10_anotherFollows 8 = .ok (.iaload, 1) := dAt wdX10_anotherFollows_0 adX10_anotherFollows_0.2.2.2.2.1 rfl
theorem dX10_anotherFollows_9 : decode cX10_anotherFollows 9 = .ok (.aload_n 0, 1) := dAt wdX10_anotherFollows_0 adX10_anotherFollows_0.2.2.2.2.2.1 rfl
theorem dX10_anotherFollows_10 : decode cX10_anotherFollows 10 = .ok (.getfield 9, 3) := dAt wdX10_anotherFollows_0 adX10_anotherFollows_0.2.2.2.2.2.2.1 rfl
theorem dX10_anotherFollows_13 : decode cX10_anotherFollows 13 = .ok (.if_icmp .lt 5, 3) := dAt wdX10_anotherFollows_0 adX10_anotherFollows_0.2.2.2.2.2.2.2.1 rfl
theorem dX10_anotherFollows_16 : decode cX10_anotherFollows 16 = .ok (.iconst 0, 1) := dAt wdX10_anotherFollows_0 adX10_anotherFollows_0.2.2.2.2.2.2.2.2.1 rfl
theorem dX10_anotherFollows_17 : decode cX10_anotherFollows 17 = .ok (.ireturn, 1) := dAt wdX10_anotherFollows_0 adX10_anotherFollows_0.2.2.2.2.2.2.2.2.2.1 rfl
theorem dX10_anotherFollows_18 : decode cX10_anotherFollows 18 = .ok (.aload_n 0, 1) := dAt wdX10_anotherFollows_0 adX10_anotherFollows_0.2.2.2.2.2.2.2.2.2.2.1 rfl
theorem dX10_anotherFollows_19 : decode cX10_anotherFollows 19 = .ok (.bipush 59, 2) := dAt wdX10_anotherFollows_0 adX10_anotherFollows_0.2.2.2.2.2.2.2.2.2.2.2.1 rfl
theorem dX10_anotherFollows_21 : decode cX10_anotherFollows 21 = .ok (.invokevirtual 55, 3) := dAt wdX10_anotherFollows_0 adX10_anotherFollows_0.2.2.2.2.2.2.2.2.2.2.2.2.1 rfl
theorem dX10_anotherFollows_24 : decode cX10_anotherFollows 24 = .ok (.ifCond .ne 8, 3) := dAt wdX10_anotherFollows_0 adX10_anotherFollows_0.2.2.2.2.2.2.2.2.2.2.2.2.2.1 rfl
theorem dX10_anotherFollows_27 : decode cX10_anotherFollows 27 = .ok (.aload_n 0, 1) := dAt wdX10_anotherFollows_0 adX10_anotherFollows_0.2.2.2.2.2.2.2.2.2.2.2.2.2.2.1 rfl
theorem dX10_anotherFollows_28 : decode cX10_anotherFollows 28 = .ok (.invokevirtual 59, 3) := dAt wdX10_anotherFollows_0 adX10_anotherFollows_0.2.2.2.2.2.2.2.2.2.2.2.2.2.2.2 rfl
def bdX10_anotherFollows_31 : ByteArray := .mk #[172, 42, 180, 0, 28, 180, 0, 36, 16, 12, 161, 0, 10, 42, 182, 0, 59, 153, 0, 7, 4, 167, 0, 4, 3, 172]
theorem wdX10_anotherFollows_31 : LocW cX10_anotherFollows 31 bdX10_anotherFollows_31 := loc_of (by decide +kernel)
theorem adX10_anotherFollows_31 : De bdX10_anotherFollows_31 0 (.ireturn) 1 ∧ De bdX10_anotherFollows_31 1 (.aload_n 0) 1 ∧ De bdX10_anotherFollows_31 2 (.getfield 28) 3 ∧ De bdX10_anotherFollows_31 5 (.getfield 36) 3 ∧ De bdX10_anotherFollows_31 8 (.bipush 12) 2 ∧ De bdX10_anotherFollows_31 10 (.if_icmp .lt 10) 3 ∧ De bdX10_anotherFollows_31 13 (.aload_n 0) 1 ∧ De bdX10_anotherFollows_31 14 (.invokevirtual 59) 3 ∧ De bdX10_anotherFollows_31 17 (.ifCond .eq 7) 3 ∧ De bdX10_anotherFollows_31 20 (.iconst 1) 1 ∧ De bdX10_anotherFollows_31 21 (.goto 4) 3 ∧ De bdX10_anotherFollows_31 24 (.iconst 0) 1 ∧ De bdX10_anotherFollows_31 25 (.ireturn) 1 := by decide +kernel
theorem dX10_anotherFollows_31 : decode cX10_anotherFollows 31 = .ok (.ireturn, 1) := dAt wdX10_anotherFollows_31 adX10_anotherFollows_31.1 rfl
theorem dX10_anotherFollows_32 : decode cX10_anotherFollows 32 = .ok (.aload_n 0, 1) := dAt wdX10_anotherFollows_31 adX10_anotherFollows_31.2.1 rfl
theorem dX10_anotherFollows_33 : decode cX10_anotherFollows 33 = .ok (.getfield 28, 3) := dAt wdX10_anotherFollows_31 adX10_anotherFollows_31.2.2.1 rfl
theorem dX10_anotherFollows_36 : decode cX10_anotherFollows 36 = .ok (.getfield 36, 3) := dAt wdX10_anotherFollows_31 adX10_anotherFollows_31.2.2.2.1 rfl
theorem dX10_anotherFollows_39 : decode cX10_anotherFollows 39 = .ok (.bipush 12, 2) := dAt wdX10_anotherFollows_31 adX10_anotherFollows_31.2.2.2.2.1 rfl
theorem dX10_anotherFollows_41 : decode cX10_anotherFollows 41 = .ok (.if_icmp .lt 10, 3) := dAt wdX10_anotherFollows_31 adX10_anotherFollows_31.2.2.2.2.2.1 rfl
theorem dX10_anotherFollows_44 : decode cX10_anotherFollows 44 = .ok (.aload_n 0, 1) := dAt wdX10_anotherFollows_31 adX10_anotherFollows_31.2.2.2.2.2.2.1 rfl
theorem dX10_anotherFollows_45 : decode cX10_anotherFollows 45 = .ok (.invokevirtual 59, 3) := dAt wdX10_anotherFollows_31 adX10_anotherFollows_31.2.2.2.2.2.2.2.1 rfl
theorem dX10_anotherFollows_48 : decode cX10_anotherFollows 48 = .ok (.ifCond .eq 7, 3) := dAt wdX10_anotherFollows_31 adX10_anotherFollows_31.2.2.2.2.2.2.2.2.1 rfl
theorem dX10_anotherFollows_51 : decode cX10_anotherFollows 51 = .ok (.iconst 1, 1) := dAt wdX10_anotherFollows_31 adX10_anotherFollows_31.2.2.2.2.2.2.2.2.2.1 rfl
theorem dX10_anotherFollows_52 : decode cX10_anotherFollows 52 = .ok (.goto 4, 3) := dAt wdX10_anotherFollows_31 adX10_anotherFollows_31.2.2.2.2.2.2.2.2.2.2.1 rfl
theorem dX10_anotherFollows_55 : decode cX10_anotherFollows 55 = .ok (.iconst 0, 1) := dAt wdX10_anotherFollows_31 adX10_anotherFollows_31.2.2.2.2.2.2.2.2.2.2.2.1 rfl
theorem dX10_anotherFollows_56 : decode cX10_anotherFollows 56 = .ok (.ireturn, 1) := dAt wdX10_anotherFollows_31 adX10_anotherFollows_31.2.2.2.2.2.2.2.2.2.2.2.2 rfl
def bdX10_readRule_0 : ByteArray := .mk #[42, 18, 62, 182, 0, 64, 153, 0, 39, 42, 3, 16, 10, 17, 1, 144, 182, 0, 68, 153, 0, 24, 42, 18, 72, 182, 0, 64, 153, 0, 11, 42, 3]
theorem wdX10_readRule_0 : LocW cX10_readRule 0 bdX10_readRule_0 := loc_of (by decide +kernel)
theorem adX10_readRule_0 : De bdX10_readRule_0 0 (.aload_n 0) 1 ∧ De bdX10_readRule_0 1 (.ldc 62) 2 ∧ De bdX10_readRule_0 3 (.invokevirtual 64) 3 ∧ De bdX10_readRule_0 6 (.ifCond .eq 39) 3 ∧ De bdX10_readRule_0 9 (.aload_n 0) 1 ∧ De bdX10_readRule_0 10 (.iconst 0) 1 ∧ De bdX10_readRule_0 11 (.bipush 10) 2 ∧ De bdX10_readRule_0 13 (.sipush 400) 3 ∧ De bdX10_readRule_0 16 (.invokevirtual 68) 3 ∧ De bdX10_readRule_0 19 (.ifCond .eq 24) 3 ∧ De bdX10_readRule_0 22 (.aload_n 0) 1 ∧ De bdX10_readRule_0 23 (.ldc 72) 2 ∧ De bdX10_readRule_0 25 (.invokevirtual 64) 3 ∧ De bdX10_readRule_0 28 (.ifCond .eq 11) 3 ∧ De bdX10_readRule_0 31 (.aload_n 0) 1 ∧ De bdX10_readRule_0 32 (.iconst 0) 1 := by decide +kernel
theorem dX10_readRule_0 : decode cX10_readRule 0 = .ok (.aload_n 0, 1) := dAt wdX10_readRule_0 adX10_readRule_0.1 rfl
theorem dX10_readRule_1 : decode cX10_readRule 1 = .ok (.ldc 62, 2) := dAt wdX10_readRule_0 adX10_readRule_0.2.1 rfl
theorem dX10_readRule_3 : decode cX10_readRule 3 = .ok (.invokevirtual 64, 3) := dAt wdX10_readRule_0 adX10_readRule_0.2.2.1 rfl
theorem dX10_readRule_6 : decode cX10_readRule 6 = .ok (.ifCond .eq 39, 3) := dAt wdX10_readRule_0 adX10_readRule_0.2.2.2.1 rfl
theorem dX10_readRule_9 : decode cX10_readRule 9 = .ok (.aload_n 0, 1) := dAt wdX10_readRule_0 adX10_readRule_0.2.2.2.2.1 rfl
theorem dX10_readRule_10 : decode cX10_readRule 10 = .ok (.iconst 0, 1) := dAt wdX10_readRule_0 adX10_readRule_0.2.2.2.2.2.1 rfl
theorem dX10_readRule_11 : decode cX10_readRule 11 = .ok (.bipush 10, 2) := dAt wdX10_readRule_0 adX10_readRule_0.2.2.2.2.2.2.1 rfl
theorem dX10_readRule_13 : decode cX10_readRule 13 = .ok (.sipush 400, 3) := dAt wdX10_readRule_0 adX10_readRule_0.2.2.2.2.2.2.2.1 rfl
theorem dX10_readRule_16 : decode cX10_readRule 16 = .ok (.invokevirtual 68, 3) := dAt wdX10_readRule_0 adX10_readRule_0.2.2.2.2.2.2.2.2.1 rfl
theorem dX10_readRule_19 : decode cX10_readRule 19 = .ok (.ifCond .eq 24, 3) := dAt wdX10_readRule_0 adX10_readRule_0.2.2.2.2.2.2.2.2.2.1 rfl
theorem dX10_readRule_22 : decode cX10_readRule 22 = .ok (.aload_n 0, 1) := dAt wdX10_readRule_0 adX10_readRule_0.2.2.2.2.2.2.2.2.2.2.1 rfl
theorem dX10_readRule_23 : decode cX10_readRule 23 = .ok (.ldc 72, 2) := dAt wdX10_readRule_0 adX10_readRule_0.2.2.2.2.2.2.2.2.2.2.2.1 rfl
theorem dX10_readRule_25 : decode cX10_readRule 25 = .ok (.invokevirtual 64, 3) := dAt wdX10_readRule_0 adX10_readRule_0.2.2.2.2.2.2.2.2.2.2.2.2.1 rfl
theorem dX10_readRule_28 : decode cX10_readRule 28 = .ok (.ifCond .eq 11, 3) := dAt wdX10_readRule_0 adX10_readRule_0.2.2.2.2.2.2.2.2.2.2.2.2.2.1 rfl
theorem dX10_readRule_31 : decode cX10_readRule 31 = .ok (.aload_n 0, 1) := dAt wdX10_readRule_0 adX10_readRule_0.2.2.2.2.2.2.2.2.2.2.2.2.2.2.1 rfl
theorem dX10_readRule_32 : decode cX10_readRule 32 = .ok (.iconst 0, 1) := dAt wdX10_readRule_0 adX10_readRule_0.2.2.2.2.2.2.2.2.2.2.2.2.2.2.2 rfl
def bdX10_readRule_33 : ByteArray := .mk #[182, 0, 74, 153, 0, 7, 4, 167, 0, 4, 3, 172, 42, 18, 77, 182, 0, 64, 153, 0, 8, 42, 182, 0, 79, 172, 42, 18, 82, 182, 0, 64]
theorem wdX10_readRule_33 : LocW cX10_readRule 33 bdX10_readRule_33 := loc_of (by decide +kernel)
theorem adX10_readRule_33 : De bdX10_readRule_33 0 (.invokevirtual 74) 3 ∧ De bdX10_readRule_33 3 (.ifCond .eq 7) 3 ∧ De bdX10_readRule_33 6 (.iconst 1) 1 ∧ De bdX10_readRule_33 7 (.goto 4) 3 ∧ De bdX10_readRule_33 10 (.iconst 0) 1 ∧ De bdX10_readRule_33 11 (.ireturn) 1 ∧ De bdX10_readRule_33 12 (.aload_n 0) 1 ∧ De bdX10_readRule_33 13 (.ldc 77) 2 ∧ De bdX10_readRule_33 15 (.invokevirtual 64) 3 ∧ De bdX10_readRule_33 18 (.ifCond .eq 8) 3 ∧ De bdX10_readRule_33 21 (.aload_n 0) 1 ∧ De bdX10_readRule_33 22 (.invokevirtual 79) 3 ∧ De bdX10_readRule_33 25 (.ireturn) 1 ∧ De bdX10_readRule_33 26 (.aload_n 0) 1 ∧ De bdX10_readRule_33 27 (.ldc 82) 2 ∧ De bdX10_readRule_33 29 (.invokevirtual 64) 3 := by decide +kernel
theorem dX10_readRule_33 : decode cX10_readRule 33 = .ok (.invokevirtual 74, 3) := dAt wdX10_readRule_33 adX10_readRule_33.1 rfl
theorem dX10_readRule_36 : decode cX10_readRule 36 = .ok (.ifCond .eq 7, 3) := dAt wdX10_readRule_33 adX10_readRule_33.2.1 rfl
theorem dX10_readRule_39 : decode cX10_readRule 39 = .ok (.iconst 1, 1) := dAt wdX10_readRule_33 adX10_readRule_33.2.2.1 rfl
theorem dX10_readRule_40 : decode cX10_readRule 40 = .ok (.goto 4, 3) := dAt wdX10_readRule_33 adX10_readRule_33.2.2.2.1 rfl
theorem dX10_readRule_43 : decode cX10_readRule 43 = .ok (.iconst 0, 1) := dAt wdX10_readRule_33 adX10_readRule_33.2.2.2.2.1 rfl
theorem dX10_readRule_44 : decode cX10_readRule 44 = .ok (.ireturn, 1) := dAt wdX10_readRule_33 adX10_readRule_33.2.2.2.2.2.1 rfl
theorem dX10_readRule_45 : decode cX10_readRule 45 = .ok (.aload_n 0, 1) := dAt wdX10_readRule_33 adX10_readRule_33.2.2.2.2.2.2.1 rfl
theorem dX10_readRule_46 : decode cX10_readRule 46 = .ok (.ldc 77, 2) := dAt wdX10_readRule_33 adX10_readRule_33.2.2.2.2.2.2.2.1 rfl
theorem dX10_readRule_48 : decode cX10_readRule 48 = .ok (.invokevirtual 64, 3) := dAt wdX10_readRule_33 adX10_readRule_33.2.2.2.2.2.2.2.2.1 rfl
theorem dX10_readRule_51 : decode cX10_readRule 51 = .ok (.ifCond .eq 8, 3) := dAt wdX10_readRule_33 adX10_readRule_33.2.2.2.2.2.2.2.2.2.1 rfl
theorem dX10_readRule_54 : decode cX10_readRule 54 = .ok (.aload_n 0, 1) := dAt wdX10_readRule_33 adX10_readRule_33.2.2.2.2.2.2.2.2.2.2.1 rfl
theorem dX10_readRule_55 : decode cX10_readRule 55 = .ok (.invokevirtual 79, 3) := dAt wdX10_readRule_33 adX10_readRule_33.2.2.2.2.2.2.2.2.2.2.2.1 rfl
theorem dX10_readRule_58 : decode cX10_readRule 58 = .ok (.ireturn, 1) := dAt wdX10_readRule_33 adX10_readRule_33.2.2.2.2.2.2.2.2.2.2.2.2.1 rfl
theorem dX10_readRule_59 : decode cX10_readRule 59 = .ok (.aload_n 0, 1) := dAt wdX10_readRule_33 adX10_readRule_33.2.2.2.2.2.2.2.2.2.2.2.2.2.1 rfl
theorem dX10_readRule_60 : decode cX10_readRule 60 = .ok (.ldc 82, 2) := dAt wdX10_readRule_33 adX10_readRule_33.2.2.2.2.2.2.2.2.2.2.2.2.2.2.1 rfl
theorem dX10_readRule_62 : decode cX10_readRule 62 = .ok (.invokevirtual 64, 3) := dAt wdX10_readRule_33 adX10_readRule_33.2.2.2.2.2.2.2.2.2.2.2.2.2.2.2 rfl
def bdX10_readRule_65 : ByteArray := .mk #[153, 0, 13, 42, 5, 3, 17, 3, 231, 182, 0, 68, 172, 42, 18, 84, 182, 0, 64, 153, 0, 12, 42, 6, 3, 16, 99, 182, 0, 68]
theorem wdX10_readRule_65 : LocW cX10_readRule 65 bdX10_readRule_65 := loc_of (by decide +kernel)
theorem adX10_readRule_65 : De bdX10_readRule_65 0 (.ifCond .eq 13) 3 ∧ De bdX10_readRule_65 3 (.aload_n 0) 1 ∧ De bdX10_readRule_65 4 (.iconst 2) 1 ∧ De bdX10_readRule_65 5 (.iconst 0) 1 ∧ De bdX10_readRule_65 6 (.sipush 999) 3 ∧ De bdX10_readRule_65 9 (.invokevirtual 68) 3 ∧ De bdX10_readRule_65 12 (.ireturn) 1 ∧ De bdX10_readRule_65 13 (.aload_n 0) 1 ∧ De bdX10_readRule_65 14 (.ldc 84) 2 ∧ De bdX10_readRule_65 16 (.invokevirtual 64) 3 ∧ De bdX10_readRule_65 19 (.ifCond .eq 12) 3 ∧ De bdX10_readRule_65 22 (.aload_n 0) 1 ∧ De bdX10_readRule_65 23 (.iconst 3) 1 ∧ De bdX10_readRule_65 24 (.iconst 0) 1 ∧ De bdX10_readRule_65 25 (.bipush 99) 2 ∧ De bdX10_readRule_65 27 (.invokevirtual 68) 3 := by decide +kernel
theorem dX10_readRule_65 : decode cX10_readRule 65 = .ok (.ifCond .eq 13, 3) := dAt wdX10_readRule_65 adX10_readRule_65.1 rfl
theorem dX10_readRule_68 : decode cX10_readRule 68 = .ok (.aload_n 0, 1) := dAt wdX10_readRule_65 adX10_readRule_65.2.1 rfl
theorem dX10_readRule_69 : decode cX10_readRule 69 = .ok (.iconst 2, 1) := dAt wdX10_readRule_65 adX10_readRule_65.2.2.1 rfl
theorem dX10_readRule_70 : decode cX10_readRule 70 = .ok (.iconst 0, 1) := dAt wdX10_readRule_65 adX10_readRule_65.2.2.2.1 rfl
theorem dX10_readRule_71 : decode cX10_readRule 71 = .ok (.sipush 999, 3) := dAt wdX10_readRule_65 adX10_readRule_65.2.2.2.2.1 rfl
theorem dX10_readRule_74 : decode cX10_readRule 74 = .ok (.invokevirtual 68, 3) := dAt wdX10_readRule_65 adX10_readRule_65.2.2.2.2.2.1 rfl
theorem dX10_readRule_77 : decode cX10_readRule 77 = .ok (.ireturn, 1) := dAt wdX10_readRule_65 adX10_readRule_65.2.2.2.2.2.2.1 rfl
theorem dX10_readRule_78 : decode cX10_readRule 78 = .ok (.aload_n 0, 1) := dAt wdX10_readRule_65 adX10_readRule_65.2.2.2.2.2.2.2.1 rfl
theorem dX10_readRule_79 : decode cX10_readRule 79 = .ok (.ldc 84, 2) := dAt wdX10_readRule_65 adX10_readRule_65.2.2.2.2.2.2.2.2.1 rfl
theorem dX10_readRule_81 : decode cX10_readRule 81 = .ok (.invokevirtual 64, 3) := dAt wdX10_readRule_65 adX10_readRule_65.2.2.2.2.2.2.2.2.2.1 rfl
theorem dX10_readRule_84 : decode cX10_readRule 84 = .ok (.ifCond .eq 12, 3) := dAt wdX10_readRule_65 adX10_readRule_65.2.2.2.2.2.2.2.2.2.2.1 rfl
theorem dX10_readRule_87 : decode cX10_readRule 87 = .ok (.aload_n 0, 1) := dAt wdX10_readRule_65 adX10_readRule_65.2.2.2.2.2.2.2.2.2.2.2.1 rfl
theorem dX10_readRule_88 : decode cX10_readRule 88 = .ok (.iconst 3, 1) := dAt wdX10_readRule_65 adX10_readRule_65.2.2.2.2.2.2.2.2.2.2.2.2.1 rfl
theorem dX10_readRule_89 : decode cX10_readRule 89 = .ok (.iconst 0, 1) := dAt wdX10_readRule_65 adX10_readRule_65.2.2.2.2.2.2.2.2.2.2.2.2.2.1 rfl
theorem dX10_readRule_90 : decode cX10_readRule 90 = .ok (.bipush 99, 2) := dAt wdX10_readRule_65 adX10_readRule_65.2.2.2.2.2.2.2.2.2.2.2.2.2.2.1 rfl
theorem dX10_readRule_92 : decode cX10_readRule 92 = .ok (.invokevirtual 68, 3) := dAt wdX10_readRule_65 adX10_readRule_65.2.2.2.2.2.2.2.2.2.2.2.2.2.2.2 rfl
def bdX10_readRule_95 : ByteArray := .mk #[172, 42, 18, 86, 182, 0, 64, 153, 0, 38, 42, 7, 3, 17, 3, 231, 182, 0, 68, 153, 0, 24, 42, 18, 72, 182, 0, 64, 153, 0, 11, 42]
theorem wdX10_readRule_95 : LocW cX10_readRule 95 bdX10_readRule_95 := loc_of (by decide +kernel)
theorem adX10_readRule_95 : De bdX10_readRule_95 0 (.ireturn) 1 ∧ De bdX10_readRule_95 1 (.aload_n 0) 1 ∧ De bdX10_readRule_95 2 (.ldc 86) 2 ∧ De bdX10_readRule_95 4 (.invokevirtual 64) 3 ∧ De bdX10_readRule_95 7 (.ifCond .eq 38) 3 ∧ De bdX10_readRule_95 10 (.aload_n 0) 1 ∧ De bdX10_readRule_95 11 (.iconst 4) 1 ∧ De bdX10_readRule_95 12 (.iconst 0) 1 ∧ De bdX10_readRule_95 13 (.sipush 999) 3 ∧ De bdX10_readRule_95 16 (.invokevirtual 68) 3 ∧ De bdX10_readRule_95 19 (.ifCond .eq 24) 3 ∧ De bdX10_readRule_95 22 (.aload_n 0) 1 ∧ De bdX10_readRule_95 23 (.ldc 72) 2 ∧ De bdX10_readRule_95 25 (.invokevirtual 64) 3 ∧ De bdX10_readRule_95 28 (.ifCond .eq 11) 3 ∧ De bdX10_readRule_95 31 (.aload_n 0) 1 := by decide +kernel
theorem dX10_readRule_95 : decode cX10_readRule 95 = .ok (.ireturn, 1) := dAt wdX10_readRule_95 adX10_readRule_95.1 rfl
theorem dX10_readRule_96 : decode cX10_readRule 96 = .ok (.aload_n 0, 1) := dAt wdX10_readRule_95 adX10_readRule_95.2.1 rfl
theorem dX10_readRule_97 : decode cX10_readRule 97 = .ok (.ldc 86, 2) := dAt wdX10_readRule_95 adX10_readRule_95.2.2.1 rfl
theorem dX10_readRule_99 : decode cX10_readRule 99 = .ok (.invokevirtual 64, 3) := dAt wdX10_readRule_95 adX10_readRule_95.2.2.2.1 rfl
theorem dX10_readRule_102 : decode cX10_readRule 102 = .ok (.ifCond .eq 38, 3) := dAt wdX10_readRule_95 adX10_readRule_95.2.2.2.2.1 rfl
theorem dX10_readRule_105 : decode cX10_readRule 105 = .ok (.aload_n 0, 1) := dAt wdX10_readRule_95 adX10_readRule_95.2.2.2.2.2.1 rfl
theorem dX10_readRule_106 : decode cX10_readRule 106 = .ok (.iconst 4, 1) := dAt wdX10_readRule_95 adX10_readRule_95.2.2.2.2.2.2.1 rfl
theorem dX10_readRule_107 : decode cX10_readRule 107 = .ok (.iconst 0, 1) := dAt wdX10_readRule_95 adX10_readRule_95.2.2.2.2.2.2.2.1 rfl
theorem dX10_readRule_108 : decode cX10_readRule 108 = .ok (.sipush 999, 3) := dAt wdX10_readRule_95 adX10_readRule_95.2.2.2.2.2.2.2.2.1 rfl
theorem dX10_readRule_111 : decode cX10_readRule 111 = .ok (.invokevirtual 68, 3) := dAt wdX10_readRule_95 adX10_readRule_95.2.2.2.2.2.2.2.2.2.1 rfl
theorem dX10_readRule_114 : decode cX10_readRule 114 = .ok (.ifCond .eq 24, 3) := dAt wdX10_readRule_95 adX10_readRule_95.2.2.2.2.2.2.2.2.2.2.1 rfl
theorem dX10_readRule_117 : decode cX10_readRule 117 = .ok (.aload_n 0, 1) := dAt wdX10_readRule_95 adX10_readRule_95.2.2.2.2.2.2.2.2.2.2.2.1 rfl
theorem dX10_readRule_118 : decode cX10_readRule 118 = .ok (.ldc 72, 2) := dAt wdX10_readRule_95 adX10_readRule_95.2.2.2.2.2.2.2.2.2.2.2.2.1 rfl
theorem dX10_readRule_120 : decode cX10_readRule 120 = .ok (.invokevirtual 64, 3) := dAt wdX10_readRule_95 adX10_readRule_95.2.2.2.2.2.2.2.2.2.2.2.2.2.1 rfl
theorem dX10_readRule_123 : decode cX10_readRule 123 = .ok (.ifCond .eq 11, 3) := dAt wdX10_readRule_95 adX10_readRule_95.2.2.2.2.2.2.2.2.2.2.2.2.2.2.1 rfl
theorem dX10_readRule_126 : decode cX10_readRule 126 = .ok (.aload_n 0, 1) := dAt wdX10_readRule_95 adX10_readRule_95.2.2.2.2.2.2.2.2.2.2.2.2.2.2.2 rfl
def bdX10_readRule_127 : ByteArray := .mk #[3, 182, 0, 74, 153, 0, 7, 4, 167, 0, 4, 3, 172, 42, 18, 88, 182, 0, 64, 153, 0, 35, 42, 180, 0, 28, 8, 3, 3]
theorem wdX10_readRule_127 : LocW cX10_readRule 127 bdX10_readRule_127 := loc_of (by decide +kernel)
theorem adX10_readRule_127 : De bdX10_readRule_127 0 (.iconst 0) 1 ∧ De bdX10_readRule_127 1 (.invokevirtual 74) 3 ∧ De bdX10_readRule_127 4 (.ifCond .eq 7) 3 ∧ De bdX10_readRule_127 7 (.iconst 1) 1 ∧ De bdX10_readRule_127 8 (.goto 4) 3 ∧ De bdX10_readRule_127 11 (.iconst 0) 1 ∧ De bdX10_readRule_127 12 (.ireturn) 1 ∧ De bdX10_readRule_127 13 (.aload_n 0) 1 ∧ De bdX10_readRule_127 14 (.ldc 88) 2 ∧ De bdX10_readRule_127 16 (.invokevirtual 64) 3 ∧ De bdX10_readRule_127 19 (.ifCond .eq 35) 3 ∧ De bdX10_readRule_127 22 (.aload_n 0) 1 ∧ De bdX10_readRule_127 23 (.getfield 28) 3 ∧ De bdX10_readRule_127 26 (.iconst 5) 1 ∧ De bdX10_readRule_127 27 (.iconst 0) 1 ∧ De bdX10_readRule_127 28 (.iconst 0) 1 := by decide +kernel
theorem dX10_readRule_127 : decode cX10_readRule 127 = .ok (.iconst 0, 1) := dAt wdX10_readRule_127 adX10_readRule_127.1 rfl
theorem dX10_readRule_128 : decode cX10_readRule 128 = .ok (.invokevirtual 74, 3) := dAt wdX10_readRule_127 adX10_readRule_127.2.1 rfl
theorem dX10_readRule_131 : decode cX10_readRule 131 = .ok (.ifCond .eq 7, 3) := dAt wdX10_readRule_127 adX10_readRule_127.2.2.1 rfl
theorem dX10_readRule_134 : decode cX10_readRule 134 = .ok (.iconst 1, 1) := dAt wdX10_readRule_127 adX10_readRule_127.2.2.2.1 rfl
theorem dX10_readRule_135 : decode cX10_readRule 135 = .ok (.goto 4, 3) := dAt wdX10_readRule_127 adX10_readRule_127.2.2.2.2.1 rfl
theorem dX10_readRule_138 : decode cX10_readRule 138 = .ok (.iconst 0, 1) := dAt wdX10_readRule_127 adX10_readRule_127.2.2.2.2.2.1 rfl
theorem dX10_readRule_139 : decode cX10_readRule 139 = .ok (.ireturn, 1) := dAt wdX10_readRule_127 adX10_readRule_127.2.2.2.2.2.2.1 rfl
theorem dX10_readRule_140 : decode cX10_readRule 140 = .ok (.aload_n 0, 1) := dAt wdX10_readRule_127 adX10_readRule_127.2.2.2.2.2.2.2.1 rfl
theorem dX10_readRule_141 : decode cX10_readRule 141 = .ok (.ldc 88, 2) := dAt wdX10_readRule_127 adX10_readRule_127.2.2.2.2.2.2.2.2.1 rfl
theorem dX10_readRule_143 : decode cX10_readRule 143 = .ok (.invokevirtual 64, 3) := dAt wdX10_readRule_127 adX10_readRule_127.2.2.2.2.2.2.2.2.2.1 rfl
theorem dX10_readRule_146 : decode cX10_readRule 146 = .ok (.ifCond .eq 35, 3) := dAt wdX10_readRule_127 adX10_readRule_127.2.2.2.2.2.2.2.2.2.2.1 rfl
theorem dX10_readRule_149 : decode cX10_readRule 149 = .ok (.aload_n 0, 1) := dAt wdX10_readRule_127 adX10_readRule_127.2.2.2.2.2.2.2.2.2.2.2.1 rfl
theorem dX10_readRule_150 : decode cX10_readRule 150 = .ok (.getfield 28, 3) := dAt wdX10_readRule_127 adX10_readRule_127.2.2.2.2.2.2.2.2.2.2.2.2.1 rfl
theorem dX10_readRule_153 : decode cX10_readRule 153 = .ok (.iconst 5, 1) := dAt wdX10_readRule_127 adX10_readRule_127.2.2.2.2.2.2.2.2.2.2.2.2.2.1 rfl
theorem dX10_readRule_154 : decode cX10_readRule 154 = .ok (.iconst 0, 1) := dAt wdX10_readRule_127 adX10_readRule_127.2.2.2.2.2.2.2.2.2.2.2.2.2.2.1 rfl
theorem dX10_readRule_155 : decode cX10_readRule 155 = .ok (.iconst 0, 1) := dAt wdX10_readRule_127 adX10_readRule_127.2.2.2.2.2.2.2.2.2.2.2.2.2.2.2 rfl
def bdX10_readRule_156 : ByteArray := .mk #[182, 0, 90, 42, 18, 72, 182, 0, 64, 153, 0, 11, 42, 3, 182, 0, 74, 167, 0, 7, 42, 182, 0, 59, 172, 42, 18, 94, 182, 0, 64, 153, 0, 10]
theorem wdX10_readRule_156 : LocW cX10_readRule 156 bdX10_readRule_156 := loc_of (by decide +kernel)
theorem adX10_readRule_156 : De bdX10_readRule_156 0 (.invokevirtual 90) 3 ∧ De bdX10_readRule_156 3 (.aload_n 0) 1 ∧ De bdX10_readRule_156 4 (.ldc 72) 2 ∧ De bdX10_readRule_156 6 (.invokevirtual 64) 3 ∧ De bdX10_readRule_156 9 (.ifCond .eq 11) 3 ∧ De bdX10_readRule_156 12 (.aload_n 0) 1 ∧ De bdX10_readRule_156 13 (.iconst 0) 1 ∧ De bdX10_readRule_156 14 (.invokevirtual 74) 3 ∧ De bdX10_readRule_156 17 (.goto 7) 3 ∧ De bdX10_readRule_156 20 (.aload_n 0) 1 ∧ De bdX10_readRule_156 21 (.invokevirtual 59) 3 ∧ De bdX10_readRule_156 24 (.ireturn) 1 ∧ De bdX10_readRule_156 25 (.aload_n 0) 1 ∧ De bdX10_readRule_156 26 (.ldc 94) 2 ∧ De bdX10_readRule_156 28 (.invokevirtual 64) 3 ∧ De bdX10_readRule_156 31 (.ifCond .eq 10) 3 := by decide +kernel
theorem dX10_readRule_156 : decode cX10_readRule 156 = .ok (.invokevirtual 90, 3) := dAt wdX10_readRule_156 adX10_readRule_156.1 rfl
theorem dX10_readRule_159 : decode cX10_readRule 159 = .ok (.aload_n 0, 1) := dAt wdX10_readRule_156 adX10_readRule_156.2.1 rfl
theorem dX10_readRule_160 : decode cX10_readRule 160 = .ok (.ldc 72, 2) := dAt wdX10_readRule_156 adX10_readRule_156.2.2.1 rfl
theorem dX10_readRule_162 : decode cX10_readRule 162 = .ok (.invokevirtual 64, 3) := dAt wdX10_readRule_156 adX10_readRule_156.2.2.2.1 rfl
theorem dX10_readRule_165 : decode cX10_readRule 165 = .ok (.ifCond .eq 11, 3) := dAt wdX10_readRule_156 adX10_readRule_156.2.2.2.2.1 rfl
theorem dX10_readRule_168 : decode cX10_readRule 168 = .ok (.aload_n 0, 1) := dAt wdX10_readRule_156 adX10_readRule_156.2.2.2.2.2.1 rfl
theorem dX10_readRule_169 : decode cX10_readRule 169 = .ok (.iconst 0, 1) := dAt wdX10_readRule_156 adX10_readRule_156.2.2.2.2.2.2.1 rfl
theorem dX10_readRule_170 : decode cX10_readRule 170 = .ok (.invokevirtual 74, 3) := dAt wdX10_readRule_156 adX10_readRule_156.2.2.2.2.2.2.2.1 rfl
theorem dX10_readRule_173 : decode cX10_readRule 173 = .ok (.goto 7, 3) := dAt wdX10_readRule_156 adX10_readRule_156.2.2.2.2.2.2.2.2.1 rfl
theorem dX10_readRule_176 : decode cX10_readRule 176 = .ok (.aload_n 0, 1) := dAt wdX10_readRule_156 adX10_readRule_156.2.2.2.2.2.2.2.2.2.1 rfl
theorem dX10_readRule_177 : decode cX10_readRule 177 = .ok (.invokevirtual 59, 3) := dAt wdX10_readRule_156 adX10_readRule_156.2.2.2.2.2.2.2.2.2.2.1 rfl
theorem dX10_readRule_180 : decode cX10_readRule 180 = .ok (.ireturn, 1) := dAt wdX10_readRule_156 adX10_readRule_156.2.2.2.2.2.2.2.2.2.2.2.1 rfl
theorem dX10_readRule_181 : decode cX10_readRule 181 = .ok (.aload_n 0, 1) := dAt wdX10_readRule_156 adX10_readRule_156.2.2.2.2.2.2.2.2.2.2.2.2.1 rfl
theorem dX10_readRule_182 : decode cX10_readRule 182 = .ok (.ldc 94, 2) := dAt wdX10_readRule_156 adX10_readRule_156.2.2.2.2.2.2.2.2.2.2.2.2.2.1 rfl
theorem dX10_readRule_184 : decode cX10_readRule 184 = .ok (.invokevirtual 64, 3) := dAt wdX10_readRule_156 adX10_readRule_156.2.2.2.2.2.2.2.2.2.2.2.2.2.2.1 rfl
theorem dX10_readRule_187 : decode cX10_readRule 187 = .ok (.ifCond .eq 10, 3) := dAt wdX10_readRule_156 adX10_readRule_156.2.2.2.2.2.2.2.2.2.2.2.2.2.2.2 rfl
def bdX10_readRule_190 : ByteArray := .mk #[42, 182, 0, 96, 167, 0, 7, 42, 182, 0, 59, 172]
theorem wdX10_readRule_190 : LocW cX10_readRule 190 bdX10_readRule_190 := loc_of (by decide +kernel)
theorem adX10_readRule_190 : De bdX10_readRule_190 0 (.aload_n 0) 1 ∧ De bdX10_readRule_190 1 (.invokevirtual 96) 3 ∧ De bdX10_readRule_190 4 (.goto 7) 3 ∧ De bdX10_readRule_190 7 (.aload_n 0) 1 ∧ De bdX10_readRule_190 8 (.invokevirtual 59) 3 ∧ De bdX10_readRule_190 11 (.ireturn) 1 := by decide +kernel
theorem dX10_readRule_190 : decode cX10_readRule 190 = .ok (.aload_n 0, 1) := dAt wdX10_readRule_190 adX10_readRule_190.1 rfl
theorem dX10_readRule_191 : decode cX10_readRule 191 = .ok (.invokevirtual 96, 3) := dAt wdX10_readRule_190 adX10_readRule_190.2.1 rfl
theorem dX10_readRule_194 : decode cX10_readRule 194 = .ok (.goto 7, 3) := dAt wdX10_readRule_190 adX10_readRule_190.2.2.1 rfl
theorem dX10_readRule_197 : decode cX10_readRule 197 = .ok (.aload_n 0, 1) := dAt wdX10_readRule_190 adX10_readRule_190.2.2.2.1 rfl
theorem dX10_readRule_198 : decode cX10_readRule 198 = .ok (.invokevirtual 59, 3) := dAt wdX10_readRule_190 adX10_readRule_190.2.2.2.2.1 rfl
theorem dX10_readRule_201 : decode cX10_readRule 201 = .ok (.ireturn, 1) := dAt wdX10_readRule_190 adX10_readRule_190.2.2.2.2.2 rfl
def bdX10_readNumbered_0 : ByteArray := .mk #[42, 28, 29, 182, 0, 99, 54, 4, 42, 180, 0, 28, 27, 21, 4, 3, 182, 0, 90, 21, 4, 2, 159, 0, 7, 4, 167, 0, 4]
theorem wdX10_readNumbered_0 : LocW cX10_readNumbered 0 bdX10_readNumbered_0 := loc_of (by decide +kernel)
theorem adX10_readNumbered_0 : De bdX10_readNumbered_0 0 (.aload_n 0) 1 ∧ De bdX10_readNumbered_0 1 (.iload_n 2) 1 ∧ De bdX10_readNumbered_0 2 (.iload_n 3) 1 ∧ De bdX10_readNumbered_0 3 (.invokevirtual 99) 3 ∧ De bdX10_readNumbered_0 6 (.istore 4) 2 ∧ De bdX10_readNumbered_0 8 (.aload_n 0) 1 ∧ De bdX10_readNumbered_0 9 (.getfield 28) 3 ∧ De bdX10_readNumbered_0 12 (.iload_n 1) 1 ∧ De bdX10_readNumbered_0 13 (.iload 4) 2 ∧ De bdX10_readNumbered_0 15 (.iconst 0) 1 ∧ De bdX10_readNumbered_0 16 (.invokevirtual 90) 3 ∧ De bdX10_readNumbered_0 19 (.iload 4) 2 ∧ De bdX10_readNumbered_0 21 (.iconst (-1)) 1 ∧ De bdX10_readNumbered_0 22 (.if_icmp .eq 7) 3 ∧ De bdX10_readNumbered_0 25 (.iconst 1) 1 ∧ De bdX10_readNumbered_0 26 (.goto 4) 3 := by decide +kernel
theorem dX10_readNumbered_0 : decode cX10_readNumbered 0 = .ok (.aload_n 0, 1) := dAt wdX10_readNumbered_0 adX10_readNumbered_0.1 rfl
theorem dX10_readNumbered_1 : decode cX10_readNumbered 1 = .ok (.iload_n 2, 1) := dAt wdX10_readNumbered_0 adX10_readNumbered_0.2.1 rfl
theorem dX10_readNumbered_2 : decode cX10_readNumbered 2 = .ok (.iload_n 3, 1) := dAt wdX10_readNumbered_0 adX10_readNumbered_0.2.2.1 rfl
theorem dX10_readNumbered_3 : decode cX10_readNumbered 3 = .ok (.invokevirtual 99, 3) := dAt wdX10_readNumbered_0 adX10_readNumbered_0.2.2.2.1 rfl
theorem dX10_readNumbered_6 : decode cX10_readNumbered 6 = .ok (.istore 4, 2) := dAt wdX10_readNumbered_0 adX10_readNumbered_0.2.2.2.2.1 rfl
theorem dX10_readNumbered_8 : decode cX10_readNumbered 8 = .ok (.aload_n 0, 1) := dAt wdX10_readNumbered_0 adX10_readNumbered_0.2.2.2.2.2.1 rfl
theorem dX10_readNumbered_9 : decode cX10_readNumbered 9 = .ok (.getfield 28, 3) := dAt wdX10_readNumbered_0 adX10_readNumbered_0.2.2.2.2.2.2.1 rfl
theorem dX10_readNumbered_12 : decode cX10_readNumbered 12 = .ok (.iload_n 1, 1) := dAt wdX10_readNumbered_0 adX10_readNumbered_0.2.2.2.2.2.2.2.1 rfl
theorem dX10_readNumbered_13 : decode cX10_readNumbered 13 = .ok (.iload 4, 2) := dAt wdX10_readNumbered_0 adX10_readNumbered_0.2.2.2.2.2.2.2.2.1 rfl
theorem dX10_readNumbered_15 : decode cX10_readNumbered 15 = .ok (.iconst 0, 1) := dAt wdX10_readNumbered_0 adX10_readNumbered_0.2.2.2.2.2.2.2.2.2.1 rfl
theorem dX10_readNumbered_16 : decode cX10_readNumbered 16 = .ok (.invokevirtual 90, 3) := dAt wdX10_readNumbered_0 adX10_readNumbered_0.2.2.2.2.2.2.2.2.2.2.1 rfl
theorem dX10_readNumbered_19 : decode cX10_readNumbered 19 = .ok (.iload 4, 2) := dAt wdX10_readNumbered_0 adX10_readNumbered_0.2.2.2.2.2.2.2.2.2.2.2.1 rfl
theorem dX10_readNumbered_21 : decode cX10_readNumbered 21 = .ok (.iconst (-1), 1) := dAt wdX10_readNumbered_0 adX10_readNumbered_0.2.2.2.2.2.2.2.2.2.2.2.2.1 rfl
theorem dX10_readNumbered_22 : decode cX10_readNumbered 22 = .ok (.if_icmp .eq 7, 3) := dAt wdX10_readNumbered_0 adX10_readNumbered_0.2.2.2.2.2.2.2.2.2.2.2.2.2.1 rfl
theorem dX10_readNumbered_25 : decode cX10_readNumbered 25 = .ok (.iconst 1, 1) := dAt wdX10_readNumbered_0 adX10_readNumbered_0.2.2.2.2.2.2.2.2.2.2.2.2.2.2.1 rfl
theorem dX10_readNumbered_26 : decode cX10_readNumbered 26 = .ok (.goto 4, 3) := dAt wdX10_readNumbered_0 adX10_readNumbered_0.2.2.2.2.2.2.2.2.2.2.2.2.2.2.2 rfl
def bdX10_readNumbered_29 : ByteArray := .mk #[3, 172]
theorem wdX10_readNumbered_29 : LocW cX10_readNumbered 29 bdX10_readNumbered_29 := loc_of (by decide +kernel)
theorem adX10_readNumbered_29 : De bdX10_readNumbered_29 0 (.iconst 0) 1 ∧ De bdX10_readNumbered_29 1 (.ireturn) 1 := by decide +kernel
theorem dX10_readNumbered_29 : decode cX10_readNumbered 29 = .ok (.iconst 0, 1) := dAt wdX10_readNumbered_29 adX10_readNumbered_29.1 rfl
theorem dX10_readNumbered_30 : decode cX10_readNumbered 30 = .ok (.ireturn, 1) := dAt wdX10_readNumbered_29 adX10_readNumbered_29.2 rfl
def bdX10_readSpace_0 : ByteArray := .mk #[42, 4, 16, 40, 182, 0, 99, 60, 27, 2, 160, 0, 5, 3, 172, 42, 27, 16, 40, 182, 0, 99, 61, 42]
theorem wdX10_readSpace_0 : LocW cX10_readSpace 0 bdX10_readSpace_0 := loc_of (by decide +kernel)
theorem adX10_readSpace_0 : De bdX10_readSpace_0 0 (.aload_n 0) 1 ∧ De bdX10_readSpace_0 1 (.iconst 1) 1 ∧ De bdX10_readSpace_0 2 (.bipush 40) 2 ∧ De bdX10_readSpace_0 4 (.invokevirtual 99) 3 ∧ De bdX10_readSpace_0 7 (.istore_n 1) 1 ∧ De bdX10_readSpace_0 8 (.iload_n 1) 1 ∧ De bdX10_readSpace_0 9 (.iconst (-1)) 1 ∧ De bdX10_readSpace_0 10 (.if_icmp .ne 5) 3 ∧ De bdX10_readSpace_0 13 (.iconst 0) 1 ∧ De bdX10_readSpace_0 14 (.ireturn) 1 ∧ De bdX10_readSpace_0 15 (.aload_n 0) 1 ∧ De bdX10_readSpace_0 16 (.iload_n 1) 1 ∧ De bdX10_readSpace_0 17 (.bipush 40) 2 ∧ De bdX10_readSpace_0 19 (.invokevirtual 99) 3 ∧ De bdX10_readSpace_0 22 (.istore_n 2) 1 ∧ De bdX10_readSpace_0 23 (.aload_n 0) 1 := by decide +kernel
theorem dX10_readSpace_0 : decode cX10_readSpace 0 = .ok (.aload_n 0, 1) := dAt wdX10_readSpace_0 adX10_readSpace_0.1 rfl
theorem dX10_readSpace_1 : decode cX10_readSpace 1 = .ok (.iconst 1, 1) := dAt wdX10_readSpace_0 adX10_readSpace_0.2.1 rfl
theorem dX10_readSpace_2 : decode cX10_readSpace 2 = .ok (.bipush 40, 2) := dAt wdX10_readSpace_0 adX10_readSpace_0.2.2.1 rfl
theorem dX10_readSpace_4 : decode cX10_readSpace 4 = .ok (.invokevirtual 99, 3) := dAt wdX10_readSpace_0 adX10_readSpace_0.2.2.2.1 rfl
theorem dX10_readSpace_7 : decode cX10_readSpace 7 = .ok (.istore_n 1, 1) := dAt wdX10_readSpace_0 adX10_readSpace_0.2.2.2.2.1 rfl
theorem dX10_readSpace_8 : decode cX10_readSpace 8 = .ok (.iload_n 1, 1) := dAt wdX10_readSpace_0 adX10_readSpace_0.2.2.2.2.2.1 rfl
theorem dX10_readSpace_9 : decode cX10_readSpace 9 = .ok (.iconst (-1), 1) := dAt wdX10_readSpace_0 adX10_readSpace_0.2.2.2.2.2.2.1 rfl
theorem dX10_readSpace_10 : decode cX10_readSpace 10 = .ok (.if_icmp .ne 5, 3) := dAt wdX10_readSpace_0 adX10_readSpace_0.2.2.2.2.2.2.2.1 rfl
theorem dX10_readSpace_13 : decode cX10_readSpace 13 = .ok (.iconst 0, 1) := dAt wdX10_readSpace_0 adX10_readSpace_0.2.2.2.2.2.2.2.2.1 rfl
theorem dX10_readSpace_14 : decode cX10_readSpace 14 = .ok (.ireturn, 1) := dAt wdX10_readSpace_0 adX10_readSpace_0.2.2.2.2.2.2.2.2.2.1 rfl
theorem dX10_readSpace_15 : decode cX10_readSpace 15 = .ok (.aload_n 0, 1) := dAt wdX10_readSpace_0 adX10_readSpace_0.2.2.2.2.2.2.2.2.2.2.1 rfl
theorem dX10_readSpace_16 : decode cX10_readSpace 16 = .ok (.iload_n 1, 1) := dAt wdX10_readSpace_0 adX10_readSpace_0.2.2.2.2.2.2.2.2.2.2.2.1 rfl
theorem dX10_readSpace_17 : decode cX10_readSpace 17 = .ok (.bipush 40, 2) := dAt wdX10_readSpace_0 adX10_readSpace_0.2.2.2.2.2.2.2.2.2.2.2.2.1 rfl
theorem dX10_readSpace_19 : decode cX10_readSpace 19 = .ok (.invokevirtual 99, 3) := dAt wdX10_readSpace_0 adX10_readSpace_0.2.2.2.2.2.2.2.2.2.2.2.2.2.1 rfl
theorem dX10_readSpace_22 : decode cX10_readSpace 22 = .ok (.istore_n 2, 1) := dAt wdX10_readSpace_0 adX10_readSpace_0.2.2.2.2.2.2.2.2.2.2.2.2.2.2.1 rfl
theorem dX10_readSpace_23 : decode cX10_readSpace 23 = .ok (.aload_n 0, 1) := dAt wdX10_readSpace_0 adX10_readSpace_0.2.2.2.2.2.2.2.2.2.2.2.2.2.2.2 rfl
def bdX10_readSpace_24 : ByteArray := .mk #[180, 0, 28, 4, 27, 28, 182, 0, 90, 28, 2, 159, 0, 7, 4, 167, 0, 4, 3, 172]
theorem wdX10_readSpace_24 : LocW cX10_readSpace 24 bdX10_readSpace_24 := loc_of (by decide +kernel)
theorem adX10_readSpace_24 : De bdX10_readSpace_24 0 (.getfield 28) 3 ∧ De bdX10_readSpace_24 3 (.iconst 1) 1 ∧ De bdX10_readSpace_24 4 (.iload_n 1) 1 ∧ De bdX10_readSpace_24 5 (.iload_n 2) 1 ∧ De bdX10_readSpace_24 6 (.invokevirtual 90) 3 ∧ De bdX10_readSpace_24 9 (.iload_n 2) 1 ∧ De bdX10_readSpace_24 10 (.iconst (-1)) 1 ∧ De bdX10_readSpace_24 11 (.if_icmp .eq 7) 3 ∧ De bdX10_readSpace_24 14 (.iconst 1) 1 ∧ De bdX10_readSpace_24 15 (.goto 4) 3 ∧ De bdX10_readSpace_24 18 (.iconst 0) 1 ∧ De bdX10_readSpace_24 19 (.ireturn) 1 := by decide +kernel
theorem dX10_readSpace_24 : decode cX10_readSpace 24 = .ok (.getfield 28, 3) := dAt wdX10_readSpace_24 adX10_readSpace_24.1 rfl
theorem dX10_readSpace_27 : decode cX10_readSpace 27 = .ok (.iconst 1, 1) := dAt wdX10_readSpace_24 adX10_readSpace_24.2.1 rfl
theorem dX10_readSpace_28 : decode cX10_readSpace 28 = .ok (.iload_n 1, 1) := dAt wdX10_readSpace_24 adX10_readSpace_24.2.2.1 rfl
theorem dX10_readSpace_29 : decode cX10_readSpace 29 = .ok (.iload_n 2, 1) := dAt wdX10_readSpace_24 adX10_readSpace_24.2.2.2.1 rfl
theorem dX10_readSpace_30 : decode cX10_readSpace 30 = .ok (.invokevirtual 90, 3) := dAt wdX10_readSpace_24 adX10_readSpace_24.2.2.2.2.1 rfl
theorem dX10_readSpace_33 : decode cX10_readSpace 33 = .ok (.iload_n 2, 1) := dAt wdX10_readSpace_24 adX10_readSpace_24.2.2.2.2.2.1 rfl
theorem dX10_readSpace_34 : decode cX10_readSpace 34 = .ok (.iconst (-1), 1) := dAt wdX10_readSpace_24 adX10_readSpace_24.2.2.2.2.2.2.1 rfl
theorem dX10_readSpace_35 : decode cX10_readSpace 35 = .ok (.if_icmp .eq 7, 3) := dAt wdX10_readSpace_24 adX10_readSpace_24.2.2.2.2.2.2.2.1 rfl
theorem dX10_readSpace_38 : decode cX10_readSpace 38 = .ok (.iconst 1, 1) := dAt wdX10_readSpace_24 adX10_readSpace_24.2.2.2.2.2.2.2.2.1 rfl
theorem dX10_readSpace_39 : decode cX10_readSpace 39 = .ok (.goto 4, 3) := dAt wdX10_readSpace_24 adX10_readSpace_24.2.2.2.2.2.2.2.2.2.1 rfl
theorem dX10_readSpace_42 : decode cX10_readSpace 42 = .ok (.iconst 0, 1) := dAt wdX10_readSpace_24 adX10_readSpace_24.2.2.2.2.2.2.2.2.2.2.1 rfl
theorem dX10_readSpace_43 : decode cX10_readSpace 43 = .ok (.ireturn, 1) := dAt wdX10_readSpace_24 adX10_readSpace_24.2.2.2.2.2.2.2.2.2.2.2 rfl
def bdX10_readClose_0 : ByteArray := .mk #[42, 3, 8, 182, 0, 99, 60, 27, 2, 160, 0, 5, 3, 172, 42, 18, 102, 182, 0, 64, 154, 0, 8, 42, 182, 0, 59]
theorem wdX10_readClose_0 : LocW cX10_readClose 0 bdX10_readClose_0 := loc_of (by decide +kernel)
theorem adX10_readClose_0 : De bdX10_readClose_0 0 (.aload_n 0) 1 ∧ De bdX10_readClose_0 1 (.iconst 0) 1 ∧ De bdX10_readClose_0 2 (.iconst 5) 1 ∧ De bdX10_readClose_0 3 (.invokevirtual 99) 3 ∧ De bdX10_readClose_0 6 (.istore_n 1) 1 ∧ De bdX10_readClose_0 7 (.iload_n 1) 1 ∧ De bdX10_readClose_0 8 (.iconst (-1)) 1 ∧ De bdX10_readClose_0 9 (.if_icmp .ne 5) 3 ∧ De bdX10_readClose_0 12 (.iconst 0) 1 ∧ De bdX10_readClose_0 13 (.ireturn) 1 ∧ De bdX10_readClose_0 14 (.aload_n 0) 1 ∧ De bdX10_readClose_0 15 (.ldc 102) 2 ∧ De bdX10_readClose_0 17 (.invokevirtual 64) 3 ∧ De bdX10_readClose_0 20 (.ifCond .ne 8) 3 ∧ De bdX10_readClose_0 23 (.aload_n 0) 1 ∧ De bdX10_readClose_0 24 (.invokevirtual 59) 3 := by decide +kernel
theorem dX10_readClose_0 : decode cX10_readClose 0 = .ok (.aload_n 0, 1) := dAt wdX10_readClose_0 adX10_readClose_0.1 rfl
theorem dX10_readClose_1 : decode cX10_readClose 1 = .ok (.iconst 0, 1) := dAt wdX10_readClose_0 adX10_readClose_0.2.1 rfl
theorem dX10_readClose_2 : decode cX10_readClose 2 = .ok (.iconst 5, 1) := dAt wdX10_readClose_0 adX10_readClose_0.2.2.1 rfl
theorem dX10_readClose_3 : decode cX10_readClose 3 = .ok (.invokevirtual 99, 3) := dAt wdX10_readClose_0 adX10_readClose_0.2.2.2.1 rfl
theorem dX10_readClose_6 : decode cX10_readClose 6 = .ok (.istore_n 1, 1) := dAt wdX10_readClose_0 adX10_readClose_0.2.2.2.2.1 rfl
theorem dX10_readClose_7 : decode cX10_readClose 7 = .ok (.iload_n 1, 1) := dAt wdX10_readClose_0 adX10_readClose_0.2.2.2.2.2.1 rfl
theorem dX10_readClose_8 : decode cX10_readClose 8 = .ok (.iconst (-1), 1) := dAt wdX10_readClose_0 adX10_readClose_0.2.2.2.2.2.2.1 rfl
theorem dX10_readClose_9 : decode cX10_readClose 9 = .ok (.if_icmp .ne 5, 3) := dAt wdX10_readClose_0 adX10_readClose_0.2.2.2.2.2.2.2.1 rfl
theorem dX10_readClose_12 : decode cX10_readClose 12 = .ok (.iconst 0, 1) := dAt wdX10_readClose_0 adX10_readClose_0.2.2.2.2.2.2.2.2.1 rfl
theorem dX10_readClose_13 : decode cX10_readClose 13 = .ok (.ireturn, 1) := dAt wdX10_readClose_0 adX10_readClose_0.2.2.2.2.2.2.2.2.2.1 rfl
theorem dX10_readClose_14 : decode cX10_readClose 14 = .ok (.aload_n 0, 1) := dAt wdX10_readClose_0 adX10_readClose_0.2.2.2.2.2.2.2.2.2.2.1 rfl
theorem dX10_readClose_15 : decode cX10_readClose 15 = .ok (.ldc 102, 2) := dAt wdX10_readClose_0 adX10_readClose_0.2.2.2.2.2.2.2.2.2.2.2.1 rfl
theorem dX10_readClose_17 : decode cX10_readClose 17 = .ok (.invokevirtual 64, 3) := dAt wdX10_readClose_0 adX10_readClose_0.2.2.2.2.2.2.2.2.2.2.2.2.1 rfl
theorem dX10_readClose_20 : decode cX10_readClose 20 = .ok (.ifCond .ne 8, 3) := dAt wdX10_readClose_0 adX10_readClose_0.2.2.2.2.2.2.2.2.2.2.2.2.2.1 rfl
theorem dX10_readClose_23 : decode cX10_readClose 23 = .ok (.aload_n 0, 1) := dAt wdX10_readClose_0 adX10_readClose_0.2.2.2.2.2.2.2.2.2.2.2.2.2.2.1 rfl
theorem dX10_readClose_24 : decode cX10_readClose 24 = .ok (.invokevirtual 59, 3) := dAt wdX10_readClose_0 adX10_readClose_0.2.2.2.2.2.2.2.2.2.2.2.2.2.2.2 rfl
def bdX10_readClose_27 : ByteArray := .mk #[172, 42, 3, 17, 2, 88, 182, 0, 99, 61, 42, 180, 0, 28, 16, 6, 27, 28, 182, 0, 90, 28, 2, 159, 0, 7, 4]
theorem wdX10_readClose_27 : LocW cX10_readClose 27 bdX10_readClose_27 := loc_of (by decide +kernel)
theorem adX10_readClose_27 : De bdX10_readClose_27 0 (.ireturn) 1 ∧ De bdX10_readClose_27 1 (.aload_n 0) 1 ∧ De bdX10_readClose_27 2 (.iconst 0) 1 ∧ De bdX10_readClose_27 3 (.sipush 600) 3 ∧ De bdX10_readClose_27 6 (.invokevirtual 99) 3 ∧ De bdX10_readClose_27 9 (.istore_n 2) 1 ∧ De bdX10_readClose_27 10 (.aload_n 0) 1 ∧ De bdX10_readClose_27 11 (.getfield 28) 3 ∧ De bdX10_readClose_27 14 (.bipush 6) 2 ∧ De bdX10_readClose_27 16 (.iload_n 1) 1 ∧ De bdX10_readClose_27 17 (.iload_n 2) 1 ∧ De bdX10_readClose_27 18 (.invokevirtual 90) 3 ∧ De bdX10_readClose_27 21 (.iload_n 2) 1 ∧ De bdX10_readClose_27 22 (.iconst (-1)) 1 ∧ De bdX10_readClose_27 23 (.if_icmp .eq 7) 3 ∧ De bdX10_readClose_27 26 (.iconst 1) 1 := by decide +kernel
theorem dX10_readClose_27 : decode cX10_readClose 27 = .ok (.ireturn, 1) := dAt wdX10_readClose_27 adX10_readClose_27.1 rfl
theorem dX10_readClose_28 : decode cX10_readClose 28 = .ok (.aload_n 0, 1) := dAt wdX10_readClose_27 adX10_readClose_27.2.1 rfl
theorem dX10_readClose_29 : decode cX10_readClose 29 = .ok (.iconst 0, 1) := dAt wdX10_readClose_27 adX10_readClose_27.2.2.1 rfl
theorem dX10_readClose_30 : decode cX10_readClose 30 = .ok (.sipush 600, 3) := dAt wdX10_readClose_27 adX10_readClose_27.2.2.2.1 rfl
theorem dX10_readClose_33 : decode cX10_readClose 33 = .ok (.invokevirtual 99, 3) := dAt wdX10_readClose_27 adX10_readClose_27.2.2.2.2.1 rfl
theorem dX10_readClose_36 : decode cX10_readClose 36 = .ok (.istore_n 2, 1) := dAt wdX10_readClose_27 adX10_readClose_27.2.2.2.2.2.1 rfl
theorem dX10_readClose_37 : decode cX10_readClose 37 = .ok (.aload_n 0, 1) := dAt wdX10_readClose_27 adX10_readClose_27.2.2.2.2.2.2.1 rfl
theorem dX10_readClose_38 : decode cX10_readClose 38 = .ok (.getfield 28, 3) := dAt wdX10_readClose_27 adX10_readClose_27.2.2.2.2.2.2.2.1 rfl
theorem dX10_readClose_41 : decode cX10_readClose 41 = .ok (.bipush 6, 2) := dAt wdX10_readClose_27 adX10_readClose_27.2.2.2.2.2.2.2.2.1 rfl
theorem dX10_readClose_43 : decode cX10_readClose 43 = .ok (.iload_n 1, 1) := dAt wdX10_readClose_27 adX10_readClose_27.2.2.2.2.2.2.2.2.2.1 rfl
theorem dX10_readClose_44 : decode cX10_readClose 44 = .ok (.iload_n 2, 1) := dAt wdX10_readClose_27 adX10_readClose_27.2.2.2.2.2.2.2.2.2.2.1 rfl
theorem dX10_readClose_45 : decode cX10_readClose 45 = .ok (.invokevirtual 90, 3) := dAt wdX10_readClose_27 adX10_readClose_27.2.2.2.2.2.2.2.2.2.2.2.1 rfl
theorem dX10_readClose_48 : decode cX10_readClose 48 = .ok (.iload_n 2, 1) := dAt wdX10_readClose_27 adX10_readClose_27.2.2.2.2.2.2.2.2.2.2.2.2.1 rfl
theorem dX10_readClose_49 : decode cX10_readClose 49 = .ok (.iconst (-1), 1) := dAt wdX10_readClose_27 adX10_readClose_27.2.2.2.2.2.2.2.2.2.2.2.2.2.1 rfl
theorem dX10_readClose_50 : decode cX10_readClose 50 = .ok (.if_icmp .eq 7, 3) := dAt wdX10_readClose_27 adX10_readClose_27.2.2.2.2.2.2.2.2.2.2.2.2.2.2.1 rfl
theorem dX10_readClose_53 : decode cX10_readClose 53 = .ok (.iconst 1, 1) := dAt wdX10_readClose_27 adX10_readClose_27.2.2.2.2.2.2.2.2.2.2.2.2.2.2.2 rfl
def bdX10_readClose_54 : ByteArray := .mk #[167, 0, 4, 3, 172]
theorem wdX10_readClose_54 : LocW cX10_readClose 54 bdX10_readClose_54 := loc_of (by decide +kernel)
theorem adX10_readClose_54 : De bdX10_readClose_54 0 (.goto 4) 3 ∧ De bdX10_readClose_54 3 (.iconst 0) 1 ∧ De bdX10_readClose_54 4 (.ireturn) 1 := by decide +kernel
theorem dX10_readClose_54 : decode cX10_readClose 54 = .ok (.goto 4, 3) := dAt wdX10_readClose_54 adX10_readClose_54.1 rfl
theorem dX10_readClose_57 : decode cX10_readClose 57 = .ok (.iconst 0, 1) := dAt wdX10_readClose_54 adX10_readClose_54.2.1 rfl
theorem dX10_readClose_58 : decode cX10_readClose 58 = .ok (.ireturn, 1) := dAt wdX10_readClose_54 adX10_readClose_54.2.2 rfl
def bdX10_either_0 : ByteArray := .mk #[42, 27, 182, 0, 103, 154, 0, 5, 3, 172, 3, 61, 28, 42, 180, 0, 9, 162, 0, 38, 42, 18, 106, 182, 0, 64, 153, 0, 29]
theorem wdX10_either_0 : LocW cX10_either 0 bdX10_either_0 := loc_of (by decide +kernel)
theorem adX10_either_0 : De bdX10_either_0 0 (.aload_n 0) 1 ∧ De bdX10_either_0 1 (.iload_n 1) 1 ∧ De bdX10_either_0 2 (.invokevirtual 103) 3 ∧ De bdX10_either_0 5 (.ifCond .ne 5) 3 ∧ De bdX10_either_0 8 (.iconst 0) 1 ∧ De bdX10_either_0 9 (.ireturn) 1 ∧ De bdX10_either_0 10 (.iconst 0) 1 ∧ De bdX10_either_0 11 (.istore_n 2) 1 ∧ De bdX10_either_0 12 (.iload_n 2) 1 ∧ De bdX10_either_0 13 (.aload_n 0) 1 ∧ De bdX10_either_0 14 (.getfield 9) 3 ∧ De bdX10_either_0 17 (.if_icmp .ge 38) 3 ∧ De bdX10_either_0 20 (.aload_n 0) 1 ∧ De bdX10_either_0 21 (.ldc 106) 2 ∧ De bdX10_either_0 23 (.invokevirtual 64) 3 ∧ De bdX10_either_0 26 (.ifCond .eq 29) 3 := by decide +kernel
theorem dX10_either_0 : decode cX10_either 0 = .ok (.aload_n 0, 1) := dAt wdX10_either_0 adX10_either_0.1 rfl
theorem dX10_either_1 : decode cX10_either 1 = .ok (.iload_n 1, 1) := dAt wdX10_either_0 adX10_either_0.2.1 rfl
theorem dX10_either_2 : decode cX10_either 2 = .ok (.invokevirtual 103, 3) := dAt wdX10_either_0 adX10_either_0.2.2.1 rfl
theorem dX10_either_5 : decode cX10_either 5 = .ok (.ifCond .ne 5, 3) := dAt wdX10_either_0 adX10_either_0.2.2.2.1 rfl
theorem dX10_either_8 : decode cX10_either 8 = .ok (.iconst 0, 1) := dAt wdX10_either_0 adX10_either_0.2.2.2.2.1 rfl
theorem dX10_either_9 : decode cX10_either 9 = .ok (.ireturn, 1) := dAt wdX10_either_0 adX10_either_0.2.2.2.2.2.1 rfl
theorem dX10_either_10 : decode cX10_either 10 = .ok (.iconst 0, 1) := dAt wdX10_either_0 adX10_either_0.2.2.2.2.2.2.1 rfl
theorem dX10_either_11 : decode cX10_either 11 = .ok (.istore_n 2, 1) := dAt wdX10_either_0 adX10_either_0.2.2.2.2.2.2.2.1 rfl
theorem dX10_either_12 : decode cX10_either 12 = .ok (.iload_n 2, 1) := dAt wdX10_either_0 adX10_either_0.2.2.2.2.2.2.2.2.1 rfl
theorem dX10_either_13 : decode cX10_either 13 = .ok (.aload_n 0, 1) := dAt wdX10_either_0 adX10_either_0.2.2.2.2.2.2.2.2.2.1 rfl
theorem dX10_either_14 : decode cX10_either 14 = .ok (.getfield 9, 3) := dAt wdX10_either_0 adX10_either_0.2.2.2.2.2.2.2.2.2.2.1 rfl
theorem dX10_either_17 : decode cX10_either 17 = .ok (.if_icmp .ge 38, 3) := dAt wdX10_either_0 adX10_either_0.2.2.2.2.2.2.2.2.2.2.2.1 rfl
theorem dX10_either_20 : decode cX10_either 20 = .ok (.aload_n 0, 1) := dAt wdX10_either_0 adX10_either_0.2.2.2.2.2.2.2.2.2.2.2.2.1 rfl
theorem dX10_either_21 : decode cX10_either 21 = .ok (.ldc 106, 2) := dAt wdX10_either_0 adX10_either_0.2.2.2.2.2.2.2.2.2.2.2.2.2.1 rfl
theorem dX10_either_23 : decode cX10_either 23 = .ok (.invokevirtual 64, 3) := dAt wdX10_either_0 adX10_either_0.2.2.2.2.2.2.2.2.2.2.2.2.2.2.1 rfl
theorem dX10_either_26 : decode cX10_either 26 = .ok (.ifCond .eq 29, 3) := dAt wdX10_either_0 adX10_either_0.2.2.2.2.2.2.2.2.2.2.2.2.2.2.2 rfl
def bdX10_either_29 : ByteArray := .mk #[42, 27, 182, 0, 103, 154, 0, 5, 3, 172, 42, 180, 0, 28, 16, 28, 3, 182, 0, 108, 132, 2, 1, 167, 255, 216, 4, 172]
theorem wdX10_either_29 : LocW cX10_either 29 bdX10_either_29 := loc_of (by decide +kernel)
theorem adX10_either_29 : De bdX10_either_29 0 (.aload_n 0) 1 ∧ De bdX10_either_29 1 (.iload_n 1) 1 ∧ De bdX10_either_29 2 (.invokevirtual 103) 3 ∧ De bdX10_either_29 5 (.ifCond .ne 5) 3 ∧ De bdX10_either_29 8 (.iconst 0) 1 ∧ De bdX10_either_29 9 (.ireturn) 1 ∧ De bdX10_either_29 10 (.aload_n 0) 1 ∧ De bdX10_either_29 11 (.getfield 28) 3 ∧ De bdX10_either_29 14 (.bipush 28) 2 ∧ De bdX10_either_29 16 (.iconst 0) 1 ∧ De bdX10_either_29 17 (.invokevirtual 108) 3 ∧ De bdX10_either_29 20 (.iinc 2 1) 3 ∧ De bdX10_either_29 23 (.goto (-40)) 3 ∧ De bdX10_either_29 26 (.iconst 1) 1 ∧ De bdX10_either_29 27 (.ireturn) 1 := by decide +kernel
theorem dX10_either_29 : decode cX10_either 29 = .ok (.aload_n 0, 1) := dAt wdX10_either_29 adX10_either_29.1 rfl
theorem dX10_either_30 : decode cX10_either 30 = .ok (.iload_n 1, 1) := dAt wdX10_either_29 adX10_either_29.2.1 rfl
theorem dX10_either_31 : decode cX10_either 31 = .ok (.invokevirtual 103, 3) := dAt wdX10_either_29 adX10_either_29.2.2.1 rfl
theorem dX10_either_34 : decode cX10_either 34 = .ok (.ifCond .ne 5, 3) := dAt wdX10_either_29 adX10_either_29.2.2.2.1 rfl
theorem dX10_either_37 : decode cX10_either 37 = .ok (.iconst 0, 1) := dAt wdX10_either_29 adX10_either_29.2.2.2.2.1 rfl
theorem dX10_either_38 : decode cX10_either 38 = .ok (.ireturn, 1) := dAt wdX10_either_29 adX10_either_29.2.2.2.2.2.1 rfl
theorem dX10_either_39 : decode cX10_either 39 = .ok (.aload_n 0, 1) := dAt wdX10_either_29 adX10_either_29.2.2.2.2.2.2.1 rfl
theorem dX10_either_40 : decode cX10_either 40 = .ok (.getfield 28, 3) := dAt wdX10_either_29 adX10_either_29.2.2.2.2.2.2.2.1 rfl
theorem dX10_either_43 : decode cX10_either 43 = .ok (.bipush 28, 2) := dAt wdX10_either_29 adX10_either_29.2.2.2.2.2.2.2.2.1 rfl
theorem dX10_either_45 : decode cX10_either 45 = .ok (.iconst 0, 1) := dAt wdX10_either_29 adX10_either_29.2.2.2.2.2.2.2.2.2.1 rfl
theorem dX10_either_46 : decode cX10_either 46 = .ok (.invokevirtual 108, 3) := dAt wdX10_either_29 adX10_either_29.2.2.2.2.2.2.2.2.2.2.1 rfl
theorem dX10_either_49 : decode cX10_either 49 = .ok (.iinc 2 1, 3) := dAt wdX10_either_29 adX10_either_29.2.2.2.2.2.2.2.2.2.2.2.1 rfl
theorem dX10_either_52 : decode cX10_either 52 = .ok (.goto (-40), 3) := dAt wdX10_either_29 adX10_either_29.2.2.2.2.2.2.2.2.2.2.2.2.1 rfl
theorem dX10_either_55 : decode cX10_either 55 = .ok (.iconst 1, 1) := dAt wdX10_either_29 adX10_either_29.2.2.2.2.2.2.2.2.2.2.2.2.2.1 rfl
theorem dX10_either_56 : decode cX10_either 56 = .ok (.ireturn, 1) := dAt wdX10_either_29 adX10_either_29.2.2.2.2.2.2.2.2.2.2.2.2.2.2 rfl
def bdX10_every_0 : ByteArray := .mk #[42, 27, 182, 0, 112, 154, 0, 5, 3, 172, 3, 61, 28, 42, 180, 0, 9, 162, 0, 38, 42, 18, 115, 182, 0, 64, 153, 0, 29]
theorem wdX10_every_0 : LocW cX10_every 0 bdX10_every_0 := loc_of (by decide +kernel)
theorem adX10_every_0 : De bdX10_every_0 0 (.aload_n 0) 1 ∧ De bdX10_every_0 1 (.iload_n 1) 1 ∧ De bdX10_every_0 2 (.invokevirtual 112) 3 ∧ De bdX10_every_0 5 (.ifCond .ne 5) 3 ∧ De bdX10_every_0 8 (.iconst 0) 1 ∧ De bdX10_every_0 9 (.ireturn) 1 ∧ De bdX10_every_0 10 (.iconst 0) 1 ∧ De bdX10_every_0 11 (.istore_n 2) 1 ∧ De bdX10_every_0 12 (.iload_n 2) 1 ∧ De bdX10_every_0 13 (.aload_n 0) 1 ∧ De bdX10_every_0 14 (.getfield 9) 3 ∧ De bdX10_every_0 17 (.if_icmp .ge 38) 3 ∧ De bdX10_every_0 20 (.aload_n 0) 1 ∧ De bdX10_every_0 21 (.ldc 115) 2 ∧ De bdX10_every_0 23 (.invokevirtual 64) 3 ∧ De bdX10_every_0 26 (.ifCond .eq 29) 3 := by decide +kernel
theorem dX10_every_0 : decode cX10_every 0 = .ok (.aload_n 0, 1) := dAt wdX10_every_0 adX10_every_0.1 rfl
theorem dX10_every_1 : decode cX10_every 1 = .ok (.iload_n 1, 1) := dAt wdX10_every_0 adX10_every_0.2.1 rfl
theorem dX10_every_2 : decode cX10_every 2 = .ok (.invokevirtual 112, 3) := dAt wdX10_every_0 adX10_every_0.2.2.1 rfl
theorem dX10_every_5 : decode cX10_every 5 = .ok (.ifCond .ne 5, 3) := dAt wdX10_every_0 adX10_every_0.2.2.2.1 rfl
theorem dX10_every_8 : decode cX10_every 8 = .ok (.iconst 0, 1) := dAt wdX10_every_0 adX10_every_0.2.2.2.2.1 rfl
theorem dX10_every_9 : decode cX10_every 9 = .ok (.ireturn, 1) := dAt wdX10_every_0 adX10_every_0.2.2.2.2.2.1 rfl
theorem dX10_every_10 : decode cX10_every 10 = .ok (.iconst 0, 1) := dAt wdX10_every_0 adX10_every_0.2.2.2.2.2.2.1 rfl
theorem dX10_every_11 : decode cX10_every 11 = .ok (.istore_n 2, 1) := dAt wdX10_every_0 adX10_every_0.2.2.2.2.2.2.2.1 rfl
theorem dX10_every_12 : decode cX10_every 12 = .ok (.iload_n 2, 1) := dAt wdX10_every_0 adX10_every_0.2.2.2.2.2.2.2.2.1 rfl
theorem dX10_every_13 : decode cX10_every 13 = .ok (.aload_n 0, 1) := dAt wdX10_every_0 adX10_every_0.2.2.2.2.2.2.2.2.2.1 rfl
theorem dX10_every_14 : decode cX10_every 14 = .ok (.getfield 9, 3) := dAt wdX10_every_0 adX10_every_0.2.2.2.2.2.2.2.2.2.2.1 rfl
theorem dX10_every_17 : decode cX10_every 17 = .ok (.if_icmp .ge 38, 3) := dAt wdX10_every_0 adX10_every_0.2.2.2.2.2.2.2.2.2.2.2.1 rfl
theorem dX10_every_20 : decode cX10_every 20 = .ok (.aload_n 0, 1) := dAt wdX10_every_0 adX10_every_0.2.2.2.2.2.2.2.2.2.2.2.2.1 rfl
theorem dX10_every_21 : decode cX10_every 21 = .ok (.ldc 115, 2) := dAt wdX10_every_0 adX10_every_0.2.2.2.2.2.2.2.2.2.2.2.2.2.1 rfl
theorem dX10_every_23 : decode cX10_every 23 = .ok (.invokevirtual 64, 3) := dAt wdX10_every_0 adX10_every_0.2.2.2.2.2.2.2.2.2.2.2.2.2.2.1 rfl
theorem dX10_every_26 : decode cX10_every 26 = .ok (.ifCond .eq 29, 3) := dAt wdX10_every_0 adX10_every_0.2.2.2.2.2.2.2.2.2.2.2.2.2.2.2 rfl
def bdX10_every_29 : ByteArray := .mk #[42, 27, 182, 0, 112, 154, 0, 5, 3, 172, 42, 180, 0, 28, 16, 27, 3, 182, 0, 108, 132, 2, 1, 167, 255, 216, 4, 172]
theorem wdX10_every_29 : LocW cX10_every 29 bdX10_every_29 := loc_of (by decide +kernel)
theorem adX10_every_29 : De bdX10_every_29 0 (.aload_n 0) 1 ∧ De bdX10_every_29 1 (.iload_n 1) 1 ∧ De bdX10_every_29 2 (.invokevirtual 112) 3 ∧ De bdX10_every_29 5 (.ifCond .ne 5) 3 ∧ De bdX10_every_29 8 (.iconst 0) 1 ∧ De bdX10_every_29 9 (.ireturn) 1 ∧ De bdX10_every_29 10 (.aload_n 0) 1 ∧ De bdX10_every_29 11 (.getfield 28) 3 ∧ De bdX10_every_29 14 (.bipush 27) 2 ∧ De bdX10_every_29 16 (.iconst 0) 1 ∧ De bdX10_every_29 17 (.invokevirtual 108) 3 ∧ De bdX10_every_29 20 (.iinc 2 1) 3 ∧ De bdX10_every_29 23 (.goto (-40)) 3 ∧ De bdX10_every_29 26 (.iconst 1) 1 ∧ De bdX10_every_29 27 (.ireturn) 1 := by decide +kernel
theorem dX10_every_29 : decode cX10_every 29 = .ok (.aload_n 0, 1) := dAt wdX10_every_29 adX10_every_29.1 rfl
theorem dX10_every_30 : decode cX10_every 30 = .ok (.iload_n 1, 1) := dAt wdX10_every_29 adX10_every_29.2.1 rfl
theorem dX10_every_31 : decode cX10_every 31 = .ok (.invokevirtual 112, 3) := dAt wdX10_every_29 adX10_every_29.2.2.1 rfl
theorem dX10_every_34 : decode cX10_every 34 = .ok (.ifCond .ne 5, 3) := dAt wdX10_every_29 adX10_every_29.2.2.2.1 rfl
theorem dX10_every_37 : decode cX10_every 37 = .ok (.iconst 0, 1) := dAt wdX10_every_29 adX10_every_29.2.2.2.2.1 rfl
theorem dX10_every_38 : decode cX10_every 38 = .ok (.ireturn, 1) := dAt wdX10_every_29 adX10_every_29.2.2.2.2.2.1 rfl
theorem dX10_every_39 : decode cX10_every 39 = .ok (.aload_n 0, 1) := dAt wdX10_every_29 adX10_every_29.2.2.2.2.2.2.1 rfl
theorem dX10_every_40 : decode cX10_every 40 = .ok (.getfield 28, 3) := dAt wdX10_every_29 adX10_every_29.2.2.2.2.2.2.2.1 rfl
theorem dX10_every_43 : decode cX10_every 43 = .ok (.bipush 27, 2) := dAt wdX10_every_29 adX10_every_29.2.2.2.2.2.2.2.2.1 rfl
theorem dX10_every_45 : decode cX10_every 45 = .ok (.iconst 0, 1) := dAt wdX10_every_29 adX10_every_29.2.2.2.2.2.2.2.2.2.1 rfl
theorem dX10_every_46 : decode cX10_every 46 = .ok (.invokevirtual 108, 3) := dAt wdX10_every_29 adX10_every_29.2.2.2.2.2.2.2.2.2.2.1 rfl
theorem dX10_every_49 : decode cX10_every 49 = .ok (.iinc 2 1, 3) := dAt wdX10_every_29 adX10_every_29.2.2.2.2.2.2.2.2.2.2.2.1 rfl
theorem dX10_every_52 : decode cX10_every 52 = .ok (.goto (-40), 3) := dAt wdX10_every_29 adX10_every_29.2.2.2.2.2.2.2.2.2.2.2.2.1 rfl
theorem dX10_every_55 : decode cX10_every 55 = .ok (.iconst 1, 1) := dAt wdX10_every_29 adX10_every_29.2.2.2.2.2.2.2.2.2.2.2.2.2.1 rfl
theorem dX10_every_56 : decode cX10_every 56 = .ok (.ireturn, 1) := dAt wdX10_every_29 adX10_every_29.2.2.2.2.2.2.2.2.2.2.2.2.2.2 rfl
def bdX10_atom_0 : ByteArray := .mk #[42, 180, 0, 21, 42, 180, 0, 15, 46, 61, 42, 18, 117, 182, 0, 64, 62, 29, 154, 0, 21, 42, 16, 40, 182, 0, 55, 154, 0, 12]
theorem wdX10_atom_0 : LocW cX10_atom 0 bdX10_atom_0 := loc_of (by decide +kernel)
theorem adX10_atom_0 : De bdX10_atom_0 0 (.aload_n 0) 1 ∧ De bdX10_atom_0 1 (.getfield 21) 3 ∧ De bdX10_atom_0 4 (.aload_n 0) 1 ∧ De bdX10_atom_0 5 (.getfield 15) 3 ∧ De bdX10_atom_0 8 (.iaload) 1 ∧ De bdX10_atom_0 9 (.istore_n 2) 1 ∧ De bdX10_atom_0 10 (.aload_n 0) 1 ∧ De bdX10_atom_0 11 (.ldc 117) 2 ∧ De bdX10_atom_0 13 (.invokevirtual 64) 3 ∧ De bdX10_atom_0 16 (.istore_n 3) 1 ∧ De bdX10_atom_0 17 (.iload_n 3) 1 ∧ De bdX10_atom_0 18 (.ifCond .ne 21) 3 ∧ De bdX10_atom_0 21 (.aload_n 0) 1 ∧ De bdX10_atom_0 22 (.bipush 40) 2 ∧ De bdX10_atom_0 24 (.invokevirtual 55) 3 ∧ De bdX10_atom_0 27 (.ifCond .ne 12) 3 := by decide +kernel
theorem dX10_atom_0 : decode cX10_atom 0 = .ok (.aload_n 0, 1) := dAt wdX10_atom_0 adX10_atom_0.1 rfl
theorem dX10_atom_1 : decode cX10_atom 1 = .ok (.getfield 21, 3) := dAt wdX10_atom_0 adX10_atom_0.2.1 rfl
theorem dX10_atom_4 : decode cX10_atom 4 = .ok (.aload_n 0, 1) := dAt wdX10_atom_0 adX10_atom_0.2.2.1 rfl
theorem dX10_atom_5 : decode cX10_atom 5 = .ok (.getfield 15, 3) := dAt wdX10_atom_0 adX10_atom_0.2.2.2.1 rfl
theorem dX10_atom_8 : decode cX10_atom 8 = .ok (.iaload, 1) := dAt wdX10_atom_0 adX10_atom_0.2.2.2.2.1 rfl
theorem dX10_atom_9 : decode cX10_atom 9 = .ok (.istore_n 2, 1) := dAt wdX10_atom_0 adX10_atom_0.2.2.2.2.2.1 rfl
theorem dX10_atom_10 : decode cX10_atom 10 = .ok (.aload_n 0, 1) := dAt wdX10_atom_0 adX10_atom_0.2.2.2.2.2.2.1 rfl
theorem dX10_atom_11 : decode cX10_atom 11 = .ok (.ldc 117, 2) := dAt wdX10_atom_0 adX10_atom_0.2.2.2.2.2.2.2.1 rfl
theorem dX10_atom_13 : decode cX10_atom 13 = .ok (.invokevirtual 64, 3) := dAt wdX10_atom_0 adX10_atom_0.2.2.2.2.2.2.2.2.1 rfl
theorem dX10_atom_16 : decode cX10_atom 16 = .ok (.istore_n 3, 1) := dAt wdX10_atom_0 adX10_atom_0.2.2.2.2.2.2.2.2.2.1 rfl
theorem dX10_atom_17 : decode cX10_atom 17 = .ok (.iload_n 3, 1) := dAt wdX10_atom_0 adX10_atom_0.2.2.2.2.2.2.2.2.2.2.1 rfl
theorem dX10_atom_18 : decode cX10_atom 18 = .ok (.ifCond .ne 21, 3) := dAt wdX10_atom_0 adX10_atom_0.2.2.2.2.2.2.2.2.2.2.2.1 rfl
theorem dX10_atom_21 : decode cX10_atom 21 = .ok (.aload_n 0, 1) := dAt wdX10_atom_0 adX10_atom_0.2.2.2.2.2.2.2.2.2.2.2.2.1 rfl
theorem dX10_atom_22 : decode cX10_atom 22 = .ok (.bipush 40, 2) := dAt wdX10_atom_0 adX10_atom_0.2.2.2.2.2.2.2.2.2.2.2.2.2.1 rfl
theorem dX10_atom_24 : decode cX10_atom 24 = .ok (.invokevirtual 55, 3) := dAt wdX10_atom_0 adX10_atom_0.2.2.2.2.2.2.2.2.2.2.2.2.2.2.1 rfl
theorem dX10_atom_27 : decode cX10_atom 27 = .ok (.ifCond .ne 12, 3) := dAt wdX10_atom_0 adX10_atom_0.2.2.2.2.2.2.2.2.2.2.2.2.2.2.2 rfl
def bdX10_atom_30 : ByteArray := .mk #[42, 42, 182, 0, 119, 182, 0, 123, 172, 27, 8, 161, 0, 13, 42, 28, 181, 0, 15, 42, 182, 0, 59, 172, 29, 153, 0, 25]
theorem wdX10_atom_30 : LocW cX10_atom 30 bdX10_atom_30 := loc_of (by decide +kernel)
theorem adX10_atom_30 : De bdX10_atom_30 0 (.aload_n 0) 1 ∧ De bdX10_atom_30 1 (.aload_n 0) 1 ∧ De bdX10_atom_30 2 (.invokevirtual 119) 3 ∧ De bdX10_atom_30 5 (.invokevirtual 123) 3 ∧ De bdX10_atom_30 8 (.ireturn) 1 ∧ De bdX10_atom_30 9 (.iload_n 1) 1 ∧ De bdX10_atom_30 10 (.iconst 5) 1 ∧ De bdX10_atom_30 11 (.if_icmp .lt 13) 3 ∧ De bdX10_atom_30 14 (.aload_n 0) 1 ∧ De bdX10_atom_30 15 (.iload_n 2) 1 ∧ De bdX10_atom_30 16 (.putfield 15) 3 ∧ De bdX10_atom_30 19 (.aload_n 0) 1 ∧ De bdX10_atom_30 20 (.invokevirtual 59) 3 ∧ De bdX10_atom_30 23 (.ireturn) 1 ∧ De bdX10_atom_30 24 (.iload_n 3) 1 ∧ De bdX10_atom_30 25 (.ifCond .eq 25) 3 := by decide +kernel
theorem dX10_atom_30 : decode cX10_atom 30 = .ok (.aload_n 0, 1) := dAt wdX10_atom_30 adX10_atom_30.1 rfl
theorem dX10_atom_31 : decode cX10_atom 31 = .ok (.aload_n 0, 1) := dAt wdX10_atom_30 adX10_atom_30.2.1 rfl
theorem dX10_atom_32 : decode cX10_atom 32 = .ok (.invokevirtual 119, 3) := dAt wdX10_atom_30 adX10_atom_30.2.2.1 rfl
theorem dX10_atom_35 : decode cX10_atom 35 = .ok (.invokevirtual 123, 3) := dAt wdX10_atom_30 adX10_atom_30.2.2.2.1 rfl
theorem dX10_atom_38 : decode cX10_atom 38 = .ok (.ireturn, 1) := dAt wdX10_atom_30 adX10_atom_30.2.2.2.2.1 rfl
theorem dX10_atom_39 : decode cX10_atom 39 = .ok (.iload_n 1, 1) := dAt wdX10_atom_30 adX10_atom_30.2.2.2.2.2.1 rfl
theorem dX10_atom_40 : decode cX10_atom 40 = .ok (.iconst 5, 1) := dAt wdX10_atom_30 adX10_atom_30.2.2.2.2.2.2.1 rfl
theorem dX10_atom_41 : decode cX10_atom 41 = .ok (.if_icmp .lt 13, 3) := dAt wdX10_atom_30 adX10_atom_30.2.2.2.2.2.2.2.1 rfl
theorem dX10_atom_44 : decode cX10_atom 44 = .ok (.aload_n 0, 1) := dAt wdX10_atom_30 adX10_atom_30.2.2.2.2.2.2.2.2.1 rfl
theorem dX10_atom_45 : decode cX10_atom 45 = .ok (.iload_n 2, 1) := dAt wdX10_atom_30 adX10_atom_30.2.2.2.2.2.2.2.2.2.1 rfl
theorem dX10_atom_46 : decode cX10_atom 46 = .ok (.putfield 15, 3) := dAt wdX10_atom_30 adX10_atom_30.2.2.2.2.2.2.2.2.2.2.1 rfl
theorem dX10_atom_49 : decode cX10_atom 49 = .ok (.aload_n 0, 1) := dAt wdX10_atom_30 adX10_atom_30.2.2.2.2.2.2.2.2.2.2.2.1 rfl
theorem dX10_atom_50 : decode cX10_atom 50 = .ok (.invokevirtual 59, 3) := dAt wdX10_atom_30 adX10_atom_30.2.2.2.2.2.2.2.2.2.2.2.2.1 rfl
theorem dX10_atom_53 : decode cX10_atom 53 = .ok (.ireturn, 1) := dAt wdX10_atom_30 adX10_atom_30.2.2.2.2.2.2.2.2.2.2.2.2.2.1 rfl
theorem dX10_atom_54 : decode cX10_atom 54 = .ok (.iload_n 3, 1) := dAt wdX10_atom_30 adX10_atom_30.2.2.2.2.2.2.2.2.2.2.2.2.2.2.1 rfl
theorem dX10_atom_55 : decode cX10_atom 55 = .ok (.ifCond .eq 25, 3) := dAt wdX10_atom_30 adX10_atom_30.2.2.2.2.2.2.2.2.2.2.2.2.2.2.2 rfl
def bdX10_atom_58 : ByteArray := .mk #[42, 27, 4, 96, 182, 0, 112, 54, 4, 42, 180, 0, 28, 16, 29, 3, 182, 0, 108, 21, 4, 172, 42, 27, 4]
theorem wdX10_atom_58 : LocW cX10_atom 58 bdX10_atom_58 := loc_of (by decide +kernel)
theorem adX10_atom_58 : De bdX10_atom_58 0 (.aload_n 0) 1 ∧ De bdX10_atom_58 1 (.iload_n 1) 1 ∧ De bdX10_atom_58 2 (.iconst 1) 1 ∧ De bdX10_atom_58 3 (.iadd) 1 ∧ De bdX10_atom_58 4 (.invokevirtual 112) 3 ∧ De bdX10_atom_58 7 (.istore 4) 2 ∧ De bdX10_atom_58 9 (.aload_n 0) 1 ∧ De bdX10_atom_58 10 (.getfield 28) 3 ∧ De bdX10_atom_58 13 (.bipush 29) 2 ∧ De bdX10_atom_58 15 (.iconst 0) 1 ∧ De bdX10_atom_58 16 (.invokevirtual 108) 3 ∧ De bdX10_atom_58 19 (.iload 4) 2 ∧ De bdX10_atom_58 21 (.ireturn) 1 ∧ De bdX10_atom_58 22 (.aload_n 0) 1 ∧ De bdX10_atom_58 23 (.iload_n 1) 1 ∧ De bdX10_atom_58 24 (.iconst 1) 1 := by decide +kernel
theorem dX10_atom_58 : decode cX10_atom 58 = .ok (.aload_n 0, 1) := dAt wdX10_atom_58 adX10_atom_58.1 rfl
theorem dX10_atom_59 : decode cX10_atom 59 = .ok (.iload_n 1, 1) := dAt wdX10_atom_58 adX10_atom_58.2.1 rfl
theorem dX10_atom_60 : decode cX10_atom 60 = .ok (.iconst 1, 1) := dAt wdX10_atom_58 adX10_atom_58.2.2.1 rfl
theorem dX10_atom_61 : decode cX10_atom 61 = .ok (.iadd, 1) := dAt wdX10_atom_58 adX10_atom_58.2.2.2.1 rfl
theorem dX10_atom_62 : decode cX10_atom 62 = .ok (.invokevirtual 112, 3) := dAt wdX10_atom_58 adX10_atom_58.2.2.2.2.1 rfl
theorem dX10_atom_65 : decode cX10_atom 65 = .ok (.istore 4, 2) := dAt wdX10_atom_58 adX10_atom_58.2.2.2.2.2.1 rfl
theorem dX10_atom_67 : decode cX10_atom 67 = .ok (.aload_n 0, 1) := dAt wdX10_atom_58 adX10_atom_58.2.2.2.2.2.2.1 rfl
theorem dX10_atom_68 : decode cX10_atom 68 = .ok (.getfield 28, 3) := dAt wdX10_atom_58 adX10_atom_58.2.2.2.2.2.2.2.1 rfl
theorem dX10_atom_71 : decode cX10_atom 71 = .ok (.bipush 29, 2) := dAt wdX10_atom_58 adX10_atom_58.2.2.2.2.2.2.2.2.1 rfl
theorem dX10_atom_73 : decode cX10_atom 73 = .ok (.iconst 0, 1) := dAt wdX10_atom_58 adX10_atom_58.2.2.2.2.2.2.2.2.2.1 rfl
theorem dX10_atom_74 : decode cX10_atom 74 = .ok (.invokevirtual 108, 3) := dAt wdX10_atom_58 adX10_atom_58.2.2.2.2.2.2.2.2.2.2.1 rfl
theorem dX10_atom_77 : decode cX10_atom 77 = .ok (.iload 4, 2) := dAt wdX10_atom_58 adX10_atom_58.2.2.2.2.2.2.2.2.2.2.2.1 rfl
theorem dX10_atom_79 : decode cX10_atom 79 = .ok (.ireturn, 1) := dAt wdX10_atom_58 adX10_atom_58.2.2.2.2.2.2.2.2.2.2.2.2.1 rfl
theorem dX10_atom_80 : decode cX10_atom 80 = .ok (.aload_n 0, 1) := dAt wdX10_atom_58 adX10_atom_58.2.2.2.2.2.2.2.2.2.2.2.2.2.1 rfl
theorem dX10_atom_81 : decode cX10_atom 81 = .ok (.iload_n 1, 1) := dAt wdX10_atom_58 adX10_atom_58.2.2.2.2.2.2.2.2.2.2.2.2.2.2.1 rfl
theorem dX10_atom_82 : decode cX10_atom 82 = .ok (.iconst 1, 1) := dAt wdX10_atom_58 adX10_atom_58.2.2.2.2.2.2.2.2.2.2.2.2.2.2.2 rfl
def bdX10_atom_83 : ByteArray := .mk #[96, 182, 0, 74, 153, 0, 23, 42, 16, 41, 182, 0, 55, 154, 0, 10, 42, 182, 0, 59, 153, 0, 7, 4, 167, 0, 4, 3, 172]
theorem wdX10_atom_83 : LocW cX10_atom 83 bdX10_atom_83 := loc_of (by decide +kernel)
theorem adX10_atom_83 : De bdX10_atom_83 0 (.iadd) 1 ∧ De bdX10_atom_83 1 (.invokevirtual 74) 3 ∧ De bdX10_atom_83 4 (.ifCond .eq 23) 3 ∧ De bdX10_atom_83 7 (.aload_n 0) 1 ∧ De bdX10_atom_83 8 (.bipush 41) 2 ∧ De bdX10_atom_83 10 (.invokevirtual 55) 3 ∧ De bdX10_atom_83 13 (.ifCond .ne 10) 3 ∧ De bdX10_atom_83 16 (.aload_n 0) 1 ∧ De bdX10_atom_83 17 (.invokevirtual 59) 3 ∧ De bdX10_atom_83 20 (.ifCond .eq 7) 3 ∧ De bdX10_atom_83 23 (.iconst 1) 1 ∧ De bdX10_atom_83 24 (.goto 4) 3 ∧ De bdX10_atom_83 27 (.iconst 0) 1 ∧ De bdX10_atom_83 28 (.ireturn) 1 := by decide +kernel
theorem dX10_atom_83 : decode cX10_atom 83 = .ok (.iadd, 1) := dAt wdX10_atom_83 adX10_atom_83.1 rfl
theorem dX10_atom_84 : decode cX10_atom 84 = .ok (.invokevirtual 74, 3) := dAt wdX10_atom_83 adX10_atom_83.2.1 rfl
theorem dX10_atom_87 : decode cX10_atom 87 = .ok (.ifCond .eq 23, 3) := dAt wdX10_atom_83 adX10_atom_83.2.2.1 rfl
theorem dX10_atom_90 : decode cX10_atom 90 = .ok (.aload_n 0, 1) := dAt wdX10_atom_83 adX10_atom_83.2.2.2.1 rfl
theorem dX10_atom_91 : decode cX10_atom 91 = .ok (.bipush 41, 2) := dAt wdX10_atom_83 adX10_atom_83.2.2.2.2.1 rfl
theorem dX10_atom_93 : decode cX10_atom 93 = .ok (.invokevirtual 55, 3) := dAt wdX10_atom_83 adX10_atom_83.2.2.2.2.2.1 rfl
theorem dX10_atom_96 : decode cX10_atom 96 = .ok (.ifCond .ne 10, 3) := dAt wdX10_atom_83 adX10_atom_83.2.2.2.2.2.2.1 rfl
theorem dX10_atom_99 : decode cX10_atom 99 = .ok (.aload_n 0, 1) := dAt wdX10_atom_83 adX10_atom_83.2.2.2.2.2.2.2.1 rfl
theorem dX10_atom_100 : decode cX10_atom 100 = .ok (.invokevirtual 59, 3) := dAt wdX10_atom_83 adX10_atom_83.2.2.2.2.2.2.2.2.1 rfl
theorem dX10_atom_103 : decode cX10_atom 103 = .ok (.ifCond .eq 7, 3) := dAt wdX10_atom_83 adX10_atom_83.2.2.2.2.2.2.2.2.2.1 rfl
theorem dX10_atom_106 : decode cX10_atom 106 = .ok (.iconst 1, 1) := dAt wdX10_atom_83 adX10_atom_83.2.2.2.2.2.2.2.2.2.2.1 rfl
theorem dX10_atom_107 : decode cX10_atom 107 = .ok (.goto 4, 3) := dAt wdX10_atom_83 adX10_atom_83.2.2.2.2.2.2.2.2.2.2.2.1 rfl
theorem dX10_atom_110 : decode cX10_atom 110 = .ok (.iconst 0, 1) := dAt wdX10_atom_83 adX10_atom_83.2.2.2.2.2.2.2.2.2.2.2.2.1 rfl
theorem dX10_atom_111 : decode cX10_atom 111 = .ok (.ireturn, 1) := dAt wdX10_atom_83 adX10_atom_83.2.2.2.2.2.2.2.2.2.2.2.2.2 rfl
def bdX10_takeFact_0 : ByteArray := .mk #[42, 18, 126, 182, 0, 64, 153, 0, 5, 3, 172, 42, 18, 128, 182, 0, 64, 153, 0, 5, 4, 172, 42, 18, 130, 182, 0, 64, 153, 0, 5]
theorem wdX10_takeFact_0 : LocW cX10_takeFact 0 bdX10_takeFact_0 := loc_of (by decide +kernel)
theorem adX10_takeFact_0 : De bdX10_takeFact_0 0 (.aload_n 0) 1 ∧ De bdX10_takeFact_0 1 (.ldc 126) 2 ∧ De bdX10_takeFact_0 3 (.invokevirtual 64) 3 ∧ De bdX10_takeFact_0 6 (.ifCond .eq 5) 3 ∧ De bdX10_takeFact_0 9 (.iconst 0) 1 ∧ De bdX10_takeFact_0 10 (.ireturn) 1 ∧ De bdX10_takeFact_0 11 (.aload_n 0) 1 ∧ De bdX10_takeFact_0 12 (.ldc 128) 2 ∧ De bdX10_takeFact_0 14 (.invokevirtual 64) 3 ∧ De bdX10_takeFact_0 17 (.ifCond .eq 5) 3 ∧ De bdX10_takeFact_0 20 (.iconst 1) 1 ∧ De bdX10_takeFact_0 21 (.ireturn) 1 ∧ De bdX10_takeFact_0 22 (.aload_n 0) 1 ∧ De bdX10_takeFact_0 23 (.ldc 130) 2 ∧ De bdX10_takeFact_0 25 (.invokevirtual 64) 3 ∧ De bdX10_takeFact_0 28 (.ifCond .eq 5) 3 := by decide +kernel
theorem dX10_takeFact_0 : decode cX10_takeFact 0 = .ok (.aload_n 0, 1) := dAt wdX10_takeFact_0 adX10_takeFact_0.1 rfl
theorem dX10_takeFact_1 : decode cX10_takeFact 1 = .ok (.ldc 126, 2) := dAt wdX10_takeFact_0 adX10_takeFact_0.2.1 rfl
theorem dX10_takeFact_3 : decode cX10_takeFact 3 = .ok (.invokevirtual 64, 3) := dAt wdX10_takeFact_0 adX10_takeFact_0.2.2.1 rfl
theorem dX10_takeFact_6 : decode cX10_takeFact 6 = .ok (.ifCond .eq 5, 3) := dAt wdX10_takeFact_0 adX10_takeFact_0.2.2.2.1 rfl
theorem dX10_takeFact_9 : decode cX10_takeFact 9 = .ok (.iconst 0, 1) := dAt wdX10_takeFact_0 adX10_takeFact_0.2.2.2.2.1 rfl
theorem dX10_takeFact_10 : decode cX10_takeFact 10 = .ok (.ireturn, 1) := dAt wdX10_takeFact_0 adX10_takeFact_0.2.2.2.2.2.1 rfl
theorem dX10_takeFact_11 : decode cX10_takeFact 11 = .ok (.aload_n 0, 1) := dAt wdX10_takeFact_0 adX10_takeFact_0.2.2.2.2.2.2.1 rfl
theorem dX10_takeFact_12 : decode cX10_takeFact 12 = .ok (.ldc 128, 2) := dAt wdX10_takeFact_0 adX10_takeFact_0.2.2.2.2.2.2.2.1 rfl
theorem dX10_takeFact_14 : decode cX10_takeFact 14 = .ok (.invokevirtual 64, 3) := dAt wdX10_takeFact_0 adX10_takeFact_0.2.2.2.2.2.2.2.2.1 rfl
theorem dX10_takeFact_17 : decode cX10_takeFact 17 = .ok (.ifCond .eq 5, 3) := dAt wdX10_takeFact_0 adX10_takeFact_0.2.2.2.2.2.2.2.2.2.1 rfl
theorem dX10_takeFact_20 : decode cX10_takeFact 20 = .ok (.iconst 1, 1) := dAt wdX10_takeFact_0 adX10_takeFact_0.2.2.2.2.2.2.2.2.2.2.1 rfl
theorem dX10_takeFact_21 : decode cX10_takeFact 21 = .ok (.ireturn, 1) := dAt wdX10_takeFact_0 adX10_takeFact_0.2.2.2.2.2.2.2.2.2.2.2.1 rfl
theorem dX10_takeFact_22 : decode cX10_takeFact 22 = .ok (.aload_n 0, 1) := dAt wdX10_takeFact_0 adX10_takeFact_0.2.2.2.2.2.2.2.2.2.2.2.2.1 rfl
theorem dX10_takeFact_23 : decode cX10_takeFact 23 = .ok (.ldc 130, 2) := dAt wdX10_takeFact_0 adX10_takeFact_0.2.2.2.2.2.2.2.2.2.2.2.2.2.1 rfl
theorem dX10_takeFact_25 : decode cX10_takeFact 25 = .ok (.invokevirtual 64, 3) := dAt wdX10_takeFact_0 adX10_takeFact_0.2.2.2.2.2.2.2.2.2.2.2.2.2.2.1 rfl
theorem dX10_takeFact_28 : decode cX10_takeFact 28 = .ok (.ifCond .eq 5, 3) := dAt wdX10_takeFact_0 adX10_takeFact_0.2.2.2.2.2.2.2.2.2.2.2.2.2.2.2 rfl
def bdX10_takeFact_31 : ByteArray := .mk #[5, 172, 42, 18, 132, 182, 0, 64, 153, 0, 5, 6, 172, 42, 18, 134, 182, 0, 64, 153, 0, 5, 7, 172, 42, 18, 136]
theorem wdX10_takeFact_31 : LocW cX10_takeFact 31 bdX10_takeFact_31 := loc_of (by decide +kernel)
theorem adX10_takeFact_31 : De bdX10_takeFact_31 0 (.iconst 2) 1 ∧ De bdX10_takeFact_31 1 (.ireturn) 1 ∧ De bdX10_takeFact_31 2 (.aload_n 0) 1 ∧ De bdX10_takeFact_31 3 (.ldc 132) 2 ∧ De bdX10_takeFact_31 5 (.invokevirtual 64) 3 ∧ De bdX10_takeFact_31 8 (.ifCond .eq 5) 3 ∧ De bdX10_takeFact_31 11 (.iconst 3) 1 ∧ De bdX10_takeFact_31 12 (.ireturn) 1 ∧ De bdX10_takeFact_31 13 (.aload_n 0) 1 ∧ De bdX10_takeFact_31 14 (.ldc 134) 2 ∧ De bdX10_takeFact_31 16 (.invokevirtual 64) 3 ∧ De bdX10_takeFact_31 19 (.ifCond .eq 5) 3 ∧ De bdX10_takeFact_31 22 (.iconst 4) 1 ∧ De bdX10_takeFact_31 23 (.ireturn) 1 ∧ De bdX10_takeFact_31 24 (.aload_n 0) 1 ∧ De bdX10_takeFact_31 25 (.ldc 136) 2 := by decide +kernel
theorem dX10_takeFact_31 : decode cX10_takeFact 31 = .ok (.iconst 2, 1) := dAt wdX10_takeFact_31 adX10_takeFact_31.1 rfl
theorem dX10_takeFact_32 : decode cX10_takeFact 32 = .ok (.ireturn, 1) := dAt wdX10_takeFact_31 adX10_takeFact_31.2.1 rfl
theorem dX10_takeFact_33 : decode cX10_takeFact 33 = .ok (.aload_n 0, 1) := dAt wdX10_takeFact_31 adX10_takeFact_31.2.2.1 rfl
theorem dX10_takeFact_34 : decode cX10_takeFact 34 = .ok (.ldc 132, 2) := dAt wdX10_takeFact_31 adX10_takeFact_31.2.2.2.1 rfl
theorem dX10_takeFact_36 : decode cX10_takeFact 36 = .ok (.invokevirtual 64, 3) := dAt wdX10_takeFact_31 adX10_takeFact_31.2.2.2.2.1 rfl
theorem dX10_takeFact_39 : decode cX10_takeFact 39 = .ok (.ifCond .eq 5, 3) := dAt wdX10_takeFact_31 adX10_takeFact_31.2.2.2.2.2.1 rfl
theorem dX10_takeFact_42 : decode cX10_takeFact 42 = .ok (.iconst 3, 1) := dAt wdX10_takeFact_31 adX10_takeFact_31.2.2.2.2.2.2.1 rfl
theorem dX10_takeFact_43 : decode cX10_takeFact 43 = .ok (.ireturn, 1) := dAt wdX10_takeFact_31 adX10_takeFact_31.2.2.2.2.2.2.2.1 rfl
theorem dX10_takeFact_44 : decode cX10_takeFact 44 = .ok (.aload_n 0, 1) := dAt wdX10_takeFact_31 adX10_takeFact_31.2.2.2.2.2.2.2.2.1 rfl
theorem dX10_takeFact_45 : decode cX10_takeFact 45 = .ok (.ldc 134, 2) := dAt wdX10_takeFact_31 adX10_takeFact_31.2.2.2.2.2.2.2.2.2.1 rfl
theorem dX10_takeFact_47 : decode cX10_takeFact 47 = .ok (.invokevirtual 64, 3) := dAt wdX10_takeFact_31 adX10_takeFact_31.2.2.2.2.2.2.2.2.2.2.1 rfl
theorem dX10_takeFact_50 : decode cX10_takeFact 50 = .ok (.ifCond .eq 5, 3) := dAt wdX10_takeFact_31 adX10_takeFact_31.2.2.2.2.2.2.2.2.2.2.2.1 rfl
theorem dX10_takeFact_53 : decode cX10_takeFact 53 = .ok (.iconst 4, 1) := dAt wdX10_takeFact_31 adX10_takeFact_31.2.2.2.2.2.2.2.2.2.2.2.2.1 rfl
theorem dX10_takeFact_54 : decode cX10_takeFact 54 = .ok (.ireturn, 1) := dAt wdX10_takeFact_31 adX10_takeFact_31.2.2.2.2.2.2.2.2.2.2.2.2.2.1 rfl
theorem dX10_takeFact_55 : decode cX10_takeFact 55 = .ok (.aload_n 0, 1) := dAt wdX10_takeFact_31 adX10_takeFact_31.2.2.2.2.2.2.2.2.2.2.2.2.2.2.1 rfl
theorem dX10_takeFact_56 : decode cX10_takeFact 56 = .ok (.ldc 136, 2) := dAt wdX10_takeFact_31 adX10_takeFact_31.2.2.2.2.2.2.2.2.2.2.2.2.2.2.2 rfl
def bdX10_takeFact_58 : ByteArray := .mk #[182, 0, 64, 153, 0, 5, 8, 172, 42, 18, 138, 182, 0, 64, 153, 0, 6, 16, 6, 172, 42, 18, 140, 182, 0, 64, 153, 0, 6, 16, 7, 172]
theorem wdX10_takeFact_58 : LocW cX10_takeFact 58 bdX10_takeFact_58 := loc_of (by decide +kernel)
theorem adX10_takeFact_58 : De bdX10_takeFact_58 0 (.invokevirtual 64) 3 ∧ De bdX10_takeFact_58 3 (.ifCond .eq 5) 3 ∧ De bdX10_takeFact_58 6 (.iconst 5) 1 ∧ De bdX10_takeFact_58 7 (.ireturn) 1 ∧ De bdX10_takeFact_58 8 (.aload_n 0) 1 ∧ De bdX10_takeFact_58 9 (.ldc 138) 2 ∧ De bdX10_takeFact_58 11 (.invokevirtual 64) 3 ∧ De bdX10_takeFact_58 14 (.ifCond .eq 6) 3 ∧ De bdX10_takeFact_58 17 (.bipush 6) 2 ∧ De bdX10_takeFact_58 19 (.ireturn) 1 ∧ De bdX10_takeFact_58 20 (.aload_n 0) 1 ∧ De bdX10_takeFact_58 21 (.ldc 140) 2 ∧ De bdX10_takeFact_58 23 (.invokevirtual 64) 3 ∧ De bdX10_takeFact_58 26 (.ifCond .eq 6) 3 ∧ De bdX10_takeFact_58 29 (.bipush 7) 2 ∧ De bdX10_takeFact_58 31 (.ireturn) 1 := by decide +kernel
theorem dX10_takeFact_58 : decode cX10_takeFact 58 = .ok (.invokevirtual 64, 3) := dAt wdX10_takeFact_58 adX10_takeFact_58.1 rfl
theorem dX10_takeFact_61 : decode cX10_takeFact 61 = .ok (.ifCond .eq 5, 3) := dAt wdX10_takeFact_58 adX10_takeFact_58.2.1 rfl
theorem dX10_takeFact_64 : decode cX10_takeFact 64 = .ok (.iconst 5, 1) := dAt wdX10_takeFact_58 adX10_takeFact_58.2.2.1 rfl
theorem dX10_takeFact_65 : decode cX10_takeFact 65 = .ok (.ireturn, 1) := dAt wdX10_takeFact_58 adX10_takeFact_58.2.2.2.1 rfl
theorem dX10_takeFact_66 : decode cX10_takeFact 66 = .ok (.aload_n 0, 1) := dAt wdX10_takeFact_58 adX10_takeFact_58.2.2.2.2.1 rfl
theorem dX10_takeFact_67 : decode cX10_takeFact 67 = .ok (.ldc 138, 2) := dAt wdX10_takeFact_58 adX10_takeFact_58.2.2.2.2.2.1 rfl
theorem dX10_takeFact_69 : decode cX10_takeFact 69 = .ok (.invokevirtual 64, 3) := dAt wdX10_takeFact_58 adX10_takeFact_58.2.2.2.2.2.2.1 rfl
theorem dX10_takeFact_72 : decode cX10_takeFact 72 = .ok (.ifCond .eq 6, 3) := dAt wdX10_takeFact_58 adX10_takeFact_58.2.2.2.2.2.2.2.1 rfl
theorem dX10_takeFact_75 : decode cX10_takeFact 75 = .ok (.bipush 6, 2) := dAt wdX10_takeFact_58 adX10_takeFact_58.2.2.2.2.2.2.2.2.1 rfl
theorem dX10_takeFact_77 : decode cX10_takeFact 77 = .ok (.ireturn, 1) := dAt wdX10_takeFact_58 adX10_takeFact_58.2.2.2.2.2.2.2.2.2.1 rfl
theorem dX10_takeFact_78 : decode cX10_takeFact 78 = .ok (.aload_n 0, 1) := dAt wdX10_takeFact_58 adX10_takeFact_58.2.2.2.2.2.2.2.2.2.2.1 rfl
theorem dX10_takeFact_79 : decode cX10_takeFact 79 = .ok (.ldc 140, 2) := dAt wdX10_takeFact_58 adX10_takeFact_58.2.2.2.2.2.2.2.2.2.2.2.1 rfl
theorem dX10_takeFact_81 : decode cX10_takeFact 81 = .ok (.invokevirtual 64, 3) := dAt wdX10_takeFact_58 adX10_takeFact_58.2.2.2.2.2.2.2.2.2.2.2.2.1 rfl
theorem dX10_takeFact_84 : decode cX10_takeFact 84 = .ok (.ifCond .eq 6, 3) := dAt wdX10_takeFact_58 adX10_takeFact_58.2.2.2.2.2.2.2.2.2.2.2.2.2.1 rfl
theorem dX10_takeFact_87 : decode cX10_takeFact 87 = .ok (.bipush 7, 2) := dAt wdX10_takeFact_58 adX10_takeFact_58.2.2.2.2.2.2.2.2.2.2.2.2.2.2.1 rfl
theorem dX10_takeFact_89 : decode cX10_takeFact 89 = .ok (.ireturn, 1) := dAt wdX10_takeFact_58 adX10_takeFact_58.2.2.2.2.2.2.2.2.2.2.2.2.2.2.2 rfl
def bdX10_takeFact_90 : ByteArray := .mk #[42, 18, 142, 182, 0, 64, 153, 0, 8, 16, 8, 167, 0, 4, 2, 172]
theorem wdX10_takeFact_90 : LocW cX10_takeFact 90 bdX10_takeFact_90 := loc_of (by decide +kernel)
theorem adX10_takeFact_90 : De bdX10_takeFact_90 0 (.aload_n 0) 1 ∧ De bdX10_takeFact_90 1 (.ldc 142) 2 ∧ De bdX10_takeFact_90 3 (.invokevirtual 64) 3 ∧ De bdX10_takeFact_90 6 (.ifCond .eq 8) 3 ∧ De bdX10_takeFact_90 9 (.bipush 8) 2 ∧ De bdX10_takeFact_90 11 (.goto 4) 3 ∧ De bdX10_takeFact_90 14 (.iconst (-1)) 1 ∧ De bdX10_takeFact_90 15 (.ireturn) 1 := by decide +kernel
theorem dX10_takeFact_90 : decode cX10_takeFact 90 = .ok (.aload_n 0, 1) := dAt wdX10_takeFact_90 adX10_takeFact_90.1 rfl
theorem dX10_takeFact_91 : decode cX10_takeFact 91 = .ok (.ldc 142, 2) := dAt wdX10_takeFact_90 adX10_takeFact_90.2.1 rfl
theorem dX10_takeFact_93 : decode cX10_takeFact 93 = .ok (.invokevirtual 64, 3) := dAt wdX10_takeFact_90 adX10_takeFact_90.2.2.1 rfl
theorem dX10_takeFact_96 : decode cX10_takeFact 96 = .ok (.ifCond .eq 8, 3) := dAt wdX10_takeFact_90 adX10_takeFact_90.2.2.2.1 rfl
theorem dX10_takeFact_99 : decode cX10_takeFact 99 = .ok (.bipush 8, 2) := dAt wdX10_takeFact_90 adX10_takeFact_90.2.2.2.2.1 rfl
theorem dX10_takeFact_101 : decode cX10_takeFact 101 = .ok (.goto 4, 3) := dAt wdX10_takeFact_90 adX10_takeFact_90.2.2.2.2.2.1 rfl
theorem dX10_takeFact_104 : decode cX10_takeFact 104 = .ok (.iconst (-1), 1) := dAt wdX10_takeFact_90 adX10_takeFact_90.2.2.2.2.2.2.1 rfl
theorem dX10_takeFact_105 : decode cX10_takeFact 105 = .ok (.ireturn, 1) := dAt wdX10_takeFact_90 adX10_takeFact_90.2.2.2.2.2.2.2 rfl
def bdX10_tagOrComparison_0 : ByteArray := .mk #[27, 2, 160, 0, 8, 42, 182, 0, 59, 172, 27, 5, 163, 0, 14, 42, 180, 0, 28, 27, 3, 182, 0, 108, 4, 172]
theorem wdX10_tagOrComparison_0 : LocW cX10_tagOrComparison 0 bdX10_tagOrComparison_0 := loc_of (by decide +kernel)
theorem adX10_tagOrComparison_0 : De bdX10_tagOrComparison_0 0 (.iload_n 1) 1 ∧ De bdX10_tagOrComparison_0 1 (.iconst (-1)) 1 ∧ De bdX10_tagOrComparison_0 2 (.if_icmp .ne 8) 3 ∧ De bdX10_tagOrComparison_0 5 (.aload_n 0) 1 ∧ De bdX10_tagOrComparison_0 6 (.invokevirtual 59) 3 ∧ De bdX10_tagOrComparison_0 9 (.ireturn) 1 ∧ De bdX10_tagOrComparison_0 10 (.iload_n 1) 1 ∧ De bdX10_tagOrComparison_0 11 (.iconst 2) 1 ∧ De bdX10_tagOrComparison_0 12 (.if_icmp .gt 14) 3 ∧ De bdX10_tagOrComparison_0 15 (.aload_n 0) 1 ∧ De bdX10_tagOrComparison_0 16 (.getfield 28) 3 ∧ De bdX10_tagOrComparison_0 19 (.iload_n 1) 1 ∧ De bdX10_tagOrComparison_0 20 (.iconst 0) 1 ∧ De bdX10_tagOrComparison_0 21 (.invokevirtual 108) 3 ∧ De bdX10_tagOrComparison_0 24 (.iconst 1) 1 ∧ De bdX10_tagOrComparison_0 25 (.ireturn) 1 := by decide +kernel
theorem dX10_tagOrComparison_0 : decode cX10_tagOrComparison 0 = .ok (.iload_n 1, 1) := dAt wdX10_tagOrComparison_0 adX10_tagOrComparison_0.1 rfl
theorem dX10_tagOrComparison_1 : decode cX10_tagOrComparison 1 = .ok (.iconst (-1), 1) := dAt wdX10_tagOrComparison_0 adX10_tagOrComparison_0.2.1 rfl
theorem dX10_tagOrComparison_2 : decode cX10_tagOrComparison 2 = .ok (.if_icmp .ne 8, 3) := dAt wdX10_tagOrComparison_0 adX10_tagOrComparison_0.2.2.1 rfl
theorem dX10_tagOrComparison_5 : decode cX10_tagOrComparison 5 = .ok (.aload_n 0, 1) := dAt wdX10_tagOrComparison_0 adX10_tagOrComparison_0.2.2.2.1 rfl
theorem dX10_tagOrComparison_6 : decode cX10_tagOrComparison 6 = .ok (.invokevirtual 59, 3) := dAt wdX10_tagOrComparison_0 adX10_tagOrComparison_0.2.2.2.2.1 rfl
theorem dX10_tagOrComparison_9 : decode cX10_tagOrComparison 9 = .ok (.ireturn, 1) := dAt wdX10_tagOrComparison_0 adX10_tagOrComparison_0.2.2.2.2.2.1 rfl
theorem dX10_tagOrComparison_10 : decode cX10_tagOrComparison 10 = .ok (.iload_n 1, 1) := dAt wdX10_tagOrComparison_0 adX10_tagOrComparison_0.2.2.2.2.2.2.1 rfl
theorem dX10_tagOrComparison_11 : decode cX10_tagOrComparison 11 = .ok (.iconst 2, 1) := dAt wdX10_tagOrComparison_0 adX10_tagOrComparison_0.2.2.2.2.2.2.2.1 rfl
theorem dX10_tagOrComparison_12 : decode cX10_tagOrComparison 12 = .ok (.if_icmp .gt 14, 3) := dAt wdX10_tagOrComparison_0 adX10_tagOrComparison_0.2.2.2.2.2.2.2.2.1 rfl
theorem dX10_tagOrComparison_15 : decode cX10_tagOrComparison 15 = .ok (.aload_n 0, 1) := dAt wdX10_tagOrComparison_0 adX10_tagOrComparison_0.2.2.2.2.2.2.2.2.2.1 rfl
theorem dX10_tagOrComparison_16 : decode cX10_tagOrComparison 16 = .ok (.getfield 28, 3) := dAt wdX10_tagOrComparison_0 adX10_tagOrComparison_0.2.2.2.2.2.2.2.2.2.2.1 rfl
theorem dX10_tagOrComparison_19 : decode cX10_tagOrComparison 19 = .ok (.iload_n 1, 1) := dAt wdX10_tagOrComparison_0 adX10_tagOrComparison_0.2.2.2.2.2.2.2.2.2.2.2.1 rfl
theorem dX10_tagOrComparison_20 : decode cX10_tagOrComparison 20 = .ok (.iconst 0, 1) := dAt wdX10_tagOrComparison_0 adX10_tagOrComparison_0.2.2.2.2.2.2.2.2.2.2.2.2.1 rfl
theorem dX10_tagOrComparison_21 : decode cX10_tagOrComparison 21 = .ok (.invokevirtual 108, 3) := dAt wdX10_tagOrComparison_0 adX10_tagOrComparison_0.2.2.2.2.2.2.2.2.2.2.2.2.2.1 rfl
theorem dX10_tagOrComparison_24 : decode cX10_tagOrComparison 24 = .ok (.iconst 1, 1) := dAt wdX10_tagOrComparison_0 adX10_tagOrComparison_0.2.2.2.2.2.2.2.2.2.2.2.2.2.2.1 rfl
theorem dX10_tagOrComparison_25 : decode cX10_tagOrComparison 25 = .ok (.ireturn, 1) := dAt wdX10_tagOrComparison_0 adX10_tagOrComparison_0.2.2.2.2.2.2.2.2.2.2.2.2.2.2.2 rfl
def bdX10_tagOrComparison_26 : ByteArray := .mk #[42, 16, 60, 182, 0, 55, 61, 28, 154, 0, 17, 42, 16, 62, 182, 0, 55, 154, 0, 8, 42, 182, 0, 59, 172, 42, 3, 17, 39, 15]
theorem wdX10_tagOrComparison_26 : LocW cX10_tagOrComparison 26 bdX10_tagOrComparison_26 := loc_of (by decide +kernel)
theorem adX10_tagOrComparison_26 : De bdX10_tagOrComparison_26 0 (.aload_n 0) 1 ∧ De bdX10_tagOrComparison_26 1 (.bipush 60) 2 ∧ De bdX10_tagOrComparison_26 3 (.invokevirtual 55) 3 ∧ De bdX10_tagOrComparison_26 6 (.istore_n 2) 1 ∧ De bdX10_tagOrComparison_26 7 (.iload_n 2) 1 ∧ De bdX10_tagOrComparison_26 8 (.ifCond .ne 17) 3 ∧ De bdX10_tagOrComparison_26 11 (.aload_n 0) 1 ∧ De bdX10_tagOrComparison_26 12 (.bipush 62) 2 ∧ De bdX10_tagOrComparison_26 14 (.invokevirtual 55) 3 ∧ De bdX10_tagOrComparison_26 17 (.ifCond .ne 8) 3 ∧ De bdX10_tagOrComparison_26 20 (.aload_n 0) 1 ∧ De bdX10_tagOrComparison_26 21 (.invokevirtual 59) 3 ∧ De bdX10_tagOrComparison_26 24 (.ireturn) 1 ∧ De bdX10_tagOrComparison_26 25 (.aload_n 0) 1 ∧ De bdX10_tagOrComparison_26 26 (.iconst 0) 1 ∧ De bdX10_tagOrComparison_26 27 (.sipush 9999) 3 := by decide +kernel
theorem dX10_tagOrComparison_26 : decode cX10_tagOrComparison 26 = .ok (.aload_n 0, 1) := dAt wdX10_tagOrComparison_26 adX10_tagOrComparison_26.1 rfl
theorem dX10_tagOrComparison_27 : decode cX10_tagOrComparison 27 = .ok (.bipush 60, 2) := dAt wdX10_tagOrComparison_26 adX10_tagOrComparison_26.2.1 rfl
theorem dX10_tagOrComparison_29 : decode cX10_tagOrComparison 29 = .ok (.invokevirtual 55, 3) := dAt wdX10_tagOrComparison_26 adX10_tagOrComparison_26.2.2.1 rfl
theorem dX10_tagOrComparison_32 : decode cX10_tagOrComparison 32 = .ok (.istore_n 2, 1) := dAt wdX10_tagOrComparison_26 adX10_tagOrComparison_26.2.2.2.1 rfl
theorem dX10_tagOrComparison_33 : decode cX10_tagOrComparison 33 = .ok (.iload_n 2, 1) := dAt wdX10_tagOrComparison_26 adX10_tagOrComparison_26.2.2.2.2.1 rfl
theorem dX10_tagOrComparison_34 : decode cX10_tagOrComparison 34 = .ok (.ifCond .ne 17, 3) := dAt wdX10_tagOrComparison_26 adX10_tagOrComparison_26.2.2.2.2.2.1 rfl
theorem dX10_tagOrComparison_37 : decode cX10_tagOrComparison 37 = .ok (.aload_n 0, 1) := dAt wdX10_tagOrComparison_26 adX10_tagOrComparison_26.2.2.2.2.2.2.1 rfl
theorem dX10_tagOrComparison_38 : decode cX10_tagOrComparison 38 = .ok (.bipush 62, 2) := dAt wdX10_tagOrComparison_26 adX10_tagOrComparison_26.2.2.2.2.2.2.2.1 rfl
theorem dX10_tagOrComparison_40 : decode cX10_tagOrComparison 40 = .ok (.invokevirtual 55, 3) := dAt wdX10_tagOrComparison_26 adX10_tagOrComparison_26.2.2.2.2.2.2.2.2.1 rfl
theorem dX10_tagOrComparison_43 : decode cX10_tagOrComparison 43 = .ok (.ifCond .ne 8, 3) := dAt wdX10_tagOrComparison_26 adX10_tagOrComparison_26.2.2.2.2.2.2.2.2.2.1 rfl
theorem dX10_tagOrComparison_46 : decode cX10_tagOrComparison 46 = .ok (.aload_n 0, 1) := dAt wdX10_tagOrComparison_26 adX10_tagOrComparison_26.2.2.2.2.2.2.2.2.2.2.1 rfl
theorem dX10_tagOrComparison_47 : decode cX10_tagOrComparison 47 = .ok (.invokevirtual 59, 3) := dAt wdX10_tagOrComparison_26 adX10_tagOrComparison_26.2.2.2.2.2.2.2.2.2.2.2.1 rfl
theorem dX10_tagOrComparison_50 : decode cX10_tagOrComparison 50 = .ok (.ireturn, 1) := dAt wdX10_tagOrComparison_26 adX10_tagOrComparison_26.2.2.2.2.2.2.2.2.2.2.2.2.1 rfl
theorem dX10_tagOrComparison_51 : decode cX10_tagOrComparison 51 = .ok (.aload_n 0, 1) := dAt wdX10_tagOrComparison_26 adX10_tagOrComparison_26.2.2.2.2.2.2.2.2.2.2.2.2.2.1 rfl
theorem dX10_tagOrComparison_52 : decode cX10_tagOrComparison 52 = .ok (.iconst 0, 1) := dAt wdX10_tagOrComparison_26 adX10_tagOrComparison_26.2.2.2.2.2.2.2.2.2.2.2.2.2.2.1 rfl
theorem dX10_tagOrComparison_53 : decode cX10_tagOrComparison 53 = .ok (.sipush 9999, 3) := dAt wdX10_tagOrComparison_26 adX10_tagOrComparison_26.2.2.2.2.2.2.2.2.2.2.2.2.2.2.2 rfl
def bdX10_tagOrComparison_56 : ByteArray := .mk #[182, 0, 99, 62, 42, 180, 0, 28, 27, 28, 153, 0, 8, 16, 9, 167, 0, 5, 16, 18, 96, 29, 182, 0, 108, 29, 2, 159, 0, 7]
theorem wdX10_tagOrComparison_56 : LocW cX10_tagOrComparison 56 bdX10_tagOrComparison_56 := loc_of (by decide +kernel)
theorem adX10_tagOrComparison_56 : De bdX10_tagOrComparison_56 0 (.invokevirtual 99) 3 ∧ De bdX10_tagOrComparison_56 3 (.istore_n 3) 1 ∧ De bdX10_tagOrComparison_56 4 (.aload_n 0) 1 ∧ De bdX10_tagOrComparison_56 5 (.getfield 28) 3 ∧ De bdX10_tagOrComparison_56 8 (.iload_n 1) 1 ∧ De bdX10_tagOrComparison_56 9 (.iload_n 2) 1 ∧ De bdX10_tagOrComparison_56 10 (.ifCond .eq 8) 3 ∧ De bdX10_tagOrComparison_56 13 (.bipush 9) 2 ∧ De bdX10_tagOrComparison_56 15 (.goto 5) 3 ∧ De bdX10_tagOrComparison_56 18 (.bipush 18) 2 ∧ De bdX10_tagOrComparison_56 20 (.iadd) 1 ∧ De bdX10_tagOrComparison_56 21 (.iload_n 3) 1 ∧ De bdX10_tagOrComparison_56 22 (.invokevirtual 108) 3 ∧ De bdX10_tagOrComparison_56 25 (.iload_n 3) 1 ∧ De bdX10_tagOrComparison_56 26 (.iconst (-1)) 1 ∧ De bdX10_tagOrComparison_56 27 (.if_icmp .eq 7) 3 := by decide +kernel
theorem dX10_tagOrComparison_56 : decode cX10_tagOrComparison 56 = .ok (.invokevirtual 99, 3) := dAt wdX10_tagOrComparison_56 adX10_tagOrComparison_56.1 rfl
theorem dX10_tagOrComparison_59 : decode cX10_tagOrComparison 59 = .ok (.istore_n 3, 1) := dAt wdX10_tagOrComparison_56 adX10_tagOrComparison_56.2.1 rfl
theorem dX10_tagOrComparison_60 : decode cX10_tagOrComparison 60 = .ok (.aload_n 0, 1) := dAt wdX10_tagOrComparison_56 adX10_tagOrComparison_56.2.2.1 rfl
theorem dX10_tagOrComparison_61 : decode cX10_tagOrComparison 61 = .ok (.getfield 28, 3) := dAt wdX10_tagOrComparison_56 adX10_tagOrComparison_56.2.2.2.1 rfl
theorem dX10_tagOrComparison_64 : decode cX10_tagOrComparison 64 = .ok (.iload_n 1, 1) := dAt wdX10_tagOrComparison_56 adX10_tagOrComparison_56.2.2.2.2.1 rfl
theorem dX10_tagOrComparison_65 : decode cX10_tagOrComparison 65 = .ok (.iload_n 2, 1) := dAt wdX10_tagOrComparison_56 adX10_tagOrComparison_56.2.2.2.2.2.1 rfl
theorem dX10_tagOrComparison_66 : decode cX10_tagOrComparison 66 = .ok (.ifCond .eq 8, 3) := dAt wdX10_tagOrComparison_56 adX10_tagOrComparison_56.2.2.2.2.2.2.1 rfl
theorem dX10_tagOrComparison_69 : decode cX10_tagOrComparison 69 = .ok (.bipush 9, 2) := dAt wdX10_tagOrComparison_56 adX10_tagOrComparison_56.2.2.2.2.2.2.2.1 rfl
theorem dX10_tagOrComparison_71 : decode cX10_tagOrComparison 71 = .ok (.goto 5, 3) := dAt wdX10_tagOrComparison_56 adX10_tagOrComparison_56.2.2.2.2.2.2.2.2.1 rfl
theorem dX10_tagOrComparison_74 : decode cX10_tagOrComparison 74 = .ok (.bipush 18, 2) := dAt wdX10_tagOrComparison_56 adX10_tagOrComparison_56.2.2.2.2.2.2.2.2.2.1 rfl
theorem dX10_tagOrComparison_76 : decode cX10_tagOrComparison 76 = .ok (.iadd, 1) := dAt wdX10_tagOrComparison_56 adX10_tagOrComparison_56.2.2.2.2.2.2.2.2.2.2.1 rfl
theorem dX10_tagOrComparison_77 : decode cX10_tagOrComparison 77 = .ok (.iload_n 3, 1) := dAt wdX10_tagOrComparison_56 adX10_tagOrComparison_56.2.2.2.2.2.2.2.2.2.2.2.1 rfl
theorem dX10_tagOrComparison_78 : decode cX10_tagOrComparison 78 = .ok (.invokevirtual 108, 3) := dAt wdX10_tagOrComparison_56 adX10_tagOrComparison_56.2.2.2.2.2.2.2.2.2.2.2.2.1 rfl
theorem dX10_tagOrComparison_81 : decode cX10_tagOrComparison 81 = .ok (.iload_n 3, 1) := dAt wdX10_tagOrComparison_56 adX10_tagOrComparison_56.2.2.2.2.2.2.2.2.2.2.2.2.2.1 rfl
theorem dX10_tagOrComparison_82 : decode cX10_tagOrComparison 82 = .ok (.iconst (-1), 1) := dAt wdX10_tagOrComparison_56 adX10_tagOrComparison_56.2.2.2.2.2.2.2.2.2.2.2.2.2.2.1 rfl
theorem dX10_tagOrComparison_83 : decode cX10_tagOrComparison 83 = .ok (.if_icmp .eq 7, 3) := dAt wdX10_tagOrComparison_56 adX10_tagOrComparison_56.2.2.2.2.2.2.2.2.2.2.2.2.2.2.2 rfl
def bdX10_tagOrComparison_86 : ByteArray := .mk #[4, 167, 0, 4, 3, 172]
theorem wdX10_tagOrComparison_86 : LocW cX10_tagOrComparison 86 bdX10_tagOrComparison_86 := loc_of (by decide +kernel)
theorem adX10_tagOrComparison_86 : De bdX10_tagOrComparison_86 0 (.iconst 1) 1 ∧ De bdX10_tagOrComparison_86 1 (.goto 4) 3 ∧ De bdX10_tagOrComparison_86 4 (.iconst 0) 1 ∧ De bdX10_tagOrComparison_86 5 (.ireturn) 1 := by decide +kernel
theorem dX10_tagOrComparison_86 : decode cX10_tagOrComparison 86 = .ok (.iconst 1, 1) := dAt wdX10_tagOrComparison_86 adX10_tagOrComparison_86.1 rfl
theorem dX10_tagOrComparison_87 : decode cX10_tagOrComparison 87 = .ok (.goto 4, 3) := dAt wdX10_tagOrComparison_86 adX10_tagOrComparison_86.2.1 rfl
theorem dX10_tagOrComparison_90 : decode cX10_tagOrComparison 90 = .ok (.iconst 0, 1) := dAt wdX10_tagOrComparison_86 adX10_tagOrComparison_86.2.2.1 rfl
theorem dX10_tagOrComparison_91 : decode cX10_tagOrComparison 91 = .ok (.ireturn, 1) := dAt wdX10_tagOrComparison_86 adX10_tagOrComparison_86.2.2.2 rfl
def bdX10_failHere_0 : ByteArray := .mk #[42, 180, 0, 18, 2, 160, 0, 16, 42, 42, 180, 0, 21, 42, 180, 0, 15, 46, 181, 0, 18, 3, 172]
theorem wdX10_failHere_0 : LocW cX10_failHere 0 bdX10_failHere_0 := loc_of (by decide +kernel)
theorem adX10_failHere_0 : De bdX10_failHere_0 0 (.aload_n 0) 1 ∧ De bdX10_failHere_0 1 (.getfield 18) 3 ∧ De bdX10_failHere_0 4 (.iconst (-1)) 1 ∧ De bdX10_failHere_0 5 (.if_icmp .ne 16) 3 ∧ De bdX10_failHere_0 8 (.aload_n 0) 1 ∧ De bdX10_failHere_0 9 (.aload_n 0) 1 ∧ De bdX10_failHere_0 10 (.getfield 21) 3 ∧ De bdX10_failHere_0 13 (.aload_n 0) 1 ∧ De bdX10_failHere_0 14 (.getfield 15) 3 ∧ De bdX10_failHere_0 17 (.iaload) 1 ∧ De bdX10_failHere_0 18 (.putfield 18) 3 ∧ De bdX10_failHere_0 21 (.iconst 0) 1 ∧ De bdX10_failHere_0 22 (.ireturn) 1 := by decide +kernel
theorem dX10_failHere_0 : decode cX10_failHere 0 = .ok (.aload_n 0, 1) := dAt wdX10_failHere_0 adX10_failHere_0.1 rfl
theorem dX10_failHere_1 : decode cX10_failHere 1 = .ok (.getfield 18, 3) := dAt wdX10_failHere_0 adX10_failHere_0.2.1 rfl
theorem dX10_failHere_4 : decode cX10_failHere 4 = .ok (.iconst (-1), 1) := dAt wdX10_failHere_0 adX10_failHere_0.2.2.1 rfl
theorem dX10_failHere_5 : decode cX10_failHere 5 = .ok (.if_icmp .ne 16, 3) := dAt wdX10_failHere_0 adX10_failHere_0.2.2.2.1 rfl
theorem dX10_failHere_8 : decode cX10_failHere 8 = .ok (.aload_n 0, 1) := dAt wdX10_failHere_0 adX10_failHere_0.2.2.2.2.1 rfl
theorem dX10_failHere_9 : decode cX10_failHere 9 = .ok (.aload_n 0, 1) := dAt wdX10_failHere_0 adX10_failHere_0.2.2.2.2.2.1 rfl
theorem dX10_failHere_10 : decode cX10_failHere 10 = .ok (.getfield 21, 3) := dAt wdX10_failHere_0 adX10_failHere_0.2.2.2.2.2.2.1 rfl
theorem dX10_failHere_13 : decode cX10_failHere 13 = .ok (.aload_n 0, 1) := dAt wdX10_failHere_0 adX10_failHere_0.2.2.2.2.2.2.2.1 rfl
theorem dX10_failHere_14 : decode cX10_failHere 14 = .ok (.getfield 15, 3) := dAt wdX10_failHere_0 adX10_failHere_0.2.2.2.2.2.2.2.2.1 rfl
theorem dX10_failHere_17 : decode cX10_failHere 17 = .ok (.iaload, 1) := dAt wdX10_failHere_0 adX10_failHere_0.2.2.2.2.2.2.2.2.2.1 rfl
theorem dX10_failHere_18 : decode cX10_failHere 18 = .ok (.putfield 18, 3) := dAt wdX10_failHere_0 adX10_failHere_0.2.2.2.2.2.2.2.2.2.2.1 rfl
theorem dX10_failHere_21 : decode cX10_failHere 21 = .ok (.iconst 0, 1) := dAt wdX10_failHere_0 adX10_failHere_0.2.2.2.2.2.2.2.2.2.2.2.1 rfl
theorem dX10_failHere_22 : decode cX10_failHere 22 = .ok (.ireturn, 1) := dAt wdX10_failHere_0 adX10_failHere_0.2.2.2.2.2.2.2.2.2.2.2.2 rfl
def bdX10_takeSign_0 : ByteArray := .mk #[42, 42, 180, 0, 21, 42, 180, 0, 15, 46, 181, 0, 15, 42, 180, 0, 15, 42, 180, 0, 9, 162, 0, 16, 42, 180, 0, 32, 42, 180, 0, 15]
theorem wdX10_takeSign_0 : LocW cX10_takeSign 0 bdX10_takeSign_0 := loc_of (by decide +kernel)
theorem adX10_takeSign_0 : De bdX10_takeSign_0 0 (.aload_n 0) 1 ∧ De bdX10_takeSign_0 1 (.aload_n 0) 1 ∧ De bdX10_takeSign_0 2 (.getfield 21) 3 ∧ De bdX10_takeSign_0 5 (.aload_n 0) 1 ∧ De bdX10_takeSign_0 6 (.getfield 15) 3 ∧ De bdX10_takeSign_0 9 (.iaload) 1 ∧ De bdX10_takeSign_0 10 (.putfield 15) 3 ∧ De bdX10_takeSign_0 13 (.aload_n 0) 1 ∧ De bdX10_takeSign_0 14 (.getfield 15) 3 ∧ De bdX10_takeSign_0 17 (.aload_n 0) 1 ∧ De bdX10_takeSign_0 18 (.getfield 9) 3 ∧ De bdX10_takeSign_0 21 (.if_icmp .ge 16) 3 ∧ De bdX10_takeSign_0 24 (.aload_n 0) 1 ∧ De bdX10_takeSign_0 25 (.getfield 32) 3 ∧ De bdX10_takeSign_0 28 (.aload_n 0) 1 ∧ De bdX10_takeSign_0 29 (.getfield 15) 3 := by decide +kernel
theorem dX10_takeSign_0 : decode cX10_takeSign 0 = .ok (.aload_n 0, 1) := dAt wdX10_takeSign_0 adX10_takeSign_0.1 rfl
theorem dX10_takeSign_1 : decode cX10_takeSign 1 = .ok (.aload_n 0, 1) := dAt wdX10_takeSign_0 adX10_takeSign_0.2.1 rfl
theorem dX10_takeSign_2 : decode cX10_takeSign 2 = .ok (.getfield 21, 3) := dAt wdX10_takeSign_0 adX10_takeSign_0.2.2.1 rfl
theorem dX10_takeSign_5 : decode cX10_takeSign 5 = .ok (.aload_n 0, 1) := dAt wdX10_takeSign_0 adX10_takeSign_0.2.2.2.1 rfl
theorem dX10_takeSign_6 : decode cX10_takeSign 6 = .ok (.getfield 15, 3) := dAt wdX10_takeSign_0 adX10_takeSign_0.2.2.2.2.1 rfl
theorem dX10_takeSign_9 : decode cX10_takeSign 9 = .ok (.iaload, 1) := dAt wdX10_takeSign_0 adX10_takeSign_0.2.2.2.2.2.1 rfl
theorem dX10_takeSign_10 : decode cX10_takeSign 10 = .ok (.putfield 15, 3) := dAt wdX10_takeSign_0 adX10_takeSign_0.2.2.2.2.2.2.1 rfl
theorem dX10_takeSign_13 : decode cX10_takeSign 13 = .ok (.aload_n 0, 1) := dAt wdX10_takeSign_0 adX10_takeSign_0.2.2.2.2.2.2.2.1 rfl
theorem dX10_takeSign_14 : decode cX10_takeSign 14 = .ok (.getfield 15, 3) := dAt wdX10_takeSign_0 adX10_takeSign_0.2.2.2.2.2.2.2.2.1 rfl
theorem dX10_takeSign_17 : decode cX10_takeSign 17 = .ok (.aload_n 0, 1) := dAt wdX10_takeSign_0 adX10_takeSign_0.2.2.2.2.2.2.2.2.2.1 rfl
theorem dX10_takeSign_18 : decode cX10_takeSign 18 = .ok (.getfield 9, 3) := dAt wdX10_takeSign_0 adX10_takeSign_0.2.2.2.2.2.2.2.2.2.2.1 rfl
theorem dX10_takeSign_21 : decode cX10_takeSign 21 = .ok (.if_icmp .ge 16, 3) := dAt wdX10_takeSign_0 adX10_takeSign_0.2.2.2.2.2.2.2.2.2.2.2.1 rfl
theorem dX10_takeSign_24 : decode cX10_takeSign 24 = .ok (.aload_n 0, 1) := dAt wdX10_takeSign_0 adX10_takeSign_0.2.2.2.2.2.2.2.2.2.2.2.2.1 rfl
theorem dX10_takeSign_25 : decode cX10_takeSign 25 = .ok (.getfield 32, 3) := dAt wdX10_takeSign_0 adX10_takeSign_0.2.2.2.2.2.2.2.2.2.2.2.2.2.1 rfl
theorem dX10_takeSign_28 : decode cX10_takeSign 28 = .ok (.aload_n 0, 1) := dAt wdX10_takeSign_0 adX10_takeSign_0.2.2.2.2.2.2.2.2.2.2.2.2.2.2.1 rfl
theorem dX10_takeSign_29 : decode cX10_takeSign 29 = .ok (.getfield 15, 3) := dAt wdX10_takeSign_0 adX10_takeSign_0.2.2.2.2.2.2.2.2.2.2.2.2.2.2.2 rfl
def bdX10_takeSign_32 : ByteArray := .mk #[51, 27, 159, 0, 5, 3, 172, 42, 89, 180, 0, 15, 4, 96, 181, 0, 15, 4, 172]
theorem wdX10_takeSign_32 : LocW cX10_takeSign 32 bdX10_takeSign_32 := loc_of (by decide +kernel)
theorem adX10_takeSign_32 : De bdX10_takeSign_32 0 (.baload) 1 ∧ De bdX10_takeSign_32 1 (.iload_n 1) 1 ∧ De bdX10_takeSign_32 2 (.if_icmp .eq 5) 3 ∧ De bdX10_takeSign_32 5 (.iconst 0) 1 ∧ De bdX10_takeSign_32 6 (.ireturn) 1 ∧ De bdX10_takeSign_32 7 (.aload_n 0) 1 ∧ De bdX10_takeSign_32 8 (.dup) 1 ∧ De bdX10_takeSign_32 9 (.getfield 15) 3 ∧ De bdX10_takeSign_32 12 (.iconst 1) 1 ∧ De bdX10_takeSign_32 13 (.iadd) 1 ∧ De bdX10_takeSign_32 14 (.putfield 15) 3 ∧ De bdX10_takeSign_32 17 (.iconst 1) 1 ∧ De bdX10_takeSign_32 18 (.ireturn) 1 := by decide +kernel
theorem dX10_takeSign_32 : decode cX10_takeSign 32 = .ok (.baload, 1) := dAt wdX10_takeSign_32 adX10_takeSign_32.1 rfl
theorem dX10_takeSign_33 : decode cX10_takeSign 33 = .ok (.iload_n 1, 1) := dAt wdX10_takeSign_32 adX10_takeSign_32.2.1 rfl
theorem dX10_takeSign_34 : decode cX10_takeSign 34 = .ok (.if_icmp .eq 5, 3) := dAt wdX10_takeSign_32 adX10_takeSign_32.2.2.1 rfl
theorem dX10_takeSign_37 : decode cX10_takeSign 37 = .ok (.iconst 0, 1) := dAt wdX10_takeSign_32 adX10_takeSign_32.2.2.2.1 rfl
theorem dX10_takeSign_38 : decode cX10_takeSign 38 = .ok (.ireturn, 1) := dAt wdX10_takeSign_32 adX10_takeSign_32.2.2.2.2.1 rfl
theorem dX10_takeSign_39 : decode cX10_takeSign 39 = .ok (.aload_n 0, 1) := dAt wdX10_takeSign_32 adX10_takeSign_32.2.2.2.2.2.1 rfl
theorem dX10_takeSign_40 : decode cX10_takeSign 40 = .ok (.dup, 1) := dAt wdX10_takeSign_32 adX10_takeSign_32.2.2.2.2.2.2.1 rfl
theorem dX10_takeSign_41 : decode cX10_takeSign 41 = .ok (.getfield 15, 3) := dAt wdX10_takeSign_32 adX10_takeSign_32.2.2.2.2.2.2.2.1 rfl
theorem dX10_takeSign_44 : decode cX10_takeSign 44 = .ok (.iconst 1, 1) := dAt wdX10_takeSign_32 adX10_takeSign_32.2.2.2.2.2.2.2.2.1 rfl
theorem dX10_takeSign_45 : decode cX10_takeSign 45 = .ok (.iadd, 1) := dAt wdX10_takeSign_32 adX10_takeSign_32.2.2.2.2.2.2.2.2.2.1 rfl
theorem dX10_takeSign_46 : decode cX10_takeSign 46 = .ok (.putfield 15, 3) := dAt wdX10_takeSign_32 adX10_takeSign_32.2.2.2.2.2.2.2.2.2.2.1 rfl
theorem dX10_takeSign_49 : decode cX10_takeSign 49 = .ok (.iconst 1, 1) := dAt wdX10_takeSign_32 adX10_takeSign_32.2.2.2.2.2.2.2.2.2.2.2.1 rfl
theorem dX10_takeSign_50 : decode cX10_takeSign 50 = .ok (.ireturn, 1) := dAt wdX10_takeSign_32 adX10_takeSign_32.2.2.2.2.2.2.2.2.2.2.2.2 rfl
def bdX10_takeWord_0 : ByteArray := .mk #[42, 42, 180, 0, 21, 42, 180, 0, 15, 46, 181, 0, 15, 42, 180, 0, 15, 43, 182, 0, 144, 96, 61, 28, 42, 180, 0, 9]
theorem wdX10_takeWord_0 : LocW cX10_takeWord 0 bdX10_takeWord_0 := loc_of (by decide +kernel)
theorem adX10_takeWord_0 : De bdX10_takeWord_0 0 (.aload_n 0) 1 ∧ De bdX10_takeWord_0 1 (.aload_n 0) 1 ∧ De bdX10_takeWord_0 2 (.getfield 21) 3 ∧ De bdX10_takeWord_0 5 (.aload_n 0) 1 ∧ De bdX10_takeWord_0 6 (.getfield 15) 3 ∧ De bdX10_takeWord_0 9 (.iaload) 1 ∧ De bdX10_takeWord_0 10 (.putfield 15) 3 ∧ De bdX10_takeWord_0 13 (.aload_n 0) 1 ∧ De bdX10_takeWord_0 14 (.getfield 15) 3 ∧ De bdX10_takeWord_0 17 (.aload_n 1) 1 ∧ De bdX10_takeWord_0 18 (.invokevirtual 144) 3 ∧ De bdX10_takeWord_0 21 (.iadd) 1 ∧ De bdX10_takeWord_0 22 (.istore_n 2) 1 ∧ De bdX10_takeWord_0 23 (.iload_n 2) 1 ∧ De bdX10_takeWord_0 24 (.aload_n 0) 1 ∧ De bdX10_takeWord_0 25 (.getfield 9) 3 := by decide +kernel
theorem dX10_takeWord_0 : decode cX10_takeWord 0 = .ok (.aload_n 0, 1) := dAt wdX10_takeWord_0 adX10_takeWord_0.1 rfl
theorem dX10_takeWord_1 : decode cX10_takeWord 1 = .ok (.aload_n 0, 1) := dAt wdX10_takeWord_0 adX10_takeWord_0.2.1 rfl
theorem dX10_takeWord_2 : decode cX10_takeWord 2 = .ok (.getfield 21, 3) := dAt wdX10_takeWord_0 adX10_takeWord_0.2.2.1 rfl
theorem dX10_takeWord_5 : decode cX10_takeWord 5 = .ok (.aload_n 0, 1) := dAt wdX10_takeWord_0 adX10_takeWord_0.2.2.2.1 rfl
theorem dX10_takeWord_6 : decode cX10_takeWord 6 = .ok (.getfield 15, 3) := dAt wdX10_takeWord_0 adX10_takeWord_0.2.2.2.2.1 rfl
theorem dX10_takeWord_9 : decode cX10_takeWord 9 = .ok (.iaload, 1) := dAt wdX10_takeWord_0 adX10_takeWord_0.2.2.2.2.2.1 rfl
theorem dX10_takeWord_10 : decode cX10_takeWord 10 = .ok (.putfield 15, 3) := dAt wdX10_takeWord_0 adX10_takeWord_0.2.2.2.2.2.2.1 rfl
theorem dX10_takeWord_13 : decode cX10_takeWord 13 = .ok (.aload_n 0, 1) := dAt wdX10_takeWord_0 adX10_takeWord_0.2.2.2.2.2.2.2.1 rfl
theorem dX10_takeWord_14 : decode cX10_takeWord 14 = .ok (.getfield 15, 3) := dAt wdX10_takeWord_0 adX10_takeWord_0.2.2.2.2.2.2.2.2.1 rfl
theorem dX10_takeWord_17 : decode cX10_takeWord 17 = .ok (.aload_n 1, 1) := dAt wdX10_takeWord_0 adX10_takeWord_0.2.2.2.2.2.2.2.2.2.1 rfl
theorem dX10_takeWord_18 : decode cX10_takeWord 18 = .ok (.invokevirtual 144, 3) := dAt wdX10_takeWord_0 adX10_takeWord_0.2.2.2.2.2.2.2.2.2.2.1 rfl
theorem dX10_takeWord_21 : decode cX10_takeWord 21 = .ok (.iadd, 1) := dAt wdX10_takeWord_0 adX10_takeWord_0.2.2.2.2.2.2.2.2.2.2.2.1 rfl
theorem dX10_takeWord_22 : decode cX10_takeWord 22 = .ok (.istore_n 2, 1) := dAt wdX10_takeWord_0 adX10_takeWord_0.2.2.2.2.2.2.2.2.2.2.2.2.1 rfl
theorem dX10_takeWord_23 : decode cX10_takeWord 23 = .ok (.iload_n 2, 1) := dAt wdX10_takeWord_0 adX10_takeWord_0.2.2.2.2.2.2.2.2.2.2.2.2.2.1 rfl
theorem dX10_takeWord_24 : decode cX10_takeWord 24 = .ok (.aload_n 0, 1) := dAt wdX10_takeWord_0 adX10_takeWord_0.2.2.2.2.2.2.2.2.2.2.2.2.2.2.1 rfl
theorem dX10_takeWord_25 : decode cX10_takeWord 25 = .ok (.getfield 9, 3) := dAt wdX10_takeWord_0 adX10_takeWord_0.2.2.2.2.2.2.2.2.2.2.2.2.2.2.2 rfl
def bdX10_takeWord_28 : ByteArray := .mk #[162, 0, 29, 42, 180, 0, 32, 28, 51, 16, 97, 161, 0, 18, 42, 180, 0, 32, 28, 51, 16, 122, 163, 0, 7, 4, 167, 0, 4, 3]
theorem wdX10_takeWord_28 : LocW cX10_takeWord 28 bdX10_takeWord_28 := loc_of (by decide +kernel)
theorem adX10_takeWord_28 : De bdX10_takeWord_28 0 (.if_icmp .ge 29) 3 ∧ De bdX10_takeWord_28 3 (.aload_n 0) 1 ∧ De bdX10_takeWord_28 4 (.getfield 32) 3 ∧ De bdX10_takeWord_28 7 (.iload_n 2) 1 ∧ De bdX10_takeWord_28 8 (.baload) 1 ∧ De bdX10_takeWord_28 9 (.bipush 97) 2 ∧ De bdX10_takeWord_28 11 (.if_icmp .lt 18) 3 ∧ De bdX10_takeWord_28 14 (.aload_n 0) 1 ∧ De bdX10_takeWord_28 15 (.getfield 32) 3 ∧ De bdX10_takeWord_28 18 (.iload_n 2) 1 ∧ De bdX10_takeWord_28 19 (.baload) 1 ∧ De bdX10_takeWord_28 20 (.bipush 122) 2 ∧ De bdX10_takeWord_28 22 (.if_icmp .gt 7) 3 ∧ De bdX10_takeWord_28 25 (.iconst 1) 1 ∧ De bdX10_takeWord_28 26 (.goto 4) 3 ∧ De bdX10_takeWord_28 29 (.iconst 0) 1 := by decide +kernel
theorem dX10_takeWord_28 : decode cX10_takeWord 28 = .ok (.if_icmp .ge 29, 3) := dAt wdX10_takeWord_28 adX10_takeWord_28.1 rfl
theorem dX10_takeWord_31 : decode cX10_takeWord 31 = .ok (.aload_n 0, 1) := dAt wdX10_takeWord_28 adX10_takeWord_28.2.1 rfl
theorem dX10_takeWord_32 : decode cX10_takeWord 32 = .ok (.getfield 32, 3) := dAt wdX10_takeWord_28 adX10_takeWord_28.2.2.1 rfl
theorem dX10_takeWord_35 : decode cX10_takeWord 35 = .ok (.iload_n 2, 1) := dAt wdX10_takeWord_28 adX10_takeWord_28.2.2.2.1 rfl
theorem dX10_takeWord_36 : decode cX10_takeWord 36 = .ok (.baload, 1) := dAt wdX10_takeWord_28 adX10_takeWord_28.2.2.2.2.1 rfl
theorem dX10_takeWord_37 : decode cX10_takeWord 37 = .ok (.bipush 97, 2) := dAt wdX10_takeWord_28 adX10_takeWord_28.2.2.2.2.2.1 rfl
theorem dX10_takeWord_39 : decode cX10_takeWord 39 = .ok (.if_icmp .lt 18, 3) := dAt wdX10_takeWord_28 adX10_takeWord_28.2.2.2.2.2.2.1 rfl
theorem dX10_takeWord_42 : decode cX10_takeWord 42 = .ok (.aload_n 0, 1) := dAt wdX10_takeWord_28 adX10_takeWord_28.2.2.2.2.2.2.2.1 rfl
theorem dX10_takeWord_43 : decode cX10_takeWord 43 = .ok (.getfield 32, 3) := dAt wdX10_takeWord_28 adX10_takeWord_28.2.2.2.2.2.2.2.2.1 rfl
theorem dX10_takeWord_46 : decode cX10_takeWord 46 = .ok (.iload_n 2, 1) := dAt wdX10_takeWord_28 adX10_takeWord_28.2.2.2.2.2.2.2.2.2.1 rfl
theorem dX10_takeWord_47 : decode cX10_takeWord 47 = .ok (.baload, 1) := dAt wdX10_takeWord_28 adX10_takeWord_28.2.2.2.2.2.2.2.2.2.2.1 rfl
theorem dX10_takeWord_48 : decode cX10_takeWord 48 = .ok (.bipush 122, 2) := dAt wdX10_takeWord_28 adX10_takeWord_28.2.2.2.2.2.2.2.2.2.2.2.1 rfl
theorem dX10_takeWord_50 : decode cX10_takeWord 50 = .ok (.if_icmp .gt 7, 3) := dAt wdX10_takeWord_28 adX10_takeWord_28.2.2.2.2.2.2.2.2.2.2.2.2.1 rfl
theorem dX10_takeWord_53 : decode cX10_takeWord 53 = .ok (.iconst 1, 1) := dAt wdX10_takeWord_28 adX10_takeWord_28.2.2.2.2.2.2.2.2.2.2.2.2.2.1 rfl
theorem dX10_takeWord_54 : decode cX10_takeWord 54 = .ok (.goto 4, 3) := dAt wdX10_takeWord_28 adX10_takeWord_28.2.2.2.2.2.2.2.2.2.2.2.2.2.2.1 rfl
theorem dX10_takeWord_57 : decode cX10_takeWord 57 = .ok (.iconst 0, 1) := dAt wdX10_takeWord_28 adX10_takeWord_28.2.2.2.2.2.2.2.2.2.2.2.2.2.2.2 rfl
def bdX10_takeWord_58 : ByteArray := .mk #[62, 28, 42, 180, 0, 9, 163, 0, 7, 29, 153, 0, 5, 3, 172, 42, 180, 0, 15, 54, 4, 21, 4, 28, 162, 0, 32, 42]
theorem wdX10_takeWord_58 : LocW cX10_takeWord 58 bdX10_takeWord_58 := loc_of (by decide +kernel)
theorem adX10_takeWord_58 : De bdX10_takeWord_58 0 (.istore_n 3) 1 ∧ De bdX10_takeWord_58 1 (.iload_n 2) 1 ∧ De bdX10_takeWord_58 2 (.aload_n 0) 1 ∧ De bdX10_takeWord_58 3 (.getfield 9) 3 ∧ De bdX10_takeWord_58 6 (.if_icmp .gt 7) 3 ∧ De bdX10_takeWord_58 9 (.iload_n 3) 1 ∧ De bdX10_takeWord_58 10 (.ifCond .eq 5) 3 ∧ De bdX10_takeWord_58 13 (.iconst 0) 1 ∧ De bdX10_takeWord_58 14 (.ireturn) 1 ∧ De bdX10_takeWord_58 15 (.aload_n 0) 1 ∧ De bdX10_takeWord_58 16 (.getfield 15) 3 ∧ De bdX10_takeWord_58 19 (.istore 4) 2 ∧ De bdX10_takeWord_58 21 (.iload 4) 2 ∧ De bdX10_takeWord_58 23 (.iload_n 2) 1 ∧ De bdX10_takeWord_58 24 (.if_icmp .ge 32) 3 ∧ De bdX10_takeWord_58 27 (.aload_n 0) 1 := by decide +kernel
theorem dX10_takeWord_58 : decode cX10_takeWord 58 = .ok (.istore_n 3, 1) := dAt wdX10_takeWord_58 adX10_takeWord_58.1 rfl
theorem dX10_takeWord_59 : decode cX10_takeWord 59 = .ok (.iload_n 2, 1) := dAt wdX10_takeWord_58 adX10_takeWord_58.2.1 rfl
theorem dX10_takeWord_60 : decode cX10_takeWord 60 = .ok (.aload_n 0, 1) := dAt wdX10_takeWord_58 adX10_takeWord_58.2.2.1 rfl
theorem dX10_takeWord_61 : decode cX10_takeWord 61 = .ok (.getfield 9, 3) := dAt wdX10_takeWord_58 adX10_takeWord_58.2.2.2.1 rfl
theorem dX10_takeWord_64 : decode cX10_takeWord 64 = .ok (.if_icmp .gt 7, 3) := dAt wdX10_takeWord_58 adX10_takeWord_58.2.2.2.2.1 rfl
theorem dX10_takeWord_67 : decode cX10_takeWord 67 = .ok (.iload_n 3, 1) := dAt wdX10_takeWord_58 adX10_takeWord_58.2.2.2.2.2.1 rfl
theorem dX10_takeWord_68 : decode cX10_takeWord 68 = .ok (.ifCond .eq 5, 3) := dAt wdX10_takeWord_58 adX10_takeWord_58.2.2.2.2.2.2.1 rfl
theorem dX10_takeWord_71 : decode cX10_takeWord 71 = .ok (.iconst 0, 1) := dAt wdX10_takeWord_58 adX10_takeWord_58.2.2.2.2.2.2.2.1 rfl
theorem dX10_takeWord_72 : decode cX10_takeWord 72 = .ok (.ireturn, 1) := dAt wdX10_takeWord_58 adX10_takeWord_58.2.2.2.2.2.2.2.2.1 rfl
theorem dX10_takeWord_73 : decode cX10_takeWord 73 = .ok (.aload_n 0, 1) := dAt wdX10_takeWord_58 adX10_takeWord_58.2.2.2.2.2.2.2.2.2.1 rfl
theorem dX10_takeWord_74 : decode cX10_takeWord 74 = .ok (.getfield 15, 3) := dAt wdX10_takeWord_58 adX10_takeWord_58.2.2.2.2.2.2.2.2.2.2.1 rfl
theorem dX10_takeWord_77 : decode cX10_takeWord 77 = .ok (.istore 4, 2) := dAt wdX10_takeWord_58 adX10_takeWord_58.2.2.2.2.2.2.2.2.2.2.2.1 rfl
theorem dX10_takeWord_79 : decode cX10_takeWord 79 = .ok (.iload 4, 2) := dAt wdX10_takeWord_58 adX10_takeWord_58.2.2.2.2.2.2.2.2.2.2.2.2.1 rfl
theorem dX10_takeWord_81 : decode cX10_takeWord 81 = .ok (.iload_n 2, 1) := dAt wdX10_takeWord_58 adX10_takeWord_58.2.2.2.2.2.2.2.2.2.2.2.2.2.1 rfl
theorem dX10_takeWord_82 : decode cX10_takeWord 82 = .ok (.if_icmp .ge 32, 3) := dAt wdX10_takeWord_58 adX10_takeWord_58.2.2.2.2.2.2.2.2.2.2.2.2.2.2.1 rfl
theorem dX10_takeWord_85 : decode cX10_takeWord 85 = .ok (.aload_n 0, 1) := dAt wdX10_takeWord_58 adX10_takeWord_58.2.2.2.2.2.2.2.2.2.2.2.2.2.2.2 rfl
def bdX10_takeWord_86 : ByteArray := .mk #[180, 0, 32, 21, 4, 51, 43, 21, 4, 42, 180, 0, 15, 100, 182, 0, 148, 159, 0, 5, 3, 172, 132, 4, 1, 167, 255, 224, 42, 28]
theorem wdX10_takeWord_86 : LocW cX10_takeWord 86 bdX10_takeWord_86 := loc_of (by decide +kernel)
theorem adX10_takeWord_86 : De bdX10_takeWord_86 0 (.getfield 32) 3 ∧ De bdX10_takeWord_86 3 (.iload 4) 2 ∧ De bdX10_takeWord_86 5 (.baload) 1 ∧ De bdX10_takeWord_86 6 (.aload_n 1) 1 ∧ De bdX10_takeWord_86 7 (.iload 4) 2 ∧ De bdX10_takeWord_86 9 (.aload_n 0) 1 ∧ De bdX10_takeWord_86 10 (.getfield 15) 3 ∧ De bdX10_takeWord_86 13 (.isub) 1 ∧ De bdX10_takeWord_86 14 (.invokevirtual 148) 3 ∧ De bdX10_takeWord_86 17 (.if_icmp .eq 5) 3 ∧ De bdX10_takeWord_86 20 (.iconst 0) 1 ∧ De bdX10_takeWord_86 21 (.ireturn) 1 ∧ De bdX10_takeWord_86 22 (.iinc 4 1) 3 ∧ De bdX10_takeWord_86 25 (.goto (-32)) 3 ∧ De bdX10_takeWord_86 28 (.aload_n 0) 1 ∧ De bdX10_takeWord_86 29 (.iload_n 2) 1 := by decide +kernel
theorem dX10_takeWord_86 : decode cX10_takeWord 86 = .ok (.getfield 32, 3) := dAt wdX10_takeWord_86 adX10_takeWord_86.1 rfl
theorem dX10_takeWord_89 : decode cX10_takeWord 89 = .ok (.iload 4, 2) := dAt wdX10_takeWord_86 adX10_takeWord_86.2.1 rfl
theorem dX10_takeWord_91 : decode cX10_takeWord 91 = .ok (.baload, 1) := dAt wdX10_takeWord_86 adX10_takeWord_86.2.2.1 rfl
theorem dX10_takeWord_92 : decode cX10_takeWord 92 = .ok (.aload_n 1, 1) := dAt wdX10_takeWord_86 adX10_takeWord_86.2.2.2.1 rfl
theorem dX10_takeWord_93 : decode cX10_takeWord 93 = .ok (.iload 4, 2) := dAt wdX10_takeWord_86 adX10_takeWord_86.2.2.2.2.1 rfl
theorem dX10_takeWord_95 : decode cX10_takeWord 95 = .ok (.aload_n 0, 1) := dAt wdX10_takeWord_86 adX10_takeWord_86.2.2.2.2.2.1 rfl
theorem dX10_takeWord_96 : decode cX10_takeWord 96 = .ok (.getfield 15, 3) := dAt wdX10_takeWord_86 adX10_takeWord_86.2.2.2.2.2.2.1 rfl
theorem dX10_takeWord_99 : decode cX10_takeWord 99 = .ok (.isub, 1) := dAt wdX10_takeWord_86 adX10_takeWord_86.2.2.2.2.2.2.2.1 rfl
theorem dX10_takeWord_100 : decode cX10_takeWord 100 = .ok (.invokevirtual 148, 3) := dAt wdX10_takeWord_86 adX10_takeWord_86.2.2.2.2.2.2.2.2.1 rfl
theorem dX10_takeWord_103 : decode cX10_takeWord 103 = .ok (.if_icmp .eq 5, 3) := dAt wdX10_takeWord_86 adX10_takeWord_86.2.2.2.2.2.2.2.2.2.1 rfl
theorem dX10_takeWord_106 : decode cX10_takeWord 106 = .ok (.iconst 0, 1) := dAt wdX10_takeWord_86 adX10_takeWord_86.2.2.2.2.2.2.2.2.2.2.1 rfl
theorem dX10_takeWord_107 : decode cX10_takeWord 107 = .ok (.ireturn, 1) := dAt wdX10_takeWord_86 adX10_takeWord_86.2.2.2.2.2.2.2.2.2.2.2.1 rfl
theorem dX10_takeWord_108 : decode cX10_takeWord 108 = .ok (.iinc 4 1, 3) := dAt wdX10_takeWord_86 adX10_takeWord_86.2.2.2.2.2.2.2.2.2.2.2.2.1 rfl
theorem dX10_takeWord_111 : decode cX10_takeWord 111 = .ok (.goto (-32), 3) := dAt wdX10_takeWord_86 adX10_takeWord_86.2.2.2.2.2.2.2.2.2.2.2.2.2.1 rfl
theorem dX10_takeWord_114 : decode cX10_takeWord 114 = .ok (.aload_n 0, 1) := dAt wdX10_takeWord_86 adX10_takeWord_86.2.2.2.2.2.2.2.2.2.2.2.2.2.2.1 rfl
theorem dX10_takeWord_115 : decode cX10_takeWord 115 = .ok (.iload_n 2, 1) := dAt wdX10_takeWord_86 adX10_takeWord_86.2.2.2.2.2.2.2.2.2.2.2.2.2.2.2 rfl
def bdX10_takeWord_116 : ByteArray := .mk #[181, 0, 15, 4, 172]
theorem wdX10_takeWord_116 : LocW cX10_takeWord 116 bdX10_takeWord_116 := loc_of (by decide +kernel)
theorem adX10_takeWord_116 : De bdX10_takeWord_116 0 (.putfield 15) 3 ∧ De bdX10_takeWord_116 3 (.iconst 1) 1 ∧ De bdX10_takeWord_116 4 (.ireturn) 1 := by decide +kernel
theorem dX10_takeWord_116 : decode cX10_takeWord 116 = .ok (.putfield 15, 3) := dAt wdX10_takeWord_116 adX10_takeWord_116.1 rfl
theorem dX10_takeWord_119 : decode cX10_takeWord 119 = .ok (.iconst 1, 1) := dAt wdX10_takeWord_116 adX10_takeWord_116.2.1 rfl
theorem dX10_takeWord_120 : decode cX10_takeWord 120 = .ok (.ireturn, 1) := dAt wdX10_takeWord_116 adX10_takeWord_116.2.2 rfl
def bdX10_takeNumber_0 : ByteArray := .mk #[42, 42, 180, 0, 21, 42, 180, 0, 15, 46, 181, 0, 15, 3, 62, 42, 180, 0, 15, 54, 4, 21, 4, 42, 180, 0, 9, 162, 0, 64]
theorem wdX10_takeNumber_0 : LocW cX10_takeNumber 0 bdX10_takeNumber_0 := loc_of (by decide +kernel)
theorem adX10_takeNumber_0 : De bdX10_takeNumber_0 0 (.aload_n 0) 1 ∧ De bdX10_takeNumber_0 1 (.aload_n 0) 1 ∧ De bdX10_takeNumber_0 2 (.getfield 21) 3 ∧ De bdX10_takeNumber_0 5 (.aload_n 0) 1 ∧ De bdX10_takeNumber_0 6 (.getfield 15) 3 ∧ De bdX10_takeNumber_0 9 (.iaload) 1 ∧ De bdX10_takeNumber_0 10 (.putfield 15) 3 ∧ De bdX10_takeNumber_0 13 (.iconst 0) 1 ∧ De bdX10_takeNumber_0 14 (.istore_n 3) 1 ∧ De bdX10_takeNumber_0 15 (.aload_n 0) 1 ∧ De bdX10_takeNumber_0 16 (.getfield 15) 3 ∧ De bdX10_takeNumber_0 19 (.istore 4) 2 ∧ De bdX10_takeNumber_0 21 (.iload 4) 2 ∧ De bdX10_takeNumber_0 23 (.aload_n 0) 1 ∧ De bdX10_takeNumber_0 24 (.getfield 9) 3 ∧ De bdX10_takeNumber_0 27 (.if_icmp .ge 64) 3 := by decide +kernel
theorem dX10_takeNumber_0 : decode cX10_takeNumber 0 = .ok (.aload_n 0, 1) := dAt wdX10_takeNumber_0 adX10_takeNumber_0.1 rfl
theorem dX10_takeNumber_1 : decode cX10_takeNumber 1 = .ok (.aload_n 0, 1) := dAt wdX10_takeNumber_0 adX10_takeNumber_0.2.1 rfl
theorem dX10_takeNumber_2 : decode cX10_takeNumber 2 = .ok (.getfield 21, 3) := dAt wdX10_takeNumber_0 adX10_takeNumber_0.2.2.1 rfl
theorem dX10_takeNumber_5 : decode cX10_takeNumber 5 = .ok (.aload_n 0, 1) := dAt wdX10_takeNumber_0 adX10_takeNumber_0.2.2.2.1 rfl
theorem dX10_takeNumber_6 : decode cX10_takeNumber 6 = .ok (.getfield 15, 3) := dAt wdX10_takeNumber_0 adX10_takeNumber_0.2.2.2.2.1 rfl
theorem dX10_takeNumber_9 : decode cX10_takeNumber 9 = .ok (.iaload, 1) := dAt wdX10_takeNumber_0 adX10_takeNumber_0.2.2.2.2.2.1 rfl
theorem dX10_takeNumber_10 : decode cX10_takeNumber 10 = .ok (.putfield 15, 3) := dAt wdX10_takeNumber_0 adX10_takeNumber_0.2.2.2.2.2.2.1 rfl
theorem dX10_takeNumber_13 : decode cX10_takeNumber 13 = .ok (.iconst 0, 1) := dAt wdX10_takeNumber_0 adX10_takeNumber_0.2.2.2.2.2.2.2.1 rfl
theorem dX10_takeNumber_14 : decode cX10_takeNumber 14 = .ok (.istore_n 3, 1) := dAt wdX10_takeNumber_0 adX10_takeNumber_0.2.2.2.2.2.2.2.2.1 rfl
theorem dX10_takeNumber_15 : decode cX10_takeNumber 15 = .ok (.aload_n 0, 1) := dAt wdX10_takeNumber_0 adX10_takeNumber_0.2.2.2.2.2.2.2.2.2.1 rfl
theorem dX10_takeNumber_16 : decode cX10_takeNumber 16 = .ok (.getfield 15, 3) := dAt wdX10_takeNumber_0 adX10_takeNumber_0.2.2.2.2.2.2.2.2.2.2.1 rfl
theorem dX10_takeNumber_19 : decode cX10_takeNumber 19 = .ok (.istore 4, 2) := dAt wdX10_takeNumber_0 adX10_takeNumber_0.2.2.2.2.2.2.2.2.2.2.2.1 rfl
theorem dX10_takeNumber_21 : decode cX10_takeNumber 21 = .ok (.iload 4, 2) := dAt wdX10_takeNumber_0 adX10_takeNumber_0.2.2.2.2.2.2.2.2.2.2.2.2.1 rfl
theorem dX10_takeNumber_23 : decode cX10_takeNumber 23 = .ok (.aload_n 0, 1) := dAt wdX10_takeNumber_0 adX10_takeNumber_0.2.2.2.2.2.2.2.2.2.2.2.2.2.1 rfl
theorem dX10_takeNumber_24 : decode cX10_takeNumber 24 = .ok (.getfield 9, 3) := dAt wdX10_takeNumber_0 adX10_takeNumber_0.2.2.2.2.2.2.2.2.2.2.2.2.2.2.1 rfl
theorem dX10_takeNumber_27 : decode cX10_takeNumber 27 = .ok (.if_icmp .ge 64, 3) := dAt wdX10_takeNumber_0 adX10_takeNumber_0.2.2.2.2.2.2.2.2.2.2.2.2.2.2.2 rfl
def bdX10_takeNumber_30 : ByteArray := .mk #[42, 180, 0, 32, 21, 4, 51, 16, 48, 161, 0, 52, 42, 180, 0, 32, 21, 4, 51, 16, 57, 163, 0, 40, 21, 4, 42, 180, 0, 15, 100]
theorem wdX10_takeNumber_30 : LocW cX10_takeNumber 30 bdX10_takeNumber_30 := loc_of (by decide +kernel)
theorem adX10_takeNumber_30 : De bdX10_takeNumber_30 0 (.aload_n 0) 1 ∧ De bdX10_takeNumber_30 1 (.getfield 32) 3 ∧ De bdX10_takeNumber_30 4 (.iload 4) 2 ∧ De bdX10_takeNumber_30 6 (.baload) 1 ∧ De bdX10_takeNumber_30 7 (.bipush 48) 2 ∧ De bdX10_takeNumber_30 9 (.if_icmp .lt 52) 3 ∧ De bdX10_takeNumber_30 12 (.aload_n 0) 1 ∧ De bdX10_takeNumber_30 13 (.getfield 32) 3 ∧ De bdX10_takeNumber_30 16 (.iload 4) 2 ∧ De bdX10_takeNumber_30 18 (.baload) 1 ∧ De bdX10_takeNumber_30 19 (.bipush 57) 2 ∧ De bdX10_takeNumber_30 21 (.if_icmp .gt 40) 3 ∧ De bdX10_takeNumber_30 24 (.iload 4) 2 ∧ De bdX10_takeNumber_30 26 (.aload_n 0) 1 ∧ De bdX10_takeNumber_30 27 (.getfield 15) 3 ∧ De bdX10_takeNumber_30 30 (.isub) 1 := by decide +kernel
theorem dX10_takeNumber_30 : decode cX10_takeNumber 30 = .ok (.aload_n 0, 1) := dAt wdX10_takeNumber_30 adX10_takeNumber_30.1 rfl
theorem dX10_takeNumber_31 : decode cX10_takeNumber 31 = .ok (.getfield 32, 3) := dAt wdX10_takeNumber_30 adX10_takeNumber_30.2.1 rfl
theorem dX10_takeNumber_34 : decode cX10_takeNumber 34 = .ok (.iload 4, 2) := dAt wdX10_takeNumber_30 adX10_takeNumber_30.2.2.1 rfl
theorem dX10_takeNumber_36 : decode cX10_takeNumber 36 = .ok (.baload, 1) := dAt wdX10_takeNumber_30 adX10_takeNumber_30.2.2.2.1 rfl
theorem dX10_takeNumber_37 : decode cX10_takeNumber 37 = .ok (.bipush 48, 2) := dAt wdX10_takeNumber_30 adX10_takeNumber_30.2.2.2.2.1 rfl
theorem dX10_takeNumber_39 : decode cX10_takeNumber 39 = .ok (.if_icmp .lt 52, 3) := dAt wdX10_takeNumber_30 adX10_takeNumber_30.2.2.2.2.2.1 rfl
theorem dX10_takeNumber_42 : decode cX10_takeNumber 42 = .ok (.aload_n 0, 1) := dAt wdX10_takeNumber_30 adX10_takeNumber_30.2.2.2.2.2.2.1 rfl
theorem dX10_takeNumber_43 : decode cX10_takeNumber 43 = .ok (.getfield 32, 3) := dAt wdX10_takeNumber_30 adX10_takeNumber_30.2.2.2.2.2.2.2.1 rfl
theorem dX10_takeNumber_46 : decode cX10_takeNumber 46 = .ok (.iload 4, 2) := dAt wdX10_takeNumber_30 adX10_takeNumber_30.2.2.2.2.2.2.2.2.1 rfl
theorem dX10_takeNumber_48 : decode cX10_takeNumber 48 = .ok (.baload, 1) := dAt wdX10_takeNumber_30 adX10_takeNumber_30.2.2.2.2.2.2.2.2.2.1 rfl
theorem dX10_takeNumber_49 : decode cX10_takeNumber 49 = .ok (.bipush 57, 2) := dAt wdX10_takeNumber_30 adX10_takeNumber_30.2.2.2.2.2.2.2.2.2.2.1 rfl
theorem dX10_takeNumber_51 : decode cX10_takeNumber 51 = .ok (.if_icmp .gt 40, 3) := dAt wdX10_takeNumber_30 adX10_takeNumber_30.2.2.2.2.2.2.2.2.2.2.2.1 rfl
theorem dX10_takeNumber_54 : decode cX10_takeNumber 54 = .ok (.iload 4, 2) := dAt wdX10_takeNumber_30 adX10_takeNumber_30.2.2.2.2.2.2.2.2.2.2.2.2.1 rfl
theorem dX10_takeNumber_56 : decode cX10_takeNumber 56 = .ok (.aload_n 0, 1) := dAt wdX10_takeNumber_30 adX10_takeNumber_30.2.2.2.2.2.2.2.2.2.2.2.2.2.1 rfl
theorem dX10_takeNumber_57 : decode cX10_takeNumber 57 = .ok (.getfield 15, 3) := dAt wdX10_takeNumber_30 adX10_takeNumber_30.2.2.2.2.2.2.2.2.2.2.2.2.2.2.1 rfl
theorem dX10_takeNumber_60 : decode cX10_takeNumber 60 = .ok (.isub, 1) := dAt wdX10_takeNumber_30 adX10_takeNumber_30.2.2.2.2.2.2.2.2.2.2.2.2.2.2.2 rfl
def bdX10_takeNumber_61 : ByteArray := .mk #[7, 162, 0, 21, 16, 10, 29, 104, 42, 180, 0, 32, 21, 4, 51, 96, 16, 48, 100, 167, 0, 4, 3, 62, 132, 4, 1]
theorem wdX10_takeNumber_61 : LocW cX10_takeNumber 61 bdX10_takeNumber_61 := loc_of (by decide +kernel)
theorem adX10_takeNumber_61 : De bdX10_takeNumber_61 0 (.iconst 4) 1 ∧ De bdX10_takeNumber_61 1 (.if_icmp .ge 21) 3 ∧ De bdX10_takeNumber_61 4 (.bipush 10) 2 ∧ De bdX10_takeNumber_61 6 (.iload_n 3) 1 ∧ De bdX10_takeNumber_61 7 (.imul) 1 ∧ De bdX10_takeNumber_61 8 (.aload_n 0) 1 ∧ De bdX10_takeNumber_61 9 (.getfield 32) 3 ∧ De bdX10_takeNumber_61 12 (.iload 4) 2 ∧ De bdX10_takeNumber_61 14 (.baload) 1 ∧ De bdX10_takeNumber_61 15 (.iadd) 1 ∧ De bdX10_takeNumber_61 16 (.bipush 48) 2 ∧ De bdX10_takeNumber_61 18 (.isub) 1 ∧ De bdX10_takeNumber_61 19 (.goto 4) 3 ∧ De bdX10_takeNumber_61 22 (.iconst 0) 1 ∧ De bdX10_takeNumber_61 23 (.istore_n 3) 1 ∧ De bdX10_takeNumber_61 24 (.iinc 4 1) 3 := by decide +kernel
theorem dX10_takeNumber_61 : decode cX10_takeNumber 61 = .ok (.iconst 4, 1) := dAt wdX10_takeNumber_61 adX10_takeNumber_61.1 rfl
theorem dX10_takeNumber_62 : decode cX10_takeNumber 62 = .ok (.if_icmp .ge 21, 3) := dAt wdX10_takeNumber_61 adX10_takeNumber_61.2.1 rfl
theorem dX10_takeNumber_65 : decode cX10_takeNumber 65 = .ok (.bipush 10, 2) := dAt wdX10_takeNumber_61 adX10_takeNumber_61.2.2.1 rfl
theorem dX10_takeNumber_67 : decode cX10_takeNumber 67 = .ok (.iload_n 3, 1) := dAt wdX10_takeNumber_61 adX10_takeNumber_61.2.2.2.1 rfl
theorem dX10_takeNumber_68 : decode cX10_takeNumber 68 = .ok (.imul, 1) := dAt wdX10_takeNumber_61 adX10_takeNumber_61.2.2.2.2.1 rfl
theorem dX10_takeNumber_69 : decode cX10_takeNumber 69 = .ok (.aload_n 0, 1) := dAt wdX10_takeNumber_61 adX10_takeNumber_61.2.2.2.2.2.1 rfl
theorem dX10_takeNumber_70 : decode cX10_takeNumber 70 = .ok (.getfield 32, 3) := dAt wdX10_takeNumber_61 adX10_takeNumber_61.2.2.2.2.2.2.1 rfl
theorem dX10_takeNumber_73 : decode cX10_takeNumber 73 = .ok (.iload 4, 2) := dAt wdX10_takeNumber_61 adX10_takeNumber_61.2.2.2.2.2.2.2.1 rfl
theorem dX10_takeNumber_75 : decode cX10_takeNumber 75 = .ok (.baload, 1) := dAt wdX10_takeNumber_61 adX10_takeNumber_61.2.2.2.2.2.2.2.2.1 rfl
theorem dX10_takeNumber_76 : decode cX10_takeNumber 76 = .ok (.iadd, 1) := dAt wdX10_takeNumber_61 adX10_takeNumber_61.2.2.2.2.2.2.2.2.2.1 rfl
theorem dX10_takeNumber_77 : decode cX10_takeNumber 77 = .ok (.bipush 48, 2) := dAt wdX10_takeNumber_61 adX10_takeNumber_61.2.2.2.2.2.2.2.2.2.2.1 rfl
theorem dX10_takeNumber_79 : decode cX10_takeNumber 79 = .ok (.isub, 1) := dAt wdX10_takeNumber_61 adX10_takeNumber_61.2.2.2.2.2.2.2.2.2.2.2.1 rfl
theorem dX10_takeNumber_80 : decode cX10_takeNumber 80 = .ok (.goto 4, 3) := dAt wdX10_takeNumber_61 adX10_takeNumber_61.2.2.2.2.2.2.2.2.2.2.2.2.1 rfl
theorem dX10_takeNumber_83 : decode cX10_takeNumber 83 = .ok (.iconst 0, 1) := dAt wdX10_takeNumber_61 adX10_takeNumber_61.2.2.2.2.2.2.2.2.2.2.2.2.2.1 rfl
theorem dX10_takeNumber_84 : decode cX10_takeNumber 84 = .ok (.istore_n 3, 1) := dAt wdX10_takeNumber_61 adX10_takeNumber_61.2.2.2.2.2.2.2.2.2.2.2.2.2.2.1 rfl
theorem dX10_takeNumber_85 : decode cX10_takeNumber 85 = .ok (.iinc 4 1, 3) := dAt wdX10_takeNumber_61 adX10_takeNumber_61.2.2.2.2.2.2.2.2.2.2.2.2.2.2.2 rfl
def bdX10_takeNumber_88 : ByteArray := .mk #[167, 255, 189, 21, 4, 42, 180, 0, 15, 159, 0, 24, 21, 4, 42, 180, 0, 15, 100, 7, 163, 0, 13, 29, 27, 161, 0, 8, 29, 28]
theorem wdX10_takeNumber_88 : LocW cX10_takeNumber 88 bdX10_takeNumber_88 := loc_of (by decide +kernel)
theorem adX10_takeNumber_88 : De bdX10_takeNumber_88 0 (.goto (-67)) 3 ∧ De bdX10_takeNumber_88 3 (.iload 4) 2 ∧ De bdX10_takeNumber_88 5 (.aload_n 0) 1 ∧ De bdX10_takeNumber_88 6 (.getfield 15) 3 ∧ De bdX10_takeNumber_88 9 (.if_icmp .eq 24) 3 ∧ De bdX10_takeNumber_88 12 (.iload 4) 2 ∧ De bdX10_takeNumber_88 14 (.aload_n 0) 1 ∧ De bdX10_takeNumber_88 15 (.getfield 15) 3 ∧ De bdX10_takeNumber_88 18 (.isub) 1 ∧ De bdX10_takeNumber_88 19 (.iconst 4) 1 ∧ De bdX10_takeNumber_88 20 (.if_icmp .gt 13) 3 ∧ De bdX10_takeNumber_88 23 (.iload_n 3) 1 ∧ De bdX10_takeNumber_88 24 (.iload_n 1) 1 ∧ De bdX10_takeNumber_88 25 (.if_icmp .lt 8) 3 ∧ De bdX10_takeNumber_88 28 (.iload_n 3) 1 ∧ De bdX10_takeNumber_88 29 (.iload_n 2) 1 := by decide +kernel
theorem dX10_takeNumber_88 : decode cX10_takeNumber 88 = .ok (.goto (-67), 3) := dAt wdX10_takeNumber_88 adX10_takeNumber_88.1 rfl
theorem dX10_takeNumber_91 : decode cX10_takeNumber 91 = .ok (.iload 4, 2) := dAt wdX10_takeNumber_88 adX10_takeNumber_88.2.1 rfl
theorem dX10_takeNumber_93 : decode cX10_takeNumber 93 = .ok (.aload_n 0, 1) := dAt wdX10_takeNumber_88 adX10_takeNumber_88.2.2.1 rfl
theorem dX10_takeNumber_94 : decode cX10_takeNumber 94 = .ok (.getfield 15, 3) := dAt wdX10_takeNumber_88 adX10_takeNumber_88.2.2.2.1 rfl
theorem dX10_takeNumber_97 : decode cX10_takeNumber 97 = .ok (.if_icmp .eq 24, 3) := dAt wdX10_takeNumber_88 adX10_takeNumber_88.2.2.2.2.1 rfl
theorem dX10_takeNumber_100 : decode cX10_takeNumber 100 = .ok (.iload 4, 2) := dAt wdX10_takeNumber_88 adX10_takeNumber_88.2.2.2.2.2.1 rfl
theorem dX10_takeNumber_102 : decode cX10_takeNumber 102 = .ok (.aload_n 0, 1) := dAt wdX10_takeNumber_88 adX10_takeNumber_88.2.2.2.2.2.2.1 rfl
theorem dX10_takeNumber_103 : decode cX10_takeNumber 103 = .ok (.getfield 15, 3) := dAt wdX10_takeNumber_88 adX10_takeNumber_88.2.2.2.2.2.2.2.1 rfl
theorem dX10_takeNumber_106 : decode cX10_takeNumber 106 = .ok (.isub, 1) := dAt wdX10_takeNumber_88 adX10_takeNumber_88.2.2.2.2.2.2.2.2.1 rfl
theorem dX10_takeNumber_107 : decode cX10_takeNumber 107 = .ok (.iconst 4, 1) := dAt wdX10_takeNumber_88 adX10_takeNumber_88.2.2.2.2.2.2.2.2.2.1 rfl
theorem dX10_takeNumber_108 : decode cX10_takeNumber 108 = .ok (.if_icmp .gt 13, 3) := dAt wdX10_takeNumber_88 adX10_takeNumber_88.2.2.2.2.2.2.2.2.2.2.1 rfl
theorem dX10_takeNumber_111 : decode cX10_takeNumber 111 = .ok (.iload_n 3, 1) := dAt wdX10_takeNumber_88 adX10_takeNumber_88.2.2.2.2.2.2.2.2.2.2.2.1 rfl
theorem dX10_takeNumber_112 : decode cX10_takeNumber 112 = .ok (.iload_n 1, 1) := dAt wdX10_takeNumber_88 adX10_takeNumber_88.2.2.2.2.2.2.2.2.2.2.2.2.1 rfl
theorem dX10_takeNumber_113 : decode cX10_takeNumber 113 = .ok (.if_icmp .lt 8, 3) := dAt wdX10_takeNumber_88 adX10_takeNumber_88.2.2.2.2.2.2.2.2.2.2.2.2.2.1 rfl
theorem dX10_takeNumber_116 : decode cX10_takeNumber 116 = .ok (.iload_n 3, 1) := dAt wdX10_takeNumber_88 adX10_takeNumber_88.2.2.2.2.2.2.2.2.2.2.2.2.2.2.1 rfl
theorem dX10_takeNumber_117 : decode cX10_takeNumber 117 = .ok (.iload_n 2, 1) := dAt wdX10_takeNumber_88 adX10_takeNumber_88.2.2.2.2.2.2.2.2.2.2.2.2.2.2.2 rfl
def bdX10_takeNumber_118 : ByteArray := .mk #[164, 0, 13, 42, 42, 180, 0, 15, 181, 0, 18, 2, 172, 42, 21, 4, 181, 0, 15, 29, 172]
theorem wdX10_takeNumber_118 : LocW cX10_takeNumber 118 bdX10_takeNumber_118 := loc_of (by decide +kernel)
theorem adX10_takeNumber_118 : De bdX10_takeNumber_118 0 (.if_icmp .le 13) 3 ∧ De bdX10_takeNumber_118 3 (.aload_n 0) 1 ∧ De bdX10_takeNumber_118 4 (.aload_n 0) 1 ∧ De bdX10_takeNumber_118 5 (.getfield 15) 3 ∧ De bdX10_takeNumber_118 8 (.putfield 18) 3 ∧ De bdX10_takeNumber_118 11 (.iconst (-1)) 1 ∧ De bdX10_takeNumber_118 12 (.ireturn) 1 ∧ De bdX10_takeNumber_118 13 (.aload_n 0) 1 ∧ De bdX10_takeNumber_118 14 (.iload 4) 2 ∧ De bdX10_takeNumber_118 16 (.putfield 15) 3 ∧ De bdX10_takeNumber_118 19 (.iload_n 3) 1 ∧ De bdX10_takeNumber_118 20 (.ireturn) 1 := by decide +kernel
theorem dX10_takeNumber_118 : decode cX10_takeNumber 118 = .ok (.if_icmp .le 13, 3) := dAt wdX10_takeNumber_118 adX10_takeNumber_118.1 rfl
theorem dX10_takeNumber_121 : decode cX10_takeNumber 121 = .ok (.aload_n 0, 1) := dAt wdX10_takeNumber_118 adX10_takeNumber_118.2.1 rfl
theorem dX10_takeNumber_122 : decode cX10_takeNumber 122 = .ok (.aload_n 0, 1) := dAt wdX10_takeNumber_118 adX10_takeNumber_118.2.2.1 rfl
theorem dX10_takeNumber_123 : decode cX10_takeNumber 123 = .ok (.getfield 15, 3) := dAt wdX10_takeNumber_118 adX10_takeNumber_118.2.2.2.1 rfl
theorem dX10_takeNumber_126 : decode cX10_takeNumber 126 = .ok (.putfield 18, 3) := dAt wdX10_takeNumber_118 adX10_takeNumber_118.2.2.2.2.1 rfl
theorem dX10_takeNumber_129 : decode cX10_takeNumber 129 = .ok (.iconst (-1), 1) := dAt wdX10_takeNumber_118 adX10_takeNumber_118.2.2.2.2.2.1 rfl
theorem dX10_takeNumber_130 : decode cX10_takeNumber 130 = .ok (.ireturn, 1) := dAt wdX10_takeNumber_118 adX10_takeNumber_118.2.2.2.2.2.2.1 rfl
theorem dX10_takeNumber_131 : decode cX10_takeNumber 131 = .ok (.aload_n 0, 1) := dAt wdX10_takeNumber_118 adX10_takeNumber_118.2.2.2.2.2.2.2.1 rfl
theorem dX10_takeNumber_132 : decode cX10_takeNumber 132 = .ok (.iload 4, 2) := dAt wdX10_takeNumber_118 adX10_takeNumber_118.2.2.2.2.2.2.2.2.1 rfl
theorem dX10_takeNumber_134 : decode cX10_takeNumber 134 = .ok (.putfield 15, 3) := dAt wdX10_takeNumber_118 adX10_takeNumber_118.2.2.2.2.2.2.2.2.2.1 rfl
theorem dX10_takeNumber_137 : decode cX10_takeNumber 137 = .ok (.iload_n 3, 1) := dAt wdX10_takeNumber_118 adX10_takeNumber_118.2.2.2.2.2.2.2.2.2.2.1 rfl
theorem dX10_takeNumber_138 : decode cX10_takeNumber 138 = .ok (.ireturn, 1) := dAt wdX10_takeNumber_118 adX10_takeNumber_118.2.2.2.2.2.2.2.2.2.2.2 rfl
def bdX11_init_0 : ByteArray := .mk #[42, 183, 0, 1, 42, 17, 1, 144, 188, 8, 181, 0, 9, 42, 3, 181, 0, 13, 42, 2, 181, 0, 17, 42, 187, 0, 20, 89, 42]
theorem wdX11_init_0 : LocW cX11_init 0 bdX11_init_0 := loc_of (by decide +kernel)
theorem adX11_init_0 : De bdX11_init_0 0 (.aload_n 0) 1 ∧ De bdX11_init_0 1 (.invokespecial 1) 3 ∧ De bdX11_init_0 4 (.aload_n 0) 1 ∧ De bdX11_init_0 5 (.sipush 400) 3 ∧ De bdX11_init_0 8 (.newarray .byte) 2 ∧ De bdX11_init_0 10 (.putfield 9) 3 ∧ De bdX11_init_0 13 (.aload_n 0) 1 ∧ De bdX11_init_0 14 (.iconst 0) 1 ∧ De bdX11_init_0 15 (.putfield 13) 3 ∧ De bdX11_init_0 18 (.aload_n 0) 1 ∧ De bdX11_init_0 19 (.iconst (-1)) 1 ∧ De bdX11_init_0 20 (.putfield 17) 3 ∧ De bdX11_init_0 23 (.aload_n 0) 1 ∧ De bdX11_init_0 24 (.new 20) 3 ∧ De bdX11_init_0 27 (.dup) 1 ∧ De bdX11_init_0 28 (.aload_n 0) 1 := by decide +kernel
theorem dX11_init_0 : decode cX11_init 0 = .ok (.aload_n 0, 1) := dAt wdX11_init_0 adX11_init_0.1 rfl
theorem dX11_init_1 : decode cX11_init 1 = .ok (.invokespecial 1, 3) := dAt wdX11_init_0 adX11_init_0.2.1 rfl
theorem dX11_init_4 : decode cX11_init 4 = .ok (.aload_n 0, 1) := dAt wdX11_init_0 adX11_init_0.2.2.1 rfl
theorem dX11_init_5 : decode cX11_init 5 = .ok (.sipush 400, 3) := dAt wdX11_init_0 adX11_init_0.2.2.2.1 rfl
theorem dX11_init_8 : decode cX11_init 8 = .ok (.newarray .byte, 2) := dAt wdX11_init_0 adX11_init_0.2.2.2.2.1 rfl
theorem dX11_init_10 : decode cX11_init 10 = .ok (.putfield 9, 3) := dAt wdX11_init_0 adX11_init_0.2.2.2.2.2.1 rfl
theorem dX11_init_13 : decode cX11_init 13 = .ok (.aload_n 0, 1) := dAt wdX11_init_0 adX11_init_0.2.2.2.2.2.2.1 rfl
theorem dX11_init_14 : decode cX11_init 14 = .ok (.iconst 0, 1) := dAt wdX11_init_0 adX11_init_0.2.2.2.2.2.2.2.1 rfl
theorem dX11_init_15 : decode cX11_init 15 = .ok (.putfield 13, 3) := dAt wdX11_init_0 adX11_init_0.2.2.2.2.2.2.2.2.1 rfl
theorem dX11_init_18 : decode cX11_init 18 = .ok (.aload_n 0, 1) := dAt wdX11_init_0 adX11_init_0.2.2.2.2.2.2.2.2.2.1 rfl
theorem dX11_init_19 : decode cX11_init 19 = .ok (.iconst (-1), 1) := dAt wdX11_init_0 adX11_init_0.2.2.2.2.2.2.2.2.2.2.1 rfl
theorem dX11_init_20 : decode cX11_init 20 = .ok (.putfield 17, 3) := dAt wdX11_init_0 adX11_init_0.2.2.2.2.2.2.2.2.2.2.2.1 rfl
theorem dX11_init_23 : decode cX11_init 23 = .ok (.aload_n 0, 1) := dAt wdX11_init_0 adX11_init_0.2.2.2.2.2.2.2.2.2.2.2.2.1 rfl
theorem dX11_init_24 : decode cX11_init 24 = .ok (.new 20, 3) := dAt wdX11_init_0 adX11_init_0.2.2.2.2.2.2.2.2.2.2.2.2.2.1 rfl
theorem dX11_init_27 : decode cX11_init 27 = .ok (.dup, 1) := dAt wdX11_init_0 adX11_init_0.2.2.2.2.2.2.2.2.2.2.2.2.2.2.1 rfl
theorem dX11_init_28 : decode cX11_init 28 = .ok (.aload_n 0, 1) := dAt wdX11_init_0 adX11_init_0.2.2.2.2.2.2.2.2.2.2.2.2.2.2.2 rfl
def bdX11_init_29 : ByteArray := .mk #[180, 0, 9, 183, 0, 22, 181, 0, 25, 42, 187, 0, 29, 89, 183, 0, 31, 181, 0, 32, 42, 187, 0, 36, 89, 183, 0, 38, 181, 0, 39, 42, 187, 0, 43, 89]
theorem wdX11_init_29 : LocW cX11_init 29 bdX11_init_29 := loc_of (by decide +kernel)
theorem adX11_init_29 : De bdX11_init_29 0 (.getfield 9) 3 ∧ De bdX11_init_29 3 (.invokespecial 22) 3 ∧ De bdX11_init_29 6 (.putfield 25) 3 ∧ De bdX11_init_29 9 (.aload_n 0) 1 ∧ De bdX11_init_29 10 (.new 29) 3 ∧ De bdX11_init_29 13 (.dup) 1 ∧ De bdX11_init_29 14 (.invokespecial 31) 3 ∧ De bdX11_init_29 17 (.putfield 32) 3 ∧ De bdX11_init_29 20 (.aload_n 0) 1 ∧ De bdX11_init_29 21 (.new 36) 3 ∧ De bdX11_init_29 24 (.dup) 1 ∧ De bdX11_init_29 25 (.invokespecial 38) 3 ∧ De bdX11_init_29 28 (.putfield 39) 3 ∧ De bdX11_init_29 31 (.aload_n 0) 1 ∧ De bdX11_init_29 32 (.new 43) 3 ∧ De bdX11_init_29 35 (.dup) 1 := by decide +kernel
theorem dX11_init_29 : decode cX11_init 29 = .ok (.getfield 9, 3) := dAt wdX11_init_29 adX11_init_29.1 rfl
theorem dX11_init_32 : decode cX11_init 32 = .ok (.invokespecial 22, 3) := dAt wdX11_init_29 adX11_init_29.2.1 rfl
theorem dX11_init_35 : decode cX11_init 35 = .ok (.putfield 25, 3) := dAt wdX11_init_29 adX11_init_29.2.2.1 rfl
theorem dX11_init_38 : decode cX11_init 38 = .ok (.aload_n 0, 1) := dAt wdX11_init_29 adX11_init_29.2.2.2.1 rfl
theorem dX11_init_39 : decode cX11_init 39 = .ok (.new 29, 3) := dAt wdX11_init_29 adX11_init_29.2.2.2.2.1 rfl
theorem dX11_init_42 : decode cX11_init 42 = .ok (.dup, 1) := dAt wdX11_init_29 adX11_init_29.2.2.2.2.2.1 rfl
theorem dX11_init_43 : decode cX11_init 43 = .ok (.invokespecial 31, 3) := dAt wdX11_init_29 adX11_init_29.2.2.2.2.2.2.1 rfl
theorem dX11_init_46 : decode cX11_init 46 = .ok (.putfield 32, 3) := dAt wdX11_init_29 adX11_init_29.2.2.2.2.2.2.2.1 rfl
theorem dX11_init_49 : decode cX11_init 49 = .ok (.aload_n 0, 1) := dAt wdX11_init_29 adX11_init_29.2.2.2.2.2.2.2.2.1 rfl
theorem dX11_init_50 : decode cX11_init 50 = .ok (.new 36, 3) := dAt wdX11_init_29 adX11_init_29.2.2.2.2.2.2.2.2.2.1 rfl
theorem dX11_init_53 : decode cX11_init 53 = .ok (.dup, 1) := dAt wdX11_init_29 adX11_init_29.2.2.2.2.2.2.2.2.2.2.1 rfl
theorem dX11_init_54 : decode cX11_init 54 = .ok (.invokespecial 38, 3) := dAt wdX11_init_29 adX11_init_29.2.2.2.2.2.2.2.2.2.2.2.1 rfl
theorem dX11_init_57 : decode cX11_init 57 = .ok (.putfield 39, 3) := dAt wdX11_init_29 adX11_init_29.2.2.2.2.2.2.2.2.2.2.2.2.1 rfl
theorem dX11_init_60 : decode cX11_init 60 = .ok (.aload_n 0, 1) := dAt wdX11_init_29 adX11_init_29.2.2.2.2.2.2.2.2.2.2.2.2.2.1 rfl
theorem dX11_init_61 : decode cX11_init 61 = .ok (.new 43, 3) := dAt wdX11_init_29 adX11_init_29.2.2.2.2.2.2.2.2.2.2.2.2.2.2.1 rfl
theorem dX11_init_64 : decode cX11_init 64 = .ok (.dup, 1) := dAt wdX11_init_29 adX11_init_29.2.2.2.2.2.2.2.2.2.2.2.2.2.2.2 rfl
def bdX11_init_65 : ByteArray := .mk #[183, 0, 45, 181, 0, 46, 42, 187, 0, 50, 89, 183, 0, 52, 181, 0, 53, 42, 187, 0, 57, 89, 183, 0, 59, 181, 0, 60, 42, 1, 181, 0, 64, 42]
theorem wdX11_init_65 : LocW cX11_init 65 bdX11_init_65 := loc_of (by decide +kernel)
theorem adX11_init_65 : De bdX11_init_65 0 (.invokespecial 45) 3 ∧ De bdX11_init_65 3 (.putfield 46) 3 ∧ De bdX11_init_65 6 (.aload_n 0) 1 ∧ De bdX11_init_65 7 (.new 50) 3 ∧ De bdX11_init_65 10 (.dup) 1 ∧ De bdX11_init_65 11 (.invokespecial 52) 3 ∧ De bdX11_init_65 14 (.putfield 53) 3 ∧ De bdX11_init_65 17 (.aload_n 0) 1 ∧ De bdX11_init_65 18 (.new 57) 3 ∧ De bdX11_init_65 21 (.dup) 1 ∧ De bdX11_init_65 22 (.invokespecial 59) 3 ∧ De bdX11_init_65 25 (.putfield 60) 3 ∧ De bdX11_init_65 28 (.aload_n 0) 1 ∧ De bdX11_init_65 29 (.aconst_null) 1 ∧ De bdX11_init_65 30 (.putfield 64) 3 ∧ De bdX11_init_65 33 (.aload_n 0) 1 := by decide +kernel
theorem dX11_init_65 : decode cX11_init 65 = .ok (.invokespecial 45, 3) := dAt wdX11_init_65 adX11_init_65.1 rfl
theorem dX11_init_68 : decode cX11_init 68 = .ok (.putfield 46, 3) := dAt wdX11_init_65 adX11_init_65.2.1 rfl
theorem dX11_init_71 : decode cX11_init 71 = .ok (.aload_n 0, 1) := dAt wdX11_init_65 adX11_init_65.2.2.1 rfl
theorem dX11_init_72 : decode cX11_init 72 = .ok (.new 50, 3) := dAt wdX11_init_65 adX11_init_65.2.2.2.1 rfl
theorem dX11_init_75 : decode cX11_init 75 = .ok (.dup, 1) := dAt wdX11_init_65 adX11_init_65.2.2.2.2.1 rfl
theorem dX11_init_76 : decode cX11_init 76 = .ok (.invokespecial 52, 3) := dAt wdX11_init_65 adX11_init_65.2.2.2.2.2.1 rfl
theorem dX11_init_79 : decode cX11_init 79 = .ok (.putfield 53, 3) := dAt wdX11_init_65 adX11_init_65.2.2.2.2.2.2.1 rfl
theorem dX11_init_82 : decode cX11_init 82 = .ok (.aload_n 0, 1) := dAt wdX11_init_65 adX11_init_65.2.2.2.2.2.2.2.1 rfl
theorem dX11_init_83 : decode cX11_init 83 = .ok (.new 57, 3) := dAt wdX11_init_65 adX11_init_65.2.2.2.2.2.2.2.2.1 rfl
theorem dX11_init_86 : decode cX11_init 86 = .ok (.dup, 1) := dAt wdX11_init_65 adX11_init_65.2.2.2.2.2.2.2.2.2.1 rfl
theorem dX11_init_87 : decode cX11_init 87 = .ok (.invokespecial 59, 3) := dAt wdX11_init_65 adX11_init_65.2.2.2.2.2.2.2.2.2.2.1 rfl
theorem dX11_init_90 : decode cX11_init 90 = .ok (.putfield 60, 3) := dAt wdX11_init_65 adX11_init_65.2.2.2.2.2.2.2.2.2.2.2.1 rfl
theorem dX11_init_93 : decode cX11_init 93 = .ok (.aload_n 0, 1) := dAt wdX11_init_65 adX11_init_65.2.2.2.2.2.2.2.2.2.2.2.2.1 rfl
theorem dX11_init_94 : decode cX11_init 94 = .ok (.aconst_null, 1) := dAt wdX11_init_65 adX11_init_65.2.2.2.2.2.2.2.2.2.2.2.2.2.1 rfl
theorem dX11_init_95 : decode cX11_init 95 = .ok (.putfield 64, 3) := dAt wdX11_init_65 adX11_init_65.2.2.2.2.2.2.2.2.2.2.2.2.2.2.1 rfl
theorem dX11_init_98 : decode cX11_init 98 = .ok (.aload_n 0, 1) := dAt wdX11_init_65 adX11_init_65.2.2.2.2.2.2.2.2.2.2.2.2.2.2.2 rfl
def bdX11_init_99 : ByteArray := .mk #[1, 181, 0, 67, 42, 1, 181, 0, 70, 177]
theorem wdX11_init_99 : LocW cX11_init 99 bdX11_init_99 := loc_of (by decide +kernel)
theorem adX11_init_99 : De bdX11_init_99 0 (.aconst_null) 1 ∧ De bdX11_init_99 1 (.putfield 67) 3 ∧ De bdX11_init_99 4 (.aload_n 0) 1 ∧ De bdX11_init_99 5 (.aconst_null) 1 ∧ De bdX11_init_99 6 (.putfield 70) 3 ∧ De bdX11_init_99 9 (.return_) 1 := by decide +kernel
theorem dX11_init_99 : decode cX11_init 99 = .ok (.aconst_null, 1) := dAt wdX11_init_99 adX11_init_99.1 rfl
theorem dX11_init_100 : decode cX11_init 100 = .ok (.putfield 67, 3) := dAt wdX11_init_99 adX11_init_99.2.1 rfl
theorem dX11_init_103 : decode cX11_init 103 = .ok (.aload_n 0, 1) := dAt wdX11_init_99 adX11_init_99.2.2.1 rfl
theorem dX11_init_104 : decode cX11_init 104 = .ok (.aconst_null, 1) := dAt wdX11_init_99 adX11_init_99.2.2.2.1 rfl
theorem dX11_init_105 : decode cX11_init 105 = .ok (.putfield 70, 3) := dAt wdX11_init_99 adX11_init_99.2.2.2.2.1 rfl
theorem dX11_init_108 : decode cX11_init 108 = .ok (.return_, 1) := dAt wdX11_init_99 adX11_init_99.2.2.2.2.2 rfl
def bdX11_feed_0 : ByteArray := .mk #[42, 180, 0, 13, 16, 20, 96, 17, 1, 144, 164, 0, 5, 2, 172, 42, 27, 182, 0, 73, 42, 28, 182, 0, 73, 42, 29]
theorem wdX11_feed_0 : LocW cX11_feed 0 bdX11_feed_0 := loc_of (by decide +kernel)
theorem adX11_feed_0 : De bdX11_feed_0 0 (.aload_n 0) 1 ∧ De bdX11_feed_0 1 (.getfield 13) 3 ∧ De bdX11_feed_0 4 (.bipush 20) 2 ∧ De bdX11_feed_0 6 (.iadd) 1 ∧ De bdX11_feed_0 7 (.sipush 400) 3 ∧ De bdX11_feed_0 10 (.if_icmp .le 5) 3 ∧ De bdX11_feed_0 13 (.iconst (-1)) 1 ∧ De bdX11_feed_0 14 (.ireturn) 1 ∧ De bdX11_feed_0 15 (.aload_n 0) 1 ∧ De bdX11_feed_0 16 (.iload_n 1) 1 ∧ De bdX11_feed_0 17 (.invokevirtual 73) 3 ∧ De bdX11_feed_0 20 (.aload_n 0) 1 ∧ De bdX11_feed_0 21 (.iload_n 2) 1 ∧ De bdX11_feed_0 22 (.invokevirtual 73) 3 ∧ De bdX11_feed_0 25 (.aload_n 0) 1 ∧ De bdX11_feed_0 26 (.iload_n 3) 1 := by decide +kernel
theorem dX11_feed_0 : decode cX11_feed 0 = .ok (.aload_n 0, 1) := dAt wdX11_feed_0 adX11_feed_0.1 rfl
theorem dX11_feed_1 : decode cX11_feed 1 = .ok (.getfield 13, 3) := dAt wdX11_feed_0 adX11_feed_0.2.1 rfl
theorem dX11_feed_4 : decode cX11_feed 4 = .ok (.bipush 20, 2) := dAt wdX11_feed_0 adX11_feed_0.2.2.1 rfl
theorem dX11_feed_6 : decode cX11_feed 6 = .ok (.iadd, 1) := dAt wdX11_feed_0 adX11_feed_0.2.2.2.1 rfl
theorem dX11_feed_7 : decode cX11_feed 7 = .ok (.sipush 400, 3) := dAt wdX11_feed_0 adX11_feed_0.2.2.2.2.1 rfl
theorem dX11_feed_10 : decode cX11_feed 10 = .ok (.if_icmp .le 5, 3) := dAt wdX11_feed_0 adX11_feed_0.2.2.2.2.2.1 rfl
theorem dX11_feed_13 : decode cX11_feed 13 = .ok (.iconst (-1), 1) := dAt wdX11_feed_0 adX11_feed_0.2.2.2.2.2.2.1 rfl
theorem dX11_feed_14 : decode cX11_feed 14 = .ok (.ireturn, 1) := dAt wdX11_feed_0 adX11_feed_0.2.2.2.2.2.2.2.1 rfl
theorem dX11_feed_15 : decode cX11_feed 15 = .ok (.aload_n 0, 1) := dAt wdX11_feed_0 adX11_feed_0.2.2.2.2.2.2.2.2.1 rfl
theorem dX11_feed_16 : decode cX11_feed 16 = .ok (.iload_n 1, 1) := dAt wdX11_feed_0 adX11_feed_0.2.2.2.2.2.2.2.2.2.1 rfl
theorem dX11_feed_17 : decode cX11_feed 17 = .ok (.invokevirtual 73, 3) := dAt wdX11_feed_0 adX11_feed_0.2.2.2.2.2.2.2.2.2.2.1 rfl
theorem dX11_feed_20 : decode cX11_feed 20 = .ok (.aload_n 0, 1) := dAt wdX11_feed_0 adX11_feed_0.2.2.2.2.2.2.2.2.2.2.2.1 rfl
theorem dX11_feed_21 : decode cX11_feed 21 = .ok (.iload_n 2, 1) := dAt wdX11_feed_0 adX11_feed_0.2.2.2.2.2.2.2.2.2.2.2.2.1 rfl
theorem dX11_feed_22 : decode cX11_feed 22 = .ok (.invokevirtual 73, 3) := dAt wdX11_feed_0 adX11_feed_0.2.2.2.2.2.2.2.2.2.2.2.2.2.1 rfl
theorem dX11_feed_25 : decode cX11_feed 25 = .ok (.aload_n 0, 1) := dAt wdX11_feed_0 adX11_feed_0.2.2.2.2.2.2.2.2.2.2.2.2.2.2.1 rfl
theorem dX11_feed_26 : decode cX11_feed 26 = .ok (.iload_n 3, 1) := dAt wdX11_feed_0 adX11_feed_0.2.2.2.2.2.2.2.2.2.2.2.2.2.2.2 rfl
def bdX11_feed_27 : ByteArray := .mk #[182, 0, 73, 42, 21, 4, 182, 0, 73, 42, 21, 5, 182, 0, 73, 42, 180, 0, 13, 172]
theorem wdX11_feed_27 : LocW cX11_feed 27 bdX11_feed_27 := loc_of (by decide +kernel)
theorem adX11_feed_27 : De bdX11_feed_27 0 (.invokevirtual 73) 3 ∧ De bdX11_feed_27 3 (.aload_n 0) 1 ∧ De bdX11_feed_27 4 (.iload 4) 2 ∧ De bdX11_feed_27 6 (.invokevirtual 73) 3 ∧ De bdX11_feed_27 9 (.aload_n 0) 1 ∧ De bdX11_feed_27 10 (.iload 5) 2 ∧ De bdX11_feed_27 12 (.invokevirtual 73) 3 ∧ De bdX11_feed_27 15 (.aload_n 0) 1 ∧ De bdX11_feed_27 16 (.getfield 13) 3 ∧ De bdX11_feed_27 19 (.ireturn) 1 := by decide +kernel
theorem dX11_feed_27 : decode cX11_feed 27 = .ok (.invokevirtual 73, 3) := dAt wdX11_feed_27 adX11_feed_27.1 rfl
theorem dX11_feed_30 : decode cX11_feed 30 = .ok (.aload_n 0, 1) := dAt wdX11_feed_27 adX11_feed_27.2.1 rfl
theorem dX11_feed_31 : decode cX11_feed 31 = .ok (.iload 4, 2) := dAt wdX11_feed_27 adX11_feed_27.2.2.1 rfl
theorem dX11_feed_33 : decode cX11_feed 33 = .ok (.invokevirtual 73, 3) := dAt wdX11_feed_27 adX11_feed_27.2.2.2.1 rfl
theorem dX11_feed_36 : decode cX11_feed 36 = .ok (.aload_n 0, 1) := dAt wdX11_feed_27 adX11_feed_27.2.2.2.2.1 rfl
theorem dX11_feed_37 : decode cX11_feed 37 = .ok (.iload 5, 2) := dAt wdX11_feed_27 adX11_feed_27.2.2.2.2.2.1 rfl
theorem dX11_feed_39 : decode cX11_feed 39 = .ok (.invokevirtual 73, 3) := dAt wdX11_feed_27 adX11_feed_27.2.2.2.2.2.2.1 rfl
theorem dX11_feed_42 : decode cX11_feed 42 = .ok (.aload_n 0, 1) := dAt wdX11_feed_27 adX11_feed_27.2.2.2.2.2.2.2.1 rfl
theorem dX11_feed_43 : decode cX11_feed 43 = .ok (.getfield 13, 3) := dAt wdX11_feed_27 adX11_feed_27.2.2.2.2.2.2.2.2.1 rfl
theorem dX11_feed_46 : decode cX11_feed 46 = .ok (.ireturn, 1) := dAt wdX11_feed_27 adX11_feed_27.2.2.2.2.2.2.2.2.2 rfl
def bdX11_feedNumber_0 : ByteArray := .mk #[16, 24, 61, 28, 155, 0, 42, 42, 180, 0, 13, 17, 1, 144, 162, 0, 32, 42, 180, 0, 9, 42, 180, 0, 13, 27, 28, 122, 145]
theorem wdX11_feedNumber_0 : LocW cX11_feedNumber 0 bdX11_feedNumber_0 := loc_of (by decide +kernel)
theorem adX11_feedNumber_0 : De bdX11_feedNumber_0 0 (.bipush 24) 2 ∧ De bdX11_feedNumber_0 2 (.istore_n 2) 1 ∧ De bdX11_feedNumber_0 3 (.iload_n 2) 1 ∧ De bdX11_feedNumber_0 4 (.ifCond .lt 42) 3 ∧ De bdX11_feedNumber_0 7 (.aload_n 0) 1 ∧ De bdX11_feedNumber_0 8 (.getfield 13) 3 ∧ De bdX11_feedNumber_0 11 (.sipush 400) 3 ∧ De bdX11_feedNumber_0 14 (.if_icmp .ge 32) 3 ∧ De bdX11_feedNumber_0 17 (.aload_n 0) 1 ∧ De bdX11_feedNumber_0 18 (.getfield 9) 3 ∧ De bdX11_feedNumber_0 21 (.aload_n 0) 1 ∧ De bdX11_feedNumber_0 22 (.getfield 13) 3 ∧ De bdX11_feedNumber_0 25 (.iload_n 1) 1 ∧ De bdX11_feedNumber_0 26 (.iload_n 2) 1 ∧ De bdX11_feedNumber_0 27 (.ishr) 1 ∧ De bdX11_feedNumber_0 28 (.i2b) 1 := by decide +kernel
theorem dX11_feedNumber_0 : decode cX11_feedNumber 0 = .ok (.bipush 24, 2) := dAt wdX11_feedNumber_0 adX11_feedNumber_0.1 rfl
theorem dX11_feedNumber_2 : decode cX11_feedNumber 2 = .ok (.istore_n 2, 1) := dAt wdX11_feedNumber_0 adX11_feedNumber_0.2.1 rfl
theorem dX11_feedNumber_3 : decode cX11_feedNumber 3 = .ok (.iload_n 2, 1) := dAt wdX11_feedNumber_0 adX11_feedNumber_0.2.2.1 rfl
theorem dX11_feedNumber_4 : decode cX11_feedNumber 4 = .ok (.ifCond .lt 42, 3) := dAt wdX11_feedNumber_0 adX11_feedNumber_0.2.2.2.1 rfl
theorem dX11_feedNumber_7 : decode cX11_feedNumber 7 = .ok (.aload_n 0, 1) := dAt wdX11_feedNumber_0 adX11_feedNumber_0.2.2.2.2.1 rfl
theorem dX11_feedNumber_8 : decode cX11_feedNumber 8 = .ok (.getfield 13, 3) := dAt wdX11_feedNumber_0 adX11_feedNumber_0.2.2.2.2.2.1 rfl
theorem dX11_feedNumber_11 : decode cX11_feedNumber 11 = .ok (.sipush 400, 3) := dAt wdX11_feedNumber_0 adX11_feedNumber_0.2.2.2.2.2.2.1 rfl
theorem dX11_feedNumber_14 : decode cX11_feedNumber 14 = .ok (.if_icmp .ge 32, 3) := dAt wdX11_feedNumber_0 adX11_feedNumber_0.2.2.2.2.2.2.2.1 rfl
theorem dX11_feedNumber_17 : decode cX11_feedNumber 17 = .ok (.aload_n 0, 1) := dAt wdX11_feedNumber_0 adX11_feedNumber_0.2.2.2.2.2.2.2.2.1 rfl
theorem dX11_feedNumber_18 : decode cX11_feedNumber 18 = .ok (.getfield 9, 3) := dAt wdX11_feedNumber_0 adX11_feedNumber_0.2.2.2.2.2.2.2.2.2.1 rfl
theorem dX11_feedNumber_21 : decode cX11_feedNumber 21 = .ok (.aload_n 0, 1) := dAt wdX11_feedNumber_0 adX11_feedNumber_0.2.2.2.2.2.2.2.2.2.2.1 rfl
theorem dX11_feedNumber_22 : decode cX11_feedNumber 22 = .ok (.getfield 13, 3) := dAt wdX11_feedNumber_0 adX11_feedNumber_0.2.2.2.2.2.2.2.2.2.2.2.1 rfl
theorem dX11_feedNumber_25 : decode cX11_feedNumber 25 = .ok (.iload_n 1, 1) := dAt wdX11_feedNumber_0 adX11_feedNumber_0.2.2.2.2.2.2.2.2.2.2.2.2.1 rfl
theorem dX11_feedNumber_26 : decode cX11_feedNumber 26 = .ok (.iload_n 2, 1) := dAt wdX11_feedNumber_0 adX11_feedNumber_0.2.2.2.2.2.2.2.2.2.2.2.2.2.1 rfl
theorem dX11_feedNumber_27 : decode cX11_feedNumber 27 = .ok (.ishr, 1) := dAt wdX11_feedNumber_0 adX11_feedNumber_0.2.2.2.2.2.2.2.2.2.2.2.2.2.2.1 rfl
theorem dX11_feedNumber_28 : decode cX11_feedNumber 28 = .ok (.i2b, 1) := dAt wdX11_feedNumber_0 adX11_feedNumber_0.2.2.2.2.2.2.2.2.2.2.2.2.2.2.2 rfl
def bdX11_feedNumber_29 : ByteArray := .mk #[84, 42, 89, 180, 0, 13, 4, 96, 181, 0, 13, 132, 2, 248, 167, 255, 216, 177]
theorem wdX11_feedNumber_29 : LocW cX11_feedNumber 29 bdX11_feedNumber_29 := loc_of (by decide +kernel)
theorem adX11_feedNumber_29 : De bdX11_feedNumber_29 0 (.bastore) 1 ∧ De bdX11_feedNumber_29 1 (.aload_n 0) 1 ∧ De bdX11_feedNumber_29 2 (.dup) 1 ∧ De bdX11_feedNumber_29 3 (.getfield 13) 3 ∧ De bdX11_feedNumber_29 6 (.iconst 1) 1 ∧ De bdX11_feedNumber_29 7 (.iadd) 1 ∧ De bdX11_feedNumber_29 8 (.putfield 13) 3 ∧ De bdX11_feedNumber_29 11 (.iinc 2 (-8)) 3 ∧ De bdX11_feedNumber_29 14 (.goto (-40)) 3 ∧ De bdX11_feedNumber_29 17 (.return_) 1 := by decide +kernel
theorem dX11_feedNumber_29 : decode cX11_feedNumber 29 = .ok (.bastore, 1) := dAt wdX11_feedNumber_29 adX11_feedNumber_29.1 rfl
theorem dX11_feedNumber_30 : decode cX11_feedNumber 30 = .ok (.aload_n 0, 1) := dAt wdX11_feedNumber_29 adX11_feedNumber_29.2.1 rfl
theorem dX11_feedNumber_31 : decode cX11_feedNumber 31 = .ok (.dup, 1) := dAt wdX11_feedNumber_29 adX11_feedNumber_29.2.2.1 rfl
theorem dX11_feedNumber_32 : decode cX11_feedNumber 32 = .ok (.getfield 13, 3) := dAt wdX11_feedNumber_29 adX11_feedNumber_29.2.2.2.1 rfl
theorem dX11_feedNumber_35 : decode cX11_feedNumber 35 = .ok (.iconst 1, 1) := dAt wdX11_feedNumber_29 adX11_feedNumber_29.2.2.2.2.1 rfl
theorem dX11_feedNumber_36 : decode cX11_feedNumber 36 = .ok (.iadd, 1) := dAt wdX11_feedNumber_29 adX11_feedNumber_29.2.2.2.2.2.1 rfl
theorem dX11_feedNumber_37 : decode cX11_feedNumber 37 = .ok (.putfield 13, 3) := dAt wdX11_feedNumber_29 adX11_feedNumber_29.2.2.2.2.2.2.1 rfl
theorem dX11_feedNumber_40 : decode cX11_feedNumber 40 = .ok (.iinc 2 (-8), 3) := dAt wdX11_feedNumber_29 adX11_feedNumber_29.2.2.2.2.2.2.2.1 rfl
theorem dX11_feedNumber_43 : decode cX11_feedNumber 43 = .ok (.goto (-40), 3) := dAt wdX11_feedNumber_29 adX11_feedNumber_29.2.2.2.2.2.2.2.2.1 rfl
theorem dX11_feedNumber_46 : decode cX11_feedNumber 46 = .ok (.return_, 1) := dAt wdX11_feedNumber_29 adX11_feedNumber_29.2.2.2.2.2.2.2.2.2 rfl
def bdX11_end_0 : ByteArray := .mk #[27, 155, 0, 11, 27, 42, 180, 0, 13, 164, 0, 5, 3, 172, 42, 27, 181, 0, 13, 4, 172]
theorem wdX11_end_0 : LocW cX11_end 0 bdX11_end_0 := loc_of (by decide +kernel)
theorem adX11_end_0 : De bdX11_end_0 0 (.iload_n 1) 1 ∧ De bdX11_end_0 1 (.ifCond .lt 11) 3 ∧ De bdX11_end_0 4 (.iload_n 1) 1 ∧ De bdX11_end_0 5 (.aload_n 0) 1 ∧ De bdX11_end_0 6 (.getfield 13) 3 ∧ De bdX11_end_0 9 (.if_icmp .le 5) 3 ∧ De bdX11_end_0 12 (.iconst 0) 1 ∧ De bdX11_end_0 13 (.ireturn) 1 ∧ De bdX11_end_0 14 (.aload_n 0) 1 ∧ De bdX11_end_0 15 (.iload_n 1) 1 ∧ De bdX11_end_0 16 (.putfield 13) 3 ∧ De bdX11_end_0 19 (.iconst 1) 1 ∧ De bdX11_end_0 20 (.ireturn) 1 := by decide +kernel
theorem dX11_end_0 : decode cX11_end 0 = .ok (.iload_n 1, 1) := dAt wdX11_end_0 adX11_end_0.1 rfl
theorem dX11_end_1 : decode cX11_end 1 = .ok (.ifCond .lt 11, 3) := dAt wdX11_end_0 adX11_end_0.2.1 rfl
theorem dX11_end_4 : decode cX11_end 4 = .ok (.iload_n 1, 1) := dAt wdX11_end_0 adX11_end_0.2.2.1 rfl
theorem dX11_end_5 : decode cX11_end 5 = .ok (.aload_n 0, 1) := dAt wdX11_end_0 adX11_end_0.2.2.2.1 rfl
theorem dX11_end_6 : decode cX11_end 6 = .ok (.getfield 13, 3) := dAt wdX11_end_0 adX11_end_0.2.2.2.2.1 rfl
theorem dX11_end_9 : decode cX11_end 9 = .ok (.if_icmp .le 5, 3) := dAt wdX11_end_0 adX11_end_0.2.2.2.2.2.1 rfl
theorem dX11_end_12 : decode cX11_end 12 = .ok (.iconst 0, 1) := dAt wdX11_end_0 adX11_end_0.2.2.2.2.2.2.1 rfl
theorem dX11_end_13 : decode cX11_end 13 = .ok (.ireturn, 1) := dAt wdX11_end_0 adX11_end_0.2.2.2.2.2.2.2.1 rfl
theorem dX11_end_14 : decode cX11_end 14 = .ok (.aload_n 0, 1) := dAt wdX11_end_0 adX11_end_0.2.2.2.2.2.2.2.2.1 rfl
theorem dX11_end_15 : decode cX11_end 15 = .ok (.iload_n 1, 1) := dAt wdX11_end_0 adX11_end_0.2.2.2.2.2.2.2.2.2.1 rfl
theorem dX11_end_16 : decode cX11_end 16 = .ok (.putfield 13, 3) := dAt wdX11_end_0 adX11_end_0.2.2.2.2.2.2.2.2.2.2.1 rfl
theorem dX11_end_19 : decode cX11_end 19 = .ok (.iconst 1, 1) := dAt wdX11_end_0 adX11_end_0.2.2.2.2.2.2.2.2.2.2.2.1 rfl
theorem dX11_end_20 : decode cX11_end 20 = .ok (.ireturn, 1) := dAt wdX11_end_0 adX11_end_0.2.2.2.2.2.2.2.2.2.2.2.2 rfl
def bdX11_useTape_0 : ByteArray := .mk #[42, 180, 0, 13, 60, 42, 3, 181, 0, 13, 27, 172]
theorem wdX11_useTape_0 : LocW cX11_useTape 0 bdX11_useTape_0 := loc_of (by decide +kernel)
theorem adX11_useTape_0 : De bdX11_useTape_0 0 (.aload_n 0) 1 ∧ De bdX11_useTape_0 1 (.getfield 13) 3 ∧ De bdX11_useTape_0 4 (.istore_n 1) 1 ∧ De bdX11_useTape_0 5 (.aload_n 0) 1 ∧ De bdX11_useTape_0 6 (.iconst 0) 1 ∧ De bdX11_useTape_0 7 (.putfield 13) 3 ∧ De bdX11_useTape_0 10 (.iload_n 1) 1 ∧ De bdX11_useTape_0 11 (.ireturn) 1 := by decide +kernel
theorem dX11_useTape_0 : decode cX11_useTape 0 = .ok (.aload_n 0, 1) := dAt wdX11_useTape_0 adX11_useTape_0.1 rfl
theorem dX11_useTape_1 : decode cX11_useTape 1 = .ok (.getfield 13, 3) := dAt wdX11_useTape_0 adX11_useTape_0.2.1 rfl
theorem dX11_useTape_4 : decode cX11_useTape 4 = .ok (.istore_n 1, 1) := dAt wdX11_useTape_0 adX11_useTape_0.2.2.1 rfl
theorem dX11_useTape_5 : decode cX11_useTape 5 = .ok (.aload_n 0, 1) := dAt wdX11_useTape_0 adX11_useTape_0.2.2.2.1 rfl
theorem dX11_useTape_6 : decode cX11_useTape 6 = .ok (.iconst 0, 1) := dAt wdX11_useTape_0 adX11_useTape_0.2.2.2.2.1 rfl
theorem dX11_useTape_7 : decode cX11_useTape 7 = .ok (.putfield 13, 3) := dAt wdX11_useTape_0 adX11_useTape_0.2.2.2.2.2.1 rfl
theorem dX11_useTape_10 : decode cX11_useTape 10 = .ok (.iload_n 1, 1) := dAt wdX11_useTape_0 adX11_useTape_0.2.2.2.2.2.2.1 rfl
theorem dX11_useTape_11 : decode cX11_useTape 11 = .ok (.ireturn, 1) := dAt wdX11_useTape_0 adX11_useTape_0.2.2.2.2.2.2.2 rfl
def bdX11_width_0 : ByteArray := .mk #[27, 184, 0, 77, 153, 0, 10, 28, 184, 0, 81, 154, 0, 11, 187, 0, 84, 89, 183, 0, 86, 191, 29, 4, 161, 0, 9, 29, 16, 20, 164, 0, 11]
theorem wdX11_width_0 : LocW cX11_width 0 bdX11_width_0 := loc_of (by decide +kernel)
theorem adX11_width_0 : De bdX11_width_0 0 (.iload_n 1) 1 ∧ De bdX11_width_0 1 (.invokestatic 77) 3 ∧ De bdX11_width_0 4 (.ifCond .eq 10) 3 ∧ De bdX11_width_0 7 (.iload_n 2) 1 ∧ De bdX11_width_0 8 (.invokestatic 81) 3 ∧ De bdX11_width_0 11 (.ifCond .ne 11) 3 ∧ De bdX11_width_0 14 (.new 84) 3 ∧ De bdX11_width_0 17 (.dup) 1 ∧ De bdX11_width_0 18 (.invokespecial 86) 3 ∧ De bdX11_width_0 21 (.athrow) 1 ∧ De bdX11_width_0 22 (.iload_n 3) 1 ∧ De bdX11_width_0 23 (.iconst 1) 1 ∧ De bdX11_width_0 24 (.if_icmp .lt 9) 3 ∧ De bdX11_width_0 27 (.iload_n 3) 1 ∧ De bdX11_width_0 28 (.bipush 20) 2 ∧ De bdX11_width_0 30 (.if_icmp .le 11) 3 := by decide +kernel
theorem dX11_width_0 : decode cX11_width 0 = .ok (.iload_n 1, 1) := dAt wdX11_width_0 adX11_width_0.1 rfl
theorem dX11_width_1 : decode cX11_width 1 = .ok (.invokestatic 77, 3) := dAt wdX11_width_0 adX11_width_0.2.1 rfl
theorem dX11_width_4 : decode cX11_width 4 = .ok (.ifCond .eq 10, 3) := dAt wdX11_width_0 adX11_width_0.2.2.1 rfl
theorem dX11_width_7 : decode cX11_width 7 = .ok (.iload_n 2, 1) := dAt wdX11_width_0 adX11_width_0.2.2.2.1 rfl
theorem dX11_width_8 : decode cX11_width 8 = .ok (.invokestatic 81, 3) := dAt wdX11_width_0 adX11_width_0.2.2.2.2.1 rfl
theorem dX11_width_11 : decode cX11_width 11 = .ok (.ifCond .ne 11, 3) := dAt wdX11_width_0 adX11_width_0.2.2.2.2.2.1 rfl
theorem dX11_width_14 : decode cX11_width 14 = .ok (.new 84, 3) := dAt wdX11_width_0 adX11_width_0.2.2.2.2.2.2.1 rfl
theorem dX11_width_17 : decode cX11_width 17 = .ok (.dup, 1) := dAt wdX11_width_0 adX11_width_0.2.2.2.2.2.2.2.1 rfl
theorem dX11_width_18 : decode cX11_width 18 = .ok (.invokespecial 86, 3) := dAt wdX11_width_0 adX11_width_0.2.2.2.2.2.2.2.2.1 rfl
theorem dX11_width_21 : decode cX11_width 21 = .ok (.athrow, 1) := dAt wdX11_width_0 adX11_width_0.2.2.2.2.2.2.2.2.2.1 rfl
theorem dX11_width_22 : decode cX11_width 22 = .ok (.iload_n 3, 1) := dAt wdX11_width_0 adX11_width_0.2.2.2.2.2.2.2.2.2.2.1 rfl
theorem dX11_width_23 : decode cX11_width 23 = .ok (.iconst 1, 1) := dAt wdX11_width_0 adX11_width_0.2.2.2.2.2.2.2.2.2.2.2.1 rfl
theorem dX11_width_24 : decode cX11_width 24 = .ok (.if_icmp .lt 9, 3) := dAt wdX11_width_0 adX11_width_0.2.2.2.2.2.2.2.2.2.2.2.2.1 rfl
theorem dX11_width_27 : decode cX11_width 27 = .ok (.iload_n 3, 1) := dAt wdX11_width_0 adX11_width_0.2.2.2.2.2.2.2.2.2.2.2.2.2.1 rfl
theorem dX11_width_28 : decode cX11_width 28 = .ok (.bipush 20, 2) := dAt wdX11_width_0 adX11_width_0.2.2.2.2.2.2.2.2.2.2.2.2.2.2.1 rfl
theorem dX11_width_30 : decode cX11_width 30 = .ok (.if_icmp .le 11, 3) := dAt wdX11_width_0 adX11_width_0.2.2.2.2.2.2.2.2.2.2.2.2.2.2.2 rfl
def bdX11_width_33 : ByteArray := .mk #[187, 0, 87, 89, 183, 0, 89, 191, 42, 180, 0, 39, 180, 0, 90, 27, 16, 27, 104, 28, 96, 29, 79, 177]
theorem wdX11_width_33 : LocW cX11_width 33 bdX11_width_33 := loc_of (by decide +kernel)
theorem adX11_width_33 : De bdX11_width_33 0 (.new 87) 3 ∧ De bdX11_width_33 3 (.dup) 1 ∧ De bdX11_width_33 4 (.invokespecial 89) 3 ∧ De bdX11_width_33 7 (.athrow) 1 ∧ De bdX11_width_33 8 (.aload_n 0) 1 ∧ De bdX11_width_33 9 (.getfield 39) 3 ∧ De bdX11_width_33 12 (.getfield 90) 3 ∧ De bdX11_width_33 15 (.iload_n 1) 1 ∧ De bdX11_width_33 16 (.bipush 27) 2 ∧ De bdX11_width_33 18 (.imul) 1 ∧ De bdX11_width_33 19 (.iload_n 2) 1 ∧ De bdX11_width_33 20 (.iadd) 1 ∧ De bdX11_width_33 21 (.iload_n 3) 1 ∧ De bdX11_width_33 22 (.iastore) 1 ∧ De bdX11_width_33 23 (.return_) 1 := by decide +kernel
theorem dX11_width_33 : decode cX11_width 33 = .ok (.new 87, 3) := dAt wdX11_width_33 adX11_width_33.1 rfl
theorem dX11_width_36 : decode cX11_width 36 = .ok (.dup, 1) := dAt wdX11_width_33 adX11_width_33.2.1 rfl
theorem dX11_width_37 : decode cX11_width 37 = .ok (.invokespecial 89, 3) := dAt wdX11_width_33 adX11_width_33.2.2.1 rfl
theorem dX11_width_40 : decode cX11_width 40 = .ok (.athrow, 1) := dAt wdX11_width_33 adX11_width_33.2.2.2.1 rfl
theorem dX11_width_41 : decode cX11_width 41 = .ok (.aload_n 0, 1) := dAt wdX11_width_33 adX11_width_33.2.2.2.2.1 rfl
theorem dX11_width_42 : decode cX11_width 42 = .ok (.getfield 39, 3) := dAt wdX11_width_33 adX11_width_33.2.2.2.2.2.1 rfl
theorem dX11_width_45 : decode cX11_width 45 = .ok (.getfield 90, 3) := dAt wdX11_width_33 adX11_width_33.2.2.2.2.2.2.1 rfl
theorem dX11_width_48 : decode cX11_width 48 = .ok (.iload_n 1, 1) := dAt wdX11_width_33 adX11_width_33.2.2.2.2.2.2.2.1 rfl
theorem dX11_width_49 : decode cX11_width 49 = .ok (.bipush 27, 2) := dAt wdX11_width_33 adX11_width_33.2.2.2.2.2.2.2.2.1 rfl
theorem dX11_width_51 : decode cX11_width 51 = .ok (.imul, 1) := dAt wdX11_width_33 adX11_width_33.2.2.2.2.2.2.2.2.2.1 rfl
theorem dX11_width_52 : decode cX11_width 52 = .ok (.iload_n 2, 1) := dAt wdX11_width_33 adX11_width_33.2.2.2.2.2.2.2.2.2.2.1 rfl
theorem dX11_width_53 : decode cX11_width 53 = .ok (.iadd, 1) := dAt wdX11_width_33 adX11_width_33.2.2.2.2.2.2.2.2.2.2.2.1 rfl
theorem dX11_width_54 : decode cX11_width 54 = .ok (.iload_n 3, 1) := dAt wdX11_width_33 adX11_width_33.2.2.2.2.2.2.2.2.2.2.2.2.1 rfl
theorem dX11_width_55 : decode cX11_width 55 = .ok (.iastore, 1) := dAt wdX11_width_33 adX11_width_33.2.2.2.2.2.2.2.2.2.2.2.2.2.1 rfl
theorem dX11_width_56 : decode cX11_width 56 = .ok (.return_, 1) := dAt wdX11_width_33 adX11_width_33.2.2.2.2.2.2.2.2.2.2.2.2.2.2 rfl
def bdX11_story_0 : ByteArray := .mk #[42, 182, 0, 94, 62, 27, 184, 0, 77, 154, 0, 11, 187, 0, 84, 89, 183, 0, 86, 191, 28, 184, 0, 98, 154, 0, 11, 187, 0, 87, 89, 183, 0, 89]
theorem wdX11_story_0 : LocW cX11_story 0 bdX11_story_0 := loc_of (by decide +kernel)
theorem adX11_story_0 : De bdX11_story_0 0 (.aload_n 0) 1 ∧ De bdX11_story_0 1 (.invokevirtual 94) 3 ∧ De bdX11_story_0 4 (.istore_n 3) 1 ∧ De bdX11_story_0 5 (.iload_n 1) 1 ∧ De bdX11_story_0 6 (.invokestatic 77) 3 ∧ De bdX11_story_0 9 (.ifCond .ne 11) 3 ∧ De bdX11_story_0 12 (.new 84) 3 ∧ De bdX11_story_0 15 (.dup) 1 ∧ De bdX11_story_0 16 (.invokespecial 86) 3 ∧ De bdX11_story_0 19 (.athrow) 1 ∧ De bdX11_story_0 20 (.iload_n 2) 1 ∧ De bdX11_story_0 21 (.invokestatic 98) 3 ∧ De bdX11_story_0 24 (.ifCond .ne 11) 3 ∧ De bdX11_story_0 27 (.new 87) 3 ∧ De bdX11_story_0 30 (.dup) 1 ∧ De bdX11_story_0 31 (.invokespecial 89) 3 := by decide +kernel
theorem dX11_story_0 : decode cX11_story 0 = .ok (.aload_n 0, 1) := dAt wdX11_story_0 adX11_story_0.1 rfl
theorem dX11_story_1 : decode cX11_story 1 = .ok (.invokevirtual 94, 3) := dAt wdX11_story_0 adX11_story_0.2.1 rfl
theorem dX11_story_4 : decode cX11_story 4 = .ok (.istore_n 3, 1) := dAt wdX11_story_0 adX11_story_0.2.2.1 rfl
theorem dX11_story_5 : decode cX11_story 5 = .ok (.iload_n 1, 1) := dAt wdX11_story_0 adX11_story_0.2.2.2.1 rfl
theorem dX11_story_6 : decode cX11_story 6 = .ok (.invokestatic 77, 3) := dAt wdX11_story_0 adX11_story_0.2.2.2.2.1 rfl
theorem dX11_story_9 : decode cX11_story 9 = .ok (.ifCond .ne 11, 3) := dAt wdX11_story_0 adX11_story_0.2.2.2.2.2.1 rfl
theorem dX11_story_12 : decode cX11_story 12 = .ok (.new 84, 3) := dAt wdX11_story_0 adX11_story_0.2.2.2.2.2.2.1 rfl
theorem dX11_story_15 : decode cX11_story 15 = .ok (.dup, 1) := dAt wdX11_story_0 adX11_story_0.2.2.2.2.2.2.2.1 rfl
theorem dX11_story_16 : decode cX11_story 16 = .ok (.invokespecial 86, 3) := dAt wdX11_story_0 adX11_story_0.2.2.2.2.2.2.2.2.1 rfl
theorem dX11_story_19 : decode cX11_story 19 = .ok (.athrow, 1) := dAt wdX11_story_0 adX11_story_0.2.2.2.2.2.2.2.2.2.1 rfl
theorem dX11_story_20 : decode cX11_story 20 = .ok (.iload_n 2, 1) := dAt wdX11_story_0 adX11_story_0.2.2.2.2.2.2.2.2.2.2.1 rfl
theorem dX11_story_21 : decode cX11_story 21 = .ok (.invokestatic 98, 3) := dAt wdX11_story_0 adX11_story_0.2.2.2.2.2.2.2.2.2.2.2.1 rfl
theorem dX11_story_24 : decode cX11_story 24 = .ok (.ifCond .ne 11, 3) := dAt wdX11_story_0 adX11_story_0.2.2.2.2.2.2.2.2.2.2.2.2.1 rfl
theorem dX11_story_27 : decode cX11_story 27 = .ok (.new 87, 3) := dAt wdX11_story_0 adX11_story_0.2.2.2.2.2.2.2.2.2.2.2.2.2.1 rfl
theorem dX11_story_30 : decode cX11_story 30 = .ok (.dup, 1) := dAt wdX11_story_0 adX11_story_0.2.2.2.2.2.2.2.2.2.2.2.2.2.2.1 rfl
theorem dX11_story_31 : decode cX11_story 31 = .ok (.invokespecial 89, 3) := dAt wdX11_story_0 adX11_story_0.2.2.2.2.2.2.2.2.2.2.2.2.2.2.2 rfl
def bdX11_story_34 : ByteArray := .mk #[191, 42, 42, 180, 0, 9, 29, 8, 16, 24, 3, 184, 0, 101, 181, 0, 17, 42, 180, 0, 17, 2, 159, 0, 11, 187, 0, 87, 89]
theorem wdX11_story_34 : LocW cX11_story 34 bdX11_story_34 := loc_of (by decide +kernel)
theorem adX11_story_34 : De bdX11_story_34 0 (.athrow) 1 ∧ De bdX11_story_34 1 (.aload_n 0) 1 ∧ De bdX11_story_34 2 (.aload_n 0) 1 ∧ De bdX11_story_34 3 (.getfield 9) 3 ∧ De bdX11_story_34 6 (.iload_n 3) 1 ∧ De bdX11_story_34 7 (.iconst 5) 1 ∧ De bdX11_story_34 8 (.bipush 24) 2 ∧ De bdX11_story_34 10 (.iconst 0) 1 ∧ De bdX11_story_34 11 (.invokestatic 101) 3 ∧ De bdX11_story_34 14 (.putfield 17) 3 ∧ De bdX11_story_34 17 (.aload_n 0) 1 ∧ De bdX11_story_34 18 (.getfield 17) 3 ∧ De bdX11_story_34 21 (.iconst (-1)) 1 ∧ De bdX11_story_34 22 (.if_icmp .eq 11) 3 ∧ De bdX11_story_34 25 (.new 87) 3 ∧ De bdX11_story_34 28 (.dup) 1 := by decide +kernel
theorem dX11_story_34 : decode cX11_story 34 = .ok (.athrow, 1) := dAt wdX11_story_34 adX11_story_34.1 rfl
theorem dX11_story_35 : decode cX11_story 35 = .ok (.aload_n 0, 1) := dAt wdX11_story_34 adX11_story_34.2.1 rfl
theorem dX11_story_36 : decode cX11_story 36 = .ok (.aload_n 0, 1) := dAt wdX11_story_34 adX11_story_34.2.2.1 rfl
theorem dX11_story_37 : decode cX11_story 37 = .ok (.getfield 9, 3) := dAt wdX11_story_34 adX11_story_34.2.2.2.1 rfl
theorem dX11_story_40 : decode cX11_story 40 = .ok (.iload_n 3, 1) := dAt wdX11_story_34 adX11_story_34.2.2.2.2.1 rfl
theorem dX11_story_41 : decode cX11_story 41 = .ok (.iconst 5, 1) := dAt wdX11_story_34 adX11_story_34.2.2.2.2.2.1 rfl
theorem dX11_story_42 : decode cX11_story 42 = .ok (.bipush 24, 2) := dAt wdX11_story_34 adX11_story_34.2.2.2.2.2.2.1 rfl
theorem dX11_story_44 : decode cX11_story 44 = .ok (.iconst 0, 1) := dAt wdX11_story_34 adX11_story_34.2.2.2.2.2.2.2.1 rfl
theorem dX11_story_45 : decode cX11_story 45 = .ok (.invokestatic 101, 3) := dAt wdX11_story_34 adX11_story_34.2.2.2.2.2.2.2.2.1 rfl
theorem dX11_story_48 : decode cX11_story 48 = .ok (.putfield 17, 3) := dAt wdX11_story_34 adX11_story_34.2.2.2.2.2.2.2.2.2.1 rfl
theorem dX11_story_51 : decode cX11_story 51 = .ok (.aload_n 0, 1) := dAt wdX11_story_34 adX11_story_34.2.2.2.2.2.2.2.2.2.2.1 rfl
theorem dX11_story_52 : decode cX11_story 52 = .ok (.getfield 17, 3) := dAt wdX11_story_34 adX11_story_34.2.2.2.2.2.2.2.2.2.2.2.1 rfl
theorem dX11_story_55 : decode cX11_story 55 = .ok (.iconst (-1), 1) := dAt wdX11_story_34 adX11_story_34.2.2.2.2.2.2.2.2.2.2.2.2.1 rfl
theorem dX11_story_56 : decode cX11_story 56 = .ok (.if_icmp .eq 11, 3) := dAt wdX11_story_34 adX11_story_34.2.2.2.2.2.2.2.2.2.2.2.2.2.1 rfl
theorem dX11_story_59 : decode cX11_story 59 = .ok (.new 87, 3) := dAt wdX11_story_34 adX11_story_34.2.2.2.2.2.2.2.2.2.2.2.2.2.2.1 rfl
theorem dX11_story_62 : decode cX11_story 62 = .ok (.dup, 1) := dAt wdX11_story_34 adX11_story_34.2.2.2.2.2.2.2.2.2.2.2.2.2.2.2 rfl
def bdX11_story_63 : ByteArray := .mk #[183, 0, 89, 191, 42, 180, 0, 39, 180, 0, 107, 16, 20, 161, 0, 11, 187, 0, 110, 89, 183, 0, 112, 191, 42, 180, 0, 39, 42, 180, 0, 9, 29]
theorem wdX11_story_63 : LocW cX11_story 63 bdX11_story_63 := loc_of (by decide +kernel)
theorem adX11_story_63 : De bdX11_story_63 0 (.invokespecial 89) 3 ∧ De bdX11_story_63 3 (.athrow) 1 ∧ De bdX11_story_63 4 (.aload_n 0) 1 ∧ De bdX11_story_63 5 (.getfield 39) 3 ∧ De bdX11_story_63 8 (.getfield 107) 3 ∧ De bdX11_story_63 11 (.bipush 20) 2 ∧ De bdX11_story_63 13 (.if_icmp .lt 11) 3 ∧ De bdX11_story_63 16 (.new 110) 3 ∧ De bdX11_story_63 19 (.dup) 1 ∧ De bdX11_story_63 20 (.invokespecial 112) 3 ∧ De bdX11_story_63 23 (.athrow) 1 ∧ De bdX11_story_63 24 (.aload_n 0) 1 ∧ De bdX11_story_63 25 (.getfield 39) 3 ∧ De bdX11_story_63 28 (.aload_n 0) 1 ∧ De bdX11_story_63 29 (.getfield 9) 3 ∧ De bdX11_story_63 32 (.iload_n 3) 1 := by decide +kernel
theorem dX11_story_63 : decode cX11_story 63 = .ok (.invokespecial 89, 3) := dAt wdX11_story_63 adX11_story_63.1 rfl
theorem dX11_story_66 : decode cX11_story 66 = .ok (.athrow, 1) := dAt wdX11_story_63 adX11_story_63.2.1 rfl
theorem dX11_story_67 : decode cX11_story 67 = .ok (.aload_n 0, 1) := dAt wdX11_story_63 adX11_story_63.2.2.1 rfl
theorem dX11_story_68 : decode cX11_story 68 = .ok (.getfield 39, 3) := dAt wdX11_story_63 adX11_story_63.2.2.2.1 rfl
theorem dX11_story_71 : decode cX11_story 71 = .ok (.getfield 107, 3) := dAt wdX11_story_63 adX11_story_63.2.2.2.2.1 rfl
theorem dX11_story_74 : decode cX11_story 74 = .ok (.bipush 20, 2) := dAt wdX11_story_63 adX11_story_63.2.2.2.2.2.1 rfl
theorem dX11_story_76 : decode cX11_story 76 = .ok (.if_icmp .lt 11, 3) := dAt wdX11_story_63 adX11_story_63.2.2.2.2.2.2.1 rfl
theorem dX11_story_79 : decode cX11_story 79 = .ok (.new 110, 3) := dAt wdX11_story_63 adX11_story_63.2.2.2.2.2.2.2.1 rfl
theorem dX11_story_82 : decode cX11_story 82 = .ok (.dup, 1) := dAt wdX11_story_63 adX11_story_63.2.2.2.2.2.2.2.2.1 rfl
theorem dX11_story_83 : decode cX11_story 83 = .ok (.invokespecial 112, 3) := dAt wdX11_story_63 adX11_story_63.2.2.2.2.2.2.2.2.2.1 rfl
theorem dX11_story_86 : decode cX11_story 86 = .ok (.athrow, 1) := dAt wdX11_story_63 adX11_story_63.2.2.2.2.2.2.2.2.2.2.1 rfl
theorem dX11_story_87 : decode cX11_story 87 = .ok (.aload_n 0, 1) := dAt wdX11_story_63 adX11_story_63.2.2.2.2.2.2.2.2.2.2.2.1 rfl
theorem dX11_story_88 : decode cX11_story 88 = .ok (.getfield 39, 3) := dAt wdX11_story_63 adX11_story_63.2.2.2.2.2.2.2.2.2.2.2.2.1 rfl
theorem dX11_story_91 : decode cX11_story 91 = .ok (.aload_n 0, 1) := dAt wdX11_story_63 adX11_story_63.2.2.2.2.2.2.2.2.2.2.2.2.2.1 rfl
theorem dX11_story_92 : decode cX11_story 92 = .ok (.getfield 9, 3) := dAt wdX11_story_63 adX11_story_63.2.2.2.2.2.2.2.2.2.2.2.2.2.2.1 rfl
theorem dX11_story_95 : decode cX11_story 95 = .ok (.iload_n 3, 1) := dAt wdX11_story_63 adX11_story_63.2.2.2.2.2.2.2.2.2.2.2.2.2.2.2 rfl
def bdX11_story_96 : ByteArray := .mk #[27, 28, 182, 0, 113, 172]
theorem wdX11_story_96 : LocW cX11_story 96 bdX11_story_96 := loc_of (by decide +kernel)
theorem adX11_story_96 : De bdX11_story_96 0 (.iload_n 1) 1 ∧ De bdX11_story_96 1 (.iload_n 2) 1 ∧ De bdX11_story_96 2 (.invokevirtual 113) 3 ∧ De bdX11_story_96 5 (.ireturn) 1 := by decide +kernel
theorem dX11_story_96 : decode cX11_story 96 = .ok (.iload_n 1, 1) := dAt wdX11_story_96 adX11_story_96.1 rfl
theorem dX11_story_97 : decode cX11_story 97 = .ok (.iload_n 2, 1) := dAt wdX11_story_96 adX11_story_96.2.1 rfl
theorem dX11_story_98 : decode cX11_story 98 = .ok (.invokevirtual 113, 3) := dAt wdX11_story_96 adX11_story_96.2.2.1 rfl
theorem dX11_story_101 : decode cX11_story 101 = .ok (.ireturn, 1) := dAt wdX11_story_96 adX11_story_96.2.2.2 rfl
def bdX11_style_0 : ByteArray := .mk #[42, 182, 0, 94, 61, 27, 42, 180, 0, 39, 180, 0, 117, 161, 0, 10, 27, 17, 2, 88, 164, 0, 11, 187, 0, 87, 89, 183, 0, 89, 191, 42]
theorem wdX11_style_0 : LocW cX11_style 0 bdX11_style_0 := loc_of (by decide +kernel)
theorem adX11_style_0 : De bdX11_style_0 0 (.aload_n 0) 1 ∧ De bdX11_style_0 1 (.invokevirtual 94) 3 ∧ De bdX11_style_0 4 (.istore_n 2) 1 ∧ De bdX11_style_0 5 (.iload_n 1) 1 ∧ De bdX11_style_0 6 (.aload_n 0) 1 ∧ De bdX11_style_0 7 (.getfield 39) 3 ∧ De bdX11_style_0 10 (.getfield 117) 3 ∧ De bdX11_style_0 13 (.if_icmp .lt 10) 3 ∧ De bdX11_style_0 16 (.iload_n 1) 1 ∧ De bdX11_style_0 17 (.sipush 600) 3 ∧ De bdX11_style_0 20 (.if_icmp .le 11) 3 ∧ De bdX11_style_0 23 (.new 87) 3 ∧ De bdX11_style_0 26 (.dup) 1 ∧ De bdX11_style_0 27 (.invokespecial 89) 3 ∧ De bdX11_style_0 30 (.athrow) 1 ∧ De bdX11_style_0 31 (.aload_n 0) 1 := by decide +kernel
theorem dX11_style_0 : decode cX11_style 0 = .ok (.aload_n 0, 1) := dAt wdX11_style_0 adX11_style_0.1 rfl
theorem dX11_style_1 : decode cX11_style 1 = .ok (.invokevirtual 94, 3) := dAt wdX11_style_0 adX11_style_0.2.1 rfl
theorem dX11_style_4 : decode cX11_style 4 = .ok (.istore_n 2, 1) := dAt wdX11_style_0 adX11_style_0.2.2.1 rfl
theorem dX11_style_5 : decode cX11_style 5 = .ok (.iload_n 1, 1) := dAt wdX11_style_0 adX11_style_0.2.2.2.1 rfl
theorem dX11_style_6 : decode cX11_style 6 = .ok (.aload_n 0, 1) := dAt wdX11_style_0 adX11_style_0.2.2.2.2.1 rfl
theorem dX11_style_7 : decode cX11_style 7 = .ok (.getfield 39, 3) := dAt wdX11_style_0 adX11_style_0.2.2.2.2.2.1 rfl
theorem dX11_style_10 : decode cX11_style 10 = .ok (.getfield 117, 3) := dAt wdX11_style_0 adX11_style_0.2.2.2.2.2.2.1 rfl
theorem dX11_style_13 : decode cX11_style 13 = .ok (.if_icmp .lt 10, 3) := dAt wdX11_style_0 adX11_style_0.2.2.2.2.2.2.2.1 rfl
theorem dX11_style_16 : decode cX11_style 16 = .ok (.iload_n 1, 1) := dAt wdX11_style_0 adX11_style_0.2.2.2.2.2.2.2.2.1 rfl
theorem dX11_style_17 : decode cX11_style 17 = .ok (.sipush 600, 3) := dAt wdX11_style_0 adX11_style_0.2.2.2.2.2.2.2.2.2.1 rfl
theorem dX11_style_20 : decode cX11_style 20 = .ok (.if_icmp .le 11, 3) := dAt wdX11_style_0 adX11_style_0.2.2.2.2.2.2.2.2.2.2.1 rfl
theorem dX11_style_23 : decode cX11_style 23 = .ok (.new 87, 3) := dAt wdX11_style_0 adX11_style_0.2.2.2.2.2.2.2.2.2.2.2.1 rfl
theorem dX11_style_26 : decode cX11_style 26 = .ok (.dup, 1) := dAt wdX11_style_0 adX11_style_0.2.2.2.2.2.2.2.2.2.2.2.2.1 rfl
theorem dX11_style_27 : decode cX11_style 27 = .ok (.invokespecial 89, 3) := dAt wdX11_style_0 adX11_style_0.2.2.2.2.2.2.2.2.2.2.2.2.2.1 rfl
theorem dX11_style_30 : decode cX11_style 30 = .ok (.athrow, 1) := dAt wdX11_style_0 adX11_style_0.2.2.2.2.2.2.2.2.2.2.2.2.2.2.1 rfl
theorem dX11_style_31 : decode cX11_style 31 = .ok (.aload_n 0, 1) := dAt wdX11_style_0 adX11_style_0.2.2.2.2.2.2.2.2.2.2.2.2.2.2.2 rfl
def bdX11_style_32 : ByteArray := .mk #[42, 180, 0, 25, 28, 182, 0, 120, 181, 0, 17, 42, 180, 0, 17, 2, 159, 0, 11, 187, 0, 87, 89, 183, 0, 89, 191, 42, 180, 0, 39, 180, 0, 123]
theorem wdX11_style_32 : LocW cX11_style 32 bdX11_style_32 := loc_of (by decide +kernel)
theorem adX11_style_32 : De bdX11_style_32 0 (.aload_n 0) 1 ∧ De bdX11_style_32 1 (.getfield 25) 3 ∧ De bdX11_style_32 4 (.iload_n 2) 1 ∧ De bdX11_style_32 5 (.invokevirtual 120) 3 ∧ De bdX11_style_32 8 (.putfield 17) 3 ∧ De bdX11_style_32 11 (.aload_n 0) 1 ∧ De bdX11_style_32 12 (.getfield 17) 3 ∧ De bdX11_style_32 15 (.iconst (-1)) 1 ∧ De bdX11_style_32 16 (.if_icmp .eq 11) 3 ∧ De bdX11_style_32 19 (.new 87) 3 ∧ De bdX11_style_32 22 (.dup) 1 ∧ De bdX11_style_32 23 (.invokespecial 89) 3 ∧ De bdX11_style_32 26 (.athrow) 1 ∧ De bdX11_style_32 27 (.aload_n 0) 1 ∧ De bdX11_style_32 28 (.getfield 39) 3 ∧ De bdX11_style_32 31 (.getfield 123) 3 := by decide +kernel
theorem dX11_style_32 : decode cX11_style 32 = .ok (.aload_n 0, 1) := dAt wdX11_style_32 adX11_style_32.1 rfl
theorem dX11_style_33 : decode cX11_style 33 = .ok (.getfield 25, 3) := dAt wdX11_style_32 adX11_style_32.2.1 rfl
theorem dX11_style_36 : decode cX11_style 36 = .ok (.iload_n 2, 1) := dAt wdX11_style_32 adX11_style_32.2.2.1 rfl
theorem dX11_style_37 : decode cX11_style 37 = .ok (.invokevirtual 120, 3) := dAt wdX11_style_32 adX11_style_32.2.2.2.1 rfl
theorem dX11_style_40 : decode cX11_style 40 = .ok (.putfield 17, 3) := dAt wdX11_style_32 adX11_style_32.2.2.2.2.1 rfl
theorem dX11_style_43 : decode cX11_style 43 = .ok (.aload_n 0, 1) := dAt wdX11_style_32 adX11_style_32.2.2.2.2.2.1 rfl
theorem dX11_style_44 : decode cX11_style 44 = .ok (.getfield 17, 3) := dAt wdX11_style_32 adX11_style_32.2.2.2.2.2.2.1 rfl
theorem dX11_style_47 : decode cX11_style 47 = .ok (.iconst (-1), 1) := dAt wdX11_style_32 adX11_style_32.2.2.2.2.2.2.2.1 rfl
theorem dX11_style_48 : decode cX11_style 48 = .ok (.if_icmp .eq 11, 3) := dAt wdX11_style_32 adX11_style_32.2.2.2.2.2.2.2.2.1 rfl
theorem dX11_style_51 : decode cX11_style 51 = .ok (.new 87, 3) := dAt wdX11_style_32 adX11_style_32.2.2.2.2.2.2.2.2.2.1 rfl
theorem dX11_style_54 : decode cX11_style 54 = .ok (.dup, 1) := dAt wdX11_style_32 adX11_style_32.2.2.2.2.2.2.2.2.2.2.1 rfl
theorem dX11_style_55 : decode cX11_style 55 = .ok (.invokespecial 89, 3) := dAt wdX11_style_32 adX11_style_32.2.2.2.2.2.2.2.2.2.2.2.1 rfl
theorem dX11_style_58 : decode cX11_style 58 = .ok (.athrow, 1) := dAt wdX11_style_32 adX11_style_32.2.2.2.2.2.2.2.2.2.2.2.2.1 rfl
theorem dX11_style_59 : decode cX11_style 59 = .ok (.aload_n 0, 1) := dAt wdX11_style_32 adX11_style_32.2.2.2.2.2.2.2.2.2.2.2.2.2.1 rfl
theorem dX11_style_60 : decode cX11_style 60 = .ok (.getfield 39, 3) := dAt wdX11_style_32 adX11_style_32.2.2.2.2.2.2.2.2.2.2.2.2.2.2.1 rfl
theorem dX11_style_63 : decode cX11_style 63 = .ok (.getfield 123, 3) := dAt wdX11_style_32 adX11_style_32.2.2.2.2.2.2.2.2.2.2.2.2.2.2.2 rfl
def bdX11_style_66 : ByteArray := .mk #[16, 10, 161, 0, 11, 187, 0, 110, 89, 183, 0, 112, 191, 42, 180, 0, 39, 42, 180, 0, 25, 180, 0, 126, 27, 182, 0, 130, 42, 180, 0, 25, 180, 0, 126]
theorem wdX11_style_66 : LocW cX11_style 66 bdX11_style_66 := loc_of (by decide +kernel)
theorem adX11_style_66 : De bdX11_style_66 0 (.bipush 10) 2 ∧ De bdX11_style_66 2 (.if_icmp .lt 11) 3 ∧ De bdX11_style_66 5 (.new 110) 3 ∧ De bdX11_style_66 8 (.dup) 1 ∧ De bdX11_style_66 9 (.invokespecial 112) 3 ∧ De bdX11_style_66 12 (.athrow) 1 ∧ De bdX11_style_66 13 (.aload_n 0) 1 ∧ De bdX11_style_66 14 (.getfield 39) 3 ∧ De bdX11_style_66 17 (.aload_n 0) 1 ∧ De bdX11_style_66 18 (.getfield 25) 3 ∧ De bdX11_style_66 21 (.getfield 126) 3 ∧ De bdX11_style_66 24 (.iload_n 1) 1 ∧ De bdX11_style_66 25 (.invokevirtual 130) 3 ∧ De bdX11_style_66 28 (.aload_n 0) 1 ∧ De bdX11_style_66 29 (.getfield 25) 3 ∧ De bdX11_style_66 32 (.getfield 126) 3 := by decide +kernel
theorem dX11_style_66 : decode cX11_style 66 = .ok (.bipush 10, 2) := dAt wdX11_style_66 adX11_style_66.1 rfl
theorem dX11_style_68 : decode cX11_style 68 = .ok (.if_icmp .lt 11, 3) := dAt wdX11_style_66 adX11_style_66.2.1 rfl
theorem dX11_style_71 : decode cX11_style 71 = .ok (.new 110, 3) := dAt wdX11_style_66 adX11_style_66.2.2.1 rfl
theorem dX11_style_74 : decode cX11_style 74 = .ok (.dup, 1) := dAt wdX11_style_66 adX11_style_66.2.2.2.1 rfl
theorem dX11_style_75 : decode cX11_style 75 = .ok (.invokespecial 112, 3) := dAt wdX11_style_66 adX11_style_66.2.2.2.2.1 rfl
theorem dX11_style_78 : decode cX11_style 78 = .ok (.athrow, 1) := dAt wdX11_style_66 adX11_style_66.2.2.2.2.2.1 rfl
theorem dX11_style_79 : decode cX11_style 79 = .ok (.aload_n 0, 1) := dAt wdX11_style_66 adX11_style_66.2.2.2.2.2.2.1 rfl
theorem dX11_style_80 : decode cX11_style 80 = .ok (.getfield 39, 3) := dAt wdX11_style_66 adX11_style_66.2.2.2.2.2.2.2.1 rfl
theorem dX11_style_83 : decode cX11_style 83 = .ok (.aload_n 0, 1) := dAt wdX11_style_66 adX11_style_66.2.2.2.2.2.2.2.2.1 rfl
theorem dX11_style_84 : decode cX11_style 84 = .ok (.getfield 25, 3) := dAt wdX11_style_66 adX11_style_66.2.2.2.2.2.2.2.2.2.1 rfl
theorem dX11_style_87 : decode cX11_style 87 = .ok (.getfield 126, 3) := dAt wdX11_style_66 adX11_style_66.2.2.2.2.2.2.2.2.2.2.1 rfl
theorem dX11_style_90 : decode cX11_style 90 = .ok (.iload_n 1, 1) := dAt wdX11_style_66 adX11_style_66.2.2.2.2.2.2.2.2.2.2.2.1 rfl
theorem dX11_style_91 : decode cX11_style 91 = .ok (.invokevirtual 130, 3) := dAt wdX11_style_66 adX11_style_66.2.2.2.2.2.2.2.2.2.2.2.2.1 rfl
theorem dX11_style_94 : decode cX11_style 94 = .ok (.aload_n 0, 1) := dAt wdX11_style_66 adX11_style_66.2.2.2.2.2.2.2.2.2.2.2.2.2.1 rfl
theorem dX11_style_95 : decode cX11_style 95 = .ok (.getfield 25, 3) := dAt wdX11_style_66 adX11_style_66.2.2.2.2.2.2.2.2.2.2.2.2.2.2.1 rfl
theorem dX11_style_98 : decode cX11_style 98 = .ok (.getfield 126, 3) := dAt wdX11_style_66 adX11_style_66.2.2.2.2.2.2.2.2.2.2.2.2.2.2.2 rfl
def bdX11_style_101 : ByteArray := .mk #[180, 0, 134, 172]
theorem wdX11_style_101 : LocW cX11_style 101 bdX11_style_101 := loc_of (by decide +kernel)
theorem adX11_style_101 : De bdX11_style_101 0 (.getfield 134) 3 ∧ De bdX11_style_101 3 (.ireturn) 1 := by decide +kernel
theorem dX11_style_101 : decode cX11_style 101 = .ok (.getfield 134, 3) := dAt wdX11_style_101 adX11_style_101.1 rfl
theorem dX11_style_104 : decode cX11_style 104 = .ok (.ireturn, 1) := dAt wdX11_style_101 adX11_style_101.2 rfl
def bdX11_fault_0 : ByteArray := .mk #[42, 180, 0, 17, 172]
theorem wdX11_fault_0 : LocW cX11_fault 0 bdX11_fault_0 := loc_of (by decide +kernel)
theorem adX11_fault_0 : De bdX11_fault_0 0 (.aload_n 0) 1 ∧ De bdX11_fault_0 1 (.getfield 17) 3 ∧ De bdX11_fault_0 4 (.ireturn) 1 := by decide +kernel
theorem dX11_fault_0 : decode cX11_fault 0 = .ok (.aload_n 0, 1) := dAt wdX11_fault_0 adX11_fault_0.1 rfl
theorem dX11_fault_1 : decode cX11_fault 1 = .ok (.getfield 17, 3) := dAt wdX11_fault_0 adX11_fault_0.2.1 rfl
theorem dX11_fault_4 : decode cX11_fault 4 = .ok (.ireturn, 1) := dAt wdX11_fault_0 adX11_fault_0.2.2 rfl
def bdX11_part_0 : ByteArray := .mk #[42, 180, 0, 39, 27, 182, 0, 139, 78, 45, 199, 0, 11, 187, 0, 84, 89, 183, 0, 86, 191, 28]
theorem wdX11_part_0 : LocW cX11_part 0 bdX11_part_0 := loc_of (by decide +kernel)
theorem adX11_part_0 : De bdX11_part_0 0 (.aload_n 0) 1 ∧ De bdX11_part_0 1 (.getfield 39) 3 ∧ De bdX11_part_0 4 (.iload_n 1) 1 ∧ De bdX11_part_0 5 (.invokevirtual 139) 3 ∧ De bdX11_part_0 8 (.astore_n 3) 1 ∧ De bdX11_part_0 9 (.aload_n 3) 1 ∧ De bdX11_part_0 10 (.ifnonnull 11) 3 ∧ De bdX11_part_0 13 (.new 84) 3 ∧ De bdX11_part_0 16 (.dup) 1 ∧ De bdX11_part_0 17 (.invokespecial 86) 3 ∧ De bdX11_part_0 20 (.athrow) 1 ∧ De bdX11_part_0 21 (.iload_n 2) 1 := by decide +kernel
theorem dX11_part_0 : decode cX11_part 0 = .ok (.aload_n 0, 1) := dAt wdX11_part_0 adX11_part_0.1 rfl
theorem dX11_part_1 : decode cX11_part 1 = .ok (.getfield 39, 3) := dAt wdX11_part_0 adX11_part_0.2.1 rfl
theorem dX11_part_4 : decode cX11_part 4 = .ok (.iload_n 1, 1) := dAt wdX11_part_0 adX11_part_0.2.2.1 rfl
theorem dX11_part_5 : decode cX11_part 5 = .ok (.invokevirtual 139, 3) := dAt wdX11_part_0 adX11_part_0.2.2.2.1 rfl
theorem dX11_part_8 : decode cX11_part 8 = .ok (.astore_n 3, 1) := dAt wdX11_part_0 adX11_part_0.2.2.2.2.1 rfl
theorem dX11_part_9 : decode cX11_part 9 = .ok (.aload_n 3, 1) := dAt wdX11_part_0 adX11_part_0.2.2.2.2.2.1 rfl
theorem dX11_part_10 : decode cX11_part 10 = .ok (.ifnonnull 11, 3) := dAt wdX11_part_0 adX11_part_0.2.2.2.2.2.2.1 rfl
theorem dX11_part_13 : decode cX11_part 13 = .ok (.new 84, 3) := dAt wdX11_part_0 adX11_part_0.2.2.2.2.2.2.2.1 rfl
theorem dX11_part_16 : decode cX11_part 16 = .ok (.dup, 1) := dAt wdX11_part_0 adX11_part_0.2.2.2.2.2.2.2.2.1 rfl
theorem dX11_part_17 : decode cX11_part 17 = .ok (.invokespecial 86, 3) := dAt wdX11_part_0 adX11_part_0.2.2.2.2.2.2.2.2.2.1 rfl
theorem dX11_part_20 : decode cX11_part 20 = .ok (.athrow, 1) := dAt wdX11_part_0 adX11_part_0.2.2.2.2.2.2.2.2.2.2.1 rfl
theorem dX11_part_21 : decode cX11_part 21 = .ok (.iload_n 2, 1) := dAt wdX11_part_0 adX11_part_0.2.2.2.2.2.2.2.2.2.2.2 rfl
theorem dX11_part_22 : decode cX11_part 22 = .ok (.tableswitch 113 0 7 #[46, 51, 56, 61, 66, 79, 95, 104], 46) := by decide +kernel
def bdX11_part_68 : ByteArray := .mk #[45, 180, 0, 143, 172, 45, 180, 0, 146, 172, 45, 180, 0, 149, 172, 45, 180, 0, 152, 172, 45, 180, 0, 155, 153, 0, 7, 4]
theorem wdX11_part_68 : LocW cX11_part 68 bdX11_part_68 := loc_of (by decide +kernel)
theorem adX11_part_68 : De bdX11_part_68 0 (.aload_n 3) 1 ∧ De bdX11_part_68 1 (.getfield 143) 3 ∧ De bdX11_part_68 4 (.ireturn) 1 ∧ De bdX11_part_68 5 (.aload_n 3) 1 ∧ De bdX11_part_68 6 (.getfield 146) 3 ∧ De bdX11_part_68 9 (.ireturn) 1 ∧ De bdX11_part_68 10 (.aload_n 3) 1 ∧ De bdX11_part_68 11 (.getfield 149) 3 ∧ De bdX11_part_68 14 (.ireturn) 1 ∧ De bdX11_part_68 15 (.aload_n 3) 1 ∧ De bdX11_part_68 16 (.getfield 152) 3 ∧ De bdX11_part_68 19 (.ireturn) 1 ∧ De bdX11_part_68 20 (.aload_n 3) 1 ∧ De bdX11_part_68 21 (.getfield 155) 3 ∧ De bdX11_part_68 24 (.ifCond .eq 7) 3 ∧ De bdX11_part_68 27 (.iconst 1) 1 := by decide +kernel
theorem dX11_part_68 : decode cX11_part 68 = .ok (.aload_n 3, 1) := dAt wdX11_part_68 adX11_part_68.1 rfl
theorem dX11_part_69 : decode cX11_part 69 = .ok (.getfield 143, 3) := dAt wdX11_part_68 adX11_part_68.2.1 rfl
theorem dX11_part_72 : decode cX11_part 72 = .ok (.ireturn, 1) := dAt wdX11_part_68 adX11_part_68.2.2.1 rfl
theorem dX11_part_73 : decode cX11_part 73 = .ok (.aload_n 3, 1) := dAt wdX11_part_68 adX11_part_68.2.2.2.1 rfl
theorem dX11_part_74 : decode cX11_part 74 = .ok (.getfield 146, 3) := dAt wdX11_part_68 adX11_part_68.2.2.2.2.1 rfl
theorem dX11_part_77 : decode cX11_part 77 = .ok (.ireturn, 1) := dAt wdX11_part_68 adX11_part_68.2.2.2.2.2.1 rfl
theorem dX11_part_78 : decode cX11_part 78 = .ok (.aload_n 3, 1) := dAt wdX11_part_68 adX11_part_68.2.2.2.2.2.2.1 rfl
theorem dX11_part_79 : decode cX11_part 79 = .ok (.getfield 149, 3) := dAt wdX11_part_68 adX11_part_68.2.2.2.2.2.2.2.1 rfl
theorem dX11_part_82 : decode cX11_part 82 = .ok (.ireturn, 1) := dAt wdX11_part_68 adX11_part_68.2.2.2.2.2.2.2.2.1 rfl
theorem dX11_part_83 : decode cX11_part 83 = .ok (.aload_n 3, 1) := dAt wdX11_part_68 adX11_part_68.2.2.2.2.2.2.2.2.2.1 rfl
theorem dX11_part_84 : decode cX11_part 84 = .ok (.getfield 152, 3) := dAt wdX11_part_68 adX11_part_68.2.2.2.2.2.2.2.2.2.2.1 rfl
theorem dX11_part_87 : decode cX11_part 87 = .ok (.ireturn, 1) := dAt wdX11_part_68 adX11_part_68.2.2.2.2.2.2.2.2.2.2.2.1 rfl
theorem dX11_part_88 : decode cX11_part 88 = .ok (.aload_n 3, 1) := dAt wdX11_part_68 adX11_part_68.2.2.2.2.2.2.2.2.2.2.2.2.1 rfl
theorem dX11_part_89 : decode cX11_part 89 = .ok (.getfield 155, 3) := dAt wdX11_part_68 adX11_part_68.2.2.2.2.2.2.2.2.2.2.2.2.2.1 rfl
theorem dX11_part_92 : decode cX11_part 92 = .ok (.ifCond .eq 7, 3) := dAt wdX11_part_68 adX11_part_68.2.2.2.2.2.2.2.2.2.2.2.2.2.2.1 rfl
theorem dX11_part_95 : decode cX11_part 95 = .ok (.iconst 1, 1) := dAt wdX11_part_68 adX11_part_68.2.2.2.2.2.2.2.2.2.2.2.2.2.2.2 rfl
def bdX11_part_96 : ByteArray := .mk #[167, 0, 4, 3, 172, 45, 180, 0, 159, 153, 0, 10, 45, 180, 0, 162, 167, 0, 4, 2, 172, 42, 180, 0, 39, 45, 182, 0, 165, 172]
theorem wdX11_part_96 : LocW cX11_part 96 bdX11_part_96 := loc_of (by decide +kernel)
theorem adX11_part_96 : De bdX11_part_96 0 (.goto 4) 3 ∧ De bdX11_part_96 3 (.iconst 0) 1 ∧ De bdX11_part_96 4 (.ireturn) 1 ∧ De bdX11_part_96 5 (.aload_n 3) 1 ∧ De bdX11_part_96 6 (.getfield 159) 3 ∧ De bdX11_part_96 9 (.ifCond .eq 10) 3 ∧ De bdX11_part_96 12 (.aload_n 3) 1 ∧ De bdX11_part_96 13 (.getfield 162) 3 ∧ De bdX11_part_96 16 (.goto 4) 3 ∧ De bdX11_part_96 19 (.iconst (-1)) 1 ∧ De bdX11_part_96 20 (.ireturn) 1 ∧ De bdX11_part_96 21 (.aload_n 0) 1 ∧ De bdX11_part_96 22 (.getfield 39) 3 ∧ De bdX11_part_96 25 (.aload_n 3) 1 ∧ De bdX11_part_96 26 (.invokevirtual 165) 3 ∧ De bdX11_part_96 29 (.ireturn) 1 := by decide +kernel
theorem dX11_part_96 : decode cX11_part 96 = .ok (.goto 4, 3) := dAt wdX11_part_96 adX11_part_96.1 rfl
theorem dX11_part_99 : decode cX11_part 99 = .ok (.iconst 0, 1) := dAt wdX11_part_96 adX11_part_96.2.1 rfl
theorem dX11_part_100 : decode cX11_part 100 = .ok (.ireturn, 1) := dAt wdX11_part_96 adX11_part_96.2.2.1 rfl
theorem dX11_part_101 : decode cX11_part 101 = .ok (.aload_n 3, 1) := dAt wdX11_part_96 adX11_part_96.2.2.2.1 rfl
theorem dX11_part_102 : decode cX11_part 102 = .ok (.getfield 159, 3) := dAt wdX11_part_96 adX11_part_96.2.2.2.2.1 rfl
theorem dX11_part_105 : decode cX11_part 105 = .ok (.ifCond .eq 10, 3) := dAt wdX11_part_96 adX11_part_96.2.2.2.2.2.1 rfl
theorem dX11_part_108 : decode cX11_part 108 = .ok (.aload_n 3, 1) := dAt wdX11_part_96 adX11_part_96.2.2.2.2.2.2.1 rfl
theorem dX11_part_109 : decode cX11_part 109 = .ok (.getfield 162, 3) := dAt wdX11_part_96 adX11_part_96.2.2.2.2.2.2.2.1 rfl
theorem dX11_part_112 : decode cX11_part 112 = .ok (.goto 4, 3) := dAt wdX11_part_96 adX11_part_96.2.2.2.2.2.2.2.2.1 rfl
theorem dX11_part_115 : decode cX11_part 115 = .ok (.iconst (-1), 1) := dAt wdX11_part_96 adX11_part_96.2.2.2.2.2.2.2.2.2.1 rfl
theorem dX11_part_116 : decode cX11_part 116 = .ok (.ireturn, 1) := dAt wdX11_part_96 adX11_part_96.2.2.2.2.2.2.2.2.2.2.1 rfl
theorem dX11_part_117 : decode cX11_part 117 = .ok (.aload_n 0, 1) := dAt wdX11_part_96 adX11_part_96.2.2.2.2.2.2.2.2.2.2.2.1 rfl
theorem dX11_part_118 : decode cX11_part 118 = .ok (.getfield 39, 3) := dAt wdX11_part_96 adX11_part_96.2.2.2.2.2.2.2.2.2.2.2.2.1 rfl
theorem dX11_part_121 : decode cX11_part 121 = .ok (.aload_n 3, 1) := dAt wdX11_part_96 adX11_part_96.2.2.2.2.2.2.2.2.2.2.2.2.2.1 rfl
theorem dX11_part_122 : decode cX11_part 122 = .ok (.invokevirtual 165, 3) := dAt wdX11_part_96 adX11_part_96.2.2.2.2.2.2.2.2.2.2.2.2.2.2.1 rfl
theorem dX11_part_125 : decode cX11_part 125 = .ok (.ireturn, 1) := dAt wdX11_part_96 adX11_part_96.2.2.2.2.2.2.2.2.2.2.2.2.2.2.2 rfl
def bdX11_part_126 : ByteArray := .mk #[42, 180, 0, 39, 27, 182, 0, 169, 172, 187, 0, 172, 89, 183, 0, 174, 191]
theorem wdX11_part_126 : LocW cX11_part 126 bdX11_part_126 := loc_of (by decide +kernel)
theorem adX11_part_126 : De bdX11_part_126 0 (.aload_n 0) 1 ∧ De bdX11_part_126 1 (.getfield 39) 3 ∧ De bdX11_part_126 4 (.iload_n 1) 1 ∧ De bdX11_part_126 5 (.invokevirtual 169) 3 ∧ De bdX11_part_126 8 (.ireturn) 1 ∧ De bdX11_part_126 9 (.new 172) 3 ∧ De bdX11_part_126 12 (.dup) 1 ∧ De bdX11_part_126 13 (.invokespecial 174) 3 ∧ De bdX11_part_126 16 (.athrow) 1 := by decide +kernel
theorem dX11_part_126 : decode cX11_part 126 = .ok (.aload_n 0, 1) := dAt wdX11_part_126 adX11_part_126.1 rfl
theorem dX11_part_127 : decode cX11_part 127 = .ok (.getfield 39, 3) := dAt wdX11_part_126 adX11_part_126.2.1 rfl
theorem dX11_part_130 : decode cX11_part 130 = .ok (.iload_n 1, 1) := dAt wdX11_part_126 adX11_part_126.2.2.1 rfl
theorem dX11_part_131 : decode cX11_part 131 = .ok (.invokevirtual 169, 3) := dAt wdX11_part_126 adX11_part_126.2.2.2.1 rfl
theorem dX11_part_134 : decode cX11_part 134 = .ok (.ireturn, 1) := dAt wdX11_part_126 adX11_part_126.2.2.2.2.1 rfl
theorem dX11_part_135 : decode cX11_part 135 = .ok (.new 172, 3) := dAt wdX11_part_126 adX11_part_126.2.2.2.2.2.1 rfl
theorem dX11_part_138 : decode cX11_part 138 = .ok (.dup, 1) := dAt wdX11_part_126 adX11_part_126.2.2.2.2.2.2.1 rfl
theorem dX11_part_139 : decode cX11_part 139 = .ok (.invokespecial 174, 3) := dAt wdX11_part_126 adX11_part_126.2.2.2.2.2.2.2.1 rfl
theorem dX11_part_142 : decode cX11_part 142 = .ok (.athrow, 1) := dAt wdX11_part_126 adX11_part_126.2.2.2.2.2.2.2.2 rfl
def bdX11_rule_0 : ByteArray := .mk #[42, 180, 0, 39, 27, 182, 0, 139, 58, 4, 25, 4, 199, 0, 11, 187, 0, 84, 89, 183, 0, 86, 191, 28, 184, 0, 98, 154, 0, 11, 187, 0, 87, 89]
theorem wdX11_rule_0 : LocW cX11_rule 0 bdX11_rule_0 := loc_of (by decide +kernel)
theorem adX11_rule_0 : De bdX11_rule_0 0 (.aload_n 0) 1 ∧ De bdX11_rule_0 1 (.getfield 39) 3 ∧ De bdX11_rule_0 4 (.iload_n 1) 1 ∧ De bdX11_rule_0 5 (.invokevirtual 139) 3 ∧ De bdX11_rule_0 8 (.astore 4) 2 ∧ De bdX11_rule_0 10 (.aload 4) 2 ∧ De bdX11_rule_0 12 (.ifnonnull 11) 3 ∧ De bdX11_rule_0 15 (.new 84) 3 ∧ De bdX11_rule_0 18 (.dup) 1 ∧ De bdX11_rule_0 19 (.invokespecial 86) 3 ∧ De bdX11_rule_0 22 (.athrow) 1 ∧ De bdX11_rule_0 23 (.iload_n 2) 1 ∧ De bdX11_rule_0 24 (.invokestatic 98) 3 ∧ De bdX11_rule_0 27 (.ifCond .ne 11) 3 ∧ De bdX11_rule_0 30 (.new 87) 3 ∧ De bdX11_rule_0 33 (.dup) 1 := by decide +kernel
theorem dX11_rule_0 : decode cX11_rule 0 = .ok (.aload_n 0, 1) := dAt wdX11_rule_0 adX11_rule_0.1 rfl
theorem dX11_rule_1 : decode cX11_rule 1 = .ok (.getfield 39, 3) := dAt wdX11_rule_0 adX11_rule_0.2.1 rfl
theorem dX11_rule_4 : decode cX11_rule 4 = .ok (.iload_n 1, 1) := dAt wdX11_rule_0 adX11_rule_0.2.2.1 rfl
theorem dX11_rule_5 : decode cX11_rule 5 = .ok (.invokevirtual 139, 3) := dAt wdX11_rule_0 adX11_rule_0.2.2.2.1 rfl
theorem dX11_rule_8 : decode cX11_rule 8 = .ok (.astore 4, 2) := dAt wdX11_rule_0 adX11_rule_0.2.2.2.2.1 rfl
theorem dX11_rule_10 : decode cX11_rule 10 = .ok (.aload 4, 2) := dAt wdX11_rule_0 adX11_rule_0.2.2.2.2.2.1 rfl
theorem dX11_rule_12 : decode cX11_rule 12 = .ok (.ifnonnull 11, 3) := dAt wdX11_rule_0 adX11_rule_0.2.2.2.2.2.2.1 rfl
theorem dX11_rule_15 : decode cX11_rule 15 = .ok (.new 84, 3) := dAt wdX11_rule_0 adX11_rule_0.2.2.2.2.2.2.2.1 rfl
theorem dX11_rule_18 : decode cX11_rule 18 = .ok (.dup, 1) := dAt wdX11_rule_0 adX11_rule_0.2.2.2.2.2.2.2.2.1 rfl
theorem dX11_rule_19 : decode cX11_rule 19 = .ok (.invokespecial 86, 3) := dAt wdX11_rule_0 adX11_rule_0.2.2.2.2.2.2.2.2.2.1 rfl
theorem dX11_rule_22 : decode cX11_rule 22 = .ok (.athrow, 1) := dAt wdX11_rule_0 adX11_rule_0.2.2.2.2.2.2.2.2.2.2.1 rfl
theorem dX11_rule_23 : decode cX11_rule 23 = .ok (.iload_n 2, 1) := dAt wdX11_rule_0 adX11_rule_0.2.2.2.2.2.2.2.2.2.2.2.1 rfl
theorem dX11_rule_24 : decode cX11_rule 24 = .ok (.invokestatic 98, 3) := dAt wdX11_rule_0 adX11_rule_0.2.2.2.2.2.2.2.2.2.2.2.2.1 rfl
theorem dX11_rule_27 : decode cX11_rule 27 = .ok (.ifCond .ne 11, 3) := dAt wdX11_rule_0 adX11_rule_0.2.2.2.2.2.2.2.2.2.2.2.2.2.1 rfl
theorem dX11_rule_30 : decode cX11_rule 30 = .ok (.new 87, 3) := dAt wdX11_rule_0 adX11_rule_0.2.2.2.2.2.2.2.2.2.2.2.2.2.2.1 rfl
theorem dX11_rule_33 : decode cX11_rule 33 = .ok (.dup, 1) := dAt wdX11_rule_0 adX11_rule_0.2.2.2.2.2.2.2.2.2.2.2.2.2.2.2 rfl
def bdX11_rule_34 : ByteArray := .mk #[183, 0, 89, 191, 42, 180, 0, 39, 25, 4, 28, 182, 0, 175, 58, 5, 29]
theorem wdX11_rule_34 : LocW cX11_rule 34 bdX11_rule_34 := loc_of (by decide +kernel)
theorem adX11_rule_34 : De bdX11_rule_34 0 (.invokespecial 89) 3 ∧ De bdX11_rule_34 3 (.athrow) 1 ∧ De bdX11_rule_34 4 (.aload_n 0) 1 ∧ De bdX11_rule_34 5 (.getfield 39) 3 ∧ De bdX11_rule_34 8 (.aload 4) 2 ∧ De bdX11_rule_34 10 (.iload_n 2) 1 ∧ De bdX11_rule_34 11 (.invokevirtual 175) 3 ∧ De bdX11_rule_34 14 (.astore 5) 2 ∧ De bdX11_rule_34 16 (.iload_n 3) 1 := by decide +kernel
theorem dX11_rule_34 : decode cX11_rule 34 = .ok (.invokespecial 89, 3) := dAt wdX11_rule_34 adX11_rule_34.1 rfl
theorem dX11_rule_37 : decode cX11_rule 37 = .ok (.athrow, 1) := dAt wdX11_rule_34 adX11_rule_34.2.1 rfl
theorem dX11_rule_38 : decode cX11_rule 38 = .ok (.aload_n 0, 1) := dAt wdX11_rule_34 adX11_rule_34.2.2.1 rfl
theorem dX11_rule_39 : decode cX11_rule 39 = .ok (.getfield 39, 3) := dAt wdX11_rule_34 adX11_rule_34.2.2.2.1 rfl
theorem dX11_rule_42 : decode cX11_rule 42 = .ok (.aload 4, 2) := dAt wdX11_rule_34 adX11_rule_34.2.2.2.2.1 rfl
theorem dX11_rule_44 : decode cX11_rule 44 = .ok (.iload_n 2, 1) := dAt wdX11_rule_34 adX11_rule_34.2.2.2.2.2.1 rfl
theorem dX11_rule_45 : decode cX11_rule 45 = .ok (.invokevirtual 175, 3) := dAt wdX11_rule_34 adX11_rule_34.2.2.2.2.2.2.1 rfl
theorem dX11_rule_48 : decode cX11_rule 48 = .ok (.astore 5, 2) := dAt wdX11_rule_34 adX11_rule_34.2.2.2.2.2.2.2.1 rfl
theorem dX11_rule_50 : decode cX11_rule 50 = .ok (.iload_n 3, 1) := dAt wdX11_rule_34 adX11_rule_34.2.2.2.2.2.2.2.2 rfl
theorem dX11_rule_51 : decode cX11_rule 51 = .ok (.tableswitch 73 0 5 #[37, 43, 49, 55, 61, 67], 37) := by decide +kernel
def bdX11_rule_88 : ByteArray := .mk #[25, 5, 180, 0, 179, 172, 25, 5, 180, 0, 184, 172, 25, 5, 180, 0, 187, 172, 25, 5, 180, 0, 190, 172, 25, 5, 180, 0, 193, 172, 25, 5]
theorem wdX11_rule_88 : LocW cX11_rule 88 bdX11_rule_88 := loc_of (by decide +kernel)
theorem adX11_rule_88 : De bdX11_rule_88 0 (.aload 5) 2 ∧ De bdX11_rule_88 2 (.getfield 179) 3 ∧ De bdX11_rule_88 5 (.ireturn) 1 ∧ De bdX11_rule_88 6 (.aload 5) 2 ∧ De bdX11_rule_88 8 (.getfield 184) 3 ∧ De bdX11_rule_88 11 (.ireturn) 1 ∧ De bdX11_rule_88 12 (.aload 5) 2 ∧ De bdX11_rule_88 14 (.getfield 187) 3 ∧ De bdX11_rule_88 17 (.ireturn) 1 ∧ De bdX11_rule_88 18 (.aload 5) 2 ∧ De bdX11_rule_88 20 (.getfield 190) 3 ∧ De bdX11_rule_88 23 (.ireturn) 1 ∧ De bdX11_rule_88 24 (.aload 5) 2 ∧ De bdX11_rule_88 26 (.getfield 193) 3 ∧ De bdX11_rule_88 29 (.ireturn) 1 ∧ De bdX11_rule_88 30 (.aload 5) 2 := by decide +kernel
theorem dX11_rule_88 : decode cX11_rule 88 = .ok (.aload 5, 2) := dAt wdX11_rule_88 adX11_rule_88.1 rfl
theorem dX11_rule_90 : decode cX11_rule 90 = .ok (.getfield 179, 3) := dAt wdX11_rule_88 adX11_rule_88.2.1 rfl
theorem dX11_rule_93 : decode cX11_rule 93 = .ok (.ireturn, 1) := dAt wdX11_rule_88 adX11_rule_88.2.2.1 rfl
theorem dX11_rule_94 : decode cX11_rule 94 = .ok (.aload 5, 2) := dAt wdX11_rule_88 adX11_rule_88.2.2.2.1 rfl
theorem dX11_rule_96 : decode cX11_rule 96 = .ok (.getfield 184, 3) := dAt wdX11_rule_88 adX11_rule_88.2.2.2.2.1 rfl
theorem dX11_rule_99 : decode cX11_rule 99 = .ok (.ireturn, 1) := dAt wdX11_rule_88 adX11_rule_88.2.2.2.2.2.1 rfl
theorem dX11_rule_100 : decode cX11_rule 100 = .ok (.aload 5, 2) := dAt wdX11_rule_88 adX11_rule_88.2.2.2.2.2.2.1 rfl
theorem dX11_rule_102 : decode cX11_rule 102 = .ok (.getfield 187, 3) := dAt wdX11_rule_88 adX11_rule_88.2.2.2.2.2.2.2.1 rfl
theorem dX11_rule_105 : decode cX11_rule 105 = .ok (.ireturn, 1) := dAt wdX11_rule_88 adX11_rule_88.2.2.2.2.2.2.2.2.1 rfl
theorem dX11_rule_106 : decode cX11_rule 106 = .ok (.aload 5, 2) := dAt wdX11_rule_88 adX11_rule_88.2.2.2.2.2.2.2.2.2.1 rfl
theorem dX11_rule_108 : decode cX11_rule 108 = .ok (.getfield 190, 3) := dAt wdX11_rule_88 adX11_rule_88.2.2.2.2.2.2.2.2.2.2.1 rfl
theorem dX11_rule_111 : decode cX11_rule 111 = .ok (.ireturn, 1) := dAt wdX11_rule_88 adX11_rule_88.2.2.2.2.2.2.2.2.2.2.2.1 rfl
theorem dX11_rule_112 : decode cX11_rule 112 = .ok (.aload 5, 2) := dAt wdX11_rule_88 adX11_rule_88.2.2.2.2.2.2.2.2.2.2.2.2.1 rfl
theorem dX11_rule_114 : decode cX11_rule 114 = .ok (.getfield 193, 3) := dAt wdX11_rule_88 adX11_rule_88.2.2.2.2.2.2.2.2.2.2.2.2.2.1 rfl
theorem dX11_rule_117 : decode cX11_rule 117 = .ok (.ireturn, 1) := dAt wdX11_rule_88 adX11_rule_88.2.2.2.2.2.2.2.2.2.2.2.2.2.2.1 rfl
theorem dX11_rule_118 : decode cX11_rule 118 = .ok (.aload 5, 2) := dAt wdX11_rule_88 adX11_rule_88.2.2.2.2.2.2.2.2.2.2.2.2.2.2.2 rfl
def bdX11_rule_120 : ByteArray := .mk #[180, 0, 196, 172, 187, 0, 172, 89, 183, 0, 174, 191]
theorem wdX11_rule_120 : LocW cX11_rule 120 bdX11_rule_120 := loc_of (by decide +kernel)
theorem adX11_rule_120 : De bdX11_rule_120 0 (.getfield 196) 3 ∧ De bdX11_rule_120 3 (.ireturn) 1 ∧ De bdX11_rule_120 4 (.new 172) 3 ∧ De bdX11_rule_120 7 (.dup) 1 ∧ De bdX11_rule_120 8 (.invokespecial 174) 3 ∧ De bdX11_rule_120 11 (.athrow) 1 := by decide +kernel
theorem dX11_rule_120 : decode cX11_rule 120 = .ok (.getfield 196, 3) := dAt wdX11_rule_120 adX11_rule_120.1 rfl
theorem dX11_rule_123 : decode cX11_rule 123 = .ok (.ireturn, 1) := dAt wdX11_rule_120 adX11_rule_120.2.1 rfl
theorem dX11_rule_124 : decode cX11_rule 124 = .ok (.new 172, 3) := dAt wdX11_rule_120 adX11_rule_120.2.2.1 rfl
theorem dX11_rule_127 : decode cX11_rule 127 = .ok (.dup, 1) := dAt wdX11_rule_120 adX11_rule_120.2.2.2.1 rfl
theorem dX11_rule_128 : decode cX11_rule 128 = .ok (.invokespecial 174, 3) := dAt wdX11_rule_120 adX11_rule_120.2.2.2.2.1 rfl
theorem dX11_rule_131 : decode cX11_rule 131 = .ok (.athrow, 1) := dAt wdX11_rule_120 adX11_rule_120.2.2.2.2.2 rfl
def bdX11_best_0 : ByteArray := .mk #[42, 180, 0, 39, 27, 182, 0, 139, 78, 45, 199, 0, 11, 187, 0, 84, 89, 183, 0, 86, 191, 42, 180, 0, 39, 45, 42, 180, 0, 39]
theorem wdX11_best_0 : LocW cX11_best 0 bdX11_best_0 := loc_of (by decide +kernel)
theorem adX11_best_0 : De bdX11_best_0 0 (.aload_n 0) 1 ∧ De bdX11_best_0 1 (.getfield 39) 3 ∧ De bdX11_best_0 4 (.iload_n 1) 1 ∧ De bdX11_best_0 5 (.invokevirtual 139) 3 ∧ De bdX11_best_0 8 (.astore_n 3) 1 ∧ De bdX11_best_0 9 (.aload_n 3) 1 ∧ De bdX11_best_0 10 (.ifnonnull 11) 3 ∧ De bdX11_best_0 13 (.new 84) 3 ∧ De bdX11_best_0 16 (.dup) 1 ∧ De bdX11_best_0 17 (.invokespecial 86) 3 ∧ De bdX11_best_0 20 (.athrow) 1 ∧ De bdX11_best_0 21 (.aload_n 0) 1 ∧ De bdX11_best_0 22 (.getfield 39) 3 ∧ De bdX11_best_0 25 (.aload_n 3) 1 ∧ De bdX11_best_0 26 (.aload_n 0) 1 ∧ De bdX11_best_0 27 (.getfield 39) 3 := by decide +kernel
theorem dX11_best_0 : decode cX11_best 0 = .ok (.aload_n 0, 1) := dAt wdX11_best_0 adX11_best_0.1 rfl
theorem dX11_best_1 : decode cX11_best 1 = .ok (.getfield 39, 3) := dAt wdX11_best_0 adX11_best_0.2.1 rfl
theorem dX11_best_4 : decode cX11_best 4 = .ok (.iload_n 1, 1) := dAt wdX11_best_0 adX11_best_0.2.2.1 rfl
theorem dX11_best_5 : decode cX11_best 5 = .ok (.invokevirtual 139, 3) := dAt wdX11_best_0 adX11_best_0.2.2.2.1 rfl
theorem dX11_best_8 : decode cX11_best 8 = .ok (.astore_n 3, 1) := dAt wdX11_best_0 adX11_best_0.2.2.2.2.1 rfl
theorem dX11_best_9 : decode cX11_best 9 = .ok (.aload_n 3, 1) := dAt wdX11_best_0 adX11_best_0.2.2.2.2.2.1 rfl
theorem dX11_best_10 : decode cX11_best 10 = .ok (.ifnonnull 11, 3) := dAt wdX11_best_0 adX11_best_0.2.2.2.2.2.2.1 rfl
theorem dX11_best_13 : decode cX11_best 13 = .ok (.new 84, 3) := dAt wdX11_best_0 adX11_best_0.2.2.2.2.2.2.2.1 rfl
theorem dX11_best_16 : decode cX11_best 16 = .ok (.dup, 1) := dAt wdX11_best_0 adX11_best_0.2.2.2.2.2.2.2.2.1 rfl
theorem dX11_best_17 : decode cX11_best 17 = .ok (.invokespecial 86, 3) := dAt wdX11_best_0 adX11_best_0.2.2.2.2.2.2.2.2.2.1 rfl
theorem dX11_best_20 : decode cX11_best 20 = .ok (.athrow, 1) := dAt wdX11_best_0 adX11_best_0.2.2.2.2.2.2.2.2.2.2.1 rfl
theorem dX11_best_21 : decode cX11_best 21 = .ok (.aload_n 0, 1) := dAt wdX11_best_0 adX11_best_0.2.2.2.2.2.2.2.2.2.2.2.1 rfl
theorem dX11_best_22 : decode cX11_best 22 = .ok (.getfield 39, 3) := dAt wdX11_best_0 adX11_best_0.2.2.2.2.2.2.2.2.2.2.2.2.1 rfl
theorem dX11_best_25 : decode cX11_best 25 = .ok (.aload_n 3, 1) := dAt wdX11_best_0 adX11_best_0.2.2.2.2.2.2.2.2.2.2.2.2.2.1 rfl
theorem dX11_best_26 : decode cX11_best 26 = .ok (.aload_n 0, 1) := dAt wdX11_best_0 adX11_best_0.2.2.2.2.2.2.2.2.2.2.2.2.2.2.1 rfl
theorem dX11_best_27 : decode cX11_best 27 = .ok (.getfield 39, 3) := dAt wdX11_best_0 adX11_best_0.2.2.2.2.2.2.2.2.2.2.2.2.2.2.2 rfl
def bdX11_best_30 : ByteArray := .mk #[180, 0, 117, 182, 0, 175, 58, 4, 28]
theorem wdX11_best_30 : LocW cX11_best 30 bdX11_best_30 := loc_of (by decide +kernel)
theorem adX11_best_30 : De bdX11_best_30 0 (.getfield 117) 3 ∧ De bdX11_best_30 3 (.invokevirtual 175) 3 ∧ De bdX11_best_30 6 (.astore 4) 2 ∧ De bdX11_best_30 8 (.iload_n 2) 1 := by decide +kernel
theorem dX11_best_30 : decode cX11_best 30 = .ok (.getfield 117, 3) := dAt wdX11_best_30 adX11_best_30.1 rfl
theorem dX11_best_33 : decode cX11_best 33 = .ok (.invokevirtual 175, 3) := dAt wdX11_best_30 adX11_best_30.2.1 rfl
theorem dX11_best_36 : decode cX11_best 36 = .ok (.astore 4, 2) := dAt wdX11_best_30 adX11_best_30.2.2.1 rfl
theorem dX11_best_38 : decode cX11_best 38 = .ok (.iload_n 2, 1) := dAt wdX11_best_30 adX11_best_30.2.2.2 rfl
theorem dX11_best_39 : decode cX11_best 39 = .ok (.tableswitch 59 0 2 #[25, 32, 53], 25) := by decide +kernel
def bdX11_best_64 : ByteArray := .mk #[25, 4, 3, 182, 0, 199, 172, 25, 4, 3, 182, 0, 199, 2, 160, 0, 7, 2, 167, 0, 9, 25, 4, 3, 182, 0, 202, 172, 25, 4]
theorem wdX11_best_64 : LocW cX11_best 64 bdX11_best_64 := loc_of (by decide +kernel)
theorem adX11_best_64 : De bdX11_best_64 0 (.aload 4) 2 ∧ De bdX11_best_64 2 (.iconst 0) 1 ∧ De bdX11_best_64 3 (.invokevirtual 199) 3 ∧ De bdX11_best_64 6 (.ireturn) 1 ∧ De bdX11_best_64 7 (.aload 4) 2 ∧ De bdX11_best_64 9 (.iconst 0) 1 ∧ De bdX11_best_64 10 (.invokevirtual 199) 3 ∧ De bdX11_best_64 13 (.iconst (-1)) 1 ∧ De bdX11_best_64 14 (.if_icmp .ne 7) 3 ∧ De bdX11_best_64 17 (.iconst (-1)) 1 ∧ De bdX11_best_64 18 (.goto 9) 3 ∧ De bdX11_best_64 21 (.aload 4) 2 ∧ De bdX11_best_64 23 (.iconst 0) 1 ∧ De bdX11_best_64 24 (.invokevirtual 202) 3 ∧ De bdX11_best_64 27 (.ireturn) 1 ∧ De bdX11_best_64 28 (.aload 4) 2 := by decide +kernel
theorem dX11_best_64 : decode cX11_best 64 = .ok (.aload 4, 2) := dAt wdX11_best_64 adX11_best_64.1 rfl
theorem dX11_best_66 : decode cX11_best 66 = .ok (.iconst 0, 1) := dAt wdX11_best_64 adX11_best_64.2.1 rfl
theorem dX11_best_67 : decode cX11_best 67 = .ok (.invokevirtual 199, 3) := dAt wdX11_best_64 adX11_best_64.2.2.1 rfl
theorem dX11_best_70 : decode cX11_best 70 = .ok (.ireturn, 1) := dAt wdX11_best_64 adX11_best_64.2.2.2.1 rfl
theorem dX11_best_71 : decode cX11_best 71 = .ok (.aload 4, 2) := dAt wdX11_best_64 adX11_best_64.2.2.2.2.1 rfl
theorem dX11_best_73 : decode cX11_best 73 = .ok (.iconst 0, 1) := dAt wdX11_best_64 adX11_best_64.2.2.2.2.2.1 rfl
theorem dX11_best_74 : decode cX11_best 74 = .ok (.invokevirtual 199, 3) := dAt wdX11_best_64 adX11_best_64.2.2.2.2.2.2.1 rfl
theorem dX11_best_77 : decode cX11_best 77 = .ok (.iconst (-1), 1) := dAt wdX11_best_64 adX11_best_64.2.2.2.2.2.2.2.1 rfl
theorem dX11_best_78 : decode cX11_best 78 = .ok (.if_icmp .ne 7, 3) := dAt wdX11_best_64 adX11_best_64.2.2.2.2.2.2.2.2.1 rfl
theorem dX11_best_81 : decode cX11_best 81 = .ok (.iconst (-1), 1) := dAt wdX11_best_64 adX11_best_64.2.2.2.2.2.2.2.2.2.1 rfl
theorem dX11_best_82 : decode cX11_best 82 = .ok (.goto 9, 3) := dAt wdX11_best_64 adX11_best_64.2.2.2.2.2.2.2.2.2.2.1 rfl
theorem dX11_best_85 : decode cX11_best 85 = .ok (.aload 4, 2) := dAt wdX11_best_64 adX11_best_64.2.2.2.2.2.2.2.2.2.2.2.1 rfl
theorem dX11_best_87 : decode cX11_best 87 = .ok (.iconst 0, 1) := dAt wdX11_best_64 adX11_best_64.2.2.2.2.2.2.2.2.2.2.2.2.1 rfl
theorem dX11_best_88 : decode cX11_best 88 = .ok (.invokevirtual 202, 3) := dAt wdX11_best_64 adX11_best_64.2.2.2.2.2.2.2.2.2.2.2.2.2.1 rfl
theorem dX11_best_91 : decode cX11_best 91 = .ok (.ireturn, 1) := dAt wdX11_best_64 adX11_best_64.2.2.2.2.2.2.2.2.2.2.2.2.2.2.1 rfl
theorem dX11_best_92 : decode cX11_best 92 = .ok (.aload 4, 2) := dAt wdX11_best_64 adX11_best_64.2.2.2.2.2.2.2.2.2.2.2.2.2.2.2 rfl
def bdX11_best_94 : ByteArray := .mk #[182, 0, 205, 172, 187, 0, 172, 89, 183, 0, 174, 191]
theorem wdX11_best_94 : LocW cX11_best 94 bdX11_best_94 := loc_of (by decide +kernel)
theorem adX11_best_94 : De bdX11_best_94 0 (.invokevirtual 205) 3 ∧ De bdX11_best_94 3 (.ireturn) 1 ∧ De bdX11_best_94 4 (.new 172) 3 ∧ De bdX11_best_94 7 (.dup) 1 ∧ De bdX11_best_94 8 (.invokespecial 174) 3 ∧ De bdX11_best_94 11 (.athrow) 1 := by decide +kernel
theorem dX11_best_94 : decode cX11_best 94 = .ok (.invokevirtual 205, 3) := dAt wdX11_best_94 adX11_best_94.1 rfl
theorem dX11_best_97 : decode cX11_best 97 = .ok (.ireturn, 1) := dAt wdX11_best_94 adX11_best_94.2.1 rfl
theorem dX11_best_98 : decode cX11_best 98 = .ok (.new 172, 3) := dAt wdX11_best_94 adX11_best_94.2.2.1 rfl
theorem dX11_best_101 : decode cX11_best 101 = .ok (.dup, 1) := dAt wdX11_best_94 adX11_best_94.2.2.2.1 rfl
theorem dX11_best_102 : decode cX11_best 102 = .ok (.invokespecial 174, 3) := dAt wdX11_best_94 adX11_best_94.2.2.2.2.1 rfl
theorem dX11_best_105 : decode cX11_best 105 = .ok (.athrow, 1) := dAt wdX11_best_94 adX11_best_94.2.2.2.2.2 rfl
def bdX11_ends_0 : ByteArray := .mk #[42, 180, 0, 39, 27, 182, 0, 139, 78, 45, 199, 0, 11, 187, 0, 84, 89, 183, 0, 86, 191, 45, 180, 0, 159, 153, 0, 22, 45, 28]
theorem wdX11_ends_0 : LocW cX11_ends 0 bdX11_ends_0 := loc_of (by decide +kernel)
theorem adX11_ends_0 : De bdX11_ends_0 0 (.aload_n 0) 1 ∧ De bdX11_ends_0 1 (.getfield 39) 3 ∧ De bdX11_ends_0 4 (.iload_n 1) 1 ∧ De bdX11_ends_0 5 (.invokevirtual 139) 3 ∧ De bdX11_ends_0 8 (.astore_n 3) 1 ∧ De bdX11_ends_0 9 (.aload_n 3) 1 ∧ De bdX11_ends_0 10 (.ifnonnull 11) 3 ∧ De bdX11_ends_0 13 (.new 84) 3 ∧ De bdX11_ends_0 16 (.dup) 1 ∧ De bdX11_ends_0 17 (.invokespecial 86) 3 ∧ De bdX11_ends_0 20 (.athrow) 1 ∧ De bdX11_ends_0 21 (.aload_n 3) 1 ∧ De bdX11_ends_0 22 (.getfield 159) 3 ∧ De bdX11_ends_0 25 (.ifCond .eq 22) 3 ∧ De bdX11_ends_0 28 (.aload_n 3) 1 ∧ De bdX11_ends_0 29 (.iload_n 2) 1 := by decide +kernel
theorem dX11_ends_0 : decode cX11_ends 0 = .ok (.aload_n 0, 1) := dAt wdX11_ends_0 adX11_ends_0.1 rfl
theorem dX11_ends_1 : decode cX11_ends 1 = .ok (.getfield 39, 3) := dAt wdX11_ends_0 adX11_ends_0.2.1 rfl
theorem dX11_ends_4 : decode cX11_ends 4 = .ok (.iload_n 1, 1) := dAt wdX11_ends_0 adX11_ends_0.2.2.1 rfl
theorem dX11_ends_5 : decode cX11_ends 5 = .ok (.invokevirtual 139, 3) := dAt wdX11_ends_0 adX11_ends_0.2.2.2.1 rfl
theorem dX11_ends_8 : decode cX11_ends 8 = .ok (.astore_n 3, 1) := dAt wdX11_ends_0 adX11_ends_0.2.2.2.2.1 rfl
theorem dX11_ends_9 : decode cX11_ends 9 = .ok (.aload_n 3, 1) := dAt wdX11_ends_0 adX11_ends_0.2.2.2.2.2.1 rfl
theorem dX11_ends_10 : decode cX11_ends 10 = .ok (.ifnonnull 11, 3) := dAt wdX11_ends_0 adX11_ends_0.2.2.2.2.2.2.1 rfl
theorem dX11_ends_13 : decode cX11_ends 13 = .ok (.new 84, 3) := dAt wdX11_ends_0 adX11_ends_0.2.2.2.2.2.2.2.1 rfl
theorem dX11_ends_16 : decode cX11_ends 16 = .ok (.dup, 1) := dAt wdX11_ends_0 adX11_ends_0.2.2.2.2.2.2.2.2.1 rfl
theorem dX11_ends_17 : decode cX11_ends 17 = .ok (.invokespecial 86, 3) := dAt wdX11_ends_0 adX11_ends_0.2.2.2.2.2.2.2.2.2.1 rfl
theorem dX11_ends_20 : decode cX11_ends 20 = .ok (.athrow, 1) := dAt wdX11_ends_0 adX11_ends_0.2.2.2.2.2.2.2.2.2.2.1 rfl
theorem dX11_ends_21 : decode cX11_ends 21 = .ok (.aload_n 3, 1) := dAt wdX11_ends_0 adX11_ends_0.2.2.2.2.2.2.2.2.2.2.2.1 rfl
theorem dX11_ends_22 : decode cX11_ends 22 = .ok (.getfield 159, 3) := dAt wdX11_ends_0 adX11_ends_0.2.2.2.2.2.2.2.2.2.2.2.2.1 rfl
theorem dX11_ends_25 : decode cX11_ends 25 = .ok (.ifCond .eq 22, 3) := dAt wdX11_ends_0 adX11_ends_0.2.2.2.2.2.2.2.2.2.2.2.2.2.1 rfl
theorem dX11_ends_28 : decode cX11_ends 28 = .ok (.aload_n 3, 1) := dAt wdX11_ends_0 adX11_ends_0.2.2.2.2.2.2.2.2.2.2.2.2.2.2.1 rfl
theorem dX11_ends_29 : decode cX11_ends 29 = .ok (.iload_n 2, 1) := dAt wdX11_ends_0 adX11_ends_0.2.2.2.2.2.2.2.2.2.2.2.2.2.2.2 rfl
def bdX11_ends_30 : ByteArray := .mk #[182, 0, 208, 153, 0, 12, 45, 180, 0, 211, 28, 46, 167, 0, 4, 2, 172, 42, 180, 0, 39, 45, 42, 180, 0, 39, 180, 0, 117, 182, 0, 175]
theorem wdX11_ends_30 : LocW cX11_ends 30 bdX11_ends_30 := loc_of (by decide +kernel)
theorem adX11_ends_30 : De bdX11_ends_30 0 (.invokevirtual 208) 3 ∧ De bdX11_ends_30 3 (.ifCond .eq 12) 3 ∧ De bdX11_ends_30 6 (.aload_n 3) 1 ∧ De bdX11_ends_30 7 (.getfield 211) 3 ∧ De bdX11_ends_30 10 (.iload_n 2) 1 ∧ De bdX11_ends_30 11 (.iaload) 1 ∧ De bdX11_ends_30 12 (.goto 4) 3 ∧ De bdX11_ends_30 15 (.iconst (-1)) 1 ∧ De bdX11_ends_30 16 (.ireturn) 1 ∧ De bdX11_ends_30 17 (.aload_n 0) 1 ∧ De bdX11_ends_30 18 (.getfield 39) 3 ∧ De bdX11_ends_30 21 (.aload_n 3) 1 ∧ De bdX11_ends_30 22 (.aload_n 0) 1 ∧ De bdX11_ends_30 23 (.getfield 39) 3 ∧ De bdX11_ends_30 26 (.getfield 117) 3 ∧ De bdX11_ends_30 29 (.invokevirtual 175) 3 := by decide +kernel
theorem dX11_ends_30 : decode cX11_ends 30 = .ok (.invokevirtual 208, 3) := dAt wdX11_ends_30 adX11_ends_30.1 rfl
theorem dX11_ends_33 : decode cX11_ends 33 = .ok (.ifCond .eq 12, 3) := dAt wdX11_ends_30 adX11_ends_30.2.1 rfl
theorem dX11_ends_36 : decode cX11_ends 36 = .ok (.aload_n 3, 1) := dAt wdX11_ends_30 adX11_ends_30.2.2.1 rfl
theorem dX11_ends_37 : decode cX11_ends 37 = .ok (.getfield 211, 3) := dAt wdX11_ends_30 adX11_ends_30.2.2.2.1 rfl
theorem dX11_ends_40 : decode cX11_ends 40 = .ok (.iload_n 2, 1) := dAt wdX11_ends_30 adX11_ends_30.2.2.2.2.1 rfl
theorem dX11_ends_41 : decode cX11_ends 41 = .ok (.iaload, 1) := dAt wdX11_ends_30 adX11_ends_30.2.2.2.2.2.1 rfl
theorem dX11_ends_42 : decode cX11_ends 42 = .ok (.goto 4, 3) := dAt wdX11_ends_30 adX11_ends_30.2.2.2.2.2.2.1 rfl
theorem dX11_ends_45 : decode cX11_ends 45 = .ok (.iconst (-1), 1) := dAt wdX11_ends_30 adX11_ends_30.2.2.2.2.2.2.2.1 rfl
theorem dX11_ends_46 : decode cX11_ends 46 = .ok (.ireturn, 1) := dAt wdX11_ends_30 adX11_ends_30.2.2.2.2.2.2.2.2.1 rfl
theorem dX11_ends_47 : decode cX11_ends 47 = .ok (.aload_n 0, 1) := dAt wdX11_ends_30 adX11_ends_30.2.2.2.2.2.2.2.2.2.1 rfl
theorem dX11_ends_48 : decode cX11_ends 48 = .ok (.getfield 39, 3) := dAt wdX11_ends_30 adX11_ends_30.2.2.2.2.2.2.2.2.2.2.1 rfl
theorem dX11_ends_51 : decode cX11_ends 51 = .ok (.aload_n 3, 1) := dAt wdX11_ends_30 adX11_ends_30.2.2.2.2.2.2.2.2.2.2.2.1 rfl
theorem dX11_ends_52 : decode cX11_ends 52 = .ok (.aload_n 0, 1) := dAt wdX11_ends_30 adX11_ends_30.2.2.2.2.2.2.2.2.2.2.2.2.1 rfl
theorem dX11_ends_53 : decode cX11_ends 53 = .ok (.getfield 39, 3) := dAt wdX11_ends_30 adX11_ends_30.2.2.2.2.2.2.2.2.2.2.2.2.2.1 rfl
theorem dX11_ends_56 : decode cX11_ends 56 = .ok (.getfield 117, 3) := dAt wdX11_ends_30 adX11_ends_30.2.2.2.2.2.2.2.2.2.2.2.2.2.2.1 rfl
theorem dX11_ends_59 : decode cX11_ends 59 = .ok (.invokevirtual 175, 3) := dAt wdX11_ends_30 adX11_ends_30.2.2.2.2.2.2.2.2.2.2.2.2.2.2.2 rfl
def bdX11_ends_62 : ByteArray := .mk #[58, 4, 25, 4, 3, 182, 0, 199, 2, 160, 0, 7, 2, 167, 0, 9, 25, 4, 28, 182, 0, 214, 172]
theorem wdX11_ends_62 : LocW cX11_ends 62 bdX11_ends_62 := loc_of (by decide +kernel)
theorem adX11_ends_62 : De bdX11_ends_62 0 (.astore 4) 2 ∧ De bdX11_ends_62 2 (.aload 4) 2 ∧ De bdX11_ends_62 4 (.iconst 0) 1 ∧ De bdX11_ends_62 5 (.invokevirtual 199) 3 ∧ De bdX11_ends_62 8 (.iconst (-1)) 1 ∧ De bdX11_ends_62 9 (.if_icmp .ne 7) 3 ∧ De bdX11_ends_62 12 (.iconst (-1)) 1 ∧ De bdX11_ends_62 13 (.goto 9) 3 ∧ De bdX11_ends_62 16 (.aload 4) 2 ∧ De bdX11_ends_62 18 (.iload_n 2) 1 ∧ De bdX11_ends_62 19 (.invokevirtual 214) 3 ∧ De bdX11_ends_62 22 (.ireturn) 1 := by decide +kernel
theorem dX11_ends_62 : decode cX11_ends 62 = .ok (.astore 4, 2) := dAt wdX11_ends_62 adX11_ends_62.1 rfl
theorem dX11_ends_64 : decode cX11_ends 64 = .ok (.aload 4, 2) := dAt wdX11_ends_62 adX11_ends_62.2.1 rfl
theorem dX11_ends_66 : decode cX11_ends 66 = .ok (.iconst 0, 1) := dAt wdX11_ends_62 adX11_ends_62.2.2.1 rfl
theorem dX11_ends_67 : decode cX11_ends 67 = .ok (.invokevirtual 199, 3) := dAt wdX11_ends_62 adX11_ends_62.2.2.2.1 rfl
theorem dX11_ends_70 : decode cX11_ends 70 = .ok (.iconst (-1), 1) := dAt wdX11_ends_62 adX11_ends_62.2.2.2.2.1 rfl
theorem dX11_ends_71 : decode cX11_ends 71 = .ok (.if_icmp .ne 7, 3) := dAt wdX11_ends_62 adX11_ends_62.2.2.2.2.2.1 rfl
theorem dX11_ends_74 : decode cX11_ends 74 = .ok (.iconst (-1), 1) := dAt wdX11_ends_62 adX11_ends_62.2.2.2.2.2.2.1 rfl
theorem dX11_ends_75 : decode cX11_ends 75 = .ok (.goto 9, 3) := dAt wdX11_ends_62 adX11_ends_62.2.2.2.2.2.2.2.1 rfl
theorem dX11_ends_78 : decode cX11_ends 78 = .ok (.aload 4, 2) := dAt wdX11_ends_62 adX11_ends_62.2.2.2.2.2.2.2.2.1 rfl
theorem dX11_ends_80 : decode cX11_ends 80 = .ok (.iload_n 2, 1) := dAt wdX11_ends_62 adX11_ends_62.2.2.2.2.2.2.2.2.2.1 rfl
theorem dX11_ends_81 : decode cX11_ends 81 = .ok (.invokevirtual 214, 3) := dAt wdX11_ends_62 adX11_ends_62.2.2.2.2.2.2.2.2.2.2.1 rfl
theorem dX11_ends_84 : decode cX11_ends 84 = .ok (.ireturn, 1) := dAt wdX11_ends_62 adX11_ends_62.2.2.2.2.2.2.2.2.2.2.2 rfl
def bdX11_hand_0 : ByteArray := .mk #[42, 180, 0, 39, 27, 182, 0, 139, 78, 45, 199, 0, 11, 187, 0, 84, 89, 183, 0, 86, 191, 42, 180, 0, 39, 45, 42, 180, 0, 39]
theorem wdX11_hand_0 : LocW cX11_hand 0 bdX11_hand_0 := loc_of (by decide +kernel)
theorem adX11_hand_0 : De bdX11_hand_0 0 (.aload_n 0) 1 ∧ De bdX11_hand_0 1 (.getfield 39) 3 ∧ De bdX11_hand_0 4 (.iload_n 1) 1 ∧ De bdX11_hand_0 5 (.invokevirtual 139) 3 ∧ De bdX11_hand_0 8 (.astore_n 3) 1 ∧ De bdX11_hand_0 9 (.aload_n 3) 1 ∧ De bdX11_hand_0 10 (.ifnonnull 11) 3 ∧ De bdX11_hand_0 13 (.new 84) 3 ∧ De bdX11_hand_0 16 (.dup) 1 ∧ De bdX11_hand_0 17 (.invokespecial 86) 3 ∧ De bdX11_hand_0 20 (.athrow) 1 ∧ De bdX11_hand_0 21 (.aload_n 0) 1 ∧ De bdX11_hand_0 22 (.getfield 39) 3 ∧ De bdX11_hand_0 25 (.aload_n 3) 1 ∧ De bdX11_hand_0 26 (.aload_n 0) 1 ∧ De bdX11_hand_0 27 (.getfield 39) 3 := by decide +kernel
theorem dX11_hand_0 : decode cX11_hand 0 = .ok (.aload_n 0, 1) := dAt wdX11_hand_0 adX11_hand_0.1 rfl
theorem dX11_hand_1 : decode cX11_hand 1 = .ok (.getfield 39, 3) := dAt wdX11_hand_0 adX11_hand_0.2.1 rfl
theorem dX11_hand_4 : decode cX11_hand 4 = .ok (.iload_n 1, 1) := dAt wdX11_hand_0 adX11_hand_0.2.2.1 rfl
theorem dX11_hand_5 : decode cX11_hand 5 = .ok (.invokevirtual 139, 3) := dAt wdX11_hand_0 adX11_hand_0.2.2.2.1 rfl
theorem dX11_hand_8 : decode cX11_hand 8 = .ok (.astore_n 3, 1) := dAt wdX11_hand_0 adX11_hand_0.2.2.2.2.1 rfl
theorem dX11_hand_9 : decode cX11_hand 9 = .ok (.aload_n 3, 1) := dAt wdX11_hand_0 adX11_hand_0.2.2.2.2.2.1 rfl
theorem dX11_hand_10 : decode cX11_hand 10 = .ok (.ifnonnull 11, 3) := dAt wdX11_hand_0 adX11_hand_0.2.2.2.2.2.2.1 rfl
theorem dX11_hand_13 : decode cX11_hand 13 = .ok (.new 84, 3) := dAt wdX11_hand_0 adX11_hand_0.2.2.2.2.2.2.2.1 rfl
theorem dX11_hand_16 : decode cX11_hand 16 = .ok (.dup, 1) := dAt wdX11_hand_0 adX11_hand_0.2.2.2.2.2.2.2.2.1 rfl
theorem dX11_hand_17 : decode cX11_hand 17 = .ok (.invokespecial 86, 3) := dAt wdX11_hand_0 adX11_hand_0.2.2.2.2.2.2.2.2.2.1 rfl
theorem dX11_hand_20 : decode cX11_hand 20 = .ok (.athrow, 1) := dAt wdX11_hand_0 adX11_hand_0.2.2.2.2.2.2.2.2.2.2.1 rfl
theorem dX11_hand_21 : decode cX11_hand 21 = .ok (.aload_n 0, 1) := dAt wdX11_hand_0 adX11_hand_0.2.2.2.2.2.2.2.2.2.2.2.1 rfl
theorem dX11_hand_22 : decode cX11_hand 22 = .ok (.getfield 39, 3) := dAt wdX11_hand_0 adX11_hand_0.2.2.2.2.2.2.2.2.2.2.2.2.1 rfl
theorem dX11_hand_25 : decode cX11_hand 25 = .ok (.aload_n 3, 1) := dAt wdX11_hand_0 adX11_hand_0.2.2.2.2.2.2.2.2.2.2.2.2.2.1 rfl
theorem dX11_hand_26 : decode cX11_hand 26 = .ok (.aload_n 0, 1) := dAt wdX11_hand_0 adX11_hand_0.2.2.2.2.2.2.2.2.2.2.2.2.2.2.1 rfl
theorem dX11_hand_27 : decode cX11_hand 27 = .ok (.getfield 39, 3) := dAt wdX11_hand_0 adX11_hand_0.2.2.2.2.2.2.2.2.2.2.2.2.2.2.2 rfl
def bdX11_hand_30 : ByteArray := .mk #[180, 0, 117, 182, 0, 175, 28, 182, 0, 217, 172]
theorem wdX11_hand_30 : LocW cX11_hand 30 bdX11_hand_30 := loc_of (by decide +kernel)
theorem adX11_hand_30 : De bdX11_hand_30 0 (.getfield 117) 3 ∧ De bdX11_hand_30 3 (.invokevirtual 175) 3 ∧ De bdX11_hand_30 6 (.iload_n 2) 1 ∧ De bdX11_hand_30 7 (.invokevirtual 217) 3 ∧ De bdX11_hand_30 10 (.ireturn) 1 := by decide +kernel
theorem dX11_hand_30 : decode cX11_hand 30 = .ok (.getfield 117, 3) := dAt wdX11_hand_30 adX11_hand_30.1 rfl
theorem dX11_hand_33 : decode cX11_hand 33 = .ok (.invokevirtual 175, 3) := dAt wdX11_hand_30 adX11_hand_30.2.1 rfl
theorem dX11_hand_36 : decode cX11_hand 36 = .ok (.iload_n 2, 1) := dAt wdX11_hand_30 adX11_hand_30.2.2.1 rfl
theorem dX11_hand_37 : decode cX11_hand 37 = .ok (.invokevirtual 217, 3) := dAt wdX11_hand_30 adX11_hand_30.2.2.2.1 rfl
theorem dX11_hand_40 : decode cX11_hand 40 = .ok (.ireturn, 1) := dAt wdX11_hand_30 adX11_hand_30.2.2.2.2 rfl
def bdX11_machine_0 : ByteArray := .mk #[27, 184, 0, 221, 153, 0, 13, 28, 155, 0, 9, 28, 16, 9, 164, 0, 11, 187, 0, 87, 89, 183, 0, 89, 191, 42, 180, 0, 39, 180, 0, 224, 7]
theorem wdX11_machine_0 : LocW cX11_machine 0 bdX11_machine_0 := loc_of (by decide +kernel)
theorem adX11_machine_0 : De bdX11_machine_0 0 (.iload_n 1) 1 ∧ De bdX11_machine_0 1 (.invokestatic 221) 3 ∧ De bdX11_machine_0 4 (.ifCond .eq 13) 3 ∧ De bdX11_machine_0 7 (.iload_n 2) 1 ∧ De bdX11_machine_0 8 (.ifCond .lt 9) 3 ∧ De bdX11_machine_0 11 (.iload_n 2) 1 ∧ De bdX11_machine_0 12 (.bipush 9) 2 ∧ De bdX11_machine_0 14 (.if_icmp .le 11) 3 ∧ De bdX11_machine_0 17 (.new 87) 3 ∧ De bdX11_machine_0 20 (.dup) 1 ∧ De bdX11_machine_0 21 (.invokespecial 89) 3 ∧ De bdX11_machine_0 24 (.athrow) 1 ∧ De bdX11_machine_0 25 (.aload_n 0) 1 ∧ De bdX11_machine_0 26 (.getfield 39) 3 ∧ De bdX11_machine_0 29 (.getfield 224) 3 ∧ De bdX11_machine_0 32 (.iconst 4) 1 := by decide +kernel
theorem dX11_machine_0 : decode cX11_machine 0 = .ok (.iload_n 1, 1) := dAt wdX11_machine_0 adX11_machine_0.1 rfl
theorem dX11_machine_1 : decode cX11_machine 1 = .ok (.invokestatic 221, 3) := dAt wdX11_machine_0 adX11_machine_0.2.1 rfl
theorem dX11_machine_4 : decode cX11_machine 4 = .ok (.ifCond .eq 13, 3) := dAt wdX11_machine_0 adX11_machine_0.2.2.1 rfl
theorem dX11_machine_7 : decode cX11_machine 7 = .ok (.iload_n 2, 1) := dAt wdX11_machine_0 adX11_machine_0.2.2.2.1 rfl
theorem dX11_machine_8 : decode cX11_machine 8 = .ok (.ifCond .lt 9, 3) := dAt wdX11_machine_0 adX11_machine_0.2.2.2.2.1 rfl
theorem dX11_machine_11 : decode cX11_machine 11 = .ok (.iload_n 2, 1) := dAt wdX11_machine_0 adX11_machine_0.2.2.2.2.2.1 rfl
theorem dX11_machine_12 : decode cX11_machine 12 = .ok (.bipush 9, 2) := dAt wdX11_machine_0 adX11_machine_0.2.2.2.2.2.2.1 rfl
theorem dX11_machine_14 : decode cX11_machine 14 = .ok (.if_icmp .le 11, 3) := dAt wdX11_machine_0 adX11_machine_0.2.2.2.2.2.2.2.1 rfl
theorem dX11_machine_17 : decode cX11_machine 17 = .ok (.new 87, 3) := dAt wdX11_machine_0 adX11_machine_0.2.2.2.2.2.2.2.2.1 rfl
theorem dX11_machine_20 : decode cX11_machine 20 = .ok (.dup, 1) := dAt wdX11_machine_0 adX11_machine_0.2.2.2.2.2.2.2.2.2.1 rfl
theorem dX11_machine_21 : decode cX11_machine 21 = .ok (.invokespecial 89, 3) := dAt wdX11_machine_0 adX11_machine_0.2.2.2.2.2.2.2.2.2.2.1 rfl
theorem dX11_machine_24 : decode cX11_machine 24 = .ok (.athrow, 1) := dAt wdX11_machine_0 adX11_machine_0.2.2.2.2.2.2.2.2.2.2.2.1 rfl
theorem dX11_machine_25 : decode cX11_machine 25 = .ok (.aload_n 0, 1) := dAt wdX11_machine_0 adX11_machine_0.2.2.2.2.2.2.2.2.2.2.2.2.1 rfl
theorem dX11_machine_26 : decode cX11_machine 26 = .ok (.getfield 39, 3) := dAt wdX11_machine_0 adX11_machine_0.2.2.2.2.2.2.2.2.2.2.2.2.2.1 rfl
theorem dX11_machine_29 : decode cX11_machine 29 = .ok (.getfield 224, 3) := dAt wdX11_machine_0 adX11_machine_0.2.2.2.2.2.2.2.2.2.2.2.2.2.2.1 rfl
theorem dX11_machine_32 : decode cX11_machine 32 = .ok (.iconst 4, 1) := dAt wdX11_machine_0 adX11_machine_0.2.2.2.2.2.2.2.2.2.2.2.2.2.2.2 rfl
def bdX11_machine_33 : ByteArray := .mk #[161, 0, 11, 187, 0, 110, 89, 183, 0, 112, 191, 42, 180, 0, 39, 27, 28, 182, 0, 227, 172]
theorem wdX11_machine_33 : LocW cX11_machine 33 bdX11_machine_33 := loc_of (by decide +kernel)
theorem adX11_machine_33 : De bdX11_machine_33 0 (.if_icmp .lt 11) 3 ∧ De bdX11_machine_33 3 (.new 110) 3 ∧ De bdX11_machine_33 6 (.dup) 1 ∧ De bdX11_machine_33 7 (.invokespecial 112) 3 ∧ De bdX11_machine_33 10 (.athrow) 1 ∧ De bdX11_machine_33 11 (.aload_n 0) 1 ∧ De bdX11_machine_33 12 (.getfield 39) 3 ∧ De bdX11_machine_33 15 (.iload_n 1) 1 ∧ De bdX11_machine_33 16 (.iload_n 2) 1 ∧ De bdX11_machine_33 17 (.invokevirtual 227) 3 ∧ De bdX11_machine_33 20 (.ireturn) 1 := by decide +kernel
theorem dX11_machine_33 : decode cX11_machine 33 = .ok (.if_icmp .lt 11, 3) := dAt wdX11_machine_33 adX11_machine_33.1 rfl
theorem dX11_machine_36 : decode cX11_machine 36 = .ok (.new 110, 3) := dAt wdX11_machine_33 adX11_machine_33.2.1 rfl
theorem dX11_machine_39 : decode cX11_machine 39 = .ok (.dup, 1) := dAt wdX11_machine_33 adX11_machine_33.2.2.1 rfl
theorem dX11_machine_40 : decode cX11_machine 40 = .ok (.invokespecial 112, 3) := dAt wdX11_machine_33 adX11_machine_33.2.2.2.1 rfl
theorem dX11_machine_43 : decode cX11_machine 43 = .ok (.athrow, 1) := dAt wdX11_machine_33 adX11_machine_33.2.2.2.2.1 rfl
theorem dX11_machine_44 : decode cX11_machine 44 = .ok (.aload_n 0, 1) := dAt wdX11_machine_33 adX11_machine_33.2.2.2.2.2.1 rfl
theorem dX11_machine_45 : decode cX11_machine 45 = .ok (.getfield 39, 3) := dAt wdX11_machine_33 adX11_machine_33.2.2.2.2.2.2.1 rfl
theorem dX11_machine_48 : decode cX11_machine 48 = .ok (.iload_n 1, 1) := dAt wdX11_machine_33 adX11_machine_33.2.2.2.2.2.2.2.1 rfl
theorem dX11_machine_49 : decode cX11_machine 49 = .ok (.iload_n 2, 1) := dAt wdX11_machine_33 adX11_machine_33.2.2.2.2.2.2.2.2.1 rfl
theorem dX11_machine_50 : decode cX11_machine 50 = .ok (.invokevirtual 227, 3) := dAt wdX11_machine_33 adX11_machine_33.2.2.2.2.2.2.2.2.2.1 rfl
theorem dX11_machine_53 : decode cX11_machine 53 = .ok (.ireturn, 1) := dAt wdX11_machine_33 adX11_machine_33.2.2.2.2.2.2.2.2.2.2 rfl
def bdX11_brass_0 : ByteArray := .mk #[42, 180, 0, 39, 27, 182, 0, 231, 58, 4, 25, 4, 198, 0, 10, 28, 184, 0, 81, 154, 0, 11, 187, 0, 84, 89, 183, 0, 86, 191, 29, 184, 0, 221]
theorem wdX11_brass_0 : LocW cX11_brass 0 bdX11_brass_0 := loc_of (by decide +kernel)
theorem adX11_brass_0 : De bdX11_brass_0 0 (.aload_n 0) 1 ∧ De bdX11_brass_0 1 (.getfield 39) 3 ∧ De bdX11_brass_0 4 (.iload_n 1) 1 ∧ De bdX11_brass_0 5 (.invokevirtual 231) 3 ∧ De bdX11_brass_0 8 (.astore 4) 2 ∧ De bdX11_brass_0 10 (.aload 4) 2 ∧ De bdX11_brass_0 12 (.ifnull 10) 3 ∧ De bdX11_brass_0 15 (.iload_n 2) 1 ∧ De bdX11_brass_0 16 (.invokestatic 81) 3 ∧ De bdX11_brass_0 19 (.ifCond .ne 11) 3 ∧ De bdX11_brass_0 22 (.new 84) 3 ∧ De bdX11_brass_0 25 (.dup) 1 ∧ De bdX11_brass_0 26 (.invokespecial 86) 3 ∧ De bdX11_brass_0 29 (.athrow) 1 ∧ De bdX11_brass_0 30 (.iload_n 3) 1 ∧ De bdX11_brass_0 31 (.invokestatic 221) 3 := by decide +kernel
theorem dX11_brass_0 : decode cX11_brass 0 = .ok (.aload_n 0, 1) := dAt wdX11_brass_0 adX11_brass_0.1 rfl
theorem dX11_brass_1 : decode cX11_brass 1 = .ok (.getfield 39, 3) := dAt wdX11_brass_0 adX11_brass_0.2.1 rfl
theorem dX11_brass_4 : decode cX11_brass 4 = .ok (.iload_n 1, 1) := dAt wdX11_brass_0 adX11_brass_0.2.2.1 rfl
theorem dX11_brass_5 : decode cX11_brass 5 = .ok (.invokevirtual 231, 3) := dAt wdX11_brass_0 adX11_brass_0.2.2.2.1 rfl
theorem dX11_brass_8 : decode cX11_brass 8 = .ok (.astore 4, 2) := dAt wdX11_brass_0 adX11_brass_0.2.2.2.2.1 rfl
theorem dX11_brass_10 : decode cX11_brass 10 = .ok (.aload 4, 2) := dAt wdX11_brass_0 adX11_brass_0.2.2.2.2.2.1 rfl
theorem dX11_brass_12 : decode cX11_brass 12 = .ok (.ifnull 10, 3) := dAt wdX11_brass_0 adX11_brass_0.2.2.2.2.2.2.1 rfl
theorem dX11_brass_15 : decode cX11_brass 15 = .ok (.iload_n 2, 1) := dAt wdX11_brass_0 adX11_brass_0.2.2.2.2.2.2.2.1 rfl
theorem dX11_brass_16 : decode cX11_brass 16 = .ok (.invokestatic 81, 3) := dAt wdX11_brass_0 adX11_brass_0.2.2.2.2.2.2.2.2.1 rfl
theorem dX11_brass_19 : decode cX11_brass 19 = .ok (.ifCond .ne 11, 3) := dAt wdX11_brass_0 adX11_brass_0.2.2.2.2.2.2.2.2.2.1 rfl
theorem dX11_brass_22 : decode cX11_brass 22 = .ok (.new 84, 3) := dAt wdX11_brass_0 adX11_brass_0.2.2.2.2.2.2.2.2.2.2.1 rfl
theorem dX11_brass_25 : decode cX11_brass 25 = .ok (.dup, 1) := dAt wdX11_brass_0 adX11_brass_0.2.2.2.2.2.2.2.2.2.2.2.1 rfl
theorem dX11_brass_26 : decode cX11_brass 26 = .ok (.invokespecial 86, 3) := dAt wdX11_brass_0 adX11_brass_0.2.2.2.2.2.2.2.2.2.2.2.2.1 rfl
theorem dX11_brass_29 : decode cX11_brass 29 = .ok (.athrow, 1) := dAt wdX11_brass_0 adX11_brass_0.2.2.2.2.2.2.2.2.2.2.2.2.2.1 rfl
theorem dX11_brass_30 : decode cX11_brass 30 = .ok (.iload_n 3, 1) := dAt wdX11_brass_0 adX11_brass_0.2.2.2.2.2.2.2.2.2.2.2.2.2.2.1 rfl
theorem dX11_brass_31 : decode cX11_brass 31 = .ok (.invokestatic 221, 3) := dAt wdX11_brass_0 adX11_brass_0.2.2.2.2.2.2.2.2.2.2.2.2.2.2.2 rfl
def bdX11_brass_34 : ByteArray := .mk #[154, 0, 11, 187, 0, 87, 89, 183, 0, 89, 191, 25, 4, 180, 0, 235, 28, 29, 79, 42, 180, 0, 39, 27, 42, 180, 0, 39, 180, 0, 117]
theorem wdX11_brass_34 : LocW cX11_brass 34 bdX11_brass_34 := loc_of (by decide +kernel)
theorem adX11_brass_34 : De bdX11_brass_34 0 (.ifCond .ne 11) 3 ∧ De bdX11_brass_34 3 (.new 87) 3 ∧ De bdX11_brass_34 6 (.dup) 1 ∧ De bdX11_brass_34 7 (.invokespecial 89) 3 ∧ De bdX11_brass_34 10 (.athrow) 1 ∧ De bdX11_brass_34 11 (.aload 4) 2 ∧ De bdX11_brass_34 13 (.getfield 235) 3 ∧ De bdX11_brass_34 16 (.iload_n 2) 1 ∧ De bdX11_brass_34 17 (.iload_n 3) 1 ∧ De bdX11_brass_34 18 (.iastore) 1 ∧ De bdX11_brass_34 19 (.aload_n 0) 1 ∧ De bdX11_brass_34 20 (.getfield 39) 3 ∧ De bdX11_brass_34 23 (.iload_n 1) 1 ∧ De bdX11_brass_34 24 (.aload_n 0) 1 ∧ De bdX11_brass_34 25 (.getfield 39) 3 ∧ De bdX11_brass_34 28 (.getfield 117) 3 := by decide +kernel
theorem dX11_brass_34 : decode cX11_brass 34 = .ok (.ifCond .ne 11, 3) := dAt wdX11_brass_34 adX11_brass_34.1 rfl
theorem dX11_brass_37 : decode cX11_brass 37 = .ok (.new 87, 3) := dAt wdX11_brass_34 adX11_brass_34.2.1 rfl
theorem dX11_brass_40 : decode cX11_brass 40 = .ok (.dup, 1) := dAt wdX11_brass_34 adX11_brass_34.2.2.1 rfl
theorem dX11_brass_41 : decode cX11_brass 41 = .ok (.invokespecial 89, 3) := dAt wdX11_brass_34 adX11_brass_34.2.2.2.1 rfl
theorem dX11_brass_44 : decode cX11_brass 44 = .ok (.athrow, 1) := dAt wdX11_brass_34 adX11_brass_34.2.2.2.2.1 rfl
theorem dX11_brass_45 : decode cX11_brass 45 = .ok (.aload 4, 2) := dAt wdX11_brass_34 adX11_brass_34.2.2.2.2.2.1 rfl
theorem dX11_brass_47 : decode cX11_brass 47 = .ok (.getfield 235, 3) := dAt wdX11_brass_34 adX11_brass_34.2.2.2.2.2.2.1 rfl
theorem dX11_brass_50 : decode cX11_brass 50 = .ok (.iload_n 2, 1) := dAt wdX11_brass_34 adX11_brass_34.2.2.2.2.2.2.2.1 rfl
theorem dX11_brass_51 : decode cX11_brass 51 = .ok (.iload_n 3, 1) := dAt wdX11_brass_34 adX11_brass_34.2.2.2.2.2.2.2.2.1 rfl
theorem dX11_brass_52 : decode cX11_brass 52 = .ok (.iastore, 1) := dAt wdX11_brass_34 adX11_brass_34.2.2.2.2.2.2.2.2.2.1 rfl
theorem dX11_brass_53 : decode cX11_brass 53 = .ok (.aload_n 0, 1) := dAt wdX11_brass_34 adX11_brass_34.2.2.2.2.2.2.2.2.2.2.1 rfl
theorem dX11_brass_54 : decode cX11_brass 54 = .ok (.getfield 39, 3) := dAt wdX11_brass_34 adX11_brass_34.2.2.2.2.2.2.2.2.2.2.2.1 rfl
theorem dX11_brass_57 : decode cX11_brass 57 = .ok (.iload_n 1, 1) := dAt wdX11_brass_34 adX11_brass_34.2.2.2.2.2.2.2.2.2.2.2.2.1 rfl
theorem dX11_brass_58 : decode cX11_brass 58 = .ok (.aload_n 0, 1) := dAt wdX11_brass_34 adX11_brass_34.2.2.2.2.2.2.2.2.2.2.2.2.2.1 rfl
theorem dX11_brass_59 : decode cX11_brass 59 = .ok (.getfield 39, 3) := dAt wdX11_brass_34 adX11_brass_34.2.2.2.2.2.2.2.2.2.2.2.2.2.2.1 rfl
theorem dX11_brass_62 : decode cX11_brass 62 = .ok (.getfield 117, 3) := dAt wdX11_brass_34 adX11_brass_34.2.2.2.2.2.2.2.2.2.2.2.2.2.2.2 rfl
def bdX11_brass_65 : ByteArray := .mk #[25, 4, 180, 0, 240, 100, 4, 96, 42, 180, 0, 39, 180, 0, 117, 182, 0, 243, 3, 29, 42, 180, 0, 39, 180, 0, 247, 28, 46]
theorem wdX11_brass_65 : LocW cX11_brass 65 bdX11_brass_65 := loc_of (by decide +kernel)
theorem adX11_brass_65 : De bdX11_brass_65 0 (.aload 4) 2 ∧ De bdX11_brass_65 2 (.getfield 240) 3 ∧ De bdX11_brass_65 5 (.isub) 1 ∧ De bdX11_brass_65 6 (.iconst 1) 1 ∧ De bdX11_brass_65 7 (.iadd) 1 ∧ De bdX11_brass_65 8 (.aload_n 0) 1 ∧ De bdX11_brass_65 9 (.getfield 39) 3 ∧ De bdX11_brass_65 12 (.getfield 117) 3 ∧ De bdX11_brass_65 15 (.invokevirtual 243) 3 ∧ De bdX11_brass_65 18 (.iconst 0) 1 ∧ De bdX11_brass_65 19 (.iload_n 3) 1 ∧ De bdX11_brass_65 20 (.aload_n 0) 1 ∧ De bdX11_brass_65 21 (.getfield 39) 3 ∧ De bdX11_brass_65 24 (.getfield 247) 3 ∧ De bdX11_brass_65 27 (.iload_n 2) 1 ∧ De bdX11_brass_65 28 (.iaload) 1 := by decide +kernel
theorem dX11_brass_65 : decode cX11_brass 65 = .ok (.aload 4, 2) := dAt wdX11_brass_65 adX11_brass_65.1 rfl
theorem dX11_brass_67 : decode cX11_brass 67 = .ok (.getfield 240, 3) := dAt wdX11_brass_65 adX11_brass_65.2.1 rfl
theorem dX11_brass_70 : decode cX11_brass 70 = .ok (.isub, 1) := dAt wdX11_brass_65 adX11_brass_65.2.2.1 rfl
theorem dX11_brass_71 : decode cX11_brass 71 = .ok (.iconst 1, 1) := dAt wdX11_brass_65 adX11_brass_65.2.2.2.1 rfl
theorem dX11_brass_72 : decode cX11_brass 72 = .ok (.iadd, 1) := dAt wdX11_brass_65 adX11_brass_65.2.2.2.2.1 rfl
theorem dX11_brass_73 : decode cX11_brass 73 = .ok (.aload_n 0, 1) := dAt wdX11_brass_65 adX11_brass_65.2.2.2.2.2.1 rfl
theorem dX11_brass_74 : decode cX11_brass 74 = .ok (.getfield 39, 3) := dAt wdX11_brass_65 adX11_brass_65.2.2.2.2.2.2.1 rfl
theorem dX11_brass_77 : decode cX11_brass 77 = .ok (.getfield 117, 3) := dAt wdX11_brass_65 adX11_brass_65.2.2.2.2.2.2.2.1 rfl
theorem dX11_brass_80 : decode cX11_brass 80 = .ok (.invokevirtual 243, 3) := dAt wdX11_brass_65 adX11_brass_65.2.2.2.2.2.2.2.2.1 rfl
theorem dX11_brass_83 : decode cX11_brass 83 = .ok (.iconst 0, 1) := dAt wdX11_brass_65 adX11_brass_65.2.2.2.2.2.2.2.2.2.1 rfl
theorem dX11_brass_84 : decode cX11_brass 84 = .ok (.iload_n 3, 1) := dAt wdX11_brass_65 adX11_brass_65.2.2.2.2.2.2.2.2.2.2.1 rfl
theorem dX11_brass_85 : decode cX11_brass 85 = .ok (.aload_n 0, 1) := dAt wdX11_brass_65 adX11_brass_65.2.2.2.2.2.2.2.2.2.2.2.1 rfl
theorem dX11_brass_86 : decode cX11_brass 86 = .ok (.getfield 39, 3) := dAt wdX11_brass_65 adX11_brass_65.2.2.2.2.2.2.2.2.2.2.2.2.1 rfl
theorem dX11_brass_89 : decode cX11_brass 89 = .ok (.getfield 247, 3) := dAt wdX11_brass_65 adX11_brass_65.2.2.2.2.2.2.2.2.2.2.2.2.2.1 rfl
theorem dX11_brass_92 : decode cX11_brass 92 = .ok (.iload_n 2, 1) := dAt wdX11_brass_65 adX11_brass_65.2.2.2.2.2.2.2.2.2.2.2.2.2.2.1 rfl
theorem dX11_brass_93 : decode cX11_brass 93 = .ok (.iaload, 1) := dAt wdX11_brass_65 adX11_brass_65.2.2.2.2.2.2.2.2.2.2.2.2.2.2.2 rfl
def bdX11_brass_94 : ByteArray := .mk #[100, 184, 0, 250, 172]
theorem wdX11_brass_94 : LocW cX11_brass 94 bdX11_brass_94 := loc_of (by decide +kernel)
theorem adX11_brass_94 : De bdX11_brass_94 0 (.isub) 1 ∧ De bdX11_brass_94 1 (.invokestatic 250) 3 ∧ De bdX11_brass_94 4 (.ireturn) 1 := by decide +kernel
theorem dX11_brass_94 : decode cX11_brass 94 = .ok (.isub, 1) := dAt wdX11_brass_94 adX11_brass_94.1 rfl
theorem dX11_brass_95 : decode cX11_brass 95 = .ok (.invokestatic 250, 3) := dAt wdX11_brass_94 adX11_brass_94.2.1 rfl
theorem dX11_brass_98 : decode cX11_brass 98 = .ok (.ireturn, 1) := dAt wdX11_brass_94 adX11_brass_94.2.2 rfl
def bdX11_broken_0 : ByteArray := .mk #[42, 180, 0, 39, 27, 182, 0, 231, 78, 45, 199, 0, 11, 187, 0, 84, 89, 183, 0, 86, 191, 45, 180, 0, 255, 54, 4, 45, 28]
theorem wdX11_broken_0 : LocW cX11_broken 0 bdX11_broken_0 := loc_of (by decide +kernel)
theorem adX11_broken_0 : De bdX11_broken_0 0 (.aload_n 0) 1 ∧ De bdX11_broken_0 1 (.getfield 39) 3 ∧ De bdX11_broken_0 4 (.iload_n 1) 1 ∧ De bdX11_broken_0 5 (.invokevirtual 231) 3 ∧ De bdX11_broken_0 8 (.astore_n 3) 1 ∧ De bdX11_broken_0 9 (.aload_n 3) 1 ∧ De bdX11_broken_0 10 (.ifnonnull 11) 3 ∧ De bdX11_broken_0 13 (.new 84) 3 ∧ De bdX11_broken_0 16 (.dup) 1 ∧ De bdX11_broken_0 17 (.invokespecial 86) 3 ∧ De bdX11_broken_0 20 (.athrow) 1 ∧ De bdX11_broken_0 21 (.aload_n 3) 1 ∧ De bdX11_broken_0 22 (.getfield 255) 3 ∧ De bdX11_broken_0 25 (.istore 4) 2 ∧ De bdX11_broken_0 27 (.aload_n 3) 1 ∧ De bdX11_broken_0 28 (.iload_n 2) 1 := by decide +kernel
theorem dX11_broken_0 : decode cX11_broken 0 = .ok (.aload_n 0, 1) := dAt wdX11_broken_0 adX11_broken_0.1 rfl
theorem dX11_broken_1 : decode cX11_broken 1 = .ok (.getfield 39, 3) := dAt wdX11_broken_0 adX11_broken_0.2.1 rfl
theorem dX11_broken_4 : decode cX11_broken 4 = .ok (.iload_n 1, 1) := dAt wdX11_broken_0 adX11_broken_0.2.2.1 rfl
theorem dX11_broken_5 : decode cX11_broken 5 = .ok (.invokevirtual 231, 3) := dAt wdX11_broken_0 adX11_broken_0.2.2.2.1 rfl
theorem dX11_broken_8 : decode cX11_broken 8 = .ok (.astore_n 3, 1) := dAt wdX11_broken_0 adX11_broken_0.2.2.2.2.1 rfl
theorem dX11_broken_9 : decode cX11_broken 9 = .ok (.aload_n 3, 1) := dAt wdX11_broken_0 adX11_broken_0.2.2.2.2.2.1 rfl
theorem dX11_broken_10 : decode cX11_broken 10 = .ok (.ifnonnull 11, 3) := dAt wdX11_broken_0 adX11_broken_0.2.2.2.2.2.2.1 rfl
theorem dX11_broken_13 : decode cX11_broken 13 = .ok (.new 84, 3) := dAt wdX11_broken_0 adX11_broken_0.2.2.2.2.2.2.2.1 rfl
theorem dX11_broken_16 : decode cX11_broken 16 = .ok (.dup, 1) := dAt wdX11_broken_0 adX11_broken_0.2.2.2.2.2.2.2.2.1 rfl
theorem dX11_broken_17 : decode cX11_broken 17 = .ok (.invokespecial 86, 3) := dAt wdX11_broken_0 adX11_broken_0.2.2.2.2.2.2.2.2.2.1 rfl
theorem dX11_broken_20 : decode cX11_broken 20 = .ok (.athrow, 1) := dAt wdX11_broken_0 adX11_broken_0.2.2.2.2.2.2.2.2.2.2.1 rfl
theorem dX11_broken_21 : decode cX11_broken 21 = .ok (.aload_n 3, 1) := dAt wdX11_broken_0 adX11_broken_0.2.2.2.2.2.2.2.2.2.2.2.1 rfl
theorem dX11_broken_22 : decode cX11_broken 22 = .ok (.getfield 255, 3) := dAt wdX11_broken_0 adX11_broken_0.2.2.2.2.2.2.2.2.2.2.2.2.1 rfl
theorem dX11_broken_25 : decode cX11_broken 25 = .ok (.istore 4, 2) := dAt wdX11_broken_0 adX11_broken_0.2.2.2.2.2.2.2.2.2.2.2.2.2.1 rfl
theorem dX11_broken_27 : decode cX11_broken 27 = .ok (.aload_n 3, 1) := dAt wdX11_broken_0 adX11_broken_0.2.2.2.2.2.2.2.2.2.2.2.2.2.2.1 rfl
theorem dX11_broken_28 : decode cX11_broken 28 = .ok (.iload_n 2, 1) := dAt wdX11_broken_0 adX11_broken_0.2.2.2.2.2.2.2.2.2.2.2.2.2.2.2 rfl
def bdX11_broken_29 : ByteArray := .mk #[181, 0, 255, 21, 4, 28, 159, 0, 7, 4, 167, 0, 4, 3, 172]
theorem wdX11_broken_29 : LocW cX11_broken 29 bdX11_broken_29 := loc_of (by decide +kernel)
theorem adX11_broken_29 : De bdX11_broken_29 0 (.putfield 255) 3 ∧ De bdX11_broken_29 3 (.iload 4) 2 ∧ De bdX11_broken_29 5 (.iload_n 2) 1 ∧ De bdX11_broken_29 6 (.if_icmp .eq 7) 3 ∧ De bdX11_broken_29 9 (.iconst 1) 1 ∧ De bdX11_broken_29 10 (.goto 4) 3 ∧ De bdX11_broken_29 13 (.iconst 0) 1 ∧ De bdX11_broken_29 14 (.ireturn) 1 := by decide +kernel
theorem dX11_broken_29 : decode cX11_broken 29 = .ok (.putfield 255, 3) := dAt wdX11_broken_29 adX11_broken_29.1 rfl
theorem dX11_broken_32 : decode cX11_broken 32 = .ok (.iload 4, 2) := dAt wdX11_broken_29 adX11_broken_29.2.1 rfl
theorem dX11_broken_34 : decode cX11_broken 34 = .ok (.iload_n 2, 1) := dAt wdX11_broken_29 adX11_broken_29.2.2.1 rfl
theorem dX11_broken_35 : decode cX11_broken 35 = .ok (.if_icmp .eq 7, 3) := dAt wdX11_broken_29 adX11_broken_29.2.2.2.1 rfl
theorem dX11_broken_38 : decode cX11_broken 38 = .ok (.iconst 1, 1) := dAt wdX11_broken_29 adX11_broken_29.2.2.2.2.1 rfl
theorem dX11_broken_39 : decode cX11_broken 39 = .ok (.goto 4, 3) := dAt wdX11_broken_29 adX11_broken_29.2.2.2.2.2.1 rfl
theorem dX11_broken_42 : decode cX11_broken 42 = .ok (.iconst 0, 1) := dAt wdX11_broken_29 adX11_broken_29.2.2.2.2.2.2.1 rfl
theorem dX11_broken_43 : decode cX11_broken 43 = .ok (.ireturn, 1) := dAt wdX11_broken_29 adX11_broken_29.2.2.2.2.2.2.2 rfl
def bdX11_give_0 : ByteArray := .mk #[42, 180, 0, 39, 27, 182, 0, 139, 78, 42, 180, 0, 39, 28, 182, 0, 231, 58, 4, 45, 198, 0, 8, 25, 4, 199, 0, 11, 187, 0, 84, 89]
theorem wdX11_give_0 : LocW cX11_give 0 bdX11_give_0 := loc_of (by decide +kernel)
theorem adX11_give_0 : De bdX11_give_0 0 (.aload_n 0) 1 ∧ De bdX11_give_0 1 (.getfield 39) 3 ∧ De bdX11_give_0 4 (.iload_n 1) 1 ∧ De bdX11_give_0 5 (.invokevirtual 139) 3 ∧ De bdX11_give_0 8 (.astore_n 3) 1 ∧ De bdX11_give_0 9 (.aload_n 0) 1 ∧ De bdX11_give_0 10 (.getfield 39) 3 ∧ De bdX11_give_0 13 (.iload_n 2) 1 ∧ De bdX11_give_0 14 (.invokevirtual 231) 3 ∧ De bdX11_give_0 17 (.astore 4) 2 ∧ De bdX11_give_0 19 (.aload_n 3) 1 ∧ De bdX11_give_0 20 (.ifnull 8) 3 ∧ De bdX11_give_0 23 (.aload 4) 2 ∧ De bdX11_give_0 25 (.ifnonnull 11) 3 ∧ De bdX11_give_0 28 (.new 84) 3 ∧ De bdX11_give_0 31 (.dup) 1 := by decide +kernel
theorem dX11_give_0 : decode cX11_give 0 = .ok (.aload_n 0, 1) := dAt wdX11_give_0 adX11_give_0.1 rfl
theorem dX11_give_1 : decode cX11_give 1 = .ok (.getfield 39, 3) := dAt wdX11_give_0 adX11_give_0.2.1 rfl
theorem dX11_give_4 : decode cX11_give 4 = .ok (.iload_n 1, 1) := dAt wdX11_give_0 adX11_give_0.2.2.1 rfl
theorem dX11_give_5 : decode cX11_give 5 = .ok (.invokevirtual 139, 3) := dAt wdX11_give_0 adX11_give_0.2.2.2.1 rfl
theorem dX11_give_8 : decode cX11_give 8 = .ok (.astore_n 3, 1) := dAt wdX11_give_0 adX11_give_0.2.2.2.2.1 rfl
theorem dX11_give_9 : decode cX11_give 9 = .ok (.aload_n 0, 1) := dAt wdX11_give_0 adX11_give_0.2.2.2.2.2.1 rfl
theorem dX11_give_10 : decode cX11_give 10 = .ok (.getfield 39, 3) := dAt wdX11_give_0 adX11_give_0.2.2.2.2.2.2.1 rfl
theorem dX11_give_13 : decode cX11_give 13 = .ok (.iload_n 2, 1) := dAt wdX11_give_0 adX11_give_0.2.2.2.2.2.2.2.1 rfl
theorem dX11_give_14 : decode cX11_give 14 = .ok (.invokevirtual 231, 3) := dAt wdX11_give_0 adX11_give_0.2.2.2.2.2.2.2.2.1 rfl
theorem dX11_give_17 : decode cX11_give 17 = .ok (.astore 4, 2) := dAt wdX11_give_0 adX11_give_0.2.2.2.2.2.2.2.2.2.1 rfl
theorem dX11_give_19 : decode cX11_give 19 = .ok (.aload_n 3, 1) := dAt wdX11_give_0 adX11_give_0.2.2.2.2.2.2.2.2.2.2.1 rfl
theorem dX11_give_20 : decode cX11_give 20 = .ok (.ifnull 8, 3) := dAt wdX11_give_0 adX11_give_0.2.2.2.2.2.2.2.2.2.2.2.1 rfl
theorem dX11_give_23 : decode cX11_give 23 = .ok (.aload 4, 2) := dAt wdX11_give_0 adX11_give_0.2.2.2.2.2.2.2.2.2.2.2.2.1 rfl
theorem dX11_give_25 : decode cX11_give 25 = .ok (.ifnonnull 11, 3) := dAt wdX11_give_0 adX11_give_0.2.2.2.2.2.2.2.2.2.2.2.2.2.1 rfl
theorem dX11_give_28 : decode cX11_give 28 = .ok (.new 84, 3) := dAt wdX11_give_0 adX11_give_0.2.2.2.2.2.2.2.2.2.2.2.2.2.2.1 rfl
theorem dX11_give_31 : decode cX11_give 31 = .ok (.dup, 1) := dAt wdX11_give_0 adX11_give_0.2.2.2.2.2.2.2.2.2.2.2.2.2.2.2 rfl
def bdX11_give_32 : ByteArray := .mk #[183, 0, 86, 191, 25, 4, 180, 1, 2, 16, 30, 161, 0, 11, 187, 0, 110, 89, 183, 0, 112, 191, 45, 180, 0, 155, 153, 0, 5, 2, 172, 45]
theorem wdX11_give_32 : LocW cX11_give 32 bdX11_give_32 := loc_of (by decide +kernel)
theorem adX11_give_32 : De bdX11_give_32 0 (.invokespecial 86) 3 ∧ De bdX11_give_32 3 (.athrow) 1 ∧ De bdX11_give_32 4 (.aload 4) 2 ∧ De bdX11_give_32 6 (.getfield 258) 3 ∧ De bdX11_give_32 9 (.bipush 30) 2 ∧ De bdX11_give_32 11 (.if_icmp .lt 11) 3 ∧ De bdX11_give_32 14 (.new 110) 3 ∧ De bdX11_give_32 17 (.dup) 1 ∧ De bdX11_give_32 18 (.invokespecial 112) 3 ∧ De bdX11_give_32 21 (.athrow) 1 ∧ De bdX11_give_32 22 (.aload_n 3) 1 ∧ De bdX11_give_32 23 (.getfield 155) 3 ∧ De bdX11_give_32 26 (.ifCond .eq 5) 3 ∧ De bdX11_give_32 29 (.iconst (-1)) 1 ∧ De bdX11_give_32 30 (.ireturn) 1 ∧ De bdX11_give_32 31 (.aload_n 3) 1 := by decide +kernel
theorem dX11_give_32 : decode cX11_give 32 = .ok (.invokespecial 86, 3) := dAt wdX11_give_32 adX11_give_32.1 rfl
theorem dX11_give_35 : decode cX11_give 35 = .ok (.athrow, 1) := dAt wdX11_give_32 adX11_give_32.2.1 rfl
theorem dX11_give_36 : decode cX11_give 36 = .ok (.aload 4, 2) := dAt wdX11_give_32 adX11_give_32.2.2.1 rfl
theorem dX11_give_38 : decode cX11_give 38 = .ok (.getfield 258, 3) := dAt wdX11_give_32 adX11_give_32.2.2.2.1 rfl
theorem dX11_give_41 : decode cX11_give 41 = .ok (.bipush 30, 2) := dAt wdX11_give_32 adX11_give_32.2.2.2.2.1 rfl
theorem dX11_give_43 : decode cX11_give 43 = .ok (.if_icmp .lt 11, 3) := dAt wdX11_give_32 adX11_give_32.2.2.2.2.2.1 rfl
theorem dX11_give_46 : decode cX11_give 46 = .ok (.new 110, 3) := dAt wdX11_give_32 adX11_give_32.2.2.2.2.2.2.1 rfl
theorem dX11_give_49 : decode cX11_give 49 = .ok (.dup, 1) := dAt wdX11_give_32 adX11_give_32.2.2.2.2.2.2.2.1 rfl
theorem dX11_give_50 : decode cX11_give 50 = .ok (.invokespecial 112, 3) := dAt wdX11_give_32 adX11_give_32.2.2.2.2.2.2.2.2.1 rfl
theorem dX11_give_53 : decode cX11_give 53 = .ok (.athrow, 1) := dAt wdX11_give_32 adX11_give_32.2.2.2.2.2.2.2.2.2.1 rfl
theorem dX11_give_54 : decode cX11_give 54 = .ok (.aload_n 3, 1) := dAt wdX11_give_32 adX11_give_32.2.2.2.2.2.2.2.2.2.2.1 rfl
theorem dX11_give_55 : decode cX11_give 55 = .ok (.getfield 155, 3) := dAt wdX11_give_32 adX11_give_32.2.2.2.2.2.2.2.2.2.2.2.1 rfl
theorem dX11_give_58 : decode cX11_give 58 = .ok (.ifCond .eq 5, 3) := dAt wdX11_give_32 adX11_give_32.2.2.2.2.2.2.2.2.2.2.2.2.1 rfl
theorem dX11_give_61 : decode cX11_give 61 = .ok (.iconst (-1), 1) := dAt wdX11_give_32 adX11_give_32.2.2.2.2.2.2.2.2.2.2.2.2.2.1 rfl
theorem dX11_give_62 : decode cX11_give 62 = .ok (.ireturn, 1) := dAt wdX11_give_32 adX11_give_32.2.2.2.2.2.2.2.2.2.2.2.2.2.2.1 rfl
theorem dX11_give_63 : decode cX11_give 63 = .ok (.aload_n 3, 1) := dAt wdX11_give_32 adX11_give_32.2.2.2.2.2.2.2.2.2.2.2.2.2.2.2 rfl
def bdX11_give_64 : ByteArray := .mk #[4, 181, 0, 155, 25, 4, 27, 3, 2, 3, 182, 1, 5, 25, 4, 180, 1, 2, 172]
theorem wdX11_give_64 : LocW cX11_give 64 bdX11_give_64 := loc_of (by decide +kernel)
theorem adX11_give_64 : De bdX11_give_64 0 (.iconst 1) 1 ∧ De bdX11_give_64 1 (.putfield 155) 3 ∧ De bdX11_give_64 4 (.aload 4) 2 ∧ De bdX11_give_64 6 (.iload_n 1) 1 ∧ De bdX11_give_64 7 (.iconst 0) 1 ∧ De bdX11_give_64 8 (.iconst (-1)) 1 ∧ De bdX11_give_64 9 (.iconst 0) 1 ∧ De bdX11_give_64 10 (.invokevirtual 261) 3 ∧ De bdX11_give_64 13 (.aload 4) 2 ∧ De bdX11_give_64 15 (.getfield 258) 3 ∧ De bdX11_give_64 18 (.ireturn) 1 := by decide +kernel
theorem dX11_give_64 : decode cX11_give 64 = .ok (.iconst 1, 1) := dAt wdX11_give_64 adX11_give_64.1 rfl
theorem dX11_give_65 : decode cX11_give 65 = .ok (.putfield 155, 3) := dAt wdX11_give_64 adX11_give_64.2.1 rfl
theorem dX11_give_68 : decode cX11_give 68 = .ok (.aload 4, 2) := dAt wdX11_give_64 adX11_give_64.2.2.1 rfl
theorem dX11_give_70 : decode cX11_give 70 = .ok (.iload_n 1, 1) := dAt wdX11_give_64 adX11_give_64.2.2.2.1 rfl
theorem dX11_give_71 : decode cX11_give 71 = .ok (.iconst 0, 1) := dAt wdX11_give_64 adX11_give_64.2.2.2.2.1 rfl
theorem dX11_give_72 : decode cX11_give 72 = .ok (.iconst (-1), 1) := dAt wdX11_give_64 adX11_give_64.2.2.2.2.2.1 rfl
theorem dX11_give_73 : decode cX11_give 73 = .ok (.iconst 0, 1) := dAt wdX11_give_64 adX11_give_64.2.2.2.2.2.2.1 rfl
theorem dX11_give_74 : decode cX11_give 74 = .ok (.invokevirtual 261, 3) := dAt wdX11_give_64 adX11_give_64.2.2.2.2.2.2.2.1 rfl
theorem dX11_give_77 : decode cX11_give 77 = .ok (.aload 4, 2) := dAt wdX11_give_64 adX11_give_64.2.2.2.2.2.2.2.2.1 rfl
theorem dX11_give_79 : decode cX11_give 79 = .ok (.getfield 258, 3) := dAt wdX11_give_64 adX11_give_64.2.2.2.2.2.2.2.2.2.1 rfl
theorem dX11_give_82 : decode cX11_give 82 = .ok (.ireturn, 1) := dAt wdX11_give_64 adX11_give_64.2.2.2.2.2.2.2.2.2.2 rfl
def bdX11_minutes_0 : ByteArray := .mk #[27, 155, 0, 9, 27, 16, 120, 164, 0, 11, 187, 0, 87, 89, 183, 0, 89, 191, 3, 61, 28, 27, 162, 0, 29, 42, 180, 0, 39]
theorem wdX11_minutes_0 : LocW cX11_minutes 0 bdX11_minutes_0 := loc_of (by decide +kernel)
theorem adX11_minutes_0 : De bdX11_minutes_0 0 (.iload_n 1) 1 ∧ De bdX11_minutes_0 1 (.ifCond .lt 9) 3 ∧ De bdX11_minutes_0 4 (.iload_n 1) 1 ∧ De bdX11_minutes_0 5 (.bipush 120) 2 ∧ De bdX11_minutes_0 7 (.if_icmp .le 11) 3 ∧ De bdX11_minutes_0 10 (.new 87) 3 ∧ De bdX11_minutes_0 13 (.dup) 1 ∧ De bdX11_minutes_0 14 (.invokespecial 89) 3 ∧ De bdX11_minutes_0 17 (.athrow) 1 ∧ De bdX11_minutes_0 18 (.iconst 0) 1 ∧ De bdX11_minutes_0 19 (.istore_n 2) 1 ∧ De bdX11_minutes_0 20 (.iload_n 2) 1 ∧ De bdX11_minutes_0 21 (.iload_n 1) 1 ∧ De bdX11_minutes_0 22 (.if_icmp .ge 29) 3 ∧ De bdX11_minutes_0 25 (.aload_n 0) 1 ∧ De bdX11_minutes_0 26 (.getfield 39) 3 := by decide +kernel
theorem dX11_minutes_0 : decode cX11_minutes 0 = .ok (.iload_n 1, 1) := dAt wdX11_minutes_0 adX11_minutes_0.1 rfl
theorem dX11_minutes_1 : decode cX11_minutes 1 = .ok (.ifCond .lt 9, 3) := dAt wdX11_minutes_0 adX11_minutes_0.2.1 rfl
theorem dX11_minutes_4 : decode cX11_minutes 4 = .ok (.iload_n 1, 1) := dAt wdX11_minutes_0 adX11_minutes_0.2.2.1 rfl
theorem dX11_minutes_5 : decode cX11_minutes 5 = .ok (.bipush 120, 2) := dAt wdX11_minutes_0 adX11_minutes_0.2.2.2.1 rfl
theorem dX11_minutes_7 : decode cX11_minutes 7 = .ok (.if_icmp .le 11, 3) := dAt wdX11_minutes_0 adX11_minutes_0.2.2.2.2.1 rfl
theorem dX11_minutes_10 : decode cX11_minutes 10 = .ok (.new 87, 3) := dAt wdX11_minutes_0 adX11_minutes_0.2.2.2.2.2.1 rfl
theorem dX11_minutes_13 : decode cX11_minutes 13 = .ok (.dup, 1) := dAt wdX11_minutes_0 adX11_minutes_0.2.2.2.2.2.2.1 rfl
theorem dX11_minutes_14 : decode cX11_minutes 14 = .ok (.invokespecial 89, 3) := dAt wdX11_minutes_0 adX11_minutes_0.2.2.2.2.2.2.2.1 rfl
theorem dX11_minutes_17 : decode cX11_minutes 17 = .ok (.athrow, 1) := dAt wdX11_minutes_0 adX11_minutes_0.2.2.2.2.2.2.2.2.1 rfl
theorem dX11_minutes_18 : decode cX11_minutes 18 = .ok (.iconst 0, 1) := dAt wdX11_minutes_0 adX11_minutes_0.2.2.2.2.2.2.2.2.2.1 rfl
theorem dX11_minutes_19 : decode cX11_minutes 19 = .ok (.istore_n 2, 1) := dAt wdX11_minutes_0 adX11_minutes_0.2.2.2.2.2.2.2.2.2.2.1 rfl
theorem dX11_minutes_20 : decode cX11_minutes 20 = .ok (.iload_n 2, 1) := dAt wdX11_minutes_0 adX11_minutes_0.2.2.2.2.2.2.2.2.2.2.2.1 rfl
theorem dX11_minutes_21 : decode cX11_minutes 21 = .ok (.iload_n 1, 1) := dAt wdX11_minutes_0 adX11_minutes_0.2.2.2.2.2.2.2.2.2.2.2.2.1 rfl
theorem dX11_minutes_22 : decode cX11_minutes 22 = .ok (.if_icmp .ge 29, 3) := dAt wdX11_minutes_0 adX11_minutes_0.2.2.2.2.2.2.2.2.2.2.2.2.2.1 rfl
theorem dX11_minutes_25 : decode cX11_minutes 25 = .ok (.aload_n 0, 1) := dAt wdX11_minutes_0 adX11_minutes_0.2.2.2.2.2.2.2.2.2.2.2.2.2.2.1 rfl
theorem dX11_minutes_26 : decode cX11_minutes 26 = .ok (.getfield 39, 3) := dAt wdX11_minutes_0 adX11_minutes_0.2.2.2.2.2.2.2.2.2.2.2.2.2.2.2 rfl
def bdX11_minutes_29 : ByteArray := .mk #[180, 0, 117, 17, 2, 88, 162, 0, 16, 42, 180, 0, 39, 182, 1, 9, 132, 2, 1, 167, 255, 228, 42, 180, 0, 39, 180, 0, 117, 172]
theorem wdX11_minutes_29 : LocW cX11_minutes 29 bdX11_minutes_29 := loc_of (by decide +kernel)
theorem adX11_minutes_29 : De bdX11_minutes_29 0 (.getfield 117) 3 ∧ De bdX11_minutes_29 3 (.sipush 600) 3 ∧ De bdX11_minutes_29 6 (.if_icmp .ge 16) 3 ∧ De bdX11_minutes_29 9 (.aload_n 0) 1 ∧ De bdX11_minutes_29 10 (.getfield 39) 3 ∧ De bdX11_minutes_29 13 (.invokevirtual 265) 3 ∧ De bdX11_minutes_29 16 (.iinc 2 1) 3 ∧ De bdX11_minutes_29 19 (.goto (-28)) 3 ∧ De bdX11_minutes_29 22 (.aload_n 0) 1 ∧ De bdX11_minutes_29 23 (.getfield 39) 3 ∧ De bdX11_minutes_29 26 (.getfield 117) 3 ∧ De bdX11_minutes_29 29 (.ireturn) 1 := by decide +kernel
theorem dX11_minutes_29 : decode cX11_minutes 29 = .ok (.getfield 117, 3) := dAt wdX11_minutes_29 adX11_minutes_29.1 rfl
theorem dX11_minutes_32 : decode cX11_minutes 32 = .ok (.sipush 600, 3) := dAt wdX11_minutes_29 adX11_minutes_29.2.1 rfl
theorem dX11_minutes_35 : decode cX11_minutes 35 = .ok (.if_icmp .ge 16, 3) := dAt wdX11_minutes_29 adX11_minutes_29.2.2.1 rfl
theorem dX11_minutes_38 : decode cX11_minutes 38 = .ok (.aload_n 0, 1) := dAt wdX11_minutes_29 adX11_minutes_29.2.2.2.1 rfl
theorem dX11_minutes_39 : decode cX11_minutes 39 = .ok (.getfield 39, 3) := dAt wdX11_minutes_29 adX11_minutes_29.2.2.2.2.1 rfl
theorem dX11_minutes_42 : decode cX11_minutes 42 = .ok (.invokevirtual 265, 3) := dAt wdX11_minutes_29 adX11_minutes_29.2.2.2.2.2.1 rfl
theorem dX11_minutes_45 : decode cX11_minutes 45 = .ok (.iinc 2 1, 3) := dAt wdX11_minutes_29 adX11_minutes_29.2.2.2.2.2.2.1 rfl
theorem dX11_minutes_48 : decode cX11_minutes 48 = .ok (.goto (-28), 3) := dAt wdX11_minutes_29 adX11_minutes_29.2.2.2.2.2.2.2.1 rfl
theorem dX11_minutes_51 : decode cX11_minutes 51 = .ok (.aload_n 0, 1) := dAt wdX11_minutes_29 adX11_minutes_29.2.2.2.2.2.2.2.2.1 rfl
theorem dX11_minutes_52 : decode cX11_minutes 52 = .ok (.getfield 39, 3) := dAt wdX11_minutes_29 adX11_minutes_29.2.2.2.2.2.2.2.2.2.1 rfl
theorem dX11_minutes_55 : decode cX11_minutes 55 = .ok (.getfield 117, 3) := dAt wdX11_minutes_29 adX11_minutes_29.2.2.2.2.2.2.2.2.2.2.1 rfl
theorem dX11_minutes_58 : decode cX11_minutes 58 = .ok (.ireturn, 1) := dAt wdX11_minutes_29 adX11_minutes_29.2.2.2.2.2.2.2.2.2.2.2 rfl
def bdX11_runs_0 : ByteArray := .mk #[42, 180, 0, 39, 27, 182, 0, 231, 78, 45, 199, 0, 11, 187, 0, 84, 89, 183, 0, 86, 191, 28]
theorem wdX11_runs_0 : LocW cX11_runs 0 bdX11_runs_0 := loc_of (by decide +kernel)
theorem adX11_runs_0 : De bdX11_runs_0 0 (.aload_n 0) 1 ∧ De bdX11_runs_0 1 (.getfield 39) 3 ∧ De bdX11_runs_0 4 (.iload_n 1) 1 ∧ De bdX11_runs_0 5 (.invokevirtual 231) 3 ∧ De bdX11_runs_0 8 (.astore_n 3) 1 ∧ De bdX11_runs_0 9 (.aload_n 3) 1 ∧ De bdX11_runs_0 10 (.ifnonnull 11) 3 ∧ De bdX11_runs_0 13 (.new 84) 3 ∧ De bdX11_runs_0 16 (.dup) 1 ∧ De bdX11_runs_0 17 (.invokespecial 86) 3 ∧ De bdX11_runs_0 20 (.athrow) 1 ∧ De bdX11_runs_0 21 (.iload_n 2) 1 := by decide +kernel
theorem dX11_runs_0 : decode cX11_runs 0 = .ok (.aload_n 0, 1) := dAt wdX11_runs_0 adX11_runs_0.1 rfl
theorem dX11_runs_1 : decode cX11_runs 1 = .ok (.getfield 39, 3) := dAt wdX11_runs_0 adX11_runs_0.2.1 rfl
theorem dX11_runs_4 : decode cX11_runs 4 = .ok (.iload_n 1, 1) := dAt wdX11_runs_0 adX11_runs_0.2.2.1 rfl
theorem dX11_runs_5 : decode cX11_runs 5 = .ok (.invokevirtual 231, 3) := dAt wdX11_runs_0 adX11_runs_0.2.2.2.1 rfl
theorem dX11_runs_8 : decode cX11_runs 8 = .ok (.astore_n 3, 1) := dAt wdX11_runs_0 adX11_runs_0.2.2.2.2.1 rfl
theorem dX11_runs_9 : decode cX11_runs 9 = .ok (.aload_n 3, 1) := dAt wdX11_runs_0 adX11_runs_0.2.2.2.2.2.1 rfl
theorem dX11_runs_10 : decode cX11_runs 10 = .ok (.ifnonnull 11, 3) := dAt wdX11_runs_0 adX11_runs_0.2.2.2.2.2.2.1 rfl
theorem dX11_runs_13 : decode cX11_runs 13 = .ok (.new 84, 3) := dAt wdX11_runs_0 adX11_runs_0.2.2.2.2.2.2.2.1 rfl
theorem dX11_runs_16 : decode cX11_runs 16 = .ok (.dup, 1) := dAt wdX11_runs_0 adX11_runs_0.2.2.2.2.2.2.2.2.1 rfl
theorem dX11_runs_17 : decode cX11_runs 17 = .ok (.invokespecial 86, 3) := dAt wdX11_runs_0 adX11_runs_0.2.2.2.2.2.2.2.2.2.1 rfl
theorem dX11_runs_20 : decode cX11_runs 20 = .ok (.athrow, 1) := dAt wdX11_runs_0 adX11_runs_0.2.2.2.2.2.2.2.2.2.2.1 rfl
theorem dX11_runs_21 : decode cX11_runs 21 = .ok (.iload_n 2, 1) := dAt wdX11_runs_0 adX11_runs_0.2.2.2.2.2.2.2.2.2.2.2 rfl
theorem dX11_runs_22 : decode cX11_runs 22 = .ok (.tableswitch 89 0 5 #[38, 43, 48, 53, 58, 71], 38) := by decide +kernel
def bdX11_runs_60 : ByteArray := .mk #[45, 180, 1, 2, 172, 45, 180, 1, 12, 172, 45, 180, 1, 15, 172, 45, 180, 1, 18, 172, 45, 180, 0, 255, 153, 0, 7, 4]
theorem wdX11_runs_60 : LocW cX11_runs 60 bdX11_runs_60 := loc_of (by decide +kernel)
theorem adX11_runs_60 : De bdX11_runs_60 0 (.aload_n 3) 1 ∧ De bdX11_runs_60 1 (.getfield 258) 3 ∧ De bdX11_runs_60 4 (.ireturn) 1 ∧ De bdX11_runs_60 5 (.aload_n 3) 1 ∧ De bdX11_runs_60 6 (.getfield 268) 3 ∧ De bdX11_runs_60 9 (.ireturn) 1 ∧ De bdX11_runs_60 10 (.aload_n 3) 1 ∧ De bdX11_runs_60 11 (.getfield 271) 3 ∧ De bdX11_runs_60 14 (.ireturn) 1 ∧ De bdX11_runs_60 15 (.aload_n 3) 1 ∧ De bdX11_runs_60 16 (.getfield 274) 3 ∧ De bdX11_runs_60 19 (.ireturn) 1 ∧ De bdX11_runs_60 20 (.aload_n 3) 1 ∧ De bdX11_runs_60 21 (.getfield 255) 3 ∧ De bdX11_runs_60 24 (.ifCond .eq 7) 3 ∧ De bdX11_runs_60 27 (.iconst 1) 1 := by decide +kernel
theorem dX11_runs_60 : decode cX11_runs 60 = .ok (.aload_n 3, 1) := dAt wdX11_runs_60 adX11_runs_60.1 rfl
theorem dX11_runs_61 : decode cX11_runs 61 = .ok (.getfield 258, 3) := dAt wdX11_runs_60 adX11_runs_60.2.1 rfl
theorem dX11_runs_64 : decode cX11_runs 64 = .ok (.ireturn, 1) := dAt wdX11_runs_60 adX11_runs_60.2.2.1 rfl
theorem dX11_runs_65 : decode cX11_runs 65 = .ok (.aload_n 3, 1) := dAt wdX11_runs_60 adX11_runs_60.2.2.2.1 rfl
theorem dX11_runs_66 : decode cX11_runs 66 = .ok (.getfield 268, 3) := dAt wdX11_runs_60 adX11_runs_60.2.2.2.2.1 rfl
theorem dX11_runs_69 : decode cX11_runs 69 = .ok (.ireturn, 1) := dAt wdX11_runs_60 adX11_runs_60.2.2.2.2.2.1 rfl
theorem dX11_runs_70 : decode cX11_runs 70 = .ok (.aload_n 3, 1) := dAt wdX11_runs_60 adX11_runs_60.2.2.2.2.2.2.1 rfl
theorem dX11_runs_71 : decode cX11_runs 71 = .ok (.getfield 271, 3) := dAt wdX11_runs_60 adX11_runs_60.2.2.2.2.2.2.2.1 rfl
theorem dX11_runs_74 : decode cX11_runs 74 = .ok (.ireturn, 1) := dAt wdX11_runs_60 adX11_runs_60.2.2.2.2.2.2.2.2.1 rfl
theorem dX11_runs_75 : decode cX11_runs 75 = .ok (.aload_n 3, 1) := dAt wdX11_runs_60 adX11_runs_60.2.2.2.2.2.2.2.2.2.1 rfl
theorem dX11_runs_76 : decode cX11_runs 76 = .ok (.getfield 274, 3) := dAt wdX11_runs_60 adX11_runs_60.2.2.2.2.2.2.2.2.2.2.1 rfl
theorem dX11_runs_79 : decode cX11_runs 79 = .ok (.ireturn, 1) := dAt wdX11_runs_60 adX11_runs_60.2.2.2.2.2.2.2.2.2.2.2.1 rfl
theorem dX11_runs_80 : decode cX11_runs 80 = .ok (.aload_n 3, 1) := dAt wdX11_runs_60 adX11_runs_60.2.2.2.2.2.2.2.2.2.2.2.2.1 rfl
theorem dX11_runs_81 : decode cX11_runs 81 = .ok (.getfield 255, 3) := dAt wdX11_runs_60 adX11_runs_60.2.2.2.2.2.2.2.2.2.2.2.2.2.1 rfl
theorem dX11_runs_84 : decode cX11_runs 84 = .ok (.ifCond .eq 7, 3) := dAt wdX11_runs_60 adX11_runs_60.2.2.2.2.2.2.2.2.2.2.2.2.2.2.1 rfl
theorem dX11_runs_87 : decode cX11_runs 87 = .ok (.iconst 1, 1) := dAt wdX11_runs_60 adX11_runs_60.2.2.2.2.2.2.2.2.2.2.2.2.2.2.2 rfl
def bdX11_runs_88 : ByteArray := .mk #[167, 0, 4, 3, 172, 45, 180, 1, 2, 154, 0, 7, 2, 167, 0, 9, 45, 180, 1, 21, 3, 46, 172, 187, 0, 172, 89, 183, 0, 174]
theorem wdX11_runs_88 : LocW cX11_runs 88 bdX11_runs_88 := loc_of (by decide +kernel)
theorem adX11_runs_88 : De bdX11_runs_88 0 (.goto 4) 3 ∧ De bdX11_runs_88 3 (.iconst 0) 1 ∧ De bdX11_runs_88 4 (.ireturn) 1 ∧ De bdX11_runs_88 5 (.aload_n 3) 1 ∧ De bdX11_runs_88 6 (.getfield 258) 3 ∧ De bdX11_runs_88 9 (.ifCond .ne 7) 3 ∧ De bdX11_runs_88 12 (.iconst (-1)) 1 ∧ De bdX11_runs_88 13 (.goto 9) 3 ∧ De bdX11_runs_88 16 (.aload_n 3) 1 ∧ De bdX11_runs_88 17 (.getfield 277) 3 ∧ De bdX11_runs_88 20 (.iconst 0) 1 ∧ De bdX11_runs_88 21 (.iaload) 1 ∧ De bdX11_runs_88 22 (.ireturn) 1 ∧ De bdX11_runs_88 23 (.new 172) 3 ∧ De bdX11_runs_88 26 (.dup) 1 ∧ De bdX11_runs_88 27 (.invokespecial 174) 3 := by decide +kernel
theorem dX11_runs_88 : decode cX11_runs 88 = .ok (.goto 4, 3) := dAt wdX11_runs_88 adX11_runs_88.1 rfl
theorem dX11_runs_91 : decode cX11_runs 91 = .ok (.iconst 0, 1) := dAt wdX11_runs_88 adX11_runs_88.2.1 rfl
theorem dX11_runs_92 : decode cX11_runs 92 = .ok (.ireturn, 1) := dAt wdX11_runs_88 adX11_runs_88.2.2.1 rfl
theorem dX11_runs_93 : decode cX11_runs 93 = .ok (.aload_n 3, 1) := dAt wdX11_runs_88 adX11_runs_88.2.2.2.1 rfl
theorem dX11_runs_94 : decode cX11_runs 94 = .ok (.getfield 258, 3) := dAt wdX11_runs_88 adX11_runs_88.2.2.2.2.1 rfl
theorem dX11_runs_97 : decode cX11_runs 97 = .ok (.ifCond .ne 7, 3) := dAt wdX11_runs_88 adX11_runs_88.2.2.2.2.2.1 rfl
theorem dX11_runs_100 : decode cX11_runs 100 = .ok (.iconst (-1), 1) := dAt wdX11_runs_88 adX11_runs_88.2.2.2.2.2.2.1 rfl
theorem dX11_runs_101 : decode cX11_runs 101 = .ok (.goto 9, 3) := dAt wdX11_runs_88 adX11_runs_88.2.2.2.2.2.2.2.1 rfl
theorem dX11_runs_104 : decode cX11_runs 104 = .ok (.aload_n 3, 1) := dAt wdX11_runs_88 adX11_runs_88.2.2.2.2.2.2.2.2.1 rfl
theorem dX11_runs_105 : decode cX11_runs 105 = .ok (.getfield 277, 3) := dAt wdX11_runs_88 adX11_runs_88.2.2.2.2.2.2.2.2.2.1 rfl
theorem dX11_runs_108 : decode cX11_runs 108 = .ok (.iconst 0, 1) := dAt wdX11_runs_88 adX11_runs_88.2.2.2.2.2.2.2.2.2.2.1 rfl
theorem dX11_runs_109 : decode cX11_runs 109 = .ok (.iaload, 1) := dAt wdX11_runs_88 adX11_runs_88.2.2.2.2.2.2.2.2.2.2.2.1 rfl
theorem dX11_runs_110 : decode cX11_runs 110 = .ok (.ireturn, 1) := dAt wdX11_runs_88 adX11_runs_88.2.2.2.2.2.2.2.2.2.2.2.2.1 rfl
theorem dX11_runs_111 : decode cX11_runs 111 = .ok (.new 172, 3) := dAt wdX11_runs_88 adX11_runs_88.2.2.2.2.2.2.2.2.2.2.2.2.2.1 rfl
theorem dX11_runs_114 : decode cX11_runs 114 = .ok (.dup, 1) := dAt wdX11_runs_88 adX11_runs_88.2.2.2.2.2.2.2.2.2.2.2.2.2.2.1 rfl
theorem dX11_runs_115 : decode cX11_runs 115 = .ok (.invokespecial 174, 3) := dAt wdX11_runs_88 adX11_runs_88.2.2.2.2.2.2.2.2.2.2.2.2.2.2.2 rfl
def bdX11_runs_118 : ByteArray := .mk #[191]
theorem wdX11_runs_118 : LocW cX11_runs 118 bdX11_runs_118 := loc_of (by decide +kernel)
theorem adX11_runs_118 : De bdX11_runs_118 0 (.athrow) 1 := by decide +kernel
theorem dX11_runs_118 : decode cX11_runs 118 = .ok (.athrow, 1) := dAt wdX11_runs_118 adX11_runs_118 rfl
def bdX11_slug_0 : ByteArray := .mk #[42, 180, 0, 39, 27, 182, 1, 24, 78, 45, 199, 0, 11, 187, 0, 84, 89, 183, 0, 86, 191, 28]
theorem wdX11_slug_0 : LocW cX11_slug 0 bdX11_slug_0 := loc_of (by decide +kernel)
theorem adX11_slug_0 : De bdX11_slug_0 0 (.aload_n 0) 1 ∧ De bdX11_slug_0 1 (.getfield 39) 3 ∧ De bdX11_slug_0 4 (.iload_n 1) 1 ∧ De bdX11_slug_0 5 (.invokevirtual 280) 3 ∧ De bdX11_slug_0 8 (.astore_n 3) 1 ∧ De bdX11_slug_0 9 (.aload_n 3) 1 ∧ De bdX11_slug_0 10 (.ifnonnull 11) 3 ∧ De bdX11_slug_0 13 (.new 84) 3 ∧ De bdX11_slug_0 16 (.dup) 1 ∧ De bdX11_slug_0 17 (.invokespecial 86) 3 ∧ De bdX11_slug_0 20 (.athrow) 1 ∧ De bdX11_slug_0 21 (.iload_n 2) 1 := by decide +kernel
theorem dX11_slug_0 : decode cX11_slug 0 = .ok (.aload_n 0, 1) := dAt wdX11_slug_0 adX11_slug_0.1 rfl
theorem dX11_slug_1 : decode cX11_slug 1 = .ok (.getfield 39, 3) := dAt wdX11_slug_0 adX11_slug_0.2.1 rfl
theorem dX11_slug_4 : decode cX11_slug 4 = .ok (.iload_n 1, 1) := dAt wdX11_slug_0 adX11_slug_0.2.2.1 rfl
theorem dX11_slug_5 : decode cX11_slug 5 = .ok (.invokevirtual 280, 3) := dAt wdX11_slug_0 adX11_slug_0.2.2.2.1 rfl
theorem dX11_slug_8 : decode cX11_slug 8 = .ok (.astore_n 3, 1) := dAt wdX11_slug_0 adX11_slug_0.2.2.2.2.1 rfl
theorem dX11_slug_9 : decode cX11_slug 9 = .ok (.aload_n 3, 1) := dAt wdX11_slug_0 adX11_slug_0.2.2.2.2.2.1 rfl
theorem dX11_slug_10 : decode cX11_slug 10 = .ok (.ifnonnull 11, 3) := dAt wdX11_slug_0 adX11_slug_0.2.2.2.2.2.2.1 rfl
theorem dX11_slug_13 : decode cX11_slug 13 = .ok (.new 84, 3) := dAt wdX11_slug_0 adX11_slug_0.2.2.2.2.2.2.2.1 rfl
theorem dX11_slug_16 : decode cX11_slug 16 = .ok (.dup, 1) := dAt wdX11_slug_0 adX11_slug_0.2.2.2.2.2.2.2.2.1 rfl
theorem dX11_slug_17 : decode cX11_slug 17 = .ok (.invokespecial 86, 3) := dAt wdX11_slug_0 adX11_slug_0.2.2.2.2.2.2.2.2.2.1 rfl
theorem dX11_slug_20 : decode cX11_slug 20 = .ok (.athrow, 1) := dAt wdX11_slug_0 adX11_slug_0.2.2.2.2.2.2.2.2.2.2.1 rfl
theorem dX11_slug_21 : decode cX11_slug 21 = .ok (.iload_n 2, 1) := dAt wdX11_slug_0 adX11_slug_0.2.2.2.2.2.2.2.2.2.2.2 rfl
theorem dX11_slug_22 : decode cX11_slug 22 = .ok (.tableswitch 120 0 9 #[54, 59, 64, 69, 74, 79, 84, 89, 102, 115], 54) := by decide +kernel
def bdX11_slug_76 : ByteArray := .mk #[45, 180, 1, 28, 172, 45, 180, 1, 33, 172, 45, 180, 1, 36, 172, 45, 180, 1, 39, 172, 45, 180, 1, 42, 172, 45]
theorem wdX11_slug_76 : LocW cX11_slug 76 bdX11_slug_76 := loc_of (by decide +kernel)
theorem adX11_slug_76 : De bdX11_slug_76 0 (.aload_n 3) 1 ∧ De bdX11_slug_76 1 (.getfield 284) 3 ∧ De bdX11_slug_76 4 (.ireturn) 1 ∧ De bdX11_slug_76 5 (.aload_n 3) 1 ∧ De bdX11_slug_76 6 (.getfield 289) 3 ∧ De bdX11_slug_76 9 (.ireturn) 1 ∧ De bdX11_slug_76 10 (.aload_n 3) 1 ∧ De bdX11_slug_76 11 (.getfield 292) 3 ∧ De bdX11_slug_76 14 (.ireturn) 1 ∧ De bdX11_slug_76 15 (.aload_n 3) 1 ∧ De bdX11_slug_76 16 (.getfield 295) 3 ∧ De bdX11_slug_76 19 (.ireturn) 1 ∧ De bdX11_slug_76 20 (.aload_n 3) 1 ∧ De bdX11_slug_76 21 (.getfield 298) 3 ∧ De bdX11_slug_76 24 (.ireturn) 1 ∧ De bdX11_slug_76 25 (.aload_n 3) 1 := by decide +kernel
theorem dX11_slug_76 : decode cX11_slug 76 = .ok (.aload_n 3, 1) := dAt wdX11_slug_76 adX11_slug_76.1 rfl
theorem dX11_slug_77 : decode cX11_slug 77 = .ok (.getfield 284, 3) := dAt wdX11_slug_76 adX11_slug_76.2.1 rfl
theorem dX11_slug_80 : decode cX11_slug 80 = .ok (.ireturn, 1) := dAt wdX11_slug_76 adX11_slug_76.2.2.1 rfl
theorem dX11_slug_81 : decode cX11_slug 81 = .ok (.aload_n 3, 1) := dAt wdX11_slug_76 adX11_slug_76.2.2.2.1 rfl
theorem dX11_slug_82 : decode cX11_slug 82 = .ok (.getfield 289, 3) := dAt wdX11_slug_76 adX11_slug_76.2.2.2.2.1 rfl
theorem dX11_slug_85 : decode cX11_slug 85 = .ok (.ireturn, 1) := dAt wdX11_slug_76 adX11_slug_76.2.2.2.2.2.1 rfl
theorem dX11_slug_86 : decode cX11_slug 86 = .ok (.aload_n 3, 1) := dAt wdX11_slug_76 adX11_slug_76.2.2.2.2.2.2.1 rfl
theorem dX11_slug_87 : decode cX11_slug 87 = .ok (.getfield 292, 3) := dAt wdX11_slug_76 adX11_slug_76.2.2.2.2.2.2.2.1 rfl
theorem dX11_slug_90 : decode cX11_slug 90 = .ok (.ireturn, 1) := dAt wdX11_slug_76 adX11_slug_76.2.2.2.2.2.2.2.2.1 rfl
theorem dX11_slug_91 : decode cX11_slug 91 = .ok (.aload_n 3, 1) := dAt wdX11_slug_76 adX11_slug_76.2.2.2.2.2.2.2.2.2.1 rfl
theorem dX11_slug_92 : decode cX11_slug 92 = .ok (.getfield 295, 3) := dAt wdX11_slug_76 adX11_slug_76.2.2.2.2.2.2.2.2.2.2.1 rfl
theorem dX11_slug_95 : decode cX11_slug 95 = .ok (.ireturn, 1) := dAt wdX11_slug_76 adX11_slug_76.2.2.2.2.2.2.2.2.2.2.2.1 rfl
theorem dX11_slug_96 : decode cX11_slug 96 = .ok (.aload_n 3, 1) := dAt wdX11_slug_76 adX11_slug_76.2.2.2.2.2.2.2.2.2.2.2.2.1 rfl
theorem dX11_slug_97 : decode cX11_slug 97 = .ok (.getfield 298, 3) := dAt wdX11_slug_76 adX11_slug_76.2.2.2.2.2.2.2.2.2.2.2.2.2.1 rfl
theorem dX11_slug_100 : decode cX11_slug 100 = .ok (.ireturn, 1) := dAt wdX11_slug_76 adX11_slug_76.2.2.2.2.2.2.2.2.2.2.2.2.2.2.1 rfl
theorem dX11_slug_101 : decode cX11_slug 101 = .ok (.aload_n 3, 1) := dAt wdX11_slug_76 adX11_slug_76.2.2.2.2.2.2.2.2.2.2.2.2.2.2.2 rfl
def bdX11_slug_102 : ByteArray := .mk #[180, 1, 45, 172, 45, 180, 1, 48, 172, 45, 180, 1, 51, 153, 0, 7, 4, 167, 0, 4, 3, 172, 45, 180, 1, 54, 158, 0, 7, 4]
theorem wdX11_slug_102 : LocW cX11_slug 102 bdX11_slug_102 := loc_of (by decide +kernel)
theorem adX11_slug_102 : De bdX11_slug_102 0 (.getfield 301) 3 ∧ De bdX11_slug_102 3 (.ireturn) 1 ∧ De bdX11_slug_102 4 (.aload_n 3) 1 ∧ De bdX11_slug_102 5 (.getfield 304) 3 ∧ De bdX11_slug_102 8 (.ireturn) 1 ∧ De bdX11_slug_102 9 (.aload_n 3) 1 ∧ De bdX11_slug_102 10 (.getfield 307) 3 ∧ De bdX11_slug_102 13 (.ifCond .eq 7) 3 ∧ De bdX11_slug_102 16 (.iconst 1) 1 ∧ De bdX11_slug_102 17 (.goto 4) 3 ∧ De bdX11_slug_102 20 (.iconst 0) 1 ∧ De bdX11_slug_102 21 (.ireturn) 1 ∧ De bdX11_slug_102 22 (.aload_n 3) 1 ∧ De bdX11_slug_102 23 (.getfield 310) 3 ∧ De bdX11_slug_102 26 (.ifCond .le 7) 3 ∧ De bdX11_slug_102 29 (.iconst 1) 1 := by decide +kernel
theorem dX11_slug_102 : decode cX11_slug 102 = .ok (.getfield 301, 3) := dAt wdX11_slug_102 adX11_slug_102.1 rfl
theorem dX11_slug_105 : decode cX11_slug 105 = .ok (.ireturn, 1) := dAt wdX11_slug_102 adX11_slug_102.2.1 rfl
theorem dX11_slug_106 : decode cX11_slug 106 = .ok (.aload_n 3, 1) := dAt wdX11_slug_102 adX11_slug_102.2.2.1 rfl
theorem dX11_slug_107 : decode cX11_slug 107 = .ok (.getfield 304, 3) := dAt wdX11_slug_102 adX11_slug_102.2.2.2.1 rfl
theorem dX11_slug_110 : decode cX11_slug 110 = .ok (.ireturn, 1) := dAt wdX11_slug_102 adX11_slug_102.2.2.2.2.1 rfl
theorem dX11_slug_111 : decode cX11_slug 111 = .ok (.aload_n 3, 1) := dAt wdX11_slug_102 adX11_slug_102.2.2.2.2.2.1 rfl
theorem dX11_slug_112 : decode cX11_slug 112 = .ok (.getfield 307, 3) := dAt wdX11_slug_102 adX11_slug_102.2.2.2.2.2.2.1 rfl
theorem dX11_slug_115 : decode cX11_slug 115 = .ok (.ifCond .eq 7, 3) := dAt wdX11_slug_102 adX11_slug_102.2.2.2.2.2.2.2.1 rfl
theorem dX11_slug_118 : decode cX11_slug 118 = .ok (.iconst 1, 1) := dAt wdX11_slug_102 adX11_slug_102.2.2.2.2.2.2.2.2.1 rfl
theorem dX11_slug_119 : decode cX11_slug 119 = .ok (.goto 4, 3) := dAt wdX11_slug_102 adX11_slug_102.2.2.2.2.2.2.2.2.2.1 rfl
theorem dX11_slug_122 : decode cX11_slug 122 = .ok (.iconst 0, 1) := dAt wdX11_slug_102 adX11_slug_102.2.2.2.2.2.2.2.2.2.2.1 rfl
theorem dX11_slug_123 : decode cX11_slug 123 = .ok (.ireturn, 1) := dAt wdX11_slug_102 adX11_slug_102.2.2.2.2.2.2.2.2.2.2.2.1 rfl
theorem dX11_slug_124 : decode cX11_slug 124 = .ok (.aload_n 3, 1) := dAt wdX11_slug_102 adX11_slug_102.2.2.2.2.2.2.2.2.2.2.2.2.1 rfl
theorem dX11_slug_125 : decode cX11_slug 125 = .ok (.getfield 310, 3) := dAt wdX11_slug_102 adX11_slug_102.2.2.2.2.2.2.2.2.2.2.2.2.2.1 rfl
theorem dX11_slug_128 : decode cX11_slug 128 = .ok (.ifCond .le 7, 3) := dAt wdX11_slug_102 adX11_slug_102.2.2.2.2.2.2.2.2.2.2.2.2.2.2.1 rfl
theorem dX11_slug_131 : decode cX11_slug 131 = .ok (.iconst 1, 1) := dAt wdX11_slug_102 adX11_slug_102.2.2.2.2.2.2.2.2.2.2.2.2.2.2.2 rfl
def bdX11_slug_132 : ByteArray := .mk #[167, 0, 4, 3, 172, 45, 180, 1, 57, 172, 187, 0, 172, 89, 183, 0, 174, 191]
theorem wdX11_slug_132 : LocW cX11_slug 132 bdX11_slug_132 := loc_of (by decide +kernel)
theorem adX11_slug_132 : De bdX11_slug_132 0 (.goto 4) 3 ∧ De bdX11_slug_132 3 (.iconst 0) 1 ∧ De bdX11_slug_132 4 (.ireturn) 1 ∧ De bdX11_slug_132 5 (.aload_n 3) 1 ∧ De bdX11_slug_132 6 (.getfield 313) 3 ∧ De bdX11_slug_132 9 (.ireturn) 1 ∧ De bdX11_slug_132 10 (.new 172) 3 ∧ De bdX11_slug_132 13 (.dup) 1 ∧ De bdX11_slug_132 14 (.invokespecial 174) 3 ∧ De bdX11_slug_132 17 (.athrow) 1 := by decide +kernel
theorem dX11_slug_132 : decode cX11_slug 132 = .ok (.goto 4, 3) := dAt wdX11_slug_132 adX11_slug_132.1 rfl
theorem dX11_slug_135 : decode cX11_slug 135 = .ok (.iconst 0, 1) := dAt wdX11_slug_132 adX11_slug_132.2.1 rfl
theorem dX11_slug_136 : decode cX11_slug 136 = .ok (.ireturn, 1) := dAt wdX11_slug_132 adX11_slug_132.2.2.1 rfl
theorem dX11_slug_137 : decode cX11_slug 137 = .ok (.aload_n 3, 1) := dAt wdX11_slug_132 adX11_slug_132.2.2.2.1 rfl
theorem dX11_slug_138 : decode cX11_slug 138 = .ok (.getfield 313, 3) := dAt wdX11_slug_132 adX11_slug_132.2.2.2.2.1 rfl
theorem dX11_slug_141 : decode cX11_slug 141 = .ok (.ireturn, 1) := dAt wdX11_slug_132 adX11_slug_132.2.2.2.2.2.1 rfl
theorem dX11_slug_142 : decode cX11_slug 142 = .ok (.new 172, 3) := dAt wdX11_slug_132 adX11_slug_132.2.2.2.2.2.2.1 rfl
theorem dX11_slug_145 : decode cX11_slug 145 = .ok (.dup, 1) := dAt wdX11_slug_132 adX11_slug_132.2.2.2.2.2.2.2.1 rfl
theorem dX11_slug_146 : decode cX11_slug 146 = .ok (.invokespecial 174, 3) := dAt wdX11_slug_132 adX11_slug_132.2.2.2.2.2.2.2.2.1 rfl
theorem dX11_slug_149 : decode cX11_slug 149 = .ok (.athrow, 1) := dAt wdX11_slug_132 adX11_slug_132.2.2.2.2.2.2.2.2.2 rfl
def bdX11_says_0 : ByteArray := .mk #[42, 180, 0, 39, 27, 182, 1, 24, 78, 45, 199, 0, 11, 187, 0, 84, 89, 183, 0, 86, 191, 28, 155, 0, 11, 28, 45, 180, 1, 60]
theorem wdX11_says_0 : LocW cX11_says 0 bdX11_says_0 := loc_of (by decide +kernel)
theorem adX11_says_0 : De bdX11_says_0 0 (.aload_n 0) 1 ∧ De bdX11_says_0 1 (.getfield 39) 3 ∧ De bdX11_says_0 4 (.iload_n 1) 1 ∧ De bdX11_says_0 5 (.invokevirtual 280) 3 ∧ De bdX11_says_0 8 (.astore_n 3) 1 ∧ De bdX11_says_0 9 (.aload_n 3) 1 ∧ De bdX11_says_0 10 (.ifnonnull 11) 3 ∧ De bdX11_says_0 13 (.new 84) 3 ∧ De bdX11_says_0 16 (.dup) 1 ∧ De bdX11_says_0 17 (.invokespecial 86) 3 ∧ De bdX11_says_0 20 (.athrow) 1 ∧ De bdX11_says_0 21 (.iload_n 2) 1 ∧ De bdX11_says_0 22 (.ifCond .lt 11) 3 ∧ De bdX11_says_0 25 (.iload_n 2) 1 ∧ De bdX11_says_0 26 (.aload_n 3) 1 ∧ De bdX11_says_0 27 (.getfield 316) 3 := by decide +kernel
theorem dX11_says_0 : decode cX11_says 0 = .ok (.aload_n 0, 1) := dAt wdX11_says_0 adX11_says_0.1 rfl
theorem dX11_says_1 : decode cX11_says 1 = .ok (.getfield 39, 3) := dAt wdX11_says_0 adX11_says_0.2.1 rfl
theorem dX11_says_4 : decode cX11_says 4 = .ok (.iload_n 1, 1) := dAt wdX11_says_0 adX11_says_0.2.2.1 rfl
theorem dX11_says_5 : decode cX11_says 5 = .ok (.invokevirtual 280, 3) := dAt wdX11_says_0 adX11_says_0.2.2.2.1 rfl
theorem dX11_says_8 : decode cX11_says 8 = .ok (.astore_n 3, 1) := dAt wdX11_says_0 adX11_says_0.2.2.2.2.1 rfl
theorem dX11_says_9 : decode cX11_says 9 = .ok (.aload_n 3, 1) := dAt wdX11_says_0 adX11_says_0.2.2.2.2.2.1 rfl
theorem dX11_says_10 : decode cX11_says 10 = .ok (.ifnonnull 11, 3) := dAt wdX11_says_0 adX11_says_0.2.2.2.2.2.2.1 rfl
theorem dX11_says_13 : decode cX11_says 13 = .ok (.new 84, 3) := dAt wdX11_says_0 adX11_says_0.2.2.2.2.2.2.2.1 rfl
theorem dX11_says_16 : decode cX11_says 16 = .ok (.dup, 1) := dAt wdX11_says_0 adX11_says_0.2.2.2.2.2.2.2.2.1 rfl
theorem dX11_says_17 : decode cX11_says 17 = .ok (.invokespecial 86, 3) := dAt wdX11_says_0 adX11_says_0.2.2.2.2.2.2.2.2.2.1 rfl
theorem dX11_says_20 : decode cX11_says 20 = .ok (.athrow, 1) := dAt wdX11_says_0 adX11_says_0.2.2.2.2.2.2.2.2.2.2.1 rfl
theorem dX11_says_21 : decode cX11_says 21 = .ok (.iload_n 2, 1) := dAt wdX11_says_0 adX11_says_0.2.2.2.2.2.2.2.2.2.2.2.1 rfl
theorem dX11_says_22 : decode cX11_says 22 = .ok (.ifCond .lt 11, 3) := dAt wdX11_says_0 adX11_says_0.2.2.2.2.2.2.2.2.2.2.2.2.1 rfl
theorem dX11_says_25 : decode cX11_says 25 = .ok (.iload_n 2, 1) := dAt wdX11_says_0 adX11_says_0.2.2.2.2.2.2.2.2.2.2.2.2.2.1 rfl
theorem dX11_says_26 : decode cX11_says 26 = .ok (.aload_n 3, 1) := dAt wdX11_says_0 adX11_says_0.2.2.2.2.2.2.2.2.2.2.2.2.2.2.1 rfl
theorem dX11_says_27 : decode cX11_says 27 = .ok (.getfield 316, 3) := dAt wdX11_says_0 adX11_says_0.2.2.2.2.2.2.2.2.2.2.2.2.2.2.2 rfl
def bdX11_says_30 : ByteArray := .mk #[161, 0, 7, 2, 167, 0, 9, 45, 180, 1, 63, 28, 51, 172]
theorem wdX11_says_30 : LocW cX11_says 30 bdX11_says_30 := loc_of (by decide +kernel)
theorem adX11_says_30 : De bdX11_says_30 0 (.if_icmp .lt 7) 3 ∧ De bdX11_says_30 3 (.iconst (-1)) 1 ∧ De bdX11_says_30 4 (.goto 9) 3 ∧ De bdX11_says_30 7 (.aload_n 3) 1 ∧ De bdX11_says_30 8 (.getfield 319) 3 ∧ De bdX11_says_30 11 (.iload_n 2) 1 ∧ De bdX11_says_30 12 (.baload) 1 ∧ De bdX11_says_30 13 (.ireturn) 1 := by decide +kernel
theorem dX11_says_30 : decode cX11_says 30 = .ok (.if_icmp .lt 7, 3) := dAt wdX11_says_30 adX11_says_30.1 rfl
theorem dX11_says_33 : decode cX11_says 33 = .ok (.iconst (-1), 1) := dAt wdX11_says_30 adX11_says_30.2.1 rfl
theorem dX11_says_34 : decode cX11_says 34 = .ok (.goto 9, 3) := dAt wdX11_says_30 adX11_says_30.2.2.1 rfl
theorem dX11_says_37 : decode cX11_says 37 = .ok (.aload_n 3, 1) := dAt wdX11_says_30 adX11_says_30.2.2.2.1 rfl
theorem dX11_says_38 : decode cX11_says 38 = .ok (.getfield 319, 3) := dAt wdX11_says_30 adX11_says_30.2.2.2.2.1 rfl
theorem dX11_says_41 : decode cX11_says 41 = .ok (.iload_n 2, 1) := dAt wdX11_says_30 adX11_says_30.2.2.2.2.2.1 rfl
theorem dX11_says_42 : decode cX11_says 42 = .ok (.baload, 1) := dAt wdX11_says_30 adX11_says_30.2.2.2.2.2.2.1 rfl
theorem dX11_says_43 : decode cX11_says 43 = .ok (.ireturn, 1) := dAt wdX11_says_30 adX11_says_30.2.2.2.2.2.2.2 rfl
def bdX11_lies_0 : ByteArray := .mk #[42, 180, 0, 39, 27, 182, 0, 139, 78, 45, 199, 0, 11, 187, 0, 84, 89, 183, 0, 86, 191, 45, 180, 0, 159, 154, 0, 11, 187, 1, 66, 89]
theorem wdX11_lies_0 : LocW cX11_lies 0 bdX11_lies_0 := loc_of (by decide +kernel)
theorem adX11_lies_0 : De bdX11_lies_0 0 (.aload_n 0) 1 ∧ De bdX11_lies_0 1 (.getfield 39) 3 ∧ De bdX11_lies_0 4 (.iload_n 1) 1 ∧ De bdX11_lies_0 5 (.invokevirtual 139) 3 ∧ De bdX11_lies_0 8 (.astore_n 3) 1 ∧ De bdX11_lies_0 9 (.aload_n 3) 1 ∧ De bdX11_lies_0 10 (.ifnonnull 11) 3 ∧ De bdX11_lies_0 13 (.new 84) 3 ∧ De bdX11_lies_0 16 (.dup) 1 ∧ De bdX11_lies_0 17 (.invokespecial 86) 3 ∧ De bdX11_lies_0 20 (.athrow) 1 ∧ De bdX11_lies_0 21 (.aload_n 3) 1 ∧ De bdX11_lies_0 22 (.getfield 159) 3 ∧ De bdX11_lies_0 25 (.ifCond .ne 11) 3 ∧ De bdX11_lies_0 28 (.new 322) 3 ∧ De bdX11_lies_0 31 (.dup) 1 := by decide +kernel
theorem dX11_lies_0 : decode cX11_lies 0 = .ok (.aload_n 0, 1) := dAt wdX11_lies_0 adX11_lies_0.1 rfl
theorem dX11_lies_1 : decode cX11_lies 1 = .ok (.getfield 39, 3) := dAt wdX11_lies_0 adX11_lies_0.2.1 rfl
theorem dX11_lies_4 : decode cX11_lies 4 = .ok (.iload_n 1, 1) := dAt wdX11_lies_0 adX11_lies_0.2.2.1 rfl
theorem dX11_lies_5 : decode cX11_lies 5 = .ok (.invokevirtual 139, 3) := dAt wdX11_lies_0 adX11_lies_0.2.2.2.1 rfl
theorem dX11_lies_8 : decode cX11_lies 8 = .ok (.astore_n 3, 1) := dAt wdX11_lies_0 adX11_lies_0.2.2.2.2.1 rfl
theorem dX11_lies_9 : decode cX11_lies 9 = .ok (.aload_n 3, 1) := dAt wdX11_lies_0 adX11_lies_0.2.2.2.2.2.1 rfl
theorem dX11_lies_10 : decode cX11_lies 10 = .ok (.ifnonnull 11, 3) := dAt wdX11_lies_0 adX11_lies_0.2.2.2.2.2.2.1 rfl
theorem dX11_lies_13 : decode cX11_lies 13 = .ok (.new 84, 3) := dAt wdX11_lies_0 adX11_lies_0.2.2.2.2.2.2.2.1 rfl
theorem dX11_lies_16 : decode cX11_lies 16 = .ok (.dup, 1) := dAt wdX11_lies_0 adX11_lies_0.2.2.2.2.2.2.2.2.1 rfl
theorem dX11_lies_17 : decode cX11_lies 17 = .ok (.invokespecial 86, 3) := dAt wdX11_lies_0 adX11_lies_0.2.2.2.2.2.2.2.2.2.1 rfl
theorem dX11_lies_20 : decode cX11_lies 20 = .ok (.athrow, 1) := dAt wdX11_lies_0 adX11_lies_0.2.2.2.2.2.2.2.2.2.2.1 rfl
theorem dX11_lies_21 : decode cX11_lies 21 = .ok (.aload_n 3, 1) := dAt wdX11_lies_0 adX11_lies_0.2.2.2.2.2.2.2.2.2.2.2.1 rfl
theorem dX11_lies_22 : decode cX11_lies 22 = .ok (.getfield 159, 3) := dAt wdX11_lies_0 adX11_lies_0.2.2.2.2.2.2.2.2.2.2.2.2.1 rfl
theorem dX11_lies_25 : decode cX11_lies 25 = .ok (.ifCond .ne 11, 3) := dAt wdX11_lies_0 adX11_lies_0.2.2.2.2.2.2.2.2.2.2.2.2.2.1 rfl
theorem dX11_lies_28 : decode cX11_lies 28 = .ok (.new 322, 3) := dAt wdX11_lies_0 adX11_lies_0.2.2.2.2.2.2.2.2.2.2.2.2.2.2.1 rfl
theorem dX11_lies_31 : decode cX11_lies 31 = .ok (.dup, 1) := dAt wdX11_lies_0 adX11_lies_0.2.2.2.2.2.2.2.2.2.2.2.2.2.2.2 rfl
def bdX11_lies_32 : ByteArray := .mk #[183, 1, 68, 191, 45, 28, 182, 0, 208, 154, 0, 11, 187, 0, 84, 89, 183, 0, 86, 191, 45, 180, 1, 69, 28, 46, 172]
theorem wdX11_lies_32 : LocW cX11_lies 32 bdX11_lies_32 := loc_of (by decide +kernel)
theorem adX11_lies_32 : De bdX11_lies_32 0 (.invokespecial 324) 3 ∧ De bdX11_lies_32 3 (.athrow) 1 ∧ De bdX11_lies_32 4 (.aload_n 3) 1 ∧ De bdX11_lies_32 5 (.iload_n 2) 1 ∧ De bdX11_lies_32 6 (.invokevirtual 208) 3 ∧ De bdX11_lies_32 9 (.ifCond .ne 11) 3 ∧ De bdX11_lies_32 12 (.new 84) 3 ∧ De bdX11_lies_32 15 (.dup) 1 ∧ De bdX11_lies_32 16 (.invokespecial 86) 3 ∧ De bdX11_lies_32 19 (.athrow) 1 ∧ De bdX11_lies_32 20 (.aload_n 3) 1 ∧ De bdX11_lies_32 21 (.getfield 325) 3 ∧ De bdX11_lies_32 24 (.iload_n 2) 1 ∧ De bdX11_lies_32 25 (.iaload) 1 ∧ De bdX11_lies_32 26 (.ireturn) 1 := by decide +kernel
theorem dX11_lies_32 : decode cX11_lies 32 = .ok (.invokespecial 324, 3) := dAt wdX11_lies_32 adX11_lies_32.1 rfl
theorem dX11_lies_35 : decode cX11_lies 35 = .ok (.athrow, 1) := dAt wdX11_lies_32 adX11_lies_32.2.1 rfl
theorem dX11_lies_36 : decode cX11_lies 36 = .ok (.aload_n 3, 1) := dAt wdX11_lies_32 adX11_lies_32.2.2.1 rfl
theorem dX11_lies_37 : decode cX11_lies 37 = .ok (.iload_n 2, 1) := dAt wdX11_lies_32 adX11_lies_32.2.2.2.1 rfl
theorem dX11_lies_38 : decode cX11_lies 38 = .ok (.invokevirtual 208, 3) := dAt wdX11_lies_32 adX11_lies_32.2.2.2.2.1 rfl
theorem dX11_lies_41 : decode cX11_lies 41 = .ok (.ifCond .ne 11, 3) := dAt wdX11_lies_32 adX11_lies_32.2.2.2.2.2.1 rfl
theorem dX11_lies_44 : decode cX11_lies 44 = .ok (.new 84, 3) := dAt wdX11_lies_32 adX11_lies_32.2.2.2.2.2.2.1 rfl
theorem dX11_lies_47 : decode cX11_lies 47 = .ok (.dup, 1) := dAt wdX11_lies_32 adX11_lies_32.2.2.2.2.2.2.2.1 rfl
theorem dX11_lies_48 : decode cX11_lies 48 = .ok (.invokespecial 86, 3) := dAt wdX11_lies_32 adX11_lies_32.2.2.2.2.2.2.2.2.1 rfl
theorem dX11_lies_51 : decode cX11_lies 51 = .ok (.athrow, 1) := dAt wdX11_lies_32 adX11_lies_32.2.2.2.2.2.2.2.2.2.1 rfl
theorem dX11_lies_52 : decode cX11_lies 52 = .ok (.aload_n 3, 1) := dAt wdX11_lies_32 adX11_lies_32.2.2.2.2.2.2.2.2.2.2.1 rfl
theorem dX11_lies_53 : decode cX11_lies 53 = .ok (.getfield 325, 3) := dAt wdX11_lies_32 adX11_lies_32.2.2.2.2.2.2.2.2.2.2.2.1 rfl
theorem dX11_lies_56 : decode cX11_lies 56 = .ok (.iload_n 2, 1) := dAt wdX11_lies_32 adX11_lies_32.2.2.2.2.2.2.2.2.2.2.2.2.1 rfl
theorem dX11_lies_57 : decode cX11_lies 57 = .ok (.iaload, 1) := dAt wdX11_lies_32 adX11_lies_32.2.2.2.2.2.2.2.2.2.2.2.2.2.1 rfl
theorem dX11_lies_58 : decode cX11_lies 58 = .ok (.ireturn, 1) := dAt wdX11_lies_32 adX11_lies_32.2.2.2.2.2.2.2.2.2.2.2.2.2.2 rfl
def bdX11_judge_0 : ByteArray := .mk #[42, 180, 0, 39, 27, 182, 0, 139, 77, 44, 199, 0, 11, 187, 0, 84, 89, 183, 0, 86, 191, 44, 180, 0, 159, 154, 0, 11, 187, 1, 66, 89]
theorem wdX11_judge_0 : LocW cX11_judge 0 bdX11_judge_0 := loc_of (by decide +kernel)
theorem adX11_judge_0 : De bdX11_judge_0 0 (.aload_n 0) 1 ∧ De bdX11_judge_0 1 (.getfield 39) 3 ∧ De bdX11_judge_0 4 (.iload_n 1) 1 ∧ De bdX11_judge_0 5 (.invokevirtual 139) 3 ∧ De bdX11_judge_0 8 (.astore_n 2) 1 ∧ De bdX11_judge_0 9 (.aload_n 2) 1 ∧ De bdX11_judge_0 10 (.ifnonnull 11) 3 ∧ De bdX11_judge_0 13 (.new 84) 3 ∧ De bdX11_judge_0 16 (.dup) 1 ∧ De bdX11_judge_0 17 (.invokespecial 86) 3 ∧ De bdX11_judge_0 20 (.athrow) 1 ∧ De bdX11_judge_0 21 (.aload_n 2) 1 ∧ De bdX11_judge_0 22 (.getfield 159) 3 ∧ De bdX11_judge_0 25 (.ifCond .ne 11) 3 ∧ De bdX11_judge_0 28 (.new 322) 3 ∧ De bdX11_judge_0 31 (.dup) 1 := by decide +kernel
theorem dX11_judge_0 : decode cX11_judge 0 = .ok (.aload_n 0, 1) := dAt wdX11_judge_0 adX11_judge_0.1 rfl
theorem dX11_judge_1 : decode cX11_judge 1 = .ok (.getfield 39, 3) := dAt wdX11_judge_0 adX11_judge_0.2.1 rfl
theorem dX11_judge_4 : decode cX11_judge 4 = .ok (.iload_n 1, 1) := dAt wdX11_judge_0 adX11_judge_0.2.2.1 rfl
theorem dX11_judge_5 : decode cX11_judge 5 = .ok (.invokevirtual 139, 3) := dAt wdX11_judge_0 adX11_judge_0.2.2.2.1 rfl
theorem dX11_judge_8 : decode cX11_judge 8 = .ok (.astore_n 2, 1) := dAt wdX11_judge_0 adX11_judge_0.2.2.2.2.1 rfl
theorem dX11_judge_9 : decode cX11_judge 9 = .ok (.aload_n 2, 1) := dAt wdX11_judge_0 adX11_judge_0.2.2.2.2.2.1 rfl
theorem dX11_judge_10 : decode cX11_judge 10 = .ok (.ifnonnull 11, 3) := dAt wdX11_judge_0 adX11_judge_0.2.2.2.2.2.2.1 rfl
theorem dX11_judge_13 : decode cX11_judge 13 = .ok (.new 84, 3) := dAt wdX11_judge_0 adX11_judge_0.2.2.2.2.2.2.2.1 rfl
theorem dX11_judge_16 : decode cX11_judge 16 = .ok (.dup, 1) := dAt wdX11_judge_0 adX11_judge_0.2.2.2.2.2.2.2.2.1 rfl
theorem dX11_judge_17 : decode cX11_judge 17 = .ok (.invokespecial 86, 3) := dAt wdX11_judge_0 adX11_judge_0.2.2.2.2.2.2.2.2.2.1 rfl
theorem dX11_judge_20 : decode cX11_judge 20 = .ok (.athrow, 1) := dAt wdX11_judge_0 adX11_judge_0.2.2.2.2.2.2.2.2.2.2.1 rfl
theorem dX11_judge_21 : decode cX11_judge 21 = .ok (.aload_n 2, 1) := dAt wdX11_judge_0 adX11_judge_0.2.2.2.2.2.2.2.2.2.2.2.1 rfl
theorem dX11_judge_22 : decode cX11_judge 22 = .ok (.getfield 159, 3) := dAt wdX11_judge_0 adX11_judge_0.2.2.2.2.2.2.2.2.2.2.2.2.1 rfl
theorem dX11_judge_25 : decode cX11_judge 25 = .ok (.ifCond .ne 11, 3) := dAt wdX11_judge_0 adX11_judge_0.2.2.2.2.2.2.2.2.2.2.2.2.2.1 rfl
theorem dX11_judge_28 : decode cX11_judge 28 = .ok (.new 322, 3) := dAt wdX11_judge_0 adX11_judge_0.2.2.2.2.2.2.2.2.2.2.2.2.2.2.1 rfl
theorem dX11_judge_31 : decode cX11_judge 31 = .ok (.dup, 1) := dAt wdX11_judge_0 adX11_judge_0.2.2.2.2.2.2.2.2.2.2.2.2.2.2.2 rfl
def bdX11_judge_32 : ByteArray := .mk #[183, 1, 68, 191, 42, 180, 0, 39, 44, 182, 1, 71, 172]
theorem wdX11_judge_32 : LocW cX11_judge 32 bdX11_judge_32 := loc_of (by decide +kernel)
theorem adX11_judge_32 : De bdX11_judge_32 0 (.invokespecial 324) 3 ∧ De bdX11_judge_32 3 (.athrow) 1 ∧ De bdX11_judge_32 4 (.aload_n 0) 1 ∧ De bdX11_judge_32 5 (.getfield 39) 3 ∧ De bdX11_judge_32 8 (.aload_n 2) 1 ∧ De bdX11_judge_32 9 (.invokevirtual 327) 3 ∧ De bdX11_judge_32 12 (.ireturn) 1 := by decide +kernel
theorem dX11_judge_32 : decode cX11_judge 32 = .ok (.invokespecial 324, 3) := dAt wdX11_judge_32 adX11_judge_32.1 rfl
theorem dX11_judge_35 : decode cX11_judge 35 = .ok (.athrow, 1) := dAt wdX11_judge_32 adX11_judge_32.2.1 rfl
theorem dX11_judge_36 : decode cX11_judge 36 = .ok (.aload_n 0, 1) := dAt wdX11_judge_32 adX11_judge_32.2.2.1 rfl
theorem dX11_judge_37 : decode cX11_judge 37 = .ok (.getfield 39, 3) := dAt wdX11_judge_32 adX11_judge_32.2.2.2.1 rfl
theorem dX11_judge_40 : decode cX11_judge 40 = .ok (.aload_n 2, 1) := dAt wdX11_judge_32 adX11_judge_32.2.2.2.2.1 rfl
theorem dX11_judge_41 : decode cX11_judge 41 = .ok (.invokevirtual 327, 3) := dAt wdX11_judge_32 adX11_judge_32.2.2.2.2.2.1 rfl
theorem dX11_judge_44 : decode cX11_judge 44 = .ok (.ireturn, 1) := dAt wdX11_judge_32 adX11_judge_32.2.2.2.2.2.2 rfl
def bdX11_pie_0 : ByteArray := .mk #[42, 180, 0, 39, 27, 182, 1, 24, 77, 44, 199, 0, 11, 187, 0, 84, 89, 183, 0, 86, 191, 44, 180, 1, 42, 153, 0, 5, 3, 172]
theorem wdX11_pie_0 : LocW cX11_pie 0 bdX11_pie_0 := loc_of (by decide +kernel)
theorem adX11_pie_0 : De bdX11_pie_0 0 (.aload_n 0) 1 ∧ De bdX11_pie_0 1 (.getfield 39) 3 ∧ De bdX11_pie_0 4 (.iload_n 1) 1 ∧ De bdX11_pie_0 5 (.invokevirtual 280) 3 ∧ De bdX11_pie_0 8 (.astore_n 2) 1 ∧ De bdX11_pie_0 9 (.aload_n 2) 1 ∧ De bdX11_pie_0 10 (.ifnonnull 11) 3 ∧ De bdX11_pie_0 13 (.new 84) 3 ∧ De bdX11_pie_0 16 (.dup) 1 ∧ De bdX11_pie_0 17 (.invokespecial 86) 3 ∧ De bdX11_pie_0 20 (.athrow) 1 ∧ De bdX11_pie_0 21 (.aload_n 2) 1 ∧ De bdX11_pie_0 22 (.getfield 298) 3 ∧ De bdX11_pie_0 25 (.ifCond .eq 5) 3 ∧ De bdX11_pie_0 28 (.iconst 0) 1 ∧ De bdX11_pie_0 29 (.ireturn) 1 := by decide +kernel
theorem dX11_pie_0 : decode cX11_pie 0 = .ok (.aload_n 0, 1) := dAt wdX11_pie_0 adX11_pie_0.1 rfl
theorem dX11_pie_1 : decode cX11_pie 1 = .ok (.getfield 39, 3) := dAt wdX11_pie_0 adX11_pie_0.2.1 rfl
theorem dX11_pie_4 : decode cX11_pie 4 = .ok (.iload_n 1, 1) := dAt wdX11_pie_0 adX11_pie_0.2.2.1 rfl
theorem dX11_pie_5 : decode cX11_pie 5 = .ok (.invokevirtual 280, 3) := dAt wdX11_pie_0 adX11_pie_0.2.2.2.1 rfl
theorem dX11_pie_8 : decode cX11_pie 8 = .ok (.astore_n 2, 1) := dAt wdX11_pie_0 adX11_pie_0.2.2.2.2.1 rfl
theorem dX11_pie_9 : decode cX11_pie 9 = .ok (.aload_n 2, 1) := dAt wdX11_pie_0 adX11_pie_0.2.2.2.2.2.1 rfl
theorem dX11_pie_10 : decode cX11_pie 10 = .ok (.ifnonnull 11, 3) := dAt wdX11_pie_0 adX11_pie_0.2.2.2.2.2.2.1 rfl
theorem dX11_pie_13 : decode cX11_pie 13 = .ok (.new 84, 3) := dAt wdX11_pie_0 adX11_pie_0.2.2.2.2.2.2.2.1 rfl
theorem dX11_pie_16 : decode cX11_pie 16 = .ok (.dup, 1) := dAt wdX11_pie_0 adX11_pie_0.2.2.2.2.2.2.2.2.1 rfl
theorem dX11_pie_17 : decode cX11_pie 17 = .ok (.invokespecial 86, 3) := dAt wdX11_pie_0 adX11_pie_0.2.2.2.2.2.2.2.2.2.1 rfl
theorem dX11_pie_20 : decode cX11_pie 20 = .ok (.athrow, 1) := dAt wdX11_pie_0 adX11_pie_0.2.2.2.2.2.2.2.2.2.2.1 rfl
theorem dX11_pie_21 : decode cX11_pie 21 = .ok (.aload_n 2, 1) := dAt wdX11_pie_0 adX11_pie_0.2.2.2.2.2.2.2.2.2.2.2.1 rfl
theorem dX11_pie_22 : decode cX11_pie 22 = .ok (.getfield 298, 3) := dAt wdX11_pie_0 adX11_pie_0.2.2.2.2.2.2.2.2.2.2.2.2.1 rfl
theorem dX11_pie_25 : decode cX11_pie 25 = .ok (.ifCond .eq 5, 3) := dAt wdX11_pie_0 adX11_pie_0.2.2.2.2.2.2.2.2.2.2.2.2.2.1 rfl
theorem dX11_pie_28 : decode cX11_pie 28 = .ok (.iconst 0, 1) := dAt wdX11_pie_0 adX11_pie_0.2.2.2.2.2.2.2.2.2.2.2.2.2.2.1 rfl
theorem dX11_pie_29 : decode cX11_pie 29 = .ok (.ireturn, 1) := dAt wdX11_pie_0 adX11_pie_0.2.2.2.2.2.2.2.2.2.2.2.2.2.2.2 rfl
def bdX11_pie_30 : ByteArray := .mk #[42, 180, 0, 39, 44, 4, 182, 1, 74, 4, 172]
theorem wdX11_pie_30 : LocW cX11_pie 30 bdX11_pie_30 := loc_of (by decide +kernel)
theorem adX11_pie_30 : De bdX11_pie_30 0 (.aload_n 0) 1 ∧ De bdX11_pie_30 1 (.getfield 39) 3 ∧ De bdX11_pie_30 4 (.aload_n 2) 1 ∧ De bdX11_pie_30 5 (.iconst 1) 1 ∧ De bdX11_pie_30 6 (.invokevirtual 330) 3 ∧ De bdX11_pie_30 9 (.iconst 1) 1 ∧ De bdX11_pie_30 10 (.ireturn) 1 := by decide +kernel
theorem dX11_pie_30 : decode cX11_pie 30 = .ok (.aload_n 0, 1) := dAt wdX11_pie_30 adX11_pie_30.1 rfl
theorem dX11_pie_31 : decode cX11_pie 31 = .ok (.getfield 39, 3) := dAt wdX11_pie_30 adX11_pie_30.2.1 rfl
theorem dX11_pie_34 : decode cX11_pie 34 = .ok (.aload_n 2, 1) := dAt wdX11_pie_30 adX11_pie_30.2.2.1 rfl
theorem dX11_pie_35 : decode cX11_pie 35 = .ok (.iconst 1, 1) := dAt wdX11_pie_30 adX11_pie_30.2.2.2.1 rfl
theorem dX11_pie_36 : decode cX11_pie 36 = .ok (.invokevirtual 330, 3) := dAt wdX11_pie_30 adX11_pie_30.2.2.2.2.1 rfl
theorem dX11_pie_39 : decode cX11_pie 39 = .ok (.iconst 1, 1) := dAt wdX11_pie_30 adX11_pie_30.2.2.2.2.2.1 rfl
theorem dX11_pie_40 : decode cX11_pie 40 = .ok (.ireturn, 1) := dAt wdX11_pie_30 adX11_pie_30.2.2.2.2.2.2 rfl
def bdX11_change_0 : ByteArray := .mk #[42, 180, 0, 39, 27, 182, 1, 24, 78, 42, 180, 0, 39, 28, 182, 1, 24, 58, 4, 45, 198, 0, 8, 25, 4, 199, 0, 11, 187, 0, 84, 89]
theorem wdX11_change_0 : LocW cX11_change 0 bdX11_change_0 := loc_of (by decide +kernel)
theorem adX11_change_0 : De bdX11_change_0 0 (.aload_n 0) 1 ∧ De bdX11_change_0 1 (.getfield 39) 3 ∧ De bdX11_change_0 4 (.iload_n 1) 1 ∧ De bdX11_change_0 5 (.invokevirtual 280) 3 ∧ De bdX11_change_0 8 (.astore_n 3) 1 ∧ De bdX11_change_0 9 (.aload_n 0) 1 ∧ De bdX11_change_0 10 (.getfield 39) 3 ∧ De bdX11_change_0 13 (.iload_n 2) 1 ∧ De bdX11_change_0 14 (.invokevirtual 280) 3 ∧ De bdX11_change_0 17 (.astore 4) 2 ∧ De bdX11_change_0 19 (.aload_n 3) 1 ∧ De bdX11_change_0 20 (.ifnull 8) 3 ∧ De bdX11_change_0 23 (.aload 4) 2 ∧ De bdX11_change_0 25 (.ifnonnull 11) 3 ∧ De bdX11_change_0 28 (.new 84) 3 ∧ De bdX11_change_0 31 (.dup) 1 := by decide +kernel
theorem dX11_change_0 : decode cX11_change 0 = .ok (.aload_n 0, 1) := dAt wdX11_change_0 adX11_change_0.1 rfl
theorem dX11_change_1 : decode cX11_change 1 = .ok (.getfield 39, 3) := dAt wdX11_change_0 adX11_change_0.2.1 rfl
theorem dX11_change_4 : decode cX11_change 4 = .ok (.iload_n 1, 1) := dAt wdX11_change_0 adX11_change_0.2.2.1 rfl
theorem dX11_change_5 : decode cX11_change 5 = .ok (.invokevirtual 280, 3) := dAt wdX11_change_0 adX11_change_0.2.2.2.1 rfl
theorem dX11_change_8 : decode cX11_change 8 = .ok (.astore_n 3, 1) := dAt wdX11_change_0 adX11_change_0.2.2.2.2.1 rfl
theorem dX11_change_9 : decode cX11_change 9 = .ok (.aload_n 0, 1) := dAt wdX11_change_0 adX11_change_0.2.2.2.2.2.1 rfl
theorem dX11_change_10 : decode cX11_change 10 = .ok (.getfield 39, 3) := dAt wdX11_change_0 adX11_change_0.2.2.2.2.2.2.1 rfl
theorem dX11_change_13 : decode cX11_change 13 = .ok (.iload_n 2, 1) := dAt wdX11_change_0 adX11_change_0.2.2.2.2.2.2.2.1 rfl
theorem dX11_change_14 : decode cX11_change 14 = .ok (.invokevirtual 280, 3) := dAt wdX11_change_0 adX11_change_0.2.2.2.2.2.2.2.2.1 rfl
theorem dX11_change_17 : decode cX11_change 17 = .ok (.astore 4, 2) := dAt wdX11_change_0 adX11_change_0.2.2.2.2.2.2.2.2.2.1 rfl
theorem dX11_change_19 : decode cX11_change 19 = .ok (.aload_n 3, 1) := dAt wdX11_change_0 adX11_change_0.2.2.2.2.2.2.2.2.2.2.1 rfl
theorem dX11_change_20 : decode cX11_change 20 = .ok (.ifnull 8, 3) := dAt wdX11_change_0 adX11_change_0.2.2.2.2.2.2.2.2.2.2.2.1 rfl
theorem dX11_change_23 : decode cX11_change 23 = .ok (.aload 4, 2) := dAt wdX11_change_0 adX11_change_0.2.2.2.2.2.2.2.2.2.2.2.2.1 rfl
theorem dX11_change_25 : decode cX11_change 25 = .ok (.ifnonnull 11, 3) := dAt wdX11_change_0 adX11_change_0.2.2.2.2.2.2.2.2.2.2.2.2.2.1 rfl
theorem dX11_change_28 : decode cX11_change 28 = .ok (.new 84, 3) := dAt wdX11_change_0 adX11_change_0.2.2.2.2.2.2.2.2.2.2.2.2.2.2.1 rfl
theorem dX11_change_31 : decode cX11_change 31 = .ok (.dup, 1) := dAt wdX11_change_0 adX11_change_0.2.2.2.2.2.2.2.2.2.2.2.2.2.2.2 rfl
def bdX11_change_32 : ByteArray := .mk #[183, 0, 86, 191, 45, 180, 1, 42, 154, 0, 11, 25, 4, 180, 1, 42, 153, 0, 5, 3, 172, 45, 180, 1, 48, 54, 5, 45, 180, 1, 45, 54, 6]
theorem wdX11_change_32 : LocW cX11_change 32 bdX11_change_32 := loc_of (by decide +kernel)
theorem adX11_change_32 : De bdX11_change_32 0 (.invokespecial 86) 3 ∧ De bdX11_change_32 3 (.athrow) 1 ∧ De bdX11_change_32 4 (.aload_n 3) 1 ∧ De bdX11_change_32 5 (.getfield 298) 3 ∧ De bdX11_change_32 8 (.ifCond .ne 11) 3 ∧ De bdX11_change_32 11 (.aload 4) 2 ∧ De bdX11_change_32 13 (.getfield 298) 3 ∧ De bdX11_change_32 16 (.ifCond .eq 5) 3 ∧ De bdX11_change_32 19 (.iconst 0) 1 ∧ De bdX11_change_32 20 (.ireturn) 1 ∧ De bdX11_change_32 21 (.aload_n 3) 1 ∧ De bdX11_change_32 22 (.getfield 304) 3 ∧ De bdX11_change_32 25 (.istore 5) 2 ∧ De bdX11_change_32 27 (.aload_n 3) 1 ∧ De bdX11_change_32 28 (.getfield 301) 3 ∧ De bdX11_change_32 31 (.istore 6) 2 := by decide +kernel
theorem dX11_change_32 : decode cX11_change 32 = .ok (.invokespecial 86, 3) := dAt wdX11_change_32 adX11_change_32.1 rfl
theorem dX11_change_35 : decode cX11_change 35 = .ok (.athrow, 1) := dAt wdX11_change_32 adX11_change_32.2.1 rfl
theorem dX11_change_36 : decode cX11_change 36 = .ok (.aload_n 3, 1) := dAt wdX11_change_32 adX11_change_32.2.2.1 rfl
theorem dX11_change_37 : decode cX11_change 37 = .ok (.getfield 298, 3) := dAt wdX11_change_32 adX11_change_32.2.2.2.1 rfl
theorem dX11_change_40 : decode cX11_change 40 = .ok (.ifCond .ne 11, 3) := dAt wdX11_change_32 adX11_change_32.2.2.2.2.1 rfl
theorem dX11_change_43 : decode cX11_change 43 = .ok (.aload 4, 2) := dAt wdX11_change_32 adX11_change_32.2.2.2.2.2.1 rfl
theorem dX11_change_45 : decode cX11_change 45 = .ok (.getfield 298, 3) := dAt wdX11_change_32 adX11_change_32.2.2.2.2.2.2.1 rfl
theorem dX11_change_48 : decode cX11_change 48 = .ok (.ifCond .eq 5, 3) := dAt wdX11_change_32 adX11_change_32.2.2.2.2.2.2.2.1 rfl
theorem dX11_change_51 : decode cX11_change 51 = .ok (.iconst 0, 1) := dAt wdX11_change_32 adX11_change_32.2.2.2.2.2.2.2.2.1 rfl
theorem dX11_change_52 : decode cX11_change 52 = .ok (.ireturn, 1) := dAt wdX11_change_32 adX11_change_32.2.2.2.2.2.2.2.2.2.1 rfl
theorem dX11_change_53 : decode cX11_change 53 = .ok (.aload_n 3, 1) := dAt wdX11_change_32 adX11_change_32.2.2.2.2.2.2.2.2.2.2.1 rfl
theorem dX11_change_54 : decode cX11_change 54 = .ok (.getfield 304, 3) := dAt wdX11_change_32 adX11_change_32.2.2.2.2.2.2.2.2.2.2.2.1 rfl
theorem dX11_change_57 : decode cX11_change 57 = .ok (.istore 5, 2) := dAt wdX11_change_32 adX11_change_32.2.2.2.2.2.2.2.2.2.2.2.2.1 rfl
theorem dX11_change_59 : decode cX11_change 59 = .ok (.aload_n 3, 1) := dAt wdX11_change_32 adX11_change_32.2.2.2.2.2.2.2.2.2.2.2.2.2.1 rfl
theorem dX11_change_60 : decode cX11_change 60 = .ok (.getfield 301, 3) := dAt wdX11_change_32 adX11_change_32.2.2.2.2.2.2.2.2.2.2.2.2.2.2.1 rfl
theorem dX11_change_63 : decode cX11_change 63 = .ok (.istore 6, 2) := dAt wdX11_change_32 adX11_change_32.2.2.2.2.2.2.2.2.2.2.2.2.2.2.2 rfl
def bdX11_change_65 : ByteArray := .mk #[42, 180, 0, 39, 27, 25, 4, 180, 1, 48, 25, 4, 180, 1, 45, 182, 1, 78, 42, 180, 0, 39, 28, 21, 5, 21, 6, 182, 1, 78, 4, 172]
theorem wdX11_change_65 : LocW cX11_change 65 bdX11_change_65 := loc_of (by decide +kernel)
theorem adX11_change_65 : De bdX11_change_65 0 (.aload_n 0) 1 ∧ De bdX11_change_65 1 (.getfield 39) 3 ∧ De bdX11_change_65 4 (.iload_n 1) 1 ∧ De bdX11_change_65 5 (.aload 4) 2 ∧ De bdX11_change_65 7 (.getfield 304) 3 ∧ De bdX11_change_65 10 (.aload 4) 2 ∧ De bdX11_change_65 12 (.getfield 301) 3 ∧ De bdX11_change_65 15 (.invokevirtual 334) 3 ∧ De bdX11_change_65 18 (.aload_n 0) 1 ∧ De bdX11_change_65 19 (.getfield 39) 3 ∧ De bdX11_change_65 22 (.iload_n 2) 1 ∧ De bdX11_change_65 23 (.iload 5) 2 ∧ De bdX11_change_65 25 (.iload 6) 2 ∧ De bdX11_change_65 27 (.invokevirtual 334) 3 ∧ De bdX11_change_65 30 (.iconst 1) 1 ∧ De bdX11_change_65 31 (.ireturn) 1 := by decide +kernel
theorem dX11_change_65 : decode cX11_change 65 = .ok (.aload_n 0, 1) := dAt wdX11_change_65 adX11_change_65.1 rfl
theorem dX11_change_66 : decode cX11_change 66 = .ok (.getfield 39, 3) := dAt wdX11_change_65 adX11_change_65.2.1 rfl
theorem dX11_change_69 : decode cX11_change 69 = .ok (.iload_n 1, 1) := dAt wdX11_change_65 adX11_change_65.2.2.1 rfl
theorem dX11_change_70 : decode cX11_change 70 = .ok (.aload 4, 2) := dAt wdX11_change_65 adX11_change_65.2.2.2.1 rfl
theorem dX11_change_72 : decode cX11_change 72 = .ok (.getfield 304, 3) := dAt wdX11_change_65 adX11_change_65.2.2.2.2.1 rfl
theorem dX11_change_75 : decode cX11_change 75 = .ok (.aload 4, 2) := dAt wdX11_change_65 adX11_change_65.2.2.2.2.2.1 rfl
theorem dX11_change_77 : decode cX11_change 77 = .ok (.getfield 301, 3) := dAt wdX11_change_65 adX11_change_65.2.2.2.2.2.2.1 rfl
theorem dX11_change_80 : decode cX11_change 80 = .ok (.invokevirtual 334, 3) := dAt wdX11_change_65 adX11_change_65.2.2.2.2.2.2.2.1 rfl
theorem dX11_change_83 : decode cX11_change 83 = .ok (.aload_n 0, 1) := dAt wdX11_change_65 adX11_change_65.2.2.2.2.2.2.2.2.1 rfl
theorem dX11_change_84 : decode cX11_change 84 = .ok (.getfield 39, 3) := dAt wdX11_change_65 adX11_change_65.2.2.2.2.2.2.2.2.2.1 rfl
theorem dX11_change_87 : decode cX11_change 87 = .ok (.iload_n 2, 1) := dAt wdX11_change_65 adX11_change_65.2.2.2.2.2.2.2.2.2.2.1 rfl
theorem dX11_change_88 : decode cX11_change 88 = .ok (.iload 5, 2) := dAt wdX11_change_65 adX11_change_65.2.2.2.2.2.2.2.2.2.2.2.1 rfl
theorem dX11_change_90 : decode cX11_change 90 = .ok (.iload 6, 2) := dAt wdX11_change_65 adX11_change_65.2.2.2.2.2.2.2.2.2.2.2.2.1 rfl
theorem dX11_change_92 : decode cX11_change 92 = .ok (.invokevirtual 334, 3) := dAt wdX11_change_65 adX11_change_65.2.2.2.2.2.2.2.2.2.2.2.2.2.1 rfl
theorem dX11_change_95 : decode cX11_change 95 = .ok (.iconst 1, 1) := dAt wdX11_change_65 adX11_change_65.2.2.2.2.2.2.2.2.2.2.2.2.2.2.1 rfl
theorem dX11_change_96 : decode cX11_change 96 = .ok (.ireturn, 1) := dAt wdX11_change_65 adX11_change_65.2.2.2.2.2.2.2.2.2.2.2.2.2.2.2 rfl
def bdX11_again_0 : ByteArray := .mk #[42, 180, 0, 39, 27, 182, 0, 139, 58, 4, 42, 180, 0, 39, 29, 182, 0, 231, 58, 5, 25, 4, 198, 0, 8, 25, 5, 199, 0, 11, 187, 0, 84, 89]
theorem wdX11_again_0 : LocW cX11_again 0 bdX11_again_0 := loc_of (by decide +kernel)
theorem adX11_again_0 : De bdX11_again_0 0 (.aload_n 0) 1 ∧ De bdX11_again_0 1 (.getfield 39) 3 ∧ De bdX11_again_0 4 (.iload_n 1) 1 ∧ De bdX11_again_0 5 (.invokevirtual 139) 3 ∧ De bdX11_again_0 8 (.astore 4) 2 ∧ De bdX11_again_0 10 (.aload_n 0) 1 ∧ De bdX11_again_0 11 (.getfield 39) 3 ∧ De bdX11_again_0 14 (.iload_n 3) 1 ∧ De bdX11_again_0 15 (.invokevirtual 231) 3 ∧ De bdX11_again_0 18 (.astore 5) 2 ∧ De bdX11_again_0 20 (.aload 4) 2 ∧ De bdX11_again_0 22 (.ifnull 8) 3 ∧ De bdX11_again_0 25 (.aload 5) 2 ∧ De bdX11_again_0 27 (.ifnonnull 11) 3 ∧ De bdX11_again_0 30 (.new 84) 3 ∧ De bdX11_again_0 33 (.dup) 1 := by decide +kernel
theorem dX11_again_0 : decode cX11_again 0 = .ok (.aload_n 0, 1) := dAt wdX11_again_0 adX11_again_0.1 rfl
theorem dX11_again_1 : decode cX11_again 1 = .ok (.getfield 39, 3) := dAt wdX11_again_0 adX11_again_0.2.1 rfl
theorem dX11_again_4 : decode cX11_again 4 = .ok (.iload_n 1, 1) := dAt wdX11_again_0 adX11_again_0.2.2.1 rfl
theorem dX11_again_5 : decode cX11_again 5 = .ok (.invokevirtual 139, 3) := dAt wdX11_again_0 adX11_again_0.2.2.2.1 rfl
theorem dX11_again_8 : decode cX11_again 8 = .ok (.astore 4, 2) := dAt wdX11_again_0 adX11_again_0.2.2.2.2.1 rfl
theorem dX11_again_10 : decode cX11_again 10 = .ok (.aload_n 0, 1) := dAt wdX11_again_0 adX11_again_0.2.2.2.2.2.1 rfl
theorem dX11_again_11 : decode cX11_again 11 = .ok (.getfield 39, 3) := dAt wdX11_again_0 adX11_again_0.2.2.2.2.2.2.1 rfl
theorem dX11_again_14 : decode cX11_again 14 = .ok (.iload_n 3, 1) := dAt wdX11_again_0 adX11_again_0.2.2.2.2.2.2.2.1 rfl
theorem dX11_again_15 : decode cX11_again 15 = .ok (.invokevirtual 231, 3) := dAt wdX11_again_0 adX11_again_0.2.2.2.2.2.2.2.2.1 rfl
theorem dX11_again_18 : decode cX11_again 18 = .ok (.astore 5, 2) := dAt wdX11_again_0 adX11_again_0.2.2.2.2.2.2.2.2.2.1 rfl
theorem dX11_again_20 : decode cX11_again 20 = .ok (.aload 4, 2) := dAt wdX11_again_0 adX11_again_0.2.2.2.2.2.2.2.2.2.2.1 rfl
theorem dX11_again_22 : decode cX11_again 22 = .ok (.ifnull 8, 3) := dAt wdX11_again_0 adX11_again_0.2.2.2.2.2.2.2.2.2.2.2.1 rfl
theorem dX11_again_25 : decode cX11_again 25 = .ok (.aload 5, 2) := dAt wdX11_again_0 adX11_again_0.2.2.2.2.2.2.2.2.2.2.2.2.1 rfl
theorem dX11_again_27 : decode cX11_again 27 = .ok (.ifnonnull 11, 3) := dAt wdX11_again_0 adX11_again_0.2.2.2.2.2.2.2.2.2.2.2.2.2.1 rfl
theorem dX11_again_30 : decode cX11_again 30 = .ok (.new 84, 3) := dAt wdX11_again_0 adX11_again_0.2.2.2.2.2.2.2.2.2.2.2.2.2.2.1 rfl
theorem dX11_again_33 : decode cX11_again 33 = .ok (.dup, 1) := dAt wdX11_again_0 adX11_again_0.2.2.2.2.2.2.2.2.2.2.2.2.2.2.2 rfl
def bdX11_again_34 : ByteArray := .mk #[183, 0, 86, 191, 25, 4, 180, 0, 159, 154, 0, 11, 187, 1, 66, 89, 183, 1, 68, 191, 25, 4, 28, 182, 0, 208, 154, 0, 11, 187, 0, 84, 89, 183, 0, 86]
theorem wdX11_again_34 : LocW cX11_again 34 bdX11_again_34 := loc_of (by decide +kernel)
theorem adX11_again_34 : De bdX11_again_34 0 (.invokespecial 86) 3 ∧ De bdX11_again_34 3 (.athrow) 1 ∧ De bdX11_again_34 4 (.aload 4) 2 ∧ De bdX11_again_34 6 (.getfield 159) 3 ∧ De bdX11_again_34 9 (.ifCond .ne 11) 3 ∧ De bdX11_again_34 12 (.new 322) 3 ∧ De bdX11_again_34 15 (.dup) 1 ∧ De bdX11_again_34 16 (.invokespecial 324) 3 ∧ De bdX11_again_34 19 (.athrow) 1 ∧ De bdX11_again_34 20 (.aload 4) 2 ∧ De bdX11_again_34 22 (.iload_n 2) 1 ∧ De bdX11_again_34 23 (.invokevirtual 208) 3 ∧ De bdX11_again_34 26 (.ifCond .ne 11) 3 ∧ De bdX11_again_34 29 (.new 84) 3 ∧ De bdX11_again_34 32 (.dup) 1 ∧ De bdX11_again_34 33 (.invokespecial 86) 3 := by decide +kernel
theorem dX11_again_34 : decode cX11_again 34 = .ok (.invokespecial 86, 3) := dAt wdX11_again_34 adX11_again_34.1 rfl
theorem dX11_again_37 : decode cX11_again 37 = .ok (.athrow, 1) := dAt wdX11_again_34 adX11_again_34.2.1 rfl
theorem dX11_again_38 : decode cX11_again 38 = .ok (.aload 4, 2) := dAt wdX11_again_34 adX11_again_34.2.2.1 rfl
theorem dX11_again_40 : decode cX11_again 40 = .ok (.getfield 159, 3) := dAt wdX11_again_34 adX11_again_34.2.2.2.1 rfl
theorem dX11_again_43 : decode cX11_again 43 = .ok (.ifCond .ne 11, 3) := dAt wdX11_again_34 adX11_again_34.2.2.2.2.1 rfl
theorem dX11_again_46 : decode cX11_again 46 = .ok (.new 322, 3) := dAt wdX11_again_34 adX11_again_34.2.2.2.2.2.1 rfl
theorem dX11_again_49 : decode cX11_again 49 = .ok (.dup, 1) := dAt wdX11_again_34 adX11_again_34.2.2.2.2.2.2.1 rfl
theorem dX11_again_50 : decode cX11_again 50 = .ok (.invokespecial 324, 3) := dAt wdX11_again_34 adX11_again_34.2.2.2.2.2.2.2.1 rfl
theorem dX11_again_53 : decode cX11_again 53 = .ok (.athrow, 1) := dAt wdX11_again_34 adX11_again_34.2.2.2.2.2.2.2.2.1 rfl
theorem dX11_again_54 : decode cX11_again 54 = .ok (.aload 4, 2) := dAt wdX11_again_34 adX11_again_34.2.2.2.2.2.2.2.2.2.1 rfl
theorem dX11_again_56 : decode cX11_again 56 = .ok (.iload_n 2, 1) := dAt wdX11_again_34 adX11_again_34.2.2.2.2.2.2.2.2.2.2.1 rfl
theorem dX11_again_57 : decode cX11_again 57 = .ok (.invokevirtual 208, 3) := dAt wdX11_again_34 adX11_again_34.2.2.2.2.2.2.2.2.2.2.2.1 rfl
theorem dX11_again_60 : decode cX11_again 60 = .ok (.ifCond .ne 11, 3) := dAt wdX11_again_34 adX11_again_34.2.2.2.2.2.2.2.2.2.2.2.2.1 rfl
theorem dX11_again_63 : decode cX11_again 63 = .ok (.new 84, 3) := dAt wdX11_again_34 adX11_again_34.2.2.2.2.2.2.2.2.2.2.2.2.2.1 rfl
theorem dX11_again_66 : decode cX11_again 66 = .ok (.dup, 1) := dAt wdX11_again_34 adX11_again_34.2.2.2.2.2.2.2.2.2.2.2.2.2.2.1 rfl
theorem dX11_again_67 : decode cX11_again 67 = .ok (.invokespecial 86, 3) := dAt wdX11_again_34 adX11_again_34.2.2.2.2.2.2.2.2.2.2.2.2.2.2.2 rfl
def bdX11_again_70 : ByteArray := .mk #[191, 25, 5, 180, 1, 2, 16, 30, 161, 0, 11, 187, 0, 110, 89, 183, 0, 112, 191, 25, 4, 180, 1, 69, 28, 46, 2, 159, 0, 5, 2]
theorem wdX11_again_70 : LocW cX11_again 70 bdX11_again_70 := loc_of (by decide +kernel)
theorem adX11_again_70 : De bdX11_again_70 0 (.athrow) 1 ∧ De bdX11_again_70 1 (.aload 5) 2 ∧ De bdX11_again_70 3 (.getfield 258) 3 ∧ De bdX11_again_70 6 (.bipush 30) 2 ∧ De bdX11_again_70 8 (.if_icmp .lt 11) 3 ∧ De bdX11_again_70 11 (.new 110) 3 ∧ De bdX11_again_70 14 (.dup) 1 ∧ De bdX11_again_70 15 (.invokespecial 112) 3 ∧ De bdX11_again_70 18 (.athrow) 1 ∧ De bdX11_again_70 19 (.aload 4) 2 ∧ De bdX11_again_70 21 (.getfield 325) 3 ∧ De bdX11_again_70 24 (.iload_n 2) 1 ∧ De bdX11_again_70 25 (.iaload) 1 ∧ De bdX11_again_70 26 (.iconst (-1)) 1 ∧ De bdX11_again_70 27 (.if_icmp .eq 5) 3 ∧ De bdX11_again_70 30 (.iconst (-1)) 1 := by decide +kernel
theorem dX11_again_70 : decode cX11_again 70 = .ok (.athrow, 1) := dAt wdX11_again_70 adX11_again_70.1 rfl
theorem dX11_again_71 : decode cX11_again 71 = .ok (.aload 5, 2) := dAt wdX11_again_70 adX11_again_70.2.1 rfl
theorem dX11_again_73 : decode cX11_again 73 = .ok (.getfield 258, 3) := dAt wdX11_again_70 adX11_again_70.2.2.1 rfl
theorem dX11_again_76 : decode cX11_again 76 = .ok (.bipush 30, 2) := dAt wdX11_again_70 adX11_again_70.2.2.2.1 rfl
theorem dX11_again_78 : decode cX11_again 78 = .ok (.if_icmp .lt 11, 3) := dAt wdX11_again_70 adX11_again_70.2.2.2.2.1 rfl
theorem dX11_again_81 : decode cX11_again 81 = .ok (.new 110, 3) := dAt wdX11_again_70 adX11_again_70.2.2.2.2.2.1 rfl
theorem dX11_again_84 : decode cX11_again 84 = .ok (.dup, 1) := dAt wdX11_again_70 adX11_again_70.2.2.2.2.2.2.1 rfl
theorem dX11_again_85 : decode cX11_again 85 = .ok (.invokespecial 112, 3) := dAt wdX11_again_70 adX11_again_70.2.2.2.2.2.2.2.1 rfl
theorem dX11_again_88 : decode cX11_again 88 = .ok (.athrow, 1) := dAt wdX11_again_70 adX11_again_70.2.2.2.2.2.2.2.2.1 rfl
theorem dX11_again_89 : decode cX11_again 89 = .ok (.aload 4, 2) := dAt wdX11_again_70 adX11_again_70.2.2.2.2.2.2.2.2.2.1 rfl
theorem dX11_again_91 : decode cX11_again 91 = .ok (.getfield 325, 3) := dAt wdX11_again_70 adX11_again_70.2.2.2.2.2.2.2.2.2.2.1 rfl
theorem dX11_again_94 : decode cX11_again 94 = .ok (.iload_n 2, 1) := dAt wdX11_again_70 adX11_again_70.2.2.2.2.2.2.2.2.2.2.2.1 rfl
theorem dX11_again_95 : decode cX11_again 95 = .ok (.iaload, 1) := dAt wdX11_again_70 adX11_again_70.2.2.2.2.2.2.2.2.2.2.2.2.1 rfl
theorem dX11_again_96 : decode cX11_again 96 = .ok (.iconst (-1), 1) := dAt wdX11_again_70 adX11_again_70.2.2.2.2.2.2.2.2.2.2.2.2.2.1 rfl
theorem dX11_again_97 : decode cX11_again 97 = .ok (.if_icmp .eq 5, 3) := dAt wdX11_again_70 adX11_again_70.2.2.2.2.2.2.2.2.2.2.2.2.2.2.1 rfl
theorem dX11_again_100 : decode cX11_again 100 = .ok (.iconst (-1), 1) := dAt wdX11_again_70 adX11_again_70.2.2.2.2.2.2.2.2.2.2.2.2.2.2.2 rfl
def bdX11_again_101 : ByteArray := .mk #[172, 25, 5, 27, 28, 28, 4, 96, 3, 182, 1, 5, 25, 5, 180, 1, 2, 172]
theorem wdX11_again_101 : LocW cX11_again 101 bdX11_again_101 := loc_of (by decide +kernel)
theorem adX11_again_101 : De bdX11_again_101 0 (.ireturn) 1 ∧ De bdX11_again_101 1 (.aload 5) 2 ∧ De bdX11_again_101 3 (.iload_n 1) 1 ∧ De bdX11_again_101 4 (.iload_n 2) 1 ∧ De bdX11_again_101 5 (.iload_n 2) 1 ∧ De bdX11_again_101 6 (.iconst 1) 1 ∧ De bdX11_again_101 7 (.iadd) 1 ∧ De bdX11_again_101 8 (.iconst 0) 1 ∧ De bdX11_again_101 9 (.invokevirtual 261) 3 ∧ De bdX11_again_101 12 (.aload 5) 2 ∧ De bdX11_again_101 14 (.getfield 258) 3 ∧ De bdX11_again_101 17 (.ireturn) 1 := by decide +kernel
theorem dX11_again_101 : decode cX11_again 101 = .ok (.ireturn, 1) := dAt wdX11_again_101 adX11_again_101.1 rfl
theorem dX11_again_102 : decode cX11_again 102 = .ok (.aload 5, 2) := dAt wdX11_again_101 adX11_again_101.2.1 rfl
theorem dX11_again_104 : decode cX11_again 104 = .ok (.iload_n 1, 1) := dAt wdX11_again_101 adX11_again_101.2.2.1 rfl
theorem dX11_again_105 : decode cX11_again 105 = .ok (.iload_n 2, 1) := dAt wdX11_again_101 adX11_again_101.2.2.2.1 rfl
theorem dX11_again_106 : decode cX11_again 106 = .ok (.iload_n 2, 1) := dAt wdX11_again_101 adX11_again_101.2.2.2.2.1 rfl
theorem dX11_again_107 : decode cX11_again 107 = .ok (.iconst 1, 1) := dAt wdX11_again_101 adX11_again_101.2.2.2.2.2.1 rfl
theorem dX11_again_108 : decode cX11_again 108 = .ok (.iadd, 1) := dAt wdX11_again_101 adX11_again_101.2.2.2.2.2.2.1 rfl
theorem dX11_again_109 : decode cX11_again 109 = .ok (.iconst 0, 1) := dAt wdX11_again_101 adX11_again_101.2.2.2.2.2.2.2.1 rfl
theorem dX11_again_110 : decode cX11_again 110 = .ok (.invokevirtual 261, 3) := dAt wdX11_again_101 adX11_again_101.2.2.2.2.2.2.2.2.1 rfl
theorem dX11_again_113 : decode cX11_again 113 = .ok (.aload 5, 2) := dAt wdX11_again_101 adX11_again_101.2.2.2.2.2.2.2.2.2.1 rfl
theorem dX11_again_115 : decode cX11_again 115 = .ok (.getfield 258, 3) := dAt wdX11_again_101 adX11_again_101.2.2.2.2.2.2.2.2.2.2.1 rfl
theorem dX11_again_118 : decode cX11_again 118 = .ok (.ireturn, 1) := dAt wdX11_again_101 adX11_again_101.2.2.2.2.2.2.2.2.2.2.2 rfl
def bdX11_correct_0 : ByteArray := .mk #[42, 182, 0, 94, 54, 4, 42, 180, 0, 39, 27, 182, 0, 139, 58, 5, 42, 180, 0, 39, 29, 182, 0, 231, 58, 6, 25, 5, 198, 0, 21, 25, 6]
theorem wdX11_correct_0 : LocW cX11_correct 0 bdX11_correct_0 := loc_of (by decide +kernel)
theorem adX11_correct_0 : De bdX11_correct_0 0 (.aload_n 0) 1 ∧ De bdX11_correct_0 1 (.invokevirtual 94) 3 ∧ De bdX11_correct_0 4 (.istore 4) 2 ∧ De bdX11_correct_0 6 (.aload_n 0) 1 ∧ De bdX11_correct_0 7 (.getfield 39) 3 ∧ De bdX11_correct_0 10 (.iload_n 1) 1 ∧ De bdX11_correct_0 11 (.invokevirtual 139) 3 ∧ De bdX11_correct_0 14 (.astore 5) 2 ∧ De bdX11_correct_0 16 (.aload_n 0) 1 ∧ De bdX11_correct_0 17 (.getfield 39) 3 ∧ De bdX11_correct_0 20 (.iload_n 3) 1 ∧ De bdX11_correct_0 21 (.invokevirtual 231) 3 ∧ De bdX11_correct_0 24 (.astore 6) 2 ∧ De bdX11_correct_0 26 (.aload 5) 2 ∧ De bdX11_correct_0 28 (.ifnull 21) 3 ∧ De bdX11_correct_0 31 (.aload 6) 2 := by decide +kernel
theorem dX11_correct_0 : decode cX11_correct 0 = .ok (.aload_n 0, 1) := dAt wdX11_correct_0 adX11_correct_0.1 rfl
theorem dX11_correct_1 : decode cX11_correct 1 = .ok (.invokevirtual 94, 3) := dAt wdX11_correct_0 adX11_correct_0.2.1 rfl
theorem dX11_correct_4 : decode cX11_correct 4 = .ok (.istore 4, 2) := dAt wdX11_correct_0 adX11_correct_0.2.2.1 rfl
theorem dX11_correct_6 : decode cX11_correct 6 = .ok (.aload_n 0, 1) := dAt wdX11_correct_0 adX11_correct_0.2.2.2.1 rfl
theorem dX11_correct_7 : decode cX11_correct 7 = .ok (.getfield 39, 3) := dAt wdX11_correct_0 adX11_correct_0.2.2.2.2.1 rfl
theorem dX11_correct_10 : decode cX11_correct 10 = .ok (.iload_n 1, 1) := dAt wdX11_correct_0 adX11_correct_0.2.2.2.2.2.1 rfl
theorem dX11_correct_11 : decode cX11_correct 11 = .ok (.invokevirtual 139, 3) := dAt wdX11_correct_0 adX11_correct_0.2.2.2.2.2.2.1 rfl
theorem dX11_correct_14 : decode cX11_correct 14 = .ok (.astore 5, 2) := dAt wdX11_correct_0 adX11_correct_0.2.2.2.2.2.2.2.1 rfl
theorem dX11_correct_16 : decode cX11_correct 16 = .ok (.aload_n 0, 1) := dAt wdX11_correct_0 adX11_correct_0.2.2.2.2.2.2.2.2.1 rfl
theorem dX11_correct_17 : decode cX11_correct 17 = .ok (.getfield 39, 3) := dAt wdX11_correct_0 adX11_correct_0.2.2.2.2.2.2.2.2.2.1 rfl
theorem dX11_correct_20 : decode cX11_correct 20 = .ok (.iload_n 3, 1) := dAt wdX11_correct_0 adX11_correct_0.2.2.2.2.2.2.2.2.2.2.1 rfl
theorem dX11_correct_21 : decode cX11_correct 21 = .ok (.invokevirtual 231, 3) := dAt wdX11_correct_0 adX11_correct_0.2.2.2.2.2.2.2.2.2.2.2.1 rfl
theorem dX11_correct_24 : decode cX11_correct 24 = .ok (.astore 6, 2) := dAt wdX11_correct_0 adX11_correct_0.2.2.2.2.2.2.2.2.2.2.2.2.1 rfl
theorem dX11_correct_26 : decode cX11_correct 26 = .ok (.aload 5, 2) := dAt wdX11_correct_0 adX11_correct_0.2.2.2.2.2.2.2.2.2.2.2.2.2.1 rfl
theorem dX11_correct_28 : decode cX11_correct 28 = .ok (.ifnull 21, 3) := dAt wdX11_correct_0 adX11_correct_0.2.2.2.2.2.2.2.2.2.2.2.2.2.2.1 rfl
theorem dX11_correct_31 : decode cX11_correct 31 = .ok (.aload 6, 2) := dAt wdX11_correct_0 adX11_correct_0.2.2.2.2.2.2.2.2.2.2.2.2.2.2.2 rfl
def bdX11_correct_33 : ByteArray := .mk #[198, 0, 16, 28, 155, 0, 12, 28, 25, 5, 180, 0, 143, 161, 0, 11, 187, 0, 84, 89, 183, 0, 86, 191, 25, 5, 180, 0, 146, 25, 5, 28, 182, 1, 81]
theorem wdX11_correct_33 : LocW cX11_correct 33 bdX11_correct_33 := loc_of (by decide +kernel)
theorem adX11_correct_33 : De bdX11_correct_33 0 (.ifnull 16) 3 ∧ De bdX11_correct_33 3 (.iload_n 2) 1 ∧ De bdX11_correct_33 4 (.ifCond .lt 12) 3 ∧ De bdX11_correct_33 7 (.iload_n 2) 1 ∧ De bdX11_correct_33 8 (.aload 5) 2 ∧ De bdX11_correct_33 10 (.getfield 143) 3 ∧ De bdX11_correct_33 13 (.if_icmp .lt 11) 3 ∧ De bdX11_correct_33 16 (.new 84) 3 ∧ De bdX11_correct_33 19 (.dup) 1 ∧ De bdX11_correct_33 20 (.invokespecial 86) 3 ∧ De bdX11_correct_33 23 (.athrow) 1 ∧ De bdX11_correct_33 24 (.aload 5) 2 ∧ De bdX11_correct_33 26 (.getfield 146) 3 ∧ De bdX11_correct_33 29 (.aload 5) 2 ∧ De bdX11_correct_33 31 (.iload_n 2) 1 ∧ De bdX11_correct_33 32 (.invokevirtual 337) 3 := by decide +kernel
theorem dX11_correct_33 : decode cX11_correct 33 = .ok (.ifnull 16, 3) := dAt wdX11_correct_33 adX11_correct_33.1 rfl
theorem dX11_correct_36 : decode cX11_correct 36 = .ok (.iload_n 2, 1) := dAt wdX11_correct_33 adX11_correct_33.2.1 rfl
theorem dX11_correct_37 : decode cX11_correct 37 = .ok (.ifCond .lt 12, 3) := dAt wdX11_correct_33 adX11_correct_33.2.2.1 rfl
theorem dX11_correct_40 : decode cX11_correct 40 = .ok (.iload_n 2, 1) := dAt wdX11_correct_33 adX11_correct_33.2.2.2.1 rfl
theorem dX11_correct_41 : decode cX11_correct 41 = .ok (.aload 5, 2) := dAt wdX11_correct_33 adX11_correct_33.2.2.2.2.1 rfl
theorem dX11_correct_43 : decode cX11_correct 43 = .ok (.getfield 143, 3) := dAt wdX11_correct_33 adX11_correct_33.2.2.2.2.2.1 rfl
theorem dX11_correct_46 : decode cX11_correct 46 = .ok (.if_icmp .lt 11, 3) := dAt wdX11_correct_33 adX11_correct_33.2.2.2.2.2.2.1 rfl
theorem dX11_correct_49 : decode cX11_correct 49 = .ok (.new 84, 3) := dAt wdX11_correct_33 adX11_correct_33.2.2.2.2.2.2.2.1 rfl
theorem dX11_correct_52 : decode cX11_correct 52 = .ok (.dup, 1) := dAt wdX11_correct_33 adX11_correct_33.2.2.2.2.2.2.2.2.1 rfl
theorem dX11_correct_53 : decode cX11_correct 53 = .ok (.invokespecial 86, 3) := dAt wdX11_correct_33 adX11_correct_33.2.2.2.2.2.2.2.2.2.1 rfl
theorem dX11_correct_56 : decode cX11_correct 56 = .ok (.athrow, 1) := dAt wdX11_correct_33 adX11_correct_33.2.2.2.2.2.2.2.2.2.2.1 rfl
theorem dX11_correct_57 : decode cX11_correct 57 = .ok (.aload 5, 2) := dAt wdX11_correct_33 adX11_correct_33.2.2.2.2.2.2.2.2.2.2.2.1 rfl
theorem dX11_correct_59 : decode cX11_correct 59 = .ok (.getfield 146, 3) := dAt wdX11_correct_33 adX11_correct_33.2.2.2.2.2.2.2.2.2.2.2.2.1 rfl
theorem dX11_correct_62 : decode cX11_correct 62 = .ok (.aload 5, 2) := dAt wdX11_correct_33 adX11_correct_33.2.2.2.2.2.2.2.2.2.2.2.2.2.1 rfl
theorem dX11_correct_64 : decode cX11_correct 64 = .ok (.iload_n 2, 1) := dAt wdX11_correct_33 adX11_correct_33.2.2.2.2.2.2.2.2.2.2.2.2.2.2.1 rfl
theorem dX11_correct_65 : decode cX11_correct 65 = .ok (.invokevirtual 337, 3) := dAt wdX11_correct_33 adX11_correct_33.2.2.2.2.2.2.2.2.2.2.2.2.2.2.2 rfl
def bdX11_correct_68 : ByteArray := .mk #[100, 54, 7, 42, 42, 180, 0, 9, 21, 4, 4, 4, 21, 7, 184, 0, 101, 181, 0, 17, 42, 180, 0, 17, 2, 159, 0, 11, 187, 0, 87]
theorem wdX11_correct_68 : LocW cX11_correct 68 bdX11_correct_68 := loc_of (by decide +kernel)
theorem adX11_correct_68 : De bdX11_correct_68 0 (.isub) 1 ∧ De bdX11_correct_68 1 (.istore 7) 2 ∧ De bdX11_correct_68 3 (.aload_n 0) 1 ∧ De bdX11_correct_68 4 (.aload_n 0) 1 ∧ De bdX11_correct_68 5 (.getfield 9) 3 ∧ De bdX11_correct_68 8 (.iload 4) 2 ∧ De bdX11_correct_68 10 (.iconst 1) 1 ∧ De bdX11_correct_68 11 (.iconst 1) 1 ∧ De bdX11_correct_68 12 (.iload 7) 2 ∧ De bdX11_correct_68 14 (.invokestatic 101) 3 ∧ De bdX11_correct_68 17 (.putfield 17) 3 ∧ De bdX11_correct_68 20 (.aload_n 0) 1 ∧ De bdX11_correct_68 21 (.getfield 17) 3 ∧ De bdX11_correct_68 24 (.iconst (-1)) 1 ∧ De bdX11_correct_68 25 (.if_icmp .eq 11) 3 ∧ De bdX11_correct_68 28 (.new 87) 3 := by decide +kernel
theorem dX11_correct_68 : decode cX11_correct 68 = .ok (.isub, 1) := dAt wdX11_correct_68 adX11_correct_68.1 rfl
theorem dX11_correct_69 : decode cX11_correct 69 = .ok (.istore 7, 2) := dAt wdX11_correct_68 adX11_correct_68.2.1 rfl
theorem dX11_correct_71 : decode cX11_correct 71 = .ok (.aload_n 0, 1) := dAt wdX11_correct_68 adX11_correct_68.2.2.1 rfl
theorem dX11_correct_72 : decode cX11_correct 72 = .ok (.aload_n 0, 1) := dAt wdX11_correct_68 adX11_correct_68.2.2.2.1 rfl
theorem dX11_correct_73 : decode cX11_correct 73 = .ok (.getfield 9, 3) := dAt wdX11_correct_68 adX11_correct_68.2.2.2.2.1 rfl
theorem dX11_correct_76 : decode cX11_correct 76 = .ok (.iload 4, 2) := dAt wdX11_correct_68 adX11_correct_68.2.2.2.2.2.1 rfl
theorem dX11_correct_78 : decode cX11_correct 78 = .ok (.iconst 1, 1) := dAt wdX11_correct_68 adX11_correct_68.2.2.2.2.2.2.1 rfl
theorem dX11_correct_79 : decode cX11_correct 79 = .ok (.iconst 1, 1) := dAt wdX11_correct_68 adX11_correct_68.2.2.2.2.2.2.2.1 rfl
theorem dX11_correct_80 : decode cX11_correct 80 = .ok (.iload 7, 2) := dAt wdX11_correct_68 adX11_correct_68.2.2.2.2.2.2.2.2.1 rfl
theorem dX11_correct_82 : decode cX11_correct 82 = .ok (.invokestatic 101, 3) := dAt wdX11_correct_68 adX11_correct_68.2.2.2.2.2.2.2.2.2.1 rfl
theorem dX11_correct_85 : decode cX11_correct 85 = .ok (.putfield 17, 3) := dAt wdX11_correct_68 adX11_correct_68.2.2.2.2.2.2.2.2.2.2.1 rfl
theorem dX11_correct_88 : decode cX11_correct 88 = .ok (.aload_n 0, 1) := dAt wdX11_correct_68 adX11_correct_68.2.2.2.2.2.2.2.2.2.2.2.1 rfl
theorem dX11_correct_89 : decode cX11_correct 89 = .ok (.getfield 17, 3) := dAt wdX11_correct_68 adX11_correct_68.2.2.2.2.2.2.2.2.2.2.2.2.1 rfl
theorem dX11_correct_92 : decode cX11_correct 92 = .ok (.iconst (-1), 1) := dAt wdX11_correct_68 adX11_correct_68.2.2.2.2.2.2.2.2.2.2.2.2.2.1 rfl
theorem dX11_correct_93 : decode cX11_correct 93 = .ok (.if_icmp .eq 11, 3) := dAt wdX11_correct_68 adX11_correct_68.2.2.2.2.2.2.2.2.2.2.2.2.2.2.1 rfl
theorem dX11_correct_96 : decode cX11_correct 96 = .ok (.new 87, 3) := dAt wdX11_correct_68 adX11_correct_68.2.2.2.2.2.2.2.2.2.2.2.2.2.2.2 rfl
def bdX11_correct_99 : ByteArray := .mk #[89, 183, 0, 89, 191, 25, 5, 180, 0, 159, 153, 0, 22, 42, 180, 0, 39, 27, 182, 1, 84, 153, 0, 11, 187, 1, 66, 89, 183, 1, 68, 191, 25, 6]
theorem wdX11_correct_99 : LocW cX11_correct 99 bdX11_correct_99 := loc_of (by decide +kernel)
theorem adX11_correct_99 : De bdX11_correct_99 0 (.dup) 1 ∧ De bdX11_correct_99 1 (.invokespecial 89) 3 ∧ De bdX11_correct_99 4 (.athrow) 1 ∧ De bdX11_correct_99 5 (.aload 5) 2 ∧ De bdX11_correct_99 7 (.getfield 159) 3 ∧ De bdX11_correct_99 10 (.ifCond .eq 22) 3 ∧ De bdX11_correct_99 13 (.aload_n 0) 1 ∧ De bdX11_correct_99 14 (.getfield 39) 3 ∧ De bdX11_correct_99 17 (.iload_n 1) 1 ∧ De bdX11_correct_99 18 (.invokevirtual 340) 3 ∧ De bdX11_correct_99 21 (.ifCond .eq 11) 3 ∧ De bdX11_correct_99 24 (.new 322) 3 ∧ De bdX11_correct_99 27 (.dup) 1 ∧ De bdX11_correct_99 28 (.invokespecial 324) 3 ∧ De bdX11_correct_99 31 (.athrow) 1 ∧ De bdX11_correct_99 32 (.aload 6) 2 := by decide +kernel
theorem dX11_correct_99 : decode cX11_correct 99 = .ok (.dup, 1) := dAt wdX11_correct_99 adX11_correct_99.1 rfl
theorem dX11_correct_100 : decode cX11_correct 100 = .ok (.invokespecial 89, 3) := dAt wdX11_correct_99 adX11_correct_99.2.1 rfl
theorem dX11_correct_103 : decode cX11_correct 103 = .ok (.athrow, 1) := dAt wdX11_correct_99 adX11_correct_99.2.2.1 rfl
theorem dX11_correct_104 : decode cX11_correct 104 = .ok (.aload 5, 2) := dAt wdX11_correct_99 adX11_correct_99.2.2.2.1 rfl
theorem dX11_correct_106 : decode cX11_correct 106 = .ok (.getfield 159, 3) := dAt wdX11_correct_99 adX11_correct_99.2.2.2.2.1 rfl
theorem dX11_correct_109 : decode cX11_correct 109 = .ok (.ifCond .eq 22, 3) := dAt wdX11_correct_99 adX11_correct_99.2.2.2.2.2.1 rfl
theorem dX11_correct_112 : decode cX11_correct 112 = .ok (.aload_n 0, 1) := dAt wdX11_correct_99 adX11_correct_99.2.2.2.2.2.2.1 rfl
theorem dX11_correct_113 : decode cX11_correct 113 = .ok (.getfield 39, 3) := dAt wdX11_correct_99 adX11_correct_99.2.2.2.2.2.2.2.1 rfl
theorem dX11_correct_116 : decode cX11_correct 116 = .ok (.iload_n 1, 1) := dAt wdX11_correct_99 adX11_correct_99.2.2.2.2.2.2.2.2.1 rfl
theorem dX11_correct_117 : decode cX11_correct 117 = .ok (.invokevirtual 340, 3) := dAt wdX11_correct_99 adX11_correct_99.2.2.2.2.2.2.2.2.2.1 rfl
theorem dX11_correct_120 : decode cX11_correct 120 = .ok (.ifCond .eq 11, 3) := dAt wdX11_correct_99 adX11_correct_99.2.2.2.2.2.2.2.2.2.2.1 rfl
theorem dX11_correct_123 : decode cX11_correct 123 = .ok (.new 322, 3) := dAt wdX11_correct_99 adX11_correct_99.2.2.2.2.2.2.2.2.2.2.2.1 rfl
theorem dX11_correct_126 : decode cX11_correct 126 = .ok (.dup, 1) := dAt wdX11_correct_99 adX11_correct_99.2.2.2.2.2.2.2.2.2.2.2.2.1 rfl
theorem dX11_correct_127 : decode cX11_correct 127 = .ok (.invokespecial 324, 3) := dAt wdX11_correct_99 adX11_correct_99.2.2.2.2.2.2.2.2.2.2.2.2.2.1 rfl
theorem dX11_correct_130 : decode cX11_correct 130 = .ok (.athrow, 1) := dAt wdX11_correct_99 adX11_correct_99.2.2.2.2.2.2.2.2.2.2.2.2.2.2.1 rfl
theorem dX11_correct_131 : decode cX11_correct 131 = .ok (.aload 6, 2) := dAt wdX11_correct_99 adX11_correct_99.2.2.2.2.2.2.2.2.2.2.2.2.2.2.2 rfl
def bdX11_correct_133 : ByteArray := .mk #[180, 1, 2, 16, 30, 161, 0, 11, 187, 0, 110, 89, 183, 0, 112, 191, 42, 180, 0, 32, 25, 5, 28, 42, 180, 0, 9, 21, 4, 182, 1, 87, 42]
theorem wdX11_correct_133 : LocW cX11_correct 133 bdX11_correct_133 := loc_of (by decide +kernel)
theorem adX11_correct_133 : De bdX11_correct_133 0 (.getfield 258) 3 ∧ De bdX11_correct_133 3 (.bipush 30) 2 ∧ De bdX11_correct_133 5 (.if_icmp .lt 11) 3 ∧ De bdX11_correct_133 8 (.new 110) 3 ∧ De bdX11_correct_133 11 (.dup) 1 ∧ De bdX11_correct_133 12 (.invokespecial 112) 3 ∧ De bdX11_correct_133 15 (.athrow) 1 ∧ De bdX11_correct_133 16 (.aload_n 0) 1 ∧ De bdX11_correct_133 17 (.getfield 32) 3 ∧ De bdX11_correct_133 20 (.aload 5) 2 ∧ De bdX11_correct_133 22 (.iload_n 2) 1 ∧ De bdX11_correct_133 23 (.aload_n 0) 1 ∧ De bdX11_correct_133 24 (.getfield 9) 3 ∧ De bdX11_correct_133 27 (.iload 4) 2 ∧ De bdX11_correct_133 29 (.invokevirtual 343) 3 ∧ De bdX11_correct_133 32 (.aload_n 0) 1 := by decide +kernel
theorem dX11_correct_133 : decode cX11_correct 133 = .ok (.getfield 258, 3) := dAt wdX11_correct_133 adX11_correct_133.1 rfl
theorem dX11_correct_136 : decode cX11_correct 136 = .ok (.bipush 30, 2) := dAt wdX11_correct_133 adX11_correct_133.2.1 rfl
theorem dX11_correct_138 : decode cX11_correct 138 = .ok (.if_icmp .lt 11, 3) := dAt wdX11_correct_133 adX11_correct_133.2.2.1 rfl
theorem dX11_correct_141 : decode cX11_correct 141 = .ok (.new 110, 3) := dAt wdX11_correct_133 adX11_correct_133.2.2.2.1 rfl
theorem dX11_correct_144 : decode cX11_correct 144 = .ok (.dup, 1) := dAt wdX11_correct_133 adX11_correct_133.2.2.2.2.1 rfl
theorem dX11_correct_145 : decode cX11_correct 145 = .ok (.invokespecial 112, 3) := dAt wdX11_correct_133 adX11_correct_133.2.2.2.2.2.1 rfl
theorem dX11_correct_148 : decode cX11_correct 148 = .ok (.athrow, 1) := dAt wdX11_correct_133 adX11_correct_133.2.2.2.2.2.2.1 rfl
theorem dX11_correct_149 : decode cX11_correct 149 = .ok (.aload_n 0, 1) := dAt wdX11_correct_133 adX11_correct_133.2.2.2.2.2.2.2.1 rfl
theorem dX11_correct_150 : decode cX11_correct 150 = .ok (.getfield 32, 3) := dAt wdX11_correct_133 adX11_correct_133.2.2.2.2.2.2.2.2.1 rfl
theorem dX11_correct_153 : decode cX11_correct 153 = .ok (.aload 5, 2) := dAt wdX11_correct_133 adX11_correct_133.2.2.2.2.2.2.2.2.2.1 rfl
theorem dX11_correct_155 : decode cX11_correct 155 = .ok (.iload_n 2, 1) := dAt wdX11_correct_133 adX11_correct_133.2.2.2.2.2.2.2.2.2.2.1 rfl
theorem dX11_correct_156 : decode cX11_correct 156 = .ok (.aload_n 0, 1) := dAt wdX11_correct_133 adX11_correct_133.2.2.2.2.2.2.2.2.2.2.2.1 rfl
theorem dX11_correct_157 : decode cX11_correct 157 = .ok (.getfield 9, 3) := dAt wdX11_correct_133 adX11_correct_133.2.2.2.2.2.2.2.2.2.2.2.2.1 rfl
theorem dX11_correct_160 : decode cX11_correct 160 = .ok (.iload 4, 2) := dAt wdX11_correct_133 adX11_correct_133.2.2.2.2.2.2.2.2.2.2.2.2.2.1 rfl
theorem dX11_correct_162 : decode cX11_correct 162 = .ok (.invokevirtual 343, 3) := dAt wdX11_correct_133 adX11_correct_133.2.2.2.2.2.2.2.2.2.2.2.2.2.2.1 rfl
theorem dX11_correct_165 : decode cX11_correct 165 = .ok (.aload_n 0, 1) := dAt wdX11_correct_133 adX11_correct_133.2.2.2.2.2.2.2.2.2.2.2.2.2.2.2 rfl
def bdX11_correct_166 : ByteArray := .mk #[180, 0, 39, 27, 28, 42, 180, 0, 32, 25, 6, 182, 1, 91, 172]
theorem wdX11_correct_166 : LocW cX11_correct 166 bdX11_correct_166 := loc_of (by decide +kernel)
theorem adX11_correct_166 : De bdX11_correct_166 0 (.getfield 39) 3 ∧ De bdX11_correct_166 3 (.iload_n 1) 1 ∧ De bdX11_correct_166 4 (.iload_n 2) 1 ∧ De bdX11_correct_166 5 (.aload_n 0) 1 ∧ De bdX11_correct_166 6 (.getfield 32) 3 ∧ De bdX11_correct_166 9 (.aload 6) 2 ∧ De bdX11_correct_166 11 (.invokevirtual 347) 3 ∧ De bdX11_correct_166 14 (.ireturn) 1 := by decide +kernel
theorem dX11_correct_166 : decode cX11_correct 166 = .ok (.getfield 39, 3) := dAt wdX11_correct_166 adX11_correct_166.1 rfl
theorem dX11_correct_169 : decode cX11_correct 169 = .ok (.iload_n 1, 1) := dAt wdX11_correct_166 adX11_correct_166.2.1 rfl
theorem dX11_correct_170 : decode cX11_correct 170 = .ok (.iload_n 2, 1) := dAt wdX11_correct_166 adX11_correct_166.2.2.1 rfl
theorem dX11_correct_171 : decode cX11_correct 171 = .ok (.aload_n 0, 1) := dAt wdX11_correct_166 adX11_correct_166.2.2.2.1 rfl
theorem dX11_correct_172 : decode cX11_correct 172 = .ok (.getfield 32, 3) := dAt wdX11_correct_166 adX11_correct_166.2.2.2.2.1 rfl
theorem dX11_correct_175 : decode cX11_correct 175 = .ok (.aload 6, 2) := dAt wdX11_correct_166 adX11_correct_166.2.2.2.2.2.1 rfl
theorem dX11_correct_177 : decode cX11_correct 177 = .ok (.invokevirtual 347, 3) := dAt wdX11_correct_166 adX11_correct_166.2.2.2.2.2.2.1 rfl
theorem dX11_correct_180 : decode cX11_correct 180 = .ok (.ireturn, 1) := dAt wdX11_correct_166 adX11_correct_166.2.2.2.2.2.2.2 rfl
def bdX11_slip_0 : ByteArray := .mk #[42, 180, 0, 39, 27, 182, 1, 24, 58, 4, 25, 4, 199, 0, 11, 187, 0, 84, 89, 183, 0, 86, 191, 25, 4, 28, 182, 1, 95, 54, 5, 21, 5]
theorem wdX11_slip_0 : LocW cX11_slip 0 bdX11_slip_0 := loc_of (by decide +kernel)
theorem adX11_slip_0 : De bdX11_slip_0 0 (.aload_n 0) 1 ∧ De bdX11_slip_0 1 (.getfield 39) 3 ∧ De bdX11_slip_0 4 (.iload_n 1) 1 ∧ De bdX11_slip_0 5 (.invokevirtual 280) 3 ∧ De bdX11_slip_0 8 (.astore 4) 2 ∧ De bdX11_slip_0 10 (.aload 4) 2 ∧ De bdX11_slip_0 12 (.ifnonnull 11) 3 ∧ De bdX11_slip_0 15 (.new 84) 3 ∧ De bdX11_slip_0 18 (.dup) 1 ∧ De bdX11_slip_0 19 (.invokespecial 86) 3 ∧ De bdX11_slip_0 22 (.athrow) 1 ∧ De bdX11_slip_0 23 (.aload 4) 2 ∧ De bdX11_slip_0 25 (.iload_n 2) 1 ∧ De bdX11_slip_0 26 (.invokevirtual 351) 3 ∧ De bdX11_slip_0 29 (.istore 5) 2 ∧ De bdX11_slip_0 31 (.iload 5) 2 := by decide +kernel
theorem dX11_slip_0 : decode cX11_slip 0 = .ok (.aload_n 0, 1) := dAt wdX11_slip_0 adX11_slip_0.1 rfl
theorem dX11_slip_1 : decode cX11_slip 1 = .ok (.getfield 39, 3) := dAt wdX11_slip_0 adX11_slip_0.2.1 rfl
theorem dX11_slip_4 : decode cX11_slip 4 = .ok (.iload_n 1, 1) := dAt wdX11_slip_0 adX11_slip_0.2.2.1 rfl
theorem dX11_slip_5 : decode cX11_slip 5 = .ok (.invokevirtual 280, 3) := dAt wdX11_slip_0 adX11_slip_0.2.2.2.1 rfl
theorem dX11_slip_8 : decode cX11_slip 8 = .ok (.astore 4, 2) := dAt wdX11_slip_0 adX11_slip_0.2.2.2.2.1 rfl
theorem dX11_slip_10 : decode cX11_slip 10 = .ok (.aload 4, 2) := dAt wdX11_slip_0 adX11_slip_0.2.2.2.2.2.1 rfl
theorem dX11_slip_12 : decode cX11_slip 12 = .ok (.ifnonnull 11, 3) := dAt wdX11_slip_0 adX11_slip_0.2.2.2.2.2.2.1 rfl
theorem dX11_slip_15 : decode cX11_slip 15 = .ok (.new 84, 3) := dAt wdX11_slip_0 adX11_slip_0.2.2.2.2.2.2.2.1 rfl
theorem dX11_slip_18 : decode cX11_slip 18 = .ok (.dup, 1) := dAt wdX11_slip_0 adX11_slip_0.2.2.2.2.2.2.2.2.1 rfl
theorem dX11_slip_19 : decode cX11_slip 19 = .ok (.invokespecial 86, 3) := dAt wdX11_slip_0 adX11_slip_0.2.2.2.2.2.2.2.2.2.1 rfl
theorem dX11_slip_22 : decode cX11_slip 22 = .ok (.athrow, 1) := dAt wdX11_slip_0 adX11_slip_0.2.2.2.2.2.2.2.2.2.2.1 rfl
theorem dX11_slip_23 : decode cX11_slip 23 = .ok (.aload 4, 2) := dAt wdX11_slip_0 adX11_slip_0.2.2.2.2.2.2.2.2.2.2.2.1 rfl
theorem dX11_slip_25 : decode cX11_slip 25 = .ok (.iload_n 2, 1) := dAt wdX11_slip_0 adX11_slip_0.2.2.2.2.2.2.2.2.2.2.2.2.1 rfl
theorem dX11_slip_26 : decode cX11_slip 26 = .ok (.invokevirtual 351, 3) := dAt wdX11_slip_0 adX11_slip_0.2.2.2.2.2.2.2.2.2.2.2.2.2.1 rfl
theorem dX11_slip_29 : decode cX11_slip 29 = .ok (.istore 5, 2) := dAt wdX11_slip_0 adX11_slip_0.2.2.2.2.2.2.2.2.2.2.2.2.2.2.1 rfl
theorem dX11_slip_31 : decode cX11_slip 31 = .ok (.iload 5, 2) := dAt wdX11_slip_0 adX11_slip_0.2.2.2.2.2.2.2.2.2.2.2.2.2.2.2 rfl
def bdX11_slip_33 : ByteArray := .mk #[2, 159, 0, 13, 29, 155, 0, 9, 29, 16, 26, 161, 0, 11, 187, 0, 87, 89, 183, 0, 89, 191, 25, 4, 21, 5, 16, 97, 29, 96]
theorem wdX11_slip_33 : LocW cX11_slip 33 bdX11_slip_33 := loc_of (by decide +kernel)
theorem adX11_slip_33 : De bdX11_slip_33 0 (.iconst (-1)) 1 ∧ De bdX11_slip_33 1 (.if_icmp .eq 13) 3 ∧ De bdX11_slip_33 4 (.iload_n 3) 1 ∧ De bdX11_slip_33 5 (.ifCond .lt 9) 3 ∧ De bdX11_slip_33 8 (.iload_n 3) 1 ∧ De bdX11_slip_33 9 (.bipush 26) 2 ∧ De bdX11_slip_33 11 (.if_icmp .lt 11) 3 ∧ De bdX11_slip_33 14 (.new 87) 3 ∧ De bdX11_slip_33 17 (.dup) 1 ∧ De bdX11_slip_33 18 (.invokespecial 89) 3 ∧ De bdX11_slip_33 21 (.athrow) 1 ∧ De bdX11_slip_33 22 (.aload 4) 2 ∧ De bdX11_slip_33 24 (.iload 5) 2 ∧ De bdX11_slip_33 26 (.bipush 97) 2 ∧ De bdX11_slip_33 28 (.iload_n 3) 1 ∧ De bdX11_slip_33 29 (.iadd) 1 := by decide +kernel
theorem dX11_slip_33 : decode cX11_slip 33 = .ok (.iconst (-1), 1) := dAt wdX11_slip_33 adX11_slip_33.1 rfl
theorem dX11_slip_34 : decode cX11_slip 34 = .ok (.if_icmp .eq 13, 3) := dAt wdX11_slip_33 adX11_slip_33.2.1 rfl
theorem dX11_slip_37 : decode cX11_slip 37 = .ok (.iload_n 3, 1) := dAt wdX11_slip_33 adX11_slip_33.2.2.1 rfl
theorem dX11_slip_38 : decode cX11_slip 38 = .ok (.ifCond .lt 9, 3) := dAt wdX11_slip_33 adX11_slip_33.2.2.2.1 rfl
theorem dX11_slip_41 : decode cX11_slip 41 = .ok (.iload_n 3, 1) := dAt wdX11_slip_33 adX11_slip_33.2.2.2.2.1 rfl
theorem dX11_slip_42 : decode cX11_slip 42 = .ok (.bipush 26, 2) := dAt wdX11_slip_33 adX11_slip_33.2.2.2.2.2.1 rfl
theorem dX11_slip_44 : decode cX11_slip 44 = .ok (.if_icmp .lt 11, 3) := dAt wdX11_slip_33 adX11_slip_33.2.2.2.2.2.2.1 rfl
theorem dX11_slip_47 : decode cX11_slip 47 = .ok (.new 87, 3) := dAt wdX11_slip_33 adX11_slip_33.2.2.2.2.2.2.2.1 rfl
theorem dX11_slip_50 : decode cX11_slip 50 = .ok (.dup, 1) := dAt wdX11_slip_33 adX11_slip_33.2.2.2.2.2.2.2.2.1 rfl
theorem dX11_slip_51 : decode cX11_slip 51 = .ok (.invokespecial 89, 3) := dAt wdX11_slip_33 adX11_slip_33.2.2.2.2.2.2.2.2.2.1 rfl
theorem dX11_slip_54 : decode cX11_slip 54 = .ok (.athrow, 1) := dAt wdX11_slip_33 adX11_slip_33.2.2.2.2.2.2.2.2.2.2.1 rfl
theorem dX11_slip_55 : decode cX11_slip 55 = .ok (.aload 4, 2) := dAt wdX11_slip_33 adX11_slip_33.2.2.2.2.2.2.2.2.2.2.2.1 rfl
theorem dX11_slip_57 : decode cX11_slip 57 = .ok (.iload 5, 2) := dAt wdX11_slip_33 adX11_slip_33.2.2.2.2.2.2.2.2.2.2.2.2.1 rfl
theorem dX11_slip_59 : decode cX11_slip 59 = .ok (.bipush 97, 2) := dAt wdX11_slip_33 adX11_slip_33.2.2.2.2.2.2.2.2.2.2.2.2.2.1 rfl
theorem dX11_slip_61 : decode cX11_slip 61 = .ok (.iload_n 3, 1) := dAt wdX11_slip_33 adX11_slip_33.2.2.2.2.2.2.2.2.2.2.2.2.2.2.1 rfl
theorem dX11_slip_62 : decode cX11_slip 62 = .ok (.iadd, 1) := dAt wdX11_slip_33 adX11_slip_33.2.2.2.2.2.2.2.2.2.2.2.2.2.2.2 rfl
def bdX11_slip_63 : ByteArray := .mk #[182, 1, 98, 172]
theorem wdX11_slip_63 : LocW cX11_slip 63 bdX11_slip_63 := loc_of (by decide +kernel)
theorem adX11_slip_63 : De bdX11_slip_63 0 (.invokevirtual 354) 3 ∧ De bdX11_slip_63 3 (.ireturn) 1 := by decide +kernel
theorem dX11_slip_63 : decode cX11_slip 63 = .ok (.invokevirtual 354, 3) := dAt wdX11_slip_63 adX11_slip_63.1 rfl
theorem dX11_slip_66 : decode cX11_slip 66 = .ok (.ireturn, 1) := dAt wdX11_slip_63 adX11_slip_63.2 rfl
def bdX11_read_0 : ByteArray := .mk #[42, 180, 0, 39, 28, 182, 1, 24, 78, 45, 198, 0, 12, 27, 155, 0, 8, 27, 4, 164, 0, 11, 187, 0, 84, 89, 183, 0, 86, 191]
theorem wdX11_read_0 : LocW cX11_read 0 bdX11_read_0 := loc_of (by decide +kernel)
theorem adX11_read_0 : De bdX11_read_0 0 (.aload_n 0) 1 ∧ De bdX11_read_0 1 (.getfield 39) 3 ∧ De bdX11_read_0 4 (.iload_n 2) 1 ∧ De bdX11_read_0 5 (.invokevirtual 280) 3 ∧ De bdX11_read_0 8 (.astore_n 3) 1 ∧ De bdX11_read_0 9 (.aload_n 3) 1 ∧ De bdX11_read_0 10 (.ifnull 12) 3 ∧ De bdX11_read_0 13 (.iload_n 1) 1 ∧ De bdX11_read_0 14 (.ifCond .lt 8) 3 ∧ De bdX11_read_0 17 (.iload_n 1) 1 ∧ De bdX11_read_0 18 (.iconst 1) 1 ∧ De bdX11_read_0 19 (.if_icmp .le 11) 3 ∧ De bdX11_read_0 22 (.new 84) 3 ∧ De bdX11_read_0 25 (.dup) 1 ∧ De bdX11_read_0 26 (.invokespecial 86) 3 ∧ De bdX11_read_0 29 (.athrow) 1 := by decide +kernel
theorem dX11_read_0 : decode cX11_read 0 = .ok (.aload_n 0, 1) := dAt wdX11_read_0 adX11_read_0.1 rfl
theorem dX11_read_1 : decode cX11_read 1 = .ok (.getfield 39, 3) := dAt wdX11_read_0 adX11_read_0.2.1 rfl
theorem dX11_read_4 : decode cX11_read 4 = .ok (.iload_n 2, 1) := dAt wdX11_read_0 adX11_read_0.2.2.1 rfl
theorem dX11_read_5 : decode cX11_read 5 = .ok (.invokevirtual 280, 3) := dAt wdX11_read_0 adX11_read_0.2.2.2.1 rfl
theorem dX11_read_8 : decode cX11_read 8 = .ok (.astore_n 3, 1) := dAt wdX11_read_0 adX11_read_0.2.2.2.2.1 rfl
theorem dX11_read_9 : decode cX11_read 9 = .ok (.aload_n 3, 1) := dAt wdX11_read_0 adX11_read_0.2.2.2.2.2.1 rfl
theorem dX11_read_10 : decode cX11_read 10 = .ok (.ifnull 12, 3) := dAt wdX11_read_0 adX11_read_0.2.2.2.2.2.2.1 rfl
theorem dX11_read_13 : decode cX11_read 13 = .ok (.iload_n 1, 1) := dAt wdX11_read_0 adX11_read_0.2.2.2.2.2.2.2.1 rfl
theorem dX11_read_14 : decode cX11_read 14 = .ok (.ifCond .lt 8, 3) := dAt wdX11_read_0 adX11_read_0.2.2.2.2.2.2.2.2.1 rfl
theorem dX11_read_17 : decode cX11_read 17 = .ok (.iload_n 1, 1) := dAt wdX11_read_0 adX11_read_0.2.2.2.2.2.2.2.2.2.1 rfl
theorem dX11_read_18 : decode cX11_read 18 = .ok (.iconst 1, 1) := dAt wdX11_read_0 adX11_read_0.2.2.2.2.2.2.2.2.2.2.1 rfl
theorem dX11_read_19 : decode cX11_read 19 = .ok (.if_icmp .le 11, 3) := dAt wdX11_read_0 adX11_read_0.2.2.2.2.2.2.2.2.2.2.2.1 rfl
theorem dX11_read_22 : decode cX11_read 22 = .ok (.new 84, 3) := dAt wdX11_read_0 adX11_read_0.2.2.2.2.2.2.2.2.2.2.2.2.1 rfl
theorem dX11_read_25 : decode cX11_read 25 = .ok (.dup, 1) := dAt wdX11_read_0 adX11_read_0.2.2.2.2.2.2.2.2.2.2.2.2.2.1 rfl
theorem dX11_read_26 : decode cX11_read 26 = .ok (.invokespecial 86, 3) := dAt wdX11_read_0 adX11_read_0.2.2.2.2.2.2.2.2.2.2.2.2.2.2.1 rfl
theorem dX11_read_29 : decode cX11_read 29 = .ok (.athrow, 1) := dAt wdX11_read_0 adX11_read_0.2.2.2.2.2.2.2.2.2.2.2.2.2.2.2 rfl
def bdX11_read_30 : ByteArray := .mk #[4, 27, 120, 54, 4, 45, 180, 1, 102, 21, 4, 126, 153, 0, 5, 3, 172, 45, 89, 180, 1, 102, 21, 4, 128]
theorem wdX11_read_30 : LocW cX11_read 30 bdX11_read_30 := loc_of (by decide +kernel)
theorem adX11_read_30 : De bdX11_read_30 0 (.iconst 1) 1 ∧ De bdX11_read_30 1 (.iload_n 1) 1 ∧ De bdX11_read_30 2 (.ishl) 1 ∧ De bdX11_read_30 3 (.istore 4) 2 ∧ De bdX11_read_30 5 (.aload_n 3) 1 ∧ De bdX11_read_30 6 (.getfield 358) 3 ∧ De bdX11_read_30 9 (.iload 4) 2 ∧ De bdX11_read_30 11 (.iand) 1 ∧ De bdX11_read_30 12 (.ifCond .eq 5) 3 ∧ De bdX11_read_30 15 (.iconst 0) 1 ∧ De bdX11_read_30 16 (.ireturn) 1 ∧ De bdX11_read_30 17 (.aload_n 3) 1 ∧ De bdX11_read_30 18 (.dup) 1 ∧ De bdX11_read_30 19 (.getfield 358) 3 ∧ De bdX11_read_30 22 (.iload 4) 2 ∧ De bdX11_read_30 24 (.ior) 1 := by decide +kernel
theorem dX11_read_30 : decode cX11_read 30 = .ok (.iconst 1, 1) := dAt wdX11_read_30 adX11_read_30.1 rfl
theorem dX11_read_31 : decode cX11_read 31 = .ok (.iload_n 1, 1) := dAt wdX11_read_30 adX11_read_30.2.1 rfl
theorem dX11_read_32 : decode cX11_read 32 = .ok (.ishl, 1) := dAt wdX11_read_30 adX11_read_30.2.2.1 rfl
theorem dX11_read_33 : decode cX11_read 33 = .ok (.istore 4, 2) := dAt wdX11_read_30 adX11_read_30.2.2.2.1 rfl
theorem dX11_read_35 : decode cX11_read 35 = .ok (.aload_n 3, 1) := dAt wdX11_read_30 adX11_read_30.2.2.2.2.1 rfl
theorem dX11_read_36 : decode cX11_read 36 = .ok (.getfield 358, 3) := dAt wdX11_read_30 adX11_read_30.2.2.2.2.2.1 rfl
theorem dX11_read_39 : decode cX11_read 39 = .ok (.iload 4, 2) := dAt wdX11_read_30 adX11_read_30.2.2.2.2.2.2.1 rfl
theorem dX11_read_41 : decode cX11_read 41 = .ok (.iand, 1) := dAt wdX11_read_30 adX11_read_30.2.2.2.2.2.2.2.1 rfl
theorem dX11_read_42 : decode cX11_read 42 = .ok (.ifCond .eq 5, 3) := dAt wdX11_read_30 adX11_read_30.2.2.2.2.2.2.2.2.1 rfl
theorem dX11_read_45 : decode cX11_read 45 = .ok (.iconst 0, 1) := dAt wdX11_read_30 adX11_read_30.2.2.2.2.2.2.2.2.2.1 rfl
theorem dX11_read_46 : decode cX11_read 46 = .ok (.ireturn, 1) := dAt wdX11_read_30 adX11_read_30.2.2.2.2.2.2.2.2.2.2.1 rfl
theorem dX11_read_47 : decode cX11_read 47 = .ok (.aload_n 3, 1) := dAt wdX11_read_30 adX11_read_30.2.2.2.2.2.2.2.2.2.2.2.1 rfl
theorem dX11_read_48 : decode cX11_read 48 = .ok (.dup, 1) := dAt wdX11_read_30 adX11_read_30.2.2.2.2.2.2.2.2.2.2.2.2.1 rfl
theorem dX11_read_49 : decode cX11_read 49 = .ok (.getfield 358, 3) := dAt wdX11_read_30 adX11_read_30.2.2.2.2.2.2.2.2.2.2.2.2.2.1 rfl
theorem dX11_read_52 : decode cX11_read 52 = .ok (.iload 4, 2) := dAt wdX11_read_30 adX11_read_30.2.2.2.2.2.2.2.2.2.2.2.2.2.2.1 rfl
theorem dX11_read_54 : decode cX11_read 54 = .ok (.ior, 1) := dAt wdX11_read_30 adX11_read_30.2.2.2.2.2.2.2.2.2.2.2.2.2.2.2 rfl
def bdX11_read_55 : ByteArray := .mk #[181, 1, 102, 4, 172]
theorem wdX11_read_55 : LocW cX11_read 55 bdX11_read_55 := loc_of (by decide +kernel)
theorem adX11_read_55 : De bdX11_read_55 0 (.putfield 358) 3 ∧ De bdX11_read_55 3 (.iconst 1) 1 ∧ De bdX11_read_55 4 (.ireturn) 1 := by decide +kernel
theorem dX11_read_55 : decode cX11_read 55 = .ok (.putfield 358, 3) := dAt wdX11_read_55 adX11_read_55.1 rfl
theorem dX11_read_58 : decode cX11_read 58 = .ok (.iconst 1, 1) := dAt wdX11_read_55 adX11_read_55.2.1 rfl
theorem dX11_read_59 : decode cX11_read 59 = .ok (.ireturn, 1) := dAt wdX11_read_55 adX11_read_55.2.2 rfl
def bdX11_proof_0 : ByteArray := .mk #[27]
theorem wdX11_proof_0 : LocW cX11_proof 0 bdX11_proof_0 := loc_of (by decide +kernel)
theorem adX11_proof_0 : De bdX11_proof_0 0 (.iload_n 1) 1 := by decide +kernel
theorem dX11_proof_0 : decode cX11_proof 0 = .ok (.iload_n 1, 1) := dAt wdX11_proof_0 adX11_proof_0 rfl
theorem dX11_proof_1 : decode cX11_proof 1 = .ok (.tableswitch 94 0 5 #[39, 48, 57, 66, 74, 84], 39) := by decide +kernel
def bdX11_proof_40 : ByteArray := .mk #[42, 180, 0, 39, 4, 182, 1, 105, 172, 42, 180, 0, 39, 5, 182, 1, 105, 172, 42, 180, 0, 39, 6, 182, 1, 105, 172, 42]
theorem wdX11_proof_40 : LocW cX11_proof 40 bdX11_proof_40 := loc_of (by decide +kernel)
theorem adX11_proof_40 : De bdX11_proof_40 0 (.aload_n 0) 1 ∧ De bdX11_proof_40 1 (.getfield 39) 3 ∧ De bdX11_proof_40 4 (.iconst 1) 1 ∧ De bdX11_proof_40 5 (.invokevirtual 361) 3 ∧ De bdX11_proof_40 8 (.ireturn) 1 ∧ De bdX11_proof_40 9 (.aload_n 0) 1 ∧ De bdX11_proof_40 10 (.getfield 39) 3 ∧ De bdX11_proof_40 13 (.iconst 2) 1 ∧ De bdX11_proof_40 14 (.invokevirtual 361) 3 ∧ De bdX11_proof_40 17 (.ireturn) 1 ∧ De bdX11_proof_40 18 (.aload_n 0) 1 ∧ De bdX11_proof_40 19 (.getfield 39) 3 ∧ De bdX11_proof_40 22 (.iconst 3) 1 ∧ De bdX11_proof_40 23 (.invokevirtual 361) 3 ∧ De bdX11_proof_40 26 (.ireturn) 1 ∧ De bdX11_proof_40 27 (.aload_n 0) 1 := by decide +kernel
theorem dX11_proof_40 : decode cX11_proof 40 = .ok (.aload_n 0, 1) := dAt wdX11_proof_40 adX11_proof_40.1 rfl
theorem dX11_proof_41 : decode cX11_proof 41 = .ok (.getfield 39, 3) := dAt wdX11_proof_40 adX11_proof_40.2.1 rfl
theorem dX11_proof_44 : decode cX11_proof 44 = .ok (.iconst 1, 1) := dAt wdX11_proof_40 adX11_proof_40.2.2.1 rfl
theorem dX11_proof_45 : decode cX11_proof 45 = .ok (.invokevirtual 361, 3) := dAt wdX11_proof_40 adX11_proof_40.2.2.2.1 rfl
theorem dX11_proof_48 : decode cX11_proof 48 = .ok (.ireturn, 1) := dAt wdX11_proof_40 adX11_proof_40.2.2.2.2.1 rfl
theorem dX11_proof_49 : decode cX11_proof 49 = .ok (.aload_n 0, 1) := dAt wdX11_proof_40 adX11_proof_40.2.2.2.2.2.1 rfl
theorem dX11_proof_50 : decode cX11_proof 50 = .ok (.getfield 39, 3) := dAt wdX11_proof_40 adX11_proof_40.2.2.2.2.2.2.1 rfl
theorem dX11_proof_53 : decode cX11_proof 53 = .ok (.iconst 2, 1) := dAt wdX11_proof_40 adX11_proof_40.2.2.2.2.2.2.2.1 rfl
theorem dX11_proof_54 : decode cX11_proof 54 = .ok (.invokevirtual 361, 3) := dAt wdX11_proof_40 adX11_proof_40.2.2.2.2.2.2.2.2.1 rfl
theorem dX11_proof_57 : decode cX11_proof 57 = .ok (.ireturn, 1) := dAt wdX11_proof_40 adX11_proof_40.2.2.2.2.2.2.2.2.2.1 rfl
theorem dX11_proof_58 : decode cX11_proof 58 = .ok (.aload_n 0, 1) := dAt wdX11_proof_40 adX11_proof_40.2.2.2.2.2.2.2.2.2.2.1 rfl
theorem dX11_proof_59 : decode cX11_proof 59 = .ok (.getfield 39, 3) := dAt wdX11_proof_40 adX11_proof_40.2.2.2.2.2.2.2.2.2.2.2.1 rfl
theorem dX11_proof_62 : decode cX11_proof 62 = .ok (.iconst 3, 1) := dAt wdX11_proof_40 adX11_proof_40.2.2.2.2.2.2.2.2.2.2.2.2.1 rfl
theorem dX11_proof_63 : decode cX11_proof 63 = .ok (.invokevirtual 361, 3) := dAt wdX11_proof_40 adX11_proof_40.2.2.2.2.2.2.2.2.2.2.2.2.2.1 rfl
theorem dX11_proof_66 : decode cX11_proof 66 = .ok (.ireturn, 1) := dAt wdX11_proof_40 adX11_proof_40.2.2.2.2.2.2.2.2.2.2.2.2.2.2.1 rfl
theorem dX11_proof_67 : decode cX11_proof 67 = .ok (.aload_n 0, 1) := dAt wdX11_proof_40 adX11_proof_40.2.2.2.2.2.2.2.2.2.2.2.2.2.2.2 rfl
def bdX11_proof_68 : ByteArray := .mk #[180, 0, 39, 182, 1, 108, 172, 42, 180, 0, 39, 4, 3, 182, 1, 111, 172, 42, 180, 0, 39, 3, 4, 182, 1, 111, 172, 187, 0, 172]
theorem wdX11_proof_68 : LocW cX11_proof 68 bdX11_proof_68 := loc_of (by decide +kernel)
theorem adX11_proof_68 : De bdX11_proof_68 0 (.getfield 39) 3 ∧ De bdX11_proof_68 3 (.invokevirtual 364) 3 ∧ De bdX11_proof_68 6 (.ireturn) 1 ∧ De bdX11_proof_68 7 (.aload_n 0) 1 ∧ De bdX11_proof_68 8 (.getfield 39) 3 ∧ De bdX11_proof_68 11 (.iconst 1) 1 ∧ De bdX11_proof_68 12 (.iconst 0) 1 ∧ De bdX11_proof_68 13 (.invokevirtual 367) 3 ∧ De bdX11_proof_68 16 (.ireturn) 1 ∧ De bdX11_proof_68 17 (.aload_n 0) 1 ∧ De bdX11_proof_68 18 (.getfield 39) 3 ∧ De bdX11_proof_68 21 (.iconst 0) 1 ∧ De bdX11_proof_68 22 (.iconst 1) 1 ∧ De bdX11_proof_68 23 (.invokevirtual 367) 3 ∧ De bdX11_proof_68 26 (.ireturn) 1 ∧ De bdX11_proof_68 27 (.new 172) 3 := by decide +kernel
theorem dX11_proof_68 : decode cX11_proof 68 = .ok (.getfield 39, 3) := dAt wdX11_proof_68 adX11_proof_68.1 rfl
theorem dX11_proof_71 : decode cX11_proof 71 = .ok (.invokevirtual 364, 3) := dAt wdX11_proof_68 adX11_proof_68.2.1 rfl
theorem dX11_proof_74 : decode cX11_proof 74 = .ok (.ireturn, 1) := dAt wdX11_proof_68 adX11_proof_68.2.2.1 rfl
theorem dX11_proof_75 : decode cX11_proof 75 = .ok (.aload_n 0, 1) := dAt wdX11_proof_68 adX11_proof_68.2.2.2.1 rfl
theorem dX11_proof_76 : decode cX11_proof 76 = .ok (.getfield 39, 3) := dAt wdX11_proof_68 adX11_proof_68.2.2.2.2.1 rfl
theorem dX11_proof_79 : decode cX11_proof 79 = .ok (.iconst 1, 1) := dAt wdX11_proof_68 adX11_proof_68.2.2.2.2.2.1 rfl
theorem dX11_proof_80 : decode cX11_proof 80 = .ok (.iconst 0, 1) := dAt wdX11_proof_68 adX11_proof_68.2.2.2.2.2.2.1 rfl
theorem dX11_proof_81 : decode cX11_proof 81 = .ok (.invokevirtual 367, 3) := dAt wdX11_proof_68 adX11_proof_68.2.2.2.2.2.2.2.1 rfl
theorem dX11_proof_84 : decode cX11_proof 84 = .ok (.ireturn, 1) := dAt wdX11_proof_68 adX11_proof_68.2.2.2.2.2.2.2.2.1 rfl
theorem dX11_proof_85 : decode cX11_proof 85 = .ok (.aload_n 0, 1) := dAt wdX11_proof_68 adX11_proof_68.2.2.2.2.2.2.2.2.2.1 rfl
theorem dX11_proof_86 : decode cX11_proof 86 = .ok (.getfield 39, 3) := dAt wdX11_proof_68 adX11_proof_68.2.2.2.2.2.2.2.2.2.2.1 rfl
theorem dX11_proof_89 : decode cX11_proof 89 = .ok (.iconst 0, 1) := dAt wdX11_proof_68 adX11_proof_68.2.2.2.2.2.2.2.2.2.2.2.1 rfl
theorem dX11_proof_90 : decode cX11_proof 90 = .ok (.iconst 1, 1) := dAt wdX11_proof_68 adX11_proof_68.2.2.2.2.2.2.2.2.2.2.2.2.1 rfl
theorem dX11_proof_91 : decode cX11_proof 91 = .ok (.invokevirtual 367, 3) := dAt wdX11_proof_68 adX11_proof_68.2.2.2.2.2.2.2.2.2.2.2.2.2.1 rfl
theorem dX11_proof_94 : decode cX11_proof 94 = .ok (.ireturn, 1) := dAt wdX11_proof_68 adX11_proof_68.2.2.2.2.2.2.2.2.2.2.2.2.2.2.1 rfl
theorem dX11_proof_95 : decode cX11_proof 95 = .ok (.new 172, 3) := dAt wdX11_proof_68 adX11_proof_68.2.2.2.2.2.2.2.2.2.2.2.2.2.2.2 rfl
def bdX11_proof_98 : ByteArray := .mk #[89, 183, 0, 174, 191]
theorem wdX11_proof_98 : LocW cX11_proof 98 bdX11_proof_98 := loc_of (by decide +kernel)
theorem adX11_proof_98 : De bdX11_proof_98 0 (.dup) 1 ∧ De bdX11_proof_98 1 (.invokespecial 174) 3 ∧ De bdX11_proof_98 4 (.athrow) 1 := by decide +kernel
theorem dX11_proof_98 : decode cX11_proof 98 = .ok (.dup, 1) := dAt wdX11_proof_98 adX11_proof_98.1 rfl
theorem dX11_proof_99 : decode cX11_proof 99 = .ok (.invokespecial 174, 3) := dAt wdX11_proof_98 adX11_proof_98.2.1 rfl
theorem dX11_proof_102 : decode cX11_proof 102 = .ok (.athrow, 1) := dAt wdX11_proof_98 adX11_proof_98.2.2 rfl
def bdX11_carry_0 : ByteArray := .mk #[42, 180, 0, 39, 27, 182, 1, 24, 58, 4, 25, 4, 199, 0, 11, 187, 0, 84, 89, 183, 0, 86, 191, 28, 155, 0, 29, 28, 16, 9, 163, 0, 23]
theorem wdX11_carry_0 : LocW cX11_carry 0 bdX11_carry_0 := loc_of (by decide +kernel)
theorem adX11_carry_0 : De bdX11_carry_0 0 (.aload_n 0) 1 ∧ De bdX11_carry_0 1 (.getfield 39) 3 ∧ De bdX11_carry_0 4 (.iload_n 1) 1 ∧ De bdX11_carry_0 5 (.invokevirtual 280) 3 ∧ De bdX11_carry_0 8 (.astore 4) 2 ∧ De bdX11_carry_0 10 (.aload 4) 2 ∧ De bdX11_carry_0 12 (.ifnonnull 11) 3 ∧ De bdX11_carry_0 15 (.new 84) 3 ∧ De bdX11_carry_0 18 (.dup) 1 ∧ De bdX11_carry_0 19 (.invokespecial 86) 3 ∧ De bdX11_carry_0 22 (.athrow) 1 ∧ De bdX11_carry_0 23 (.iload_n 2) 1 ∧ De bdX11_carry_0 24 (.ifCond .lt 29) 3 ∧ De bdX11_carry_0 27 (.iload_n 2) 1 ∧ De bdX11_carry_0 28 (.bipush 9) 2 ∧ De bdX11_carry_0 30 (.if_icmp .gt 23) 3 := by decide +kernel
theorem dX11_carry_0 : decode cX11_carry 0 = .ok (.aload_n 0, 1) := dAt wdX11_carry_0 adX11_carry_0.1 rfl
theorem dX11_carry_1 : decode cX11_carry 1 = .ok (.getfield 39, 3) := dAt wdX11_carry_0 adX11_carry_0.2.1 rfl
theorem dX11_carry_4 : decode cX11_carry 4 = .ok (.iload_n 1, 1) := dAt wdX11_carry_0 adX11_carry_0.2.2.1 rfl
theorem dX11_carry_5 : decode cX11_carry 5 = .ok (.invokevirtual 280, 3) := dAt wdX11_carry_0 adX11_carry_0.2.2.2.1 rfl
theorem dX11_carry_8 : decode cX11_carry 8 = .ok (.astore 4, 2) := dAt wdX11_carry_0 adX11_carry_0.2.2.2.2.1 rfl
theorem dX11_carry_10 : decode cX11_carry 10 = .ok (.aload 4, 2) := dAt wdX11_carry_0 adX11_carry_0.2.2.2.2.2.1 rfl
theorem dX11_carry_12 : decode cX11_carry 12 = .ok (.ifnonnull 11, 3) := dAt wdX11_carry_0 adX11_carry_0.2.2.2.2.2.2.1 rfl
theorem dX11_carry_15 : decode cX11_carry 15 = .ok (.new 84, 3) := dAt wdX11_carry_0 adX11_carry_0.2.2.2.2.2.2.2.1 rfl
theorem dX11_carry_18 : decode cX11_carry 18 = .ok (.dup, 1) := dAt wdX11_carry_0 adX11_carry_0.2.2.2.2.2.2.2.2.1 rfl
theorem dX11_carry_19 : decode cX11_carry 19 = .ok (.invokespecial 86, 3) := dAt wdX11_carry_0 adX11_carry_0.2.2.2.2.2.2.2.2.2.1 rfl
theorem dX11_carry_22 : decode cX11_carry 22 = .ok (.athrow, 1) := dAt wdX11_carry_0 adX11_carry_0.2.2.2.2.2.2.2.2.2.2.1 rfl
theorem dX11_carry_23 : decode cX11_carry 23 = .ok (.iload_n 2, 1) := dAt wdX11_carry_0 adX11_carry_0.2.2.2.2.2.2.2.2.2.2.2.1 rfl
theorem dX11_carry_24 : decode cX11_carry 24 = .ok (.ifCond .lt 29, 3) := dAt wdX11_carry_0 adX11_carry_0.2.2.2.2.2.2.2.2.2.2.2.2.1 rfl
theorem dX11_carry_27 : decode cX11_carry 27 = .ok (.iload_n 2, 1) := dAt wdX11_carry_0 adX11_carry_0.2.2.2.2.2.2.2.2.2.2.2.2.2.1 rfl
theorem dX11_carry_28 : decode cX11_carry 28 = .ok (.bipush 9, 2) := dAt wdX11_carry_0 adX11_carry_0.2.2.2.2.2.2.2.2.2.2.2.2.2.2.1 rfl
theorem dX11_carry_30 : decode cX11_carry 30 = .ok (.if_icmp .gt 23, 3) := dAt wdX11_carry_0 adX11_carry_0.2.2.2.2.2.2.2.2.2.2.2.2.2.2.2 rfl
def bdX11_carry_33 : ByteArray := .mk #[29, 25, 4, 180, 1, 36, 161, 0, 14, 29, 42, 180, 0, 39, 180, 0, 117, 164, 0, 11, 187, 0, 87, 89, 183, 0, 89, 191, 42, 180, 0, 46, 180, 1, 115]
theorem wdX11_carry_33 : LocW cX11_carry 33 bdX11_carry_33 := loc_of (by decide +kernel)
theorem adX11_carry_33 : De bdX11_carry_33 0 (.iload_n 3) 1 ∧ De bdX11_carry_33 1 (.aload 4) 2 ∧ De bdX11_carry_33 3 (.getfield 292) 3 ∧ De bdX11_carry_33 6 (.if_icmp .lt 14) 3 ∧ De bdX11_carry_33 9 (.iload_n 3) 1 ∧ De bdX11_carry_33 10 (.aload_n 0) 1 ∧ De bdX11_carry_33 11 (.getfield 39) 3 ∧ De bdX11_carry_33 14 (.getfield 117) 3 ∧ De bdX11_carry_33 17 (.if_icmp .le 11) 3 ∧ De bdX11_carry_33 20 (.new 87) 3 ∧ De bdX11_carry_33 23 (.dup) 1 ∧ De bdX11_carry_33 24 (.invokespecial 89) 3 ∧ De bdX11_carry_33 27 (.athrow) 1 ∧ De bdX11_carry_33 28 (.aload_n 0) 1 ∧ De bdX11_carry_33 29 (.getfield 46) 3 ∧ De bdX11_carry_33 32 (.getfield 371) 3 := by decide +kernel
theorem dX11_carry_33 : decode cX11_carry 33 = .ok (.iload_n 3, 1) := dAt wdX11_carry_33 adX11_carry_33.1 rfl
theorem dX11_carry_34 : decode cX11_carry 34 = .ok (.aload 4, 2) := dAt wdX11_carry_33 adX11_carry_33.2.1 rfl
theorem dX11_carry_36 : decode cX11_carry 36 = .ok (.getfield 292, 3) := dAt wdX11_carry_33 adX11_carry_33.2.2.1 rfl
theorem dX11_carry_39 : decode cX11_carry 39 = .ok (.if_icmp .lt 14, 3) := dAt wdX11_carry_33 adX11_carry_33.2.2.2.1 rfl
theorem dX11_carry_42 : decode cX11_carry 42 = .ok (.iload_n 3, 1) := dAt wdX11_carry_33 adX11_carry_33.2.2.2.2.1 rfl
theorem dX11_carry_43 : decode cX11_carry 43 = .ok (.aload_n 0, 1) := dAt wdX11_carry_33 adX11_carry_33.2.2.2.2.2.1 rfl
theorem dX11_carry_44 : decode cX11_carry 44 = .ok (.getfield 39, 3) := dAt wdX11_carry_33 adX11_carry_33.2.2.2.2.2.2.1 rfl
theorem dX11_carry_47 : decode cX11_carry 47 = .ok (.getfield 117, 3) := dAt wdX11_carry_33 adX11_carry_33.2.2.2.2.2.2.2.1 rfl
theorem dX11_carry_50 : decode cX11_carry 50 = .ok (.if_icmp .le 11, 3) := dAt wdX11_carry_33 adX11_carry_33.2.2.2.2.2.2.2.2.1 rfl
theorem dX11_carry_53 : decode cX11_carry 53 = .ok (.new 87, 3) := dAt wdX11_carry_33 adX11_carry_33.2.2.2.2.2.2.2.2.2.1 rfl
theorem dX11_carry_56 : decode cX11_carry 56 = .ok (.dup, 1) := dAt wdX11_carry_33 adX11_carry_33.2.2.2.2.2.2.2.2.2.2.1 rfl
theorem dX11_carry_57 : decode cX11_carry 57 = .ok (.invokespecial 89, 3) := dAt wdX11_carry_33 adX11_carry_33.2.2.2.2.2.2.2.2.2.2.2.1 rfl
theorem dX11_carry_60 : decode cX11_carry 60 = .ok (.athrow, 1) := dAt wdX11_carry_33 adX11_carry_33.2.2.2.2.2.2.2.2.2.2.2.2.1 rfl
theorem dX11_carry_61 : decode cX11_carry 61 = .ok (.aload_n 0, 1) := dAt wdX11_carry_33 adX11_carry_33.2.2.2.2.2.2.2.2.2.2.2.2.2.1 rfl
theorem dX11_carry_62 : decode cX11_carry 62 = .ok (.getfield 46, 3) := dAt wdX11_carry_33 adX11_carry_33.2.2.2.2.2.2.2.2.2.2.2.2.2.2.1 rfl
theorem dX11_carry_65 : decode cX11_carry 65 = .ok (.getfield 371, 3) := dAt wdX11_carry_33 adX11_carry_33.2.2.2.2.2.2.2.2.2.2.2.2.2.2.2 rfl
def bdX11_carry_68 : ByteArray := .mk #[17, 0, 200, 161, 0, 5, 2, 172, 42, 180, 0, 46, 27, 28, 29, 42, 180, 0, 39, 180, 0, 117, 182, 1, 118, 42, 180, 0, 46, 180, 1, 115]
theorem wdX11_carry_68 : LocW cX11_carry 68 bdX11_carry_68 := loc_of (by decide +kernel)
theorem adX11_carry_68 : De bdX11_carry_68 0 (.sipush 200) 3 ∧ De bdX11_carry_68 3 (.if_icmp .lt 5) 3 ∧ De bdX11_carry_68 6 (.iconst (-1)) 1 ∧ De bdX11_carry_68 7 (.ireturn) 1 ∧ De bdX11_carry_68 8 (.aload_n 0) 1 ∧ De bdX11_carry_68 9 (.getfield 46) 3 ∧ De bdX11_carry_68 12 (.iload_n 1) 1 ∧ De bdX11_carry_68 13 (.iload_n 2) 1 ∧ De bdX11_carry_68 14 (.iload_n 3) 1 ∧ De bdX11_carry_68 15 (.aload_n 0) 1 ∧ De bdX11_carry_68 16 (.getfield 39) 3 ∧ De bdX11_carry_68 19 (.getfield 117) 3 ∧ De bdX11_carry_68 22 (.invokevirtual 374) 3 ∧ De bdX11_carry_68 25 (.aload_n 0) 1 ∧ De bdX11_carry_68 26 (.getfield 46) 3 ∧ De bdX11_carry_68 29 (.getfield 371) 3 := by decide +kernel
theorem dX11_carry_68 : decode cX11_carry 68 = .ok (.sipush 200, 3) := dAt wdX11_carry_68 adX11_carry_68.1 rfl
theorem dX11_carry_71 : decode cX11_carry 71 = .ok (.if_icmp .lt 5, 3) := dAt wdX11_carry_68 adX11_carry_68.2.1 rfl
theorem dX11_carry_74 : decode cX11_carry 74 = .ok (.iconst (-1), 1) := dAt wdX11_carry_68 adX11_carry_68.2.2.1 rfl
theorem dX11_carry_75 : decode cX11_carry 75 = .ok (.ireturn, 1) := dAt wdX11_carry_68 adX11_carry_68.2.2.2.1 rfl
theorem dX11_carry_76 : decode cX11_carry 76 = .ok (.aload_n 0, 1) := dAt wdX11_carry_68 adX11_carry_68.2.2.2.2.1 rfl
theorem dX11_carry_77 : decode cX11_carry 77 = .ok (.getfield 46, 3) := dAt wdX11_carry_68 adX11_carry_68.2.2.2.2.2.1 rfl
theorem dX11_carry_80 : decode cX11_carry 80 = .ok (.iload_n 1, 1) := dAt wdX11_carry_68 adX11_carry_68.2.2.2.2.2.2.1 rfl
theorem dX11_carry_81 : decode cX11_carry 81 = .ok (.iload_n 2, 1) := dAt wdX11_carry_68 adX11_carry_68.2.2.2.2.2.2.2.1 rfl
theorem dX11_carry_82 : decode cX11_carry 82 = .ok (.iload_n 3, 1) := dAt wdX11_carry_68 adX11_carry_68.2.2.2.2.2.2.2.2.1 rfl
theorem dX11_carry_83 : decode cX11_carry 83 = .ok (.aload_n 0, 1) := dAt wdX11_carry_68 adX11_carry_68.2.2.2.2.2.2.2.2.2.1 rfl
theorem dX11_carry_84 : decode cX11_carry 84 = .ok (.getfield 39, 3) := dAt wdX11_carry_68 adX11_carry_68.2.2.2.2.2.2.2.2.2.2.1 rfl
theorem dX11_carry_87 : decode cX11_carry 87 = .ok (.getfield 117, 3) := dAt wdX11_carry_68 adX11_carry_68.2.2.2.2.2.2.2.2.2.2.2.1 rfl
theorem dX11_carry_90 : decode cX11_carry 90 = .ok (.invokevirtual 374, 3) := dAt wdX11_carry_68 adX11_carry_68.2.2.2.2.2.2.2.2.2.2.2.2.1 rfl
theorem dX11_carry_93 : decode cX11_carry 93 = .ok (.aload_n 0, 1) := dAt wdX11_carry_68 adX11_carry_68.2.2.2.2.2.2.2.2.2.2.2.2.2.1 rfl
theorem dX11_carry_94 : decode cX11_carry 94 = .ok (.getfield 46, 3) := dAt wdX11_carry_68 adX11_carry_68.2.2.2.2.2.2.2.2.2.2.2.2.2.2.1 rfl
theorem dX11_carry_97 : decode cX11_carry 97 = .ok (.getfield 371, 3) := dAt wdX11_carry_68 adX11_carry_68.2.2.2.2.2.2.2.2.2.2.2.2.2.2.2 rfl
def bdX11_carry_100 : ByteArray := .mk #[172]
theorem wdX11_carry_100 : LocW cX11_carry 100 bdX11_carry_100 := loc_of (by decide +kernel)
theorem adX11_carry_100 : De bdX11_carry_100 0 (.ireturn) 1 := by decide +kernel
theorem dX11_carry_100 : decode cX11_carry 100 = .ok (.ireturn, 1) := dAt wdX11_carry_100 adX11_carry_100 rfl
def bdX11_where_0 : ByteArray := .mk #[42, 180, 0, 39, 27, 182, 1, 24, 199, 0, 11, 187, 0, 84, 89, 183, 0, 86, 191, 42, 180, 0, 46, 27, 28, 29, 182, 1, 122, 172]
theorem wdX11_where_0 : LocW cX11_where 0 bdX11_where_0 := loc_of (by decide +kernel)
theorem adX11_where_0 : De bdX11_where_0 0 (.aload_n 0) 1 ∧ De bdX11_where_0 1 (.getfield 39) 3 ∧ De bdX11_where_0 4 (.iload_n 1) 1 ∧ De bdX11_where_0 5 (.invokevirtual 280) 3 ∧ De bdX11_where_0 8 (.ifnonnull 11) 3 ∧ De bdX11_where_0 11 (.new 84) 3 ∧ De bdX11_where_0 14 (.dup) 1 ∧ De bdX11_where_0 15 (.invokespecial 86) 3 ∧ De bdX11_where_0 18 (.athrow) 1 ∧ De bdX11_where_0 19 (.aload_n 0) 1 ∧ De bdX11_where_0 20 (.getfield 46) 3 ∧ De bdX11_where_0 23 (.iload_n 1) 1 ∧ De bdX11_where_0 24 (.iload_n 2) 1 ∧ De bdX11_where_0 25 (.iload_n 3) 1 ∧ De bdX11_where_0 26 (.invokevirtual 378) 3 ∧ De bdX11_where_0 29 (.ireturn) 1 := by decide +kernel
theorem dX11_where_0 : decode cX11_where 0 = .ok (.aload_n 0, 1) := dAt wdX11_where_0 adX11_where_0.1 rfl
theorem dX11_where_1 : decode cX11_where 1 = .ok (.getfield 39, 3) := dAt wdX11_where_0 adX11_where_0.2.1 rfl
theorem dX11_where_4 : decode cX11_where 4 = .ok (.iload_n 1, 1) := dAt wdX11_where_0 adX11_where_0.2.2.1 rfl
theorem dX11_where_5 : decode cX11_where 5 = .ok (.invokevirtual 280, 3) := dAt wdX11_where_0 adX11_where_0.2.2.2.1 rfl
theorem dX11_where_8 : decode cX11_where 8 = .ok (.ifnonnull 11, 3) := dAt wdX11_where_0 adX11_where_0.2.2.2.2.1 rfl
theorem dX11_where_11 : decode cX11_where 11 = .ok (.new 84, 3) := dAt wdX11_where_0 adX11_where_0.2.2.2.2.2.1 rfl
theorem dX11_where_14 : decode cX11_where 14 = .ok (.dup, 1) := dAt wdX11_where_0 adX11_where_0.2.2.2.2.2.2.1 rfl
theorem dX11_where_15 : decode cX11_where 15 = .ok (.invokespecial 86, 3) := dAt wdX11_where_0 adX11_where_0.2.2.2.2.2.2.2.1 rfl
theorem dX11_where_18 : decode cX11_where 18 = .ok (.athrow, 1) := dAt wdX11_where_0 adX11_where_0.2.2.2.2.2.2.2.2.1 rfl
theorem dX11_where_19 : decode cX11_where 19 = .ok (.aload_n 0, 1) := dAt wdX11_where_0 adX11_where_0.2.2.2.2.2.2.2.2.2.1 rfl
theorem dX11_where_20 : decode cX11_where 20 = .ok (.getfield 46, 3) := dAt wdX11_where_0 adX11_where_0.2.2.2.2.2.2.2.2.2.2.1 rfl
theorem dX11_where_23 : decode cX11_where 23 = .ok (.iload_n 1, 1) := dAt wdX11_where_0 adX11_where_0.2.2.2.2.2.2.2.2.2.2.2.1 rfl
theorem dX11_where_24 : decode cX11_where 24 = .ok (.iload_n 2, 1) := dAt wdX11_where_0 adX11_where_0.2.2.2.2.2.2.2.2.2.2.2.2.1 rfl
theorem dX11_where_25 : decode cX11_where 25 = .ok (.iload_n 3, 1) := dAt wdX11_where_0 adX11_where_0.2.2.2.2.2.2.2.2.2.2.2.2.2.1 rfl
theorem dX11_where_26 : decode cX11_where 26 = .ok (.invokevirtual 378, 3) := dAt wdX11_where_0 adX11_where_0.2.2.2.2.2.2.2.2.2.2.2.2.2.2.1 rfl
theorem dX11_where_29 : decode cX11_where 29 = .ok (.ireturn, 1) := dAt wdX11_where_0 adX11_where_0.2.2.2.2.2.2.2.2.2.2.2.2.2.2.2 rfl
def bdX11_page_0 : ByteArray := .mk #[27, 184, 1, 126, 154, 0, 11, 187, 0, 84, 89, 183, 0, 86, 191, 28, 4, 161, 0, 19, 28, 6, 163, 0, 14, 29, 4, 161, 0, 9]
theorem wdX11_page_0 : LocW cX11_page 0 bdX11_page_0 := loc_of (by decide +kernel)
theorem adX11_page_0 : De bdX11_page_0 0 (.iload_n 1) 1 ∧ De bdX11_page_0 1 (.invokestatic 382) 3 ∧ De bdX11_page_0 4 (.ifCond .ne 11) 3 ∧ De bdX11_page_0 7 (.new 84) 3 ∧ De bdX11_page_0 10 (.dup) 1 ∧ De bdX11_page_0 11 (.invokespecial 86) 3 ∧ De bdX11_page_0 14 (.athrow) 1 ∧ De bdX11_page_0 15 (.iload_n 2) 1 ∧ De bdX11_page_0 16 (.iconst 1) 1 ∧ De bdX11_page_0 17 (.if_icmp .lt 19) 3 ∧ De bdX11_page_0 20 (.iload_n 2) 1 ∧ De bdX11_page_0 21 (.iconst 3) 1 ∧ De bdX11_page_0 22 (.if_icmp .gt 14) 3 ∧ De bdX11_page_0 25 (.iload_n 3) 1 ∧ De bdX11_page_0 26 (.iconst 1) 1 ∧ De bdX11_page_0 27 (.if_icmp .lt 9) 3 := by decide +kernel
theorem dX11_page_0 : decode cX11_page 0 = .ok (.iload_n 1, 1) := dAt wdX11_page_0 adX11_page_0.1 rfl
theorem dX11_page_1 : decode cX11_page 1 = .ok (.invokestatic 382, 3) := dAt wdX11_page_0 adX11_page_0.2.1 rfl
theorem dX11_page_4 : decode cX11_page 4 = .ok (.ifCond .ne 11, 3) := dAt wdX11_page_0 adX11_page_0.2.2.1 rfl
theorem dX11_page_7 : decode cX11_page 7 = .ok (.new 84, 3) := dAt wdX11_page_0 adX11_page_0.2.2.2.1 rfl
theorem dX11_page_10 : decode cX11_page 10 = .ok (.dup, 1) := dAt wdX11_page_0 adX11_page_0.2.2.2.2.1 rfl
theorem dX11_page_11 : decode cX11_page 11 = .ok (.invokespecial 86, 3) := dAt wdX11_page_0 adX11_page_0.2.2.2.2.2.1 rfl
theorem dX11_page_14 : decode cX11_page 14 = .ok (.athrow, 1) := dAt wdX11_page_0 adX11_page_0.2.2.2.2.2.2.1 rfl
theorem dX11_page_15 : decode cX11_page 15 = .ok (.iload_n 2, 1) := dAt wdX11_page_0 adX11_page_0.2.2.2.2.2.2.2.1 rfl
theorem dX11_page_16 : decode cX11_page 16 = .ok (.iconst 1, 1) := dAt wdX11_page_0 adX11_page_0.2.2.2.2.2.2.2.2.1 rfl
theorem dX11_page_17 : decode cX11_page 17 = .ok (.if_icmp .lt 19, 3) := dAt wdX11_page_0 adX11_page_0.2.2.2.2.2.2.2.2.2.1 rfl
theorem dX11_page_20 : decode cX11_page 20 = .ok (.iload_n 2, 1) := dAt wdX11_page_0 adX11_page_0.2.2.2.2.2.2.2.2.2.2.1 rfl
theorem dX11_page_21 : decode cX11_page 21 = .ok (.iconst 3, 1) := dAt wdX11_page_0 adX11_page_0.2.2.2.2.2.2.2.2.2.2.2.1 rfl
theorem dX11_page_22 : decode cX11_page 22 = .ok (.if_icmp .gt 14, 3) := dAt wdX11_page_0 adX11_page_0.2.2.2.2.2.2.2.2.2.2.2.2.1 rfl
theorem dX11_page_25 : decode cX11_page 25 = .ok (.iload_n 3, 1) := dAt wdX11_page_0 adX11_page_0.2.2.2.2.2.2.2.2.2.2.2.2.2.1 rfl
theorem dX11_page_26 : decode cX11_page 26 = .ok (.iconst 1, 1) := dAt wdX11_page_0 adX11_page_0.2.2.2.2.2.2.2.2.2.2.2.2.2.2.1 rfl
theorem dX11_page_27 : decode cX11_page 27 = .ok (.if_icmp .lt 9, 3) := dAt wdX11_page_0 adX11_page_0.2.2.2.2.2.2.2.2.2.2.2.2.2.2.2 rfl
def bdX11_page_30 : ByteArray := .mk #[29, 16, 60, 164, 0, 11, 187, 0, 87, 89, 183, 0, 89, 191, 42, 180, 0, 46, 180, 1, 129, 27, 28, 79, 42, 180, 0, 46, 180, 1, 132]
theorem wdX11_page_30 : LocW cX11_page 30 bdX11_page_30 := loc_of (by decide +kernel)
theorem adX11_page_30 : De bdX11_page_30 0 (.iload_n 3) 1 ∧ De bdX11_page_30 1 (.bipush 60) 2 ∧ De bdX11_page_30 3 (.if_icmp .le 11) 3 ∧ De bdX11_page_30 6 (.new 87) 3 ∧ De bdX11_page_30 9 (.dup) 1 ∧ De bdX11_page_30 10 (.invokespecial 89) 3 ∧ De bdX11_page_30 13 (.athrow) 1 ∧ De bdX11_page_30 14 (.aload_n 0) 1 ∧ De bdX11_page_30 15 (.getfield 46) 3 ∧ De bdX11_page_30 18 (.getfield 385) 3 ∧ De bdX11_page_30 21 (.iload_n 1) 1 ∧ De bdX11_page_30 22 (.iload_n 2) 1 ∧ De bdX11_page_30 23 (.iastore) 1 ∧ De bdX11_page_30 24 (.aload_n 0) 1 ∧ De bdX11_page_30 25 (.getfield 46) 3 ∧ De bdX11_page_30 28 (.getfield 388) 3 := by decide +kernel
theorem dX11_page_30 : decode cX11_page 30 = .ok (.iload_n 3, 1) := dAt wdX11_page_30 adX11_page_30.1 rfl
theorem dX11_page_31 : decode cX11_page 31 = .ok (.bipush 60, 2) := dAt wdX11_page_30 adX11_page_30.2.1 rfl
theorem dX11_page_33 : decode cX11_page 33 = .ok (.if_icmp .le 11, 3) := dAt wdX11_page_30 adX11_page_30.2.2.1 rfl
theorem dX11_page_36 : decode cX11_page 36 = .ok (.new 87, 3) := dAt wdX11_page_30 adX11_page_30.2.2.2.1 rfl
theorem dX11_page_39 : decode cX11_page 39 = .ok (.dup, 1) := dAt wdX11_page_30 adX11_page_30.2.2.2.2.1 rfl
theorem dX11_page_40 : decode cX11_page 40 = .ok (.invokespecial 89, 3) := dAt wdX11_page_30 adX11_page_30.2.2.2.2.2.1 rfl
theorem dX11_page_43 : decode cX11_page 43 = .ok (.athrow, 1) := dAt wdX11_page_30 adX11_page_30.2.2.2.2.2.2.1 rfl
theorem dX11_page_44 : decode cX11_page 44 = .ok (.aload_n 0, 1) := dAt wdX11_page_30 adX11_page_30.2.2.2.2.2.2.2.1 rfl
theorem dX11_page_45 : decode cX11_page 45 = .ok (.getfield 46, 3) := dAt wdX11_page_30 adX11_page_30.2.2.2.2.2.2.2.2.1 rfl
theorem dX11_page_48 : decode cX11_page 48 = .ok (.getfield 385, 3) := dAt wdX11_page_30 adX11_page_30.2.2.2.2.2.2.2.2.2.1 rfl
theorem dX11_page_51 : decode cX11_page 51 = .ok (.iload_n 1, 1) := dAt wdX11_page_30 adX11_page_30.2.2.2.2.2.2.2.2.2.2.1 rfl
theorem dX11_page_52 : decode cX11_page 52 = .ok (.iload_n 2, 1) := dAt wdX11_page_30 adX11_page_30.2.2.2.2.2.2.2.2.2.2.2.1 rfl
theorem dX11_page_53 : decode cX11_page 53 = .ok (.iastore, 1) := dAt wdX11_page_30 adX11_page_30.2.2.2.2.2.2.2.2.2.2.2.2.1 rfl
theorem dX11_page_54 : decode cX11_page 54 = .ok (.aload_n 0, 1) := dAt wdX11_page_30 adX11_page_30.2.2.2.2.2.2.2.2.2.2.2.2.2.1 rfl
theorem dX11_page_55 : decode cX11_page 55 = .ok (.getfield 46, 3) := dAt wdX11_page_30 adX11_page_30.2.2.2.2.2.2.2.2.2.2.2.2.2.2.1 rfl
theorem dX11_page_58 : decode cX11_page 58 = .ok (.getfield 388, 3) := dAt wdX11_page_30 adX11_page_30.2.2.2.2.2.2.2.2.2.2.2.2.2.2.2 rfl
def bdX11_page_61 : ByteArray := .mk #[27, 29, 79, 177]
theorem wdX11_page_61 : LocW cX11_page 61 bdX11_page_61 := loc_of (by decide +kernel)
theorem adX11_page_61 : De bdX11_page_61 0 (.iload_n 1) 1 ∧ De bdX11_page_61 1 (.iload_n 3) 1 ∧ De bdX11_page_61 2 (.iastore) 1 ∧ De bdX11_page_61 3 (.return_) 1 := by decide +kernel
theorem dX11_page_61 : decode cX11_page 61 = .ok (.iload_n 1, 1) := dAt wdX11_page_61 adX11_page_61.1 rfl
theorem dX11_page_62 : decode cX11_page 62 = .ok (.iload_n 3, 1) := dAt wdX11_page_61 adX11_page_61.2.1 rfl
theorem dX11_page_63 : decode cX11_page 63 = .ok (.iastore, 1) := dAt wdX11_page_61 adX11_page_61.2.2.1 rfl
theorem dX11_page_64 : decode cX11_page 64 = .ok (.return_, 1) := dAt wdX11_page_61 adX11_page_61.2.2.2 rfl
def bdX11_fit_0 : ByteArray := .mk #[42, 27, 28, 182, 1, 135, 42, 180, 0, 53, 180, 1, 139, 172]
theorem wdX11_fit_0 : LocW cX11_fit 0 bdX11_fit_0 := loc_of (by decide +kernel)
theorem adX11_fit_0 : De bdX11_fit_0 0 (.aload_n 0) 1 ∧ De bdX11_fit_0 1 (.iload_n 1) 1 ∧ De bdX11_fit_0 2 (.iload_n 2) 1 ∧ De bdX11_fit_0 3 (.invokevirtual 391) 3 ∧ De bdX11_fit_0 6 (.aload_n 0) 1 ∧ De bdX11_fit_0 7 (.getfield 53) 3 ∧ De bdX11_fit_0 10 (.getfield 395) 3 ∧ De bdX11_fit_0 13 (.ireturn) 1 := by decide +kernel
theorem dX11_fit_0 : decode cX11_fit 0 = .ok (.aload_n 0, 1) := dAt wdX11_fit_0 adX11_fit_0.1 rfl
theorem dX11_fit_1 : decode cX11_fit 1 = .ok (.iload_n 1, 1) := dAt wdX11_fit_0 adX11_fit_0.2.1 rfl
theorem dX11_fit_2 : decode cX11_fit 2 = .ok (.iload_n 2, 1) := dAt wdX11_fit_0 adX11_fit_0.2.2.1 rfl
theorem dX11_fit_3 : decode cX11_fit 3 = .ok (.invokevirtual 391, 3) := dAt wdX11_fit_0 adX11_fit_0.2.2.2.1 rfl
theorem dX11_fit_6 : decode cX11_fit 6 = .ok (.aload_n 0, 1) := dAt wdX11_fit_0 adX11_fit_0.2.2.2.2.1 rfl
theorem dX11_fit_7 : decode cX11_fit 7 = .ok (.getfield 53, 3) := dAt wdX11_fit_0 adX11_fit_0.2.2.2.2.2.1 rfl
theorem dX11_fit_10 : decode cX11_fit 10 = .ok (.getfield 395, 3) := dAt wdX11_fit_0 adX11_fit_0.2.2.2.2.2.2.1 rfl
theorem dX11_fit_13 : decode cX11_fit 13 = .ok (.ireturn, 1) := dAt wdX11_fit_0 adX11_fit_0.2.2.2.2.2.2.2 rfl
def bdX11_fits_0 : ByteArray := .mk #[29, 155, 0, 14, 29, 42, 180, 0, 39, 180, 0, 107, 161, 0, 11, 187, 0, 84, 89, 183, 0, 86, 191, 42, 27, 28, 182, 1, 135, 42]
theorem wdX11_fits_0 : LocW cX11_fits 0 bdX11_fits_0 := loc_of (by decide +kernel)
theorem adX11_fits_0 : De bdX11_fits_0 0 (.iload_n 3) 1 ∧ De bdX11_fits_0 1 (.ifCond .lt 14) 3 ∧ De bdX11_fits_0 4 (.iload_n 3) 1 ∧ De bdX11_fits_0 5 (.aload_n 0) 1 ∧ De bdX11_fits_0 6 (.getfield 39) 3 ∧ De bdX11_fits_0 9 (.getfield 107) 3 ∧ De bdX11_fits_0 12 (.if_icmp .lt 11) 3 ∧ De bdX11_fits_0 15 (.new 84) 3 ∧ De bdX11_fits_0 18 (.dup) 1 ∧ De bdX11_fits_0 19 (.invokespecial 86) 3 ∧ De bdX11_fits_0 22 (.athrow) 1 ∧ De bdX11_fits_0 23 (.aload_n 0) 1 ∧ De bdX11_fits_0 24 (.iload_n 1) 1 ∧ De bdX11_fits_0 25 (.iload_n 2) 1 ∧ De bdX11_fits_0 26 (.invokevirtual 391) 3 ∧ De bdX11_fits_0 29 (.aload_n 0) 1 := by decide +kernel
theorem dX11_fits_0 : decode cX11_fits 0 = .ok (.iload_n 3, 1) := dAt wdX11_fits_0 adX11_fits_0.1 rfl
theorem dX11_fits_1 : decode cX11_fits 1 = .ok (.ifCond .lt 14, 3) := dAt wdX11_fits_0 adX11_fits_0.2.1 rfl
theorem dX11_fits_4 : decode cX11_fits 4 = .ok (.iload_n 3, 1) := dAt wdX11_fits_0 adX11_fits_0.2.2.1 rfl
theorem dX11_fits_5 : decode cX11_fits 5 = .ok (.aload_n 0, 1) := dAt wdX11_fits_0 adX11_fits_0.2.2.2.1 rfl
theorem dX11_fits_6 : decode cX11_fits 6 = .ok (.getfield 39, 3) := dAt wdX11_fits_0 adX11_fits_0.2.2.2.2.1 rfl
theorem dX11_fits_9 : decode cX11_fits 9 = .ok (.getfield 107, 3) := dAt wdX11_fits_0 adX11_fits_0.2.2.2.2.2.1 rfl
theorem dX11_fits_12 : decode cX11_fits 12 = .ok (.if_icmp .lt 11, 3) := dAt wdX11_fits_0 adX11_fits_0.2.2.2.2.2.2.1 rfl
theorem dX11_fits_15 : decode cX11_fits 15 = .ok (.new 84, 3) := dAt wdX11_fits_0 adX11_fits_0.2.2.2.2.2.2.2.1 rfl
theorem dX11_fits_18 : decode cX11_fits 18 = .ok (.dup, 1) := dAt wdX11_fits_0 adX11_fits_0.2.2.2.2.2.2.2.2.1 rfl
theorem dX11_fits_19 : decode cX11_fits 19 = .ok (.invokespecial 86, 3) := dAt wdX11_fits_0 adX11_fits_0.2.2.2.2.2.2.2.2.2.1 rfl
theorem dX11_fits_22 : decode cX11_fits 22 = .ok (.athrow, 1) := dAt wdX11_fits_0 adX11_fits_0.2.2.2.2.2.2.2.2.2.2.1 rfl
theorem dX11_fits_23 : decode cX11_fits 23 = .ok (.aload_n 0, 1) := dAt wdX11_fits_0 adX11_fits_0.2.2.2.2.2.2.2.2.2.2.2.1 rfl
theorem dX11_fits_24 : decode cX11_fits 24 = .ok (.iload_n 1, 1) := dAt wdX11_fits_0 adX11_fits_0.2.2.2.2.2.2.2.2.2.2.2.2.1 rfl
theorem dX11_fits_25 : decode cX11_fits 25 = .ok (.iload_n 2, 1) := dAt wdX11_fits_0 adX11_fits_0.2.2.2.2.2.2.2.2.2.2.2.2.2.1 rfl
theorem dX11_fits_26 : decode cX11_fits 26 = .ok (.invokevirtual 391, 3) := dAt wdX11_fits_0 adX11_fits_0.2.2.2.2.2.2.2.2.2.2.2.2.2.2.1 rfl
theorem dX11_fits_29 : decode cX11_fits 29 = .ok (.aload_n 0, 1) := dAt wdX11_fits_0 adX11_fits_0.2.2.2.2.2.2.2.2.2.2.2.2.2.2.2 rfl
def bdX11_fits_30 : ByteArray := .mk #[180, 0, 53, 29, 182, 1, 142, 54, 5, 42, 180, 0, 53, 180, 1, 139, 2, 159, 0, 9, 21, 5, 2, 160, 0, 5, 2, 172, 21, 4, 153, 0, 16]
theorem wdX11_fits_30 : LocW cX11_fits 30 bdX11_fits_30 := loc_of (by decide +kernel)
theorem adX11_fits_30 : De bdX11_fits_30 0 (.getfield 53) 3 ∧ De bdX11_fits_30 3 (.iload_n 3) 1 ∧ De bdX11_fits_30 4 (.invokevirtual 398) 3 ∧ De bdX11_fits_30 7 (.istore 5) 2 ∧ De bdX11_fits_30 9 (.aload_n 0) 1 ∧ De bdX11_fits_30 10 (.getfield 53) 3 ∧ De bdX11_fits_30 13 (.getfield 395) 3 ∧ De bdX11_fits_30 16 (.iconst (-1)) 1 ∧ De bdX11_fits_30 17 (.if_icmp .eq 9) 3 ∧ De bdX11_fits_30 20 (.iload 5) 2 ∧ De bdX11_fits_30 22 (.iconst (-1)) 1 ∧ De bdX11_fits_30 23 (.if_icmp .ne 5) 3 ∧ De bdX11_fits_30 26 (.iconst (-1)) 1 ∧ De bdX11_fits_30 27 (.ireturn) 1 ∧ De bdX11_fits_30 28 (.iload 4) 2 ∧ De bdX11_fits_30 30 (.ifCond .eq 16) 3 := by decide +kernel
theorem dX11_fits_30 : decode cX11_fits 30 = .ok (.getfield 53, 3) := dAt wdX11_fits_30 adX11_fits_30.1 rfl
theorem dX11_fits_33 : decode cX11_fits 33 = .ok (.iload_n 3, 1) := dAt wdX11_fits_30 adX11_fits_30.2.1 rfl
theorem dX11_fits_34 : decode cX11_fits 34 = .ok (.invokevirtual 398, 3) := dAt wdX11_fits_30 adX11_fits_30.2.2.1 rfl
theorem dX11_fits_37 : decode cX11_fits 37 = .ok (.istore 5, 2) := dAt wdX11_fits_30 adX11_fits_30.2.2.2.1 rfl
theorem dX11_fits_39 : decode cX11_fits 39 = .ok (.aload_n 0, 1) := dAt wdX11_fits_30 adX11_fits_30.2.2.2.2.1 rfl
theorem dX11_fits_40 : decode cX11_fits 40 = .ok (.getfield 53, 3) := dAt wdX11_fits_30 adX11_fits_30.2.2.2.2.2.1 rfl
theorem dX11_fits_43 : decode cX11_fits 43 = .ok (.getfield 395, 3) := dAt wdX11_fits_30 adX11_fits_30.2.2.2.2.2.2.1 rfl
theorem dX11_fits_46 : decode cX11_fits 46 = .ok (.iconst (-1), 1) := dAt wdX11_fits_30 adX11_fits_30.2.2.2.2.2.2.2.1 rfl
theorem dX11_fits_47 : decode cX11_fits 47 = .ok (.if_icmp .eq 9, 3) := dAt wdX11_fits_30 adX11_fits_30.2.2.2.2.2.2.2.2.1 rfl
theorem dX11_fits_50 : decode cX11_fits 50 = .ok (.iload 5, 2) := dAt wdX11_fits_30 adX11_fits_30.2.2.2.2.2.2.2.2.2.1 rfl
theorem dX11_fits_52 : decode cX11_fits 52 = .ok (.iconst (-1), 1) := dAt wdX11_fits_30 adX11_fits_30.2.2.2.2.2.2.2.2.2.2.1 rfl
theorem dX11_fits_53 : decode cX11_fits 53 = .ok (.if_icmp .ne 5, 3) := dAt wdX11_fits_30 adX11_fits_30.2.2.2.2.2.2.2.2.2.2.2.1 rfl
theorem dX11_fits_56 : decode cX11_fits 56 = .ok (.iconst (-1), 1) := dAt wdX11_fits_30 adX11_fits_30.2.2.2.2.2.2.2.2.2.2.2.2.1 rfl
theorem dX11_fits_57 : decode cX11_fits 57 = .ok (.ireturn, 1) := dAt wdX11_fits_30 adX11_fits_30.2.2.2.2.2.2.2.2.2.2.2.2.2.1 rfl
theorem dX11_fits_58 : decode cX11_fits 58 = .ok (.iload 4, 2) := dAt wdX11_fits_30 adX11_fits_30.2.2.2.2.2.2.2.2.2.2.2.2.2.2.1 rfl
theorem dX11_fits_60 : decode cX11_fits 60 = .ok (.ifCond .eq 16, 3) := dAt wdX11_fits_30 adX11_fits_30.2.2.2.2.2.2.2.2.2.2.2.2.2.2.2 rfl
def bdX11_fits_63 : ByteArray := .mk #[42, 180, 0, 53, 180, 1, 145, 21, 5, 46, 167, 0, 13, 42, 180, 0, 53, 180, 1, 148, 21, 5, 46, 172]
theorem wdX11_fits_63 : LocW cX11_fits 63 bdX11_fits_63 := loc_of (by decide +kernel)
theorem adX11_fits_63 : De bdX11_fits_63 0 (.aload_n 0) 1 ∧ De bdX11_fits_63 1 (.getfield 53) 3 ∧ De bdX11_fits_63 4 (.getfield 401) 3 ∧ De bdX11_fits_63 7 (.iload 5) 2 ∧ De bdX11_fits_63 9 (.iaload) 1 ∧ De bdX11_fits_63 10 (.goto 13) 3 ∧ De bdX11_fits_63 13 (.aload_n 0) 1 ∧ De bdX11_fits_63 14 (.getfield 53) 3 ∧ De bdX11_fits_63 17 (.getfield 404) 3 ∧ De bdX11_fits_63 20 (.iload 5) 2 ∧ De bdX11_fits_63 22 (.iaload) 1 ∧ De bdX11_fits_63 23 (.ireturn) 1 := by decide +kernel
theorem dX11_fits_63 : decode cX11_fits 63 = .ok (.aload_n 0, 1) := dAt wdX11_fits_63 adX11_fits_63.1 rfl
theorem dX11_fits_64 : decode cX11_fits 64 = .ok (.getfield 53, 3) := dAt wdX11_fits_63 adX11_fits_63.2.1 rfl
theorem dX11_fits_67 : decode cX11_fits 67 = .ok (.getfield 401, 3) := dAt wdX11_fits_63 adX11_fits_63.2.2.1 rfl
theorem dX11_fits_70 : decode cX11_fits 70 = .ok (.iload 5, 2) := dAt wdX11_fits_63 adX11_fits_63.2.2.2.1 rfl
theorem dX11_fits_72 : decode cX11_fits 72 = .ok (.iaload, 1) := dAt wdX11_fits_63 adX11_fits_63.2.2.2.2.1 rfl
theorem dX11_fits_73 : decode cX11_fits 73 = .ok (.goto 13, 3) := dAt wdX11_fits_63 adX11_fits_63.2.2.2.2.2.1 rfl
theorem dX11_fits_76 : decode cX11_fits 76 = .ok (.aload_n 0, 1) := dAt wdX11_fits_63 adX11_fits_63.2.2.2.2.2.2.1 rfl
theorem dX11_fits_77 : decode cX11_fits 77 = .ok (.getfield 53, 3) := dAt wdX11_fits_63 adX11_fits_63.2.2.2.2.2.2.2.1 rfl
theorem dX11_fits_80 : decode cX11_fits 80 = .ok (.getfield 404, 3) := dAt wdX11_fits_63 adX11_fits_63.2.2.2.2.2.2.2.2.1 rfl
theorem dX11_fits_83 : decode cX11_fits 83 = .ok (.iload 5, 2) := dAt wdX11_fits_63 adX11_fits_63.2.2.2.2.2.2.2.2.2.1 rfl
theorem dX11_fits_85 : decode cX11_fits 85 = .ok (.iaload, 1) := dAt wdX11_fits_63 adX11_fits_63.2.2.2.2.2.2.2.2.2.2.1 rfl
theorem dX11_fits_86 : decode cX11_fits 86 = .ok (.ireturn, 1) := dAt wdX11_fits_63 adX11_fits_63.2.2.2.2.2.2.2.2.2.2.2 rfl
def bdX11_lock_0 : ByteArray := .mk #[42, 27, 28, 182, 1, 135, 42, 180, 0, 53, 180, 1, 139, 2, 159, 0, 17, 42, 180, 0, 53, 42, 180, 0, 39, 182, 1, 151, 154, 0, 5, 2]
theorem wdX11_lock_0 : LocW cX11_lock 0 bdX11_lock_0 := loc_of (by decide +kernel)
theorem adX11_lock_0 : De bdX11_lock_0 0 (.aload_n 0) 1 ∧ De bdX11_lock_0 1 (.iload_n 1) 1 ∧ De bdX11_lock_0 2 (.iload_n 2) 1 ∧ De bdX11_lock_0 3 (.invokevirtual 391) 3 ∧ De bdX11_lock_0 6 (.aload_n 0) 1 ∧ De bdX11_lock_0 7 (.getfield 53) 3 ∧ De bdX11_lock_0 10 (.getfield 395) 3 ∧ De bdX11_lock_0 13 (.iconst (-1)) 1 ∧ De bdX11_lock_0 14 (.if_icmp .eq 17) 3 ∧ De bdX11_lock_0 17 (.aload_n 0) 1 ∧ De bdX11_lock_0 18 (.getfield 53) 3 ∧ De bdX11_lock_0 21 (.aload_n 0) 1 ∧ De bdX11_lock_0 22 (.getfield 39) 3 ∧ De bdX11_lock_0 25 (.invokevirtual 407) 3 ∧ De bdX11_lock_0 28 (.ifCond .ne 5) 3 ∧ De bdX11_lock_0 31 (.iconst (-1)) 1 := by decide +kernel
theorem dX11_lock_0 : decode cX11_lock 0 = .ok (.aload_n 0, 1) := dAt wdX11_lock_0 adX11_lock_0.1 rfl
theorem dX11_lock_1 : decode cX11_lock 1 = .ok (.iload_n 1, 1) := dAt wdX11_lock_0 adX11_lock_0.2.1 rfl
theorem dX11_lock_2 : decode cX11_lock 2 = .ok (.iload_n 2, 1) := dAt wdX11_lock_0 adX11_lock_0.2.2.1 rfl
theorem dX11_lock_3 : decode cX11_lock 3 = .ok (.invokevirtual 391, 3) := dAt wdX11_lock_0 adX11_lock_0.2.2.2.1 rfl
theorem dX11_lock_6 : decode cX11_lock 6 = .ok (.aload_n 0, 1) := dAt wdX11_lock_0 adX11_lock_0.2.2.2.2.1 rfl
theorem dX11_lock_7 : decode cX11_lock 7 = .ok (.getfield 53, 3) := dAt wdX11_lock_0 adX11_lock_0.2.2.2.2.2.1 rfl
theorem dX11_lock_10 : decode cX11_lock 10 = .ok (.getfield 395, 3) := dAt wdX11_lock_0 adX11_lock_0.2.2.2.2.2.2.1 rfl
theorem dX11_lock_13 : decode cX11_lock 13 = .ok (.iconst (-1), 1) := dAt wdX11_lock_0 adX11_lock_0.2.2.2.2.2.2.2.1 rfl
theorem dX11_lock_14 : decode cX11_lock 14 = .ok (.if_icmp .eq 17, 3) := dAt wdX11_lock_0 adX11_lock_0.2.2.2.2.2.2.2.2.1 rfl
theorem dX11_lock_17 : decode cX11_lock 17 = .ok (.aload_n 0, 1) := dAt wdX11_lock_0 adX11_lock_0.2.2.2.2.2.2.2.2.2.1 rfl
theorem dX11_lock_18 : decode cX11_lock 18 = .ok (.getfield 53, 3) := dAt wdX11_lock_0 adX11_lock_0.2.2.2.2.2.2.2.2.2.2.1 rfl
theorem dX11_lock_21 : decode cX11_lock 21 = .ok (.aload_n 0, 1) := dAt wdX11_lock_0 adX11_lock_0.2.2.2.2.2.2.2.2.2.2.2.1 rfl
theorem dX11_lock_22 : decode cX11_lock 22 = .ok (.getfield 39, 3) := dAt wdX11_lock_0 adX11_lock_0.2.2.2.2.2.2.2.2.2.2.2.2.1 rfl
theorem dX11_lock_25 : decode cX11_lock 25 = .ok (.invokevirtual 407, 3) := dAt wdX11_lock_0 adX11_lock_0.2.2.2.2.2.2.2.2.2.2.2.2.2.1 rfl
theorem dX11_lock_28 : decode cX11_lock 28 = .ok (.ifCond .ne 5, 3) := dAt wdX11_lock_0 adX11_lock_0.2.2.2.2.2.2.2.2.2.2.2.2.2.2.1 rfl
theorem dX11_lock_31 : decode cX11_lock 31 = .ok (.iconst (-1), 1) := dAt wdX11_lock_0 adX11_lock_0.2.2.2.2.2.2.2.2.2.2.2.2.2.2.2 rfl
def bdX11_lock_32 : ByteArray := .mk #[172, 42, 180, 0, 46, 27, 182, 1, 155, 62, 3, 54, 4, 21, 4, 42, 180, 0, 46, 180, 1, 129, 27, 46, 162, 0, 70, 3]
theorem wdX11_lock_32 : LocW cX11_lock 32 bdX11_lock_32 := loc_of (by decide +kernel)
theorem adX11_lock_32 : De bdX11_lock_32 0 (.ireturn) 1 ∧ De bdX11_lock_32 1 (.aload_n 0) 1 ∧ De bdX11_lock_32 2 (.getfield 46) 3 ∧ De bdX11_lock_32 5 (.iload_n 1) 1 ∧ De bdX11_lock_32 6 (.invokevirtual 411) 3 ∧ De bdX11_lock_32 9 (.istore_n 3) 1 ∧ De bdX11_lock_32 10 (.iconst 0) 1 ∧ De bdX11_lock_32 11 (.istore 4) 2 ∧ De bdX11_lock_32 13 (.iload 4) 2 ∧ De bdX11_lock_32 15 (.aload_n 0) 1 ∧ De bdX11_lock_32 16 (.getfield 46) 3 ∧ De bdX11_lock_32 19 (.getfield 385) 3 ∧ De bdX11_lock_32 22 (.iload_n 1) 1 ∧ De bdX11_lock_32 23 (.iaload) 1 ∧ De bdX11_lock_32 24 (.if_icmp .ge 70) 3 ∧ De bdX11_lock_32 27 (.iconst 0) 1 := by decide +kernel
theorem dX11_lock_32 : decode cX11_lock 32 = .ok (.ireturn, 1) := dAt wdX11_lock_32 adX11_lock_32.1 rfl
theorem dX11_lock_33 : decode cX11_lock 33 = .ok (.aload_n 0, 1) := dAt wdX11_lock_32 adX11_lock_32.2.1 rfl
theorem dX11_lock_34 : decode cX11_lock 34 = .ok (.getfield 46, 3) := dAt wdX11_lock_32 adX11_lock_32.2.2.1 rfl
theorem dX11_lock_37 : decode cX11_lock 37 = .ok (.iload_n 1, 1) := dAt wdX11_lock_32 adX11_lock_32.2.2.2.1 rfl
theorem dX11_lock_38 : decode cX11_lock 38 = .ok (.invokevirtual 411, 3) := dAt wdX11_lock_32 adX11_lock_32.2.2.2.2.1 rfl
theorem dX11_lock_41 : decode cX11_lock 41 = .ok (.istore_n 3, 1) := dAt wdX11_lock_32 adX11_lock_32.2.2.2.2.2.1 rfl
theorem dX11_lock_42 : decode cX11_lock 42 = .ok (.iconst 0, 1) := dAt wdX11_lock_32 adX11_lock_32.2.2.2.2.2.2.1 rfl
theorem dX11_lock_43 : decode cX11_lock 43 = .ok (.istore 4, 2) := dAt wdX11_lock_32 adX11_lock_32.2.2.2.2.2.2.2.1 rfl
theorem dX11_lock_45 : decode cX11_lock 45 = .ok (.iload 4, 2) := dAt wdX11_lock_32 adX11_lock_32.2.2.2.2.2.2.2.2.1 rfl
theorem dX11_lock_47 : decode cX11_lock 47 = .ok (.aload_n 0, 1) := dAt wdX11_lock_32 adX11_lock_32.2.2.2.2.2.2.2.2.2.1 rfl
theorem dX11_lock_48 : decode cX11_lock 48 = .ok (.getfield 46, 3) := dAt wdX11_lock_32 adX11_lock_32.2.2.2.2.2.2.2.2.2.2.1 rfl
theorem dX11_lock_51 : decode cX11_lock 51 = .ok (.getfield 385, 3) := dAt wdX11_lock_32 adX11_lock_32.2.2.2.2.2.2.2.2.2.2.2.1 rfl
theorem dX11_lock_54 : decode cX11_lock 54 = .ok (.iload_n 1, 1) := dAt wdX11_lock_32 adX11_lock_32.2.2.2.2.2.2.2.2.2.2.2.2.1 rfl
theorem dX11_lock_55 : decode cX11_lock 55 = .ok (.iaload, 1) := dAt wdX11_lock_32 adX11_lock_32.2.2.2.2.2.2.2.2.2.2.2.2.2.1 rfl
theorem dX11_lock_56 : decode cX11_lock 56 = .ok (.if_icmp .ge 70, 3) := dAt wdX11_lock_32 adX11_lock_32.2.2.2.2.2.2.2.2.2.2.2.2.2.2.1 rfl
theorem dX11_lock_59 : decode cX11_lock 59 = .ok (.iconst 0, 1) := dAt wdX11_lock_32 adX11_lock_32.2.2.2.2.2.2.2.2.2.2.2.2.2.2.2 rfl
def bdX11_lock_60 : ByteArray := .mk #[54, 5, 21, 5, 42, 180, 0, 53, 180, 1, 158, 162, 0, 49, 42, 180, 0, 53, 180, 1, 148, 21, 5, 46, 21, 4, 160, 0, 28, 42, 29, 42]
theorem wdX11_lock_60 : LocW cX11_lock 60 bdX11_lock_60 := loc_of (by decide +kernel)
theorem adX11_lock_60 : De bdX11_lock_60 0 (.istore 5) 2 ∧ De bdX11_lock_60 2 (.iload 5) 2 ∧ De bdX11_lock_60 4 (.aload_n 0) 1 ∧ De bdX11_lock_60 5 (.getfield 53) 3 ∧ De bdX11_lock_60 8 (.getfield 414) 3 ∧ De bdX11_lock_60 11 (.if_icmp .ge 49) 3 ∧ De bdX11_lock_60 14 (.aload_n 0) 1 ∧ De bdX11_lock_60 15 (.getfield 53) 3 ∧ De bdX11_lock_60 18 (.getfield 404) 3 ∧ De bdX11_lock_60 21 (.iload 5) 2 ∧ De bdX11_lock_60 23 (.iaload) 1 ∧ De bdX11_lock_60 24 (.iload 4) 2 ∧ De bdX11_lock_60 26 (.if_icmp .ne 28) 3 ∧ De bdX11_lock_60 29 (.aload_n 0) 1 ∧ De bdX11_lock_60 30 (.iload_n 3) 1 ∧ De bdX11_lock_60 31 (.aload_n 0) 1 := by decide +kernel
theorem dX11_lock_60 : decode cX11_lock 60 = .ok (.istore 5, 2) := dAt wdX11_lock_60 adX11_lock_60.1 rfl
theorem dX11_lock_62 : decode cX11_lock 62 = .ok (.iload 5, 2) := dAt wdX11_lock_60 adX11_lock_60.2.1 rfl
theorem dX11_lock_64 : decode cX11_lock 64 = .ok (.aload_n 0, 1) := dAt wdX11_lock_60 adX11_lock_60.2.2.1 rfl
theorem dX11_lock_65 : decode cX11_lock 65 = .ok (.getfield 53, 3) := dAt wdX11_lock_60 adX11_lock_60.2.2.2.1 rfl
theorem dX11_lock_68 : decode cX11_lock 68 = .ok (.getfield 414, 3) := dAt wdX11_lock_60 adX11_lock_60.2.2.2.2.1 rfl
theorem dX11_lock_71 : decode cX11_lock 71 = .ok (.if_icmp .ge 49, 3) := dAt wdX11_lock_60 adX11_lock_60.2.2.2.2.2.1 rfl
theorem dX11_lock_74 : decode cX11_lock 74 = .ok (.aload_n 0, 1) := dAt wdX11_lock_60 adX11_lock_60.2.2.2.2.2.2.1 rfl
theorem dX11_lock_75 : decode cX11_lock 75 = .ok (.getfield 53, 3) := dAt wdX11_lock_60 adX11_lock_60.2.2.2.2.2.2.2.1 rfl
theorem dX11_lock_78 : decode cX11_lock 78 = .ok (.getfield 404, 3) := dAt wdX11_lock_60 adX11_lock_60.2.2.2.2.2.2.2.2.1 rfl
theorem dX11_lock_81 : decode cX11_lock 81 = .ok (.iload 5, 2) := dAt wdX11_lock_60 adX11_lock_60.2.2.2.2.2.2.2.2.2.1 rfl
theorem dX11_lock_83 : decode cX11_lock 83 = .ok (.iaload, 1) := dAt wdX11_lock_60 adX11_lock_60.2.2.2.2.2.2.2.2.2.2.1 rfl
theorem dX11_lock_84 : decode cX11_lock 84 = .ok (.iload 4, 2) := dAt wdX11_lock_60 adX11_lock_60.2.2.2.2.2.2.2.2.2.2.2.1 rfl
theorem dX11_lock_86 : decode cX11_lock 86 = .ok (.if_icmp .ne 28, 3) := dAt wdX11_lock_60 adX11_lock_60.2.2.2.2.2.2.2.2.2.2.2.2.1 rfl
theorem dX11_lock_89 : decode cX11_lock 89 = .ok (.aload_n 0, 1) := dAt wdX11_lock_60 adX11_lock_60.2.2.2.2.2.2.2.2.2.2.2.2.2.1 rfl
theorem dX11_lock_90 : decode cX11_lock 90 = .ok (.iload_n 3, 1) := dAt wdX11_lock_60 adX11_lock_60.2.2.2.2.2.2.2.2.2.2.2.2.2.2.1 rfl
theorem dX11_lock_91 : decode cX11_lock 91 = .ok (.aload_n 0, 1) := dAt wdX11_lock_60 adX11_lock_60.2.2.2.2.2.2.2.2.2.2.2.2.2.2.2 rfl
def bdX11_lock_92 : ByteArray := .mk #[180, 0, 53, 180, 1, 161, 21, 5, 46, 42, 180, 0, 53, 180, 1, 145, 21, 5, 46, 182, 1, 163, 132, 5, 1, 167, 255, 201, 132, 4, 1, 167, 255, 178, 42, 180, 0, 46]
theorem wdX11_lock_92 : LocW cX11_lock 92 bdX11_lock_92 := loc_of (by decide +kernel)
theorem adX11_lock_92 : De bdX11_lock_92 0 (.getfield 53) 3 ∧ De bdX11_lock_92 3 (.getfield 417) 3 ∧ De bdX11_lock_92 6 (.iload 5) 2 ∧ De bdX11_lock_92 8 (.iaload) 1 ∧ De bdX11_lock_92 9 (.aload_n 0) 1 ∧ De bdX11_lock_92 10 (.getfield 53) 3 ∧ De bdX11_lock_92 13 (.getfield 401) 3 ∧ De bdX11_lock_92 16 (.iload 5) 2 ∧ De bdX11_lock_92 18 (.iaload) 1 ∧ De bdX11_lock_92 19 (.invokevirtual 419) 3 ∧ De bdX11_lock_92 22 (.iinc 5 1) 3 ∧ De bdX11_lock_92 25 (.goto (-55)) 3 ∧ De bdX11_lock_92 28 (.iinc 4 1) 3 ∧ De bdX11_lock_92 31 (.goto (-78)) 3 ∧ De bdX11_lock_92 34 (.aload_n 0) 1 ∧ De bdX11_lock_92 35 (.getfield 46) 3 := by decide +kernel
theorem dX11_lock_92 : decode cX11_lock 92 = .ok (.getfield 53, 3) := dAt wdX11_lock_92 adX11_lock_92.1 rfl
theorem dX11_lock_95 : decode cX11_lock 95 = .ok (.getfield 417, 3) := dAt wdX11_lock_92 adX11_lock_92.2.1 rfl
theorem dX11_lock_98 : decode cX11_lock 98 = .ok (.iload 5, 2) := dAt wdX11_lock_92 adX11_lock_92.2.2.1 rfl
theorem dX11_lock_100 : decode cX11_lock 100 = .ok (.iaload, 1) := dAt wdX11_lock_92 adX11_lock_92.2.2.2.1 rfl
theorem dX11_lock_101 : decode cX11_lock 101 = .ok (.aload_n 0, 1) := dAt wdX11_lock_92 adX11_lock_92.2.2.2.2.1 rfl
theorem dX11_lock_102 : decode cX11_lock 102 = .ok (.getfield 53, 3) := dAt wdX11_lock_92 adX11_lock_92.2.2.2.2.2.1 rfl
theorem dX11_lock_105 : decode cX11_lock 105 = .ok (.getfield 401, 3) := dAt wdX11_lock_92 adX11_lock_92.2.2.2.2.2.2.1 rfl
theorem dX11_lock_108 : decode cX11_lock 108 = .ok (.iload 5, 2) := dAt wdX11_lock_92 adX11_lock_92.2.2.2.2.2.2.2.1 rfl
theorem dX11_lock_110 : decode cX11_lock 110 = .ok (.iaload, 1) := dAt wdX11_lock_92 adX11_lock_92.2.2.2.2.2.2.2.2.1 rfl
theorem dX11_lock_111 : decode cX11_lock 111 = .ok (.invokevirtual 419, 3) := dAt wdX11_lock_92 adX11_lock_92.2.2.2.2.2.2.2.2.2.1 rfl
theorem dX11_lock_114 : decode cX11_lock 114 = .ok (.iinc 5 1, 3) := dAt wdX11_lock_92 adX11_lock_92.2.2.2.2.2.2.2.2.2.2.1 rfl
theorem dX11_lock_117 : decode cX11_lock 117 = .ok (.goto (-55), 3) := dAt wdX11_lock_92 adX11_lock_92.2.2.2.2.2.2.2.2.2.2.2.1 rfl
theorem dX11_lock_120 : decode cX11_lock 120 = .ok (.iinc 4 1, 3) := dAt wdX11_lock_92 adX11_lock_92.2.2.2.2.2.2.2.2.2.2.2.2.1 rfl
theorem dX11_lock_123 : decode cX11_lock 123 = .ok (.goto (-78), 3) := dAt wdX11_lock_92 adX11_lock_92.2.2.2.2.2.2.2.2.2.2.2.2.2.1 rfl
theorem dX11_lock_126 : decode cX11_lock 126 = .ok (.aload_n 0, 1) := dAt wdX11_lock_92 adX11_lock_92.2.2.2.2.2.2.2.2.2.2.2.2.2.2.1 rfl
theorem dX11_lock_127 : decode cX11_lock 127 = .ok (.getfield 46, 3) := dAt wdX11_lock_92 adX11_lock_92.2.2.2.2.2.2.2.2.2.2.2.2.2.2.2 rfl
def bdX11_lock_130 : ByteArray := .mk #[180, 1, 166, 27, 42, 180, 0, 39, 180, 0, 117, 79, 42, 180, 0, 46, 180, 1, 169, 27, 42, 180, 0, 39, 27, 182, 1, 172, 79, 42]
theorem wdX11_lock_130 : LocW cX11_lock 130 bdX11_lock_130 := loc_of (by decide +kernel)
theorem adX11_lock_130 : De bdX11_lock_130 0 (.getfield 422) 3 ∧ De bdX11_lock_130 3 (.iload_n 1) 1 ∧ De bdX11_lock_130 4 (.aload_n 0) 1 ∧ De bdX11_lock_130 5 (.getfield 39) 3 ∧ De bdX11_lock_130 8 (.getfield 117) 3 ∧ De bdX11_lock_130 11 (.iastore) 1 ∧ De bdX11_lock_130 12 (.aload_n 0) 1 ∧ De bdX11_lock_130 13 (.getfield 46) 3 ∧ De bdX11_lock_130 16 (.getfield 425) 3 ∧ De bdX11_lock_130 19 (.iload_n 1) 1 ∧ De bdX11_lock_130 20 (.aload_n 0) 1 ∧ De bdX11_lock_130 21 (.getfield 39) 3 ∧ De bdX11_lock_130 24 (.iload_n 1) 1 ∧ De bdX11_lock_130 25 (.invokevirtual 428) 3 ∧ De bdX11_lock_130 28 (.iastore) 1 ∧ De bdX11_lock_130 29 (.aload_n 0) 1 := by decide +kernel
theorem dX11_lock_130 : decode cX11_lock 130 = .ok (.getfield 422, 3) := dAt wdX11_lock_130 adX11_lock_130.1 rfl
theorem dX11_lock_133 : decode cX11_lock 133 = .ok (.iload_n 1, 1) := dAt wdX11_lock_130 adX11_lock_130.2.1 rfl
theorem dX11_lock_134 : decode cX11_lock 134 = .ok (.aload_n 0, 1) := dAt wdX11_lock_130 adX11_lock_130.2.2.1 rfl
theorem dX11_lock_135 : decode cX11_lock 135 = .ok (.getfield 39, 3) := dAt wdX11_lock_130 adX11_lock_130.2.2.2.1 rfl
theorem dX11_lock_138 : decode cX11_lock 138 = .ok (.getfield 117, 3) := dAt wdX11_lock_130 adX11_lock_130.2.2.2.2.1 rfl
theorem dX11_lock_141 : decode cX11_lock 141 = .ok (.iastore, 1) := dAt wdX11_lock_130 adX11_lock_130.2.2.2.2.2.1 rfl
theorem dX11_lock_142 : decode cX11_lock 142 = .ok (.aload_n 0, 1) := dAt wdX11_lock_130 adX11_lock_130.2.2.2.2.2.2.1 rfl
theorem dX11_lock_143 : decode cX11_lock 143 = .ok (.getfield 46, 3) := dAt wdX11_lock_130 adX11_lock_130.2.2.2.2.2.2.2.1 rfl
theorem dX11_lock_146 : decode cX11_lock 146 = .ok (.getfield 425, 3) := dAt wdX11_lock_130 adX11_lock_130.2.2.2.2.2.2.2.2.1 rfl
theorem dX11_lock_149 : decode cX11_lock 149 = .ok (.iload_n 1, 1) := dAt wdX11_lock_130 adX11_lock_130.2.2.2.2.2.2.2.2.2.1 rfl
theorem dX11_lock_150 : decode cX11_lock 150 = .ok (.aload_n 0, 1) := dAt wdX11_lock_130 adX11_lock_130.2.2.2.2.2.2.2.2.2.2.1 rfl
theorem dX11_lock_151 : decode cX11_lock 151 = .ok (.getfield 39, 3) := dAt wdX11_lock_130 adX11_lock_130.2.2.2.2.2.2.2.2.2.2.2.1 rfl
theorem dX11_lock_154 : decode cX11_lock 154 = .ok (.iload_n 1, 1) := dAt wdX11_lock_130 adX11_lock_130.2.2.2.2.2.2.2.2.2.2.2.2.1 rfl
theorem dX11_lock_155 : decode cX11_lock 155 = .ok (.invokevirtual 428, 3) := dAt wdX11_lock_130 adX11_lock_130.2.2.2.2.2.2.2.2.2.2.2.2.2.1 rfl
theorem dX11_lock_158 : decode cX11_lock 158 = .ok (.iastore, 1) := dAt wdX11_lock_130 adX11_lock_130.2.2.2.2.2.2.2.2.2.2.2.2.2.2.1 rfl
theorem dX11_lock_159 : decode cX11_lock 159 = .ok (.aload_n 0, 1) := dAt wdX11_lock_130 adX11_lock_130.2.2.2.2.2.2.2.2.2.2.2.2.2.2.2 rfl
def bdX11_lock_160 : ByteArray := .mk #[180, 0, 46, 180, 1, 175, 29, 46, 172]
theorem wdX11_lock_160 : LocW cX11_lock 160 bdX11_lock_160 := loc_of (by decide +kernel)
theorem adX11_lock_160 : De bdX11_lock_160 0 (.getfield 46) 3 ∧ De bdX11_lock_160 3 (.getfield 431) 3 ∧ De bdX11_lock_160 6 (.iload_n 3) 1 ∧ De bdX11_lock_160 7 (.iaload) 1 ∧ De bdX11_lock_160 8 (.ireturn) 1 := by decide +kernel
theorem dX11_lock_160 : decode cX11_lock 160 = .ok (.getfield 46, 3) := dAt wdX11_lock_160 adX11_lock_160.1 rfl
theorem dX11_lock_163 : decode cX11_lock 163 = .ok (.getfield 431, 3) := dAt wdX11_lock_160 adX11_lock_160.2.1 rfl
theorem dX11_lock_166 : decode cX11_lock 166 = .ok (.iload_n 3, 1) := dAt wdX11_lock_160 adX11_lock_160.2.2.1 rfl
theorem dX11_lock_167 : decode cX11_lock 167 = .ok (.iaload, 1) := dAt wdX11_lock_160 adX11_lock_160.2.2.2.1 rfl
theorem dX11_lock_168 : decode cX11_lock 168 = .ok (.ireturn, 1) := dAt wdX11_lock_160 adX11_lock_160.2.2.2.2 rfl
def bdX11_layStory_0 : ByteArray := .mk #[3, 54, 4, 21, 4, 29, 162, 0, 39, 42, 180, 0, 39, 8, 28, 104, 21, 4, 96, 182, 0, 139, 58, 5, 25, 5, 198, 0, 13]
theorem wdX11_layStory_0 : LocW cX11_layStory 0 bdX11_layStory_0 := loc_of (by decide +kernel)
theorem adX11_layStory_0 : De bdX11_layStory_0 0 (.iconst 0) 1 ∧ De bdX11_layStory_0 1 (.istore 4) 2 ∧ De bdX11_layStory_0 3 (.iload 4) 2 ∧ De bdX11_layStory_0 5 (.iload_n 3) 1 ∧ De bdX11_layStory_0 6 (.if_icmp .ge 39) 3 ∧ De bdX11_layStory_0 9 (.aload_n 0) 1 ∧ De bdX11_layStory_0 10 (.getfield 39) 3 ∧ De bdX11_layStory_0 13 (.iconst 5) 1 ∧ De bdX11_layStory_0 14 (.iload_n 2) 1 ∧ De bdX11_layStory_0 15 (.imul) 1 ∧ De bdX11_layStory_0 16 (.iload 4) 2 ∧ De bdX11_layStory_0 18 (.iadd) 1 ∧ De bdX11_layStory_0 19 (.invokevirtual 139) 3 ∧ De bdX11_layStory_0 22 (.astore 5) 2 ∧ De bdX11_layStory_0 24 (.aload 5) 2 ∧ De bdX11_layStory_0 26 (.ifnull 13) 3 := by decide +kernel
theorem dX11_layStory_0 : decode cX11_layStory 0 = .ok (.iconst 0, 1) := dAt wdX11_layStory_0 adX11_layStory_0.1 rfl
theorem dX11_layStory_1 : decode cX11_layStory 1 = .ok (.istore 4, 2) := dAt wdX11_layStory_0 adX11_layStory_0.2.1 rfl
theorem dX11_layStory_3 : decode cX11_layStory 3 = .ok (.iload 4, 2) := dAt wdX11_layStory_0 adX11_layStory_0.2.2.1 rfl
theorem dX11_layStory_5 : decode cX11_layStory 5 = .ok (.iload_n 3, 1) := dAt wdX11_layStory_0 adX11_layStory_0.2.2.2.1 rfl
theorem dX11_layStory_6 : decode cX11_layStory 6 = .ok (.if_icmp .ge 39, 3) := dAt wdX11_layStory_0 adX11_layStory_0.2.2.2.2.1 rfl
theorem dX11_layStory_9 : decode cX11_layStory 9 = .ok (.aload_n 0, 1) := dAt wdX11_layStory_0 adX11_layStory_0.2.2.2.2.2.1 rfl
theorem dX11_layStory_10 : decode cX11_layStory 10 = .ok (.getfield 39, 3) := dAt wdX11_layStory_0 adX11_layStory_0.2.2.2.2.2.2.1 rfl
theorem dX11_layStory_13 : decode cX11_layStory 13 = .ok (.iconst 5, 1) := dAt wdX11_layStory_0 adX11_layStory_0.2.2.2.2.2.2.2.1 rfl
theorem dX11_layStory_14 : decode cX11_layStory 14 = .ok (.iload_n 2, 1) := dAt wdX11_layStory_0 adX11_layStory_0.2.2.2.2.2.2.2.2.1 rfl
theorem dX11_layStory_15 : decode cX11_layStory 15 = .ok (.imul, 1) := dAt wdX11_layStory_0 adX11_layStory_0.2.2.2.2.2.2.2.2.2.1 rfl
theorem dX11_layStory_16 : decode cX11_layStory 16 = .ok (.iload 4, 2) := dAt wdX11_layStory_0 adX11_layStory_0.2.2.2.2.2.2.2.2.2.2.1 rfl
theorem dX11_layStory_18 : decode cX11_layStory 18 = .ok (.iadd, 1) := dAt wdX11_layStory_0 adX11_layStory_0.2.2.2.2.2.2.2.2.2.2.2.1 rfl
theorem dX11_layStory_19 : decode cX11_layStory 19 = .ok (.invokevirtual 139, 3) := dAt wdX11_layStory_0 adX11_layStory_0.2.2.2.2.2.2.2.2.2.2.2.2.1 rfl
theorem dX11_layStory_22 : decode cX11_layStory 22 = .ok (.astore 5, 2) := dAt wdX11_layStory_0 adX11_layStory_0.2.2.2.2.2.2.2.2.2.2.2.2.2.1 rfl
theorem dX11_layStory_24 : decode cX11_layStory 24 = .ok (.aload 5, 2) := dAt wdX11_layStory_0 adX11_layStory_0.2.2.2.2.2.2.2.2.2.2.2.2.2.2.1 rfl
theorem dX11_layStory_26 : decode cX11_layStory 26 = .ok (.ifnull 13, 3) := dAt wdX11_layStory_0 adX11_layStory_0.2.2.2.2.2.2.2.2.2.2.2.2.2.2.2 rfl
def bdX11_layStory_29 : ByteArray := .mk #[42, 180, 0, 46, 27, 25, 5, 182, 1, 178, 132, 4, 1, 167, 255, 217, 177]
theorem wdX11_layStory_29 : LocW cX11_layStory 29 bdX11_layStory_29 := loc_of (by decide +kernel)
theorem adX11_layStory_29 : De bdX11_layStory_29 0 (.aload_n 0) 1 ∧ De bdX11_layStory_29 1 (.getfield 46) 3 ∧ De bdX11_layStory_29 4 (.iload_n 1) 1 ∧ De bdX11_layStory_29 5 (.aload 5) 2 ∧ De bdX11_layStory_29 7 (.invokevirtual 434) 3 ∧ De bdX11_layStory_29 10 (.iinc 4 1) 3 ∧ De bdX11_layStory_29 13 (.goto (-39)) 3 ∧ De bdX11_layStory_29 16 (.return_) 1 := by decide +kernel
theorem dX11_layStory_29 : decode cX11_layStory 29 = .ok (.aload_n 0, 1) := dAt wdX11_layStory_29 adX11_layStory_29.1 rfl
theorem dX11_layStory_30 : decode cX11_layStory 30 = .ok (.getfield 46, 3) := dAt wdX11_layStory_29 adX11_layStory_29.2.1 rfl
theorem dX11_layStory_33 : decode cX11_layStory 33 = .ok (.iload_n 1, 1) := dAt wdX11_layStory_29 adX11_layStory_29.2.2.1 rfl
theorem dX11_layStory_34 : decode cX11_layStory 34 = .ok (.aload 5, 2) := dAt wdX11_layStory_29 adX11_layStory_29.2.2.2.1 rfl
theorem dX11_layStory_36 : decode cX11_layStory 36 = .ok (.invokevirtual 434, 3) := dAt wdX11_layStory_29 adX11_layStory_29.2.2.2.2.1 rfl
theorem dX11_layStory_39 : decode cX11_layStory 39 = .ok (.iinc 4 1, 3) := dAt wdX11_layStory_29 adX11_layStory_29.2.2.2.2.2.1 rfl
theorem dX11_layStory_42 : decode cX11_layStory 42 = .ok (.goto (-39), 3) := dAt wdX11_layStory_29 adX11_layStory_29.2.2.2.2.2.2.1 rfl
theorem dX11_layStory_45 : decode cX11_layStory 45 = .ok (.return_, 1) := dAt wdX11_layStory_29 adX11_layStory_29.2.2.2.2.2.2.2 rfl
def bdX11_findFit_0 : ByteArray := .mk #[27, 184, 1, 126, 153, 0, 15, 28, 42, 180, 0, 39, 180, 0, 107, 124, 153, 0, 11, 187, 0, 84, 89, 183, 0, 86, 191, 28, 184, 1, 182, 62]
theorem wdX11_findFit_0 : LocW cX11_findFit 0 bdX11_findFit_0 := loc_of (by decide +kernel)
theorem adX11_findFit_0 : De bdX11_findFit_0 0 (.iload_n 1) 1 ∧ De bdX11_findFit_0 1 (.invokestatic 382) 3 ∧ De bdX11_findFit_0 4 (.ifCond .eq 15) 3 ∧ De bdX11_findFit_0 7 (.iload_n 2) 1 ∧ De bdX11_findFit_0 8 (.aload_n 0) 1 ∧ De bdX11_findFit_0 9 (.getfield 39) 3 ∧ De bdX11_findFit_0 12 (.getfield 107) 3 ∧ De bdX11_findFit_0 15 (.iushr) 1 ∧ De bdX11_findFit_0 16 (.ifCond .eq 11) 3 ∧ De bdX11_findFit_0 19 (.new 84) 3 ∧ De bdX11_findFit_0 22 (.dup) 1 ∧ De bdX11_findFit_0 23 (.invokespecial 86) 3 ∧ De bdX11_findFit_0 26 (.athrow) 1 ∧ De bdX11_findFit_0 27 (.iload_n 2) 1 ∧ De bdX11_findFit_0 28 (.invokestatic 438) 3 ∧ De bdX11_findFit_0 31 (.istore_n 3) 1 := by decide +kernel
theorem dX11_findFit_0 : decode cX11_findFit 0 = .ok (.iload_n 1, 1) := dAt wdX11_findFit_0 adX11_findFit_0.1 rfl
theorem dX11_findFit_1 : decode cX11_findFit 1 = .ok (.invokestatic 382, 3) := dAt wdX11_findFit_0 adX11_findFit_0.2.1 rfl
theorem dX11_findFit_4 : decode cX11_findFit 4 = .ok (.ifCond .eq 15, 3) := dAt wdX11_findFit_0 adX11_findFit_0.2.2.1 rfl
theorem dX11_findFit_7 : decode cX11_findFit 7 = .ok (.iload_n 2, 1) := dAt wdX11_findFit_0 adX11_findFit_0.2.2.2.1 rfl
theorem dX11_findFit_8 : decode cX11_findFit 8 = .ok (.aload_n 0, 1) := dAt wdX11_findFit_0 adX11_findFit_0.2.2.2.2.1 rfl
theorem dX11_findFit_9 : decode cX11_findFit 9 = .ok (.getfield 39, 3) := dAt wdX11_findFit_0 adX11_findFit_0.2.2.2.2.2.1 rfl
theorem dX11_findFit_12 : decode cX11_findFit 12 = .ok (.getfield 107, 3) := dAt wdX11_findFit_0 adX11_findFit_0.2.2.2.2.2.2.1 rfl
theorem dX11_findFit_15 : decode cX11_findFit 15 = .ok (.iushr, 1) := dAt wdX11_findFit_0 adX11_findFit_0.2.2.2.2.2.2.2.1 rfl
theorem dX11_findFit_16 : decode cX11_findFit 16 = .ok (.ifCond .eq 11, 3) := dAt wdX11_findFit_0 adX11_findFit_0.2.2.2.2.2.2.2.2.1 rfl
theorem dX11_findFit_19 : decode cX11_findFit 19 = .ok (.new 84, 3) := dAt wdX11_findFit_0 adX11_findFit_0.2.2.2.2.2.2.2.2.2.1 rfl
theorem dX11_findFit_22 : decode cX11_findFit 22 = .ok (.dup, 1) := dAt wdX11_findFit_0 adX11_findFit_0.2.2.2.2.2.2.2.2.2.2.1 rfl
theorem dX11_findFit_23 : decode cX11_findFit 23 = .ok (.invokespecial 86, 3) := dAt wdX11_findFit_0 adX11_findFit_0.2.2.2.2.2.2.2.2.2.2.2.1 rfl
theorem dX11_findFit_26 : decode cX11_findFit 26 = .ok (.athrow, 1) := dAt wdX11_findFit_0 adX11_findFit_0.2.2.2.2.2.2.2.2.2.2.2.2.1 rfl
theorem dX11_findFit_27 : decode cX11_findFit 27 = .ok (.iload_n 2, 1) := dAt wdX11_findFit_0 adX11_findFit_0.2.2.2.2.2.2.2.2.2.2.2.2.2.1 rfl
theorem dX11_findFit_28 : decode cX11_findFit 28 = .ok (.invokestatic 438, 3) := dAt wdX11_findFit_0 adX11_findFit_0.2.2.2.2.2.2.2.2.2.2.2.2.2.2.1 rfl
theorem dX11_findFit_31 : decode cX11_findFit 31 = .ok (.istore_n 3, 1) := dAt wdX11_findFit_0 adX11_findFit_0.2.2.2.2.2.2.2.2.2.2.2.2.2.2.2 rfl
def bdX11_findFit_32 : ByteArray := .mk #[29, 4, 161, 0, 8, 29, 7, 164, 0, 11, 187, 0, 87, 89, 183, 0, 89, 191, 3, 54, 4, 21, 4, 42, 180, 0, 39, 180, 0, 107]
theorem wdX11_findFit_32 : LocW cX11_findFit 32 bdX11_findFit_32 := loc_of (by decide +kernel)
theorem adX11_findFit_32 : De bdX11_findFit_32 0 (.iload_n 3) 1 ∧ De bdX11_findFit_32 1 (.iconst 1) 1 ∧ De bdX11_findFit_32 2 (.if_icmp .lt 8) 3 ∧ De bdX11_findFit_32 5 (.iload_n 3) 1 ∧ De bdX11_findFit_32 6 (.iconst 4) 1 ∧ De bdX11_findFit_32 7 (.if_icmp .le 11) 3 ∧ De bdX11_findFit_32 10 (.new 87) 3 ∧ De bdX11_findFit_32 13 (.dup) 1 ∧ De bdX11_findFit_32 14 (.invokespecial 89) 3 ∧ De bdX11_findFit_32 17 (.athrow) 1 ∧ De bdX11_findFit_32 18 (.iconst 0) 1 ∧ De bdX11_findFit_32 19 (.istore 4) 2 ∧ De bdX11_findFit_32 21 (.iload 4) 2 ∧ De bdX11_findFit_32 23 (.aload_n 0) 1 ∧ De bdX11_findFit_32 24 (.getfield 39) 3 ∧ De bdX11_findFit_32 27 (.getfield 107) 3 := by decide +kernel
theorem dX11_findFit_32 : decode cX11_findFit 32 = .ok (.iload_n 3, 1) := dAt wdX11_findFit_32 adX11_findFit_32.1 rfl
theorem dX11_findFit_33 : decode cX11_findFit 33 = .ok (.iconst 1, 1) := dAt wdX11_findFit_32 adX11_findFit_32.2.1 rfl
theorem dX11_findFit_34 : decode cX11_findFit 34 = .ok (.if_icmp .lt 8, 3) := dAt wdX11_findFit_32 adX11_findFit_32.2.2.1 rfl
theorem dX11_findFit_37 : decode cX11_findFit 37 = .ok (.iload_n 3, 1) := dAt wdX11_findFit_32 adX11_findFit_32.2.2.2.1 rfl
theorem dX11_findFit_38 : decode cX11_findFit 38 = .ok (.iconst 4, 1) := dAt wdX11_findFit_32 adX11_findFit_32.2.2.2.2.1 rfl
theorem dX11_findFit_39 : decode cX11_findFit 39 = .ok (.if_icmp .le 11, 3) := dAt wdX11_findFit_32 adX11_findFit_32.2.2.2.2.2.1 rfl
theorem dX11_findFit_42 : decode cX11_findFit 42 = .ok (.new 87, 3) := dAt wdX11_findFit_32 adX11_findFit_32.2.2.2.2.2.2.1 rfl
theorem dX11_findFit_45 : decode cX11_findFit 45 = .ok (.dup, 1) := dAt wdX11_findFit_32 adX11_findFit_32.2.2.2.2.2.2.2.1 rfl
theorem dX11_findFit_46 : decode cX11_findFit 46 = .ok (.invokespecial 89, 3) := dAt wdX11_findFit_32 adX11_findFit_32.2.2.2.2.2.2.2.2.1 rfl
theorem dX11_findFit_49 : decode cX11_findFit 49 = .ok (.athrow, 1) := dAt wdX11_findFit_32 adX11_findFit_32.2.2.2.2.2.2.2.2.2.1 rfl
theorem dX11_findFit_50 : decode cX11_findFit 50 = .ok (.iconst 0, 1) := dAt wdX11_findFit_32 adX11_findFit_32.2.2.2.2.2.2.2.2.2.2.1 rfl
theorem dX11_findFit_51 : decode cX11_findFit 51 = .ok (.istore 4, 2) := dAt wdX11_findFit_32 adX11_findFit_32.2.2.2.2.2.2.2.2.2.2.2.1 rfl
theorem dX11_findFit_53 : decode cX11_findFit 53 = .ok (.iload 4, 2) := dAt wdX11_findFit_32 adX11_findFit_32.2.2.2.2.2.2.2.2.2.2.2.2.1 rfl
theorem dX11_findFit_55 : decode cX11_findFit 55 = .ok (.aload_n 0, 1) := dAt wdX11_findFit_32 adX11_findFit_32.2.2.2.2.2.2.2.2.2.2.2.2.2.1 rfl
theorem dX11_findFit_56 : decode cX11_findFit 56 = .ok (.getfield 39, 3) := dAt wdX11_findFit_32 adX11_findFit_32.2.2.2.2.2.2.2.2.2.2.2.2.2.2.1 rfl
theorem dX11_findFit_59 : decode cX11_findFit 59 = .ok (.getfield 107, 3) := dAt wdX11_findFit_32 adX11_findFit_32.2.2.2.2.2.2.2.2.2.2.2.2.2.2.2 rfl
def bdX11_findFit_62 : ByteArray := .mk #[162, 0, 38, 28, 21, 4, 122, 4, 126, 153, 0, 23, 42, 180, 0, 39, 21, 4, 182, 1, 187, 154, 0, 11, 187, 1, 66, 89, 183, 1, 68, 191]
theorem wdX11_findFit_62 : LocW cX11_findFit 62 bdX11_findFit_62 := loc_of (by decide +kernel)
theorem adX11_findFit_62 : De bdX11_findFit_62 0 (.if_icmp .ge 38) 3 ∧ De bdX11_findFit_62 3 (.iload_n 2) 1 ∧ De bdX11_findFit_62 4 (.iload 4) 2 ∧ De bdX11_findFit_62 6 (.ishr) 1 ∧ De bdX11_findFit_62 7 (.iconst 1) 1 ∧ De bdX11_findFit_62 8 (.iand) 1 ∧ De bdX11_findFit_62 9 (.ifCond .eq 23) 3 ∧ De bdX11_findFit_62 12 (.aload_n 0) 1 ∧ De bdX11_findFit_62 13 (.getfield 39) 3 ∧ De bdX11_findFit_62 16 (.iload 4) 2 ∧ De bdX11_findFit_62 18 (.invokevirtual 443) 3 ∧ De bdX11_findFit_62 21 (.ifCond .ne 11) 3 ∧ De bdX11_findFit_62 24 (.new 322) 3 ∧ De bdX11_findFit_62 27 (.dup) 1 ∧ De bdX11_findFit_62 28 (.invokespecial 324) 3 ∧ De bdX11_findFit_62 31 (.athrow) 1 := by decide +kernel
theorem dX11_findFit_62 : decode cX11_findFit 62 = .ok (.if_icmp .ge 38, 3) := dAt wdX11_findFit_62 adX11_findFit_62.1 rfl
theorem dX11_findFit_65 : decode cX11_findFit 65 = .ok (.iload_n 2, 1) := dAt wdX11_findFit_62 adX11_findFit_62.2.1 rfl
theorem dX11_findFit_66 : decode cX11_findFit 66 = .ok (.iload 4, 2) := dAt wdX11_findFit_62 adX11_findFit_62.2.2.1 rfl
theorem dX11_findFit_68 : decode cX11_findFit 68 = .ok (.ishr, 1) := dAt wdX11_findFit_62 adX11_findFit_62.2.2.2.1 rfl
theorem dX11_findFit_69 : decode cX11_findFit 69 = .ok (.iconst 1, 1) := dAt wdX11_findFit_62 adX11_findFit_62.2.2.2.2.1 rfl
theorem dX11_findFit_70 : decode cX11_findFit 70 = .ok (.iand, 1) := dAt wdX11_findFit_62 adX11_findFit_62.2.2.2.2.2.1 rfl
theorem dX11_findFit_71 : decode cX11_findFit 71 = .ok (.ifCond .eq 23, 3) := dAt wdX11_findFit_62 adX11_findFit_62.2.2.2.2.2.2.1 rfl
theorem dX11_findFit_74 : decode cX11_findFit 74 = .ok (.aload_n 0, 1) := dAt wdX11_findFit_62 adX11_findFit_62.2.2.2.2.2.2.2.1 rfl
theorem dX11_findFit_75 : decode cX11_findFit 75 = .ok (.getfield 39, 3) := dAt wdX11_findFit_62 adX11_findFit_62.2.2.2.2.2.2.2.2.1 rfl
theorem dX11_findFit_78 : decode cX11_findFit 78 = .ok (.iload 4, 2) := dAt wdX11_findFit_62 adX11_findFit_62.2.2.2.2.2.2.2.2.2.1 rfl
theorem dX11_findFit_80 : decode cX11_findFit 80 = .ok (.invokevirtual 443, 3) := dAt wdX11_findFit_62 adX11_findFit_62.2.2.2.2.2.2.2.2.2.2.1 rfl
theorem dX11_findFit_83 : decode cX11_findFit 83 = .ok (.ifCond .ne 11, 3) := dAt wdX11_findFit_62 adX11_findFit_62.2.2.2.2.2.2.2.2.2.2.2.1 rfl
theorem dX11_findFit_86 : decode cX11_findFit 86 = .ok (.new 322, 3) := dAt wdX11_findFit_62 adX11_findFit_62.2.2.2.2.2.2.2.2.2.2.2.2.1 rfl
theorem dX11_findFit_89 : decode cX11_findFit 89 = .ok (.dup, 1) := dAt wdX11_findFit_62 adX11_findFit_62.2.2.2.2.2.2.2.2.2.2.2.2.2.1 rfl
theorem dX11_findFit_90 : decode cX11_findFit 90 = .ok (.invokespecial 324, 3) := dAt wdX11_findFit_62 adX11_findFit_62.2.2.2.2.2.2.2.2.2.2.2.2.2.2.1 rfl
theorem dX11_findFit_93 : decode cX11_findFit 93 = .ok (.athrow, 1) := dAt wdX11_findFit_62 adX11_findFit_62.2.2.2.2.2.2.2.2.2.2.2.2.2.2.2 rfl
def bdX11_findFit_94 : ByteArray := .mk #[132, 4, 1, 167, 255, 212, 42, 180, 0, 53, 42, 180, 0, 39, 28, 42, 180, 0, 46, 180, 1, 129, 27, 46, 42, 180, 0, 46, 180, 1, 132, 27]
theorem wdX11_findFit_94 : LocW cX11_findFit 94 bdX11_findFit_94 := loc_of (by decide +kernel)
theorem adX11_findFit_94 : De bdX11_findFit_94 0 (.iinc 4 1) 3 ∧ De bdX11_findFit_94 3 (.goto (-44)) 3 ∧ De bdX11_findFit_94 6 (.aload_n 0) 1 ∧ De bdX11_findFit_94 7 (.getfield 53) 3 ∧ De bdX11_findFit_94 10 (.aload_n 0) 1 ∧ De bdX11_findFit_94 11 (.getfield 39) 3 ∧ De bdX11_findFit_94 14 (.iload_n 2) 1 ∧ De bdX11_findFit_94 15 (.aload_n 0) 1 ∧ De bdX11_findFit_94 16 (.getfield 46) 3 ∧ De bdX11_findFit_94 19 (.getfield 385) 3 ∧ De bdX11_findFit_94 22 (.iload_n 1) 1 ∧ De bdX11_findFit_94 23 (.iaload) 1 ∧ De bdX11_findFit_94 24 (.aload_n 0) 1 ∧ De bdX11_findFit_94 25 (.getfield 46) 3 ∧ De bdX11_findFit_94 28 (.getfield 388) 3 ∧ De bdX11_findFit_94 31 (.iload_n 1) 1 := by decide +kernel
theorem dX11_findFit_94 : decode cX11_findFit 94 = .ok (.iinc 4 1, 3) := dAt wdX11_findFit_94 adX11_findFit_94.1 rfl
theorem dX11_findFit_97 : decode cX11_findFit 97 = .ok (.goto (-44), 3) := dAt wdX11_findFit_94 adX11_findFit_94.2.1 rfl
theorem dX11_findFit_100 : decode cX11_findFit 100 = .ok (.aload_n 0, 1) := dAt wdX11_findFit_94 adX11_findFit_94.2.2.1 rfl
theorem dX11_findFit_101 : decode cX11_findFit 101 = .ok (.getfield 53, 3) := dAt wdX11_findFit_94 adX11_findFit_94.2.2.2.1 rfl
theorem dX11_findFit_104 : decode cX11_findFit 104 = .ok (.aload_n 0, 1) := dAt wdX11_findFit_94 adX11_findFit_94.2.2.2.2.1 rfl
theorem dX11_findFit_105 : decode cX11_findFit 105 = .ok (.getfield 39, 3) := dAt wdX11_findFit_94 adX11_findFit_94.2.2.2.2.2.1 rfl
theorem dX11_findFit_108 : decode cX11_findFit 108 = .ok (.iload_n 2, 1) := dAt wdX11_findFit_94 adX11_findFit_94.2.2.2.2.2.2.1 rfl
theorem dX11_findFit_109 : decode cX11_findFit 109 = .ok (.aload_n 0, 1) := dAt wdX11_findFit_94 adX11_findFit_94.2.2.2.2.2.2.2.1 rfl
theorem dX11_findFit_110 : decode cX11_findFit 110 = .ok (.getfield 46, 3) := dAt wdX11_findFit_94 adX11_findFit_94.2.2.2.2.2.2.2.2.1 rfl
theorem dX11_findFit_113 : decode cX11_findFit 113 = .ok (.getfield 385, 3) := dAt wdX11_findFit_94 adX11_findFit_94.2.2.2.2.2.2.2.2.2.1 rfl
theorem dX11_findFit_116 : decode cX11_findFit 116 = .ok (.iload_n 1, 1) := dAt wdX11_findFit_94 adX11_findFit_94.2.2.2.2.2.2.2.2.2.2.1 rfl
theorem dX11_findFit_117 : decode cX11_findFit 117 = .ok (.iaload, 1) := dAt wdX11_findFit_94 adX11_findFit_94.2.2.2.2.2.2.2.2.2.2.2.1 rfl
theorem dX11_findFit_118 : decode cX11_findFit 118 = .ok (.aload_n 0, 1) := dAt wdX11_findFit_94 adX11_findFit_94.2.2.2.2.2.2.2.2.2.2.2.2.1 rfl
theorem dX11_findFit_119 : decode cX11_findFit 119 = .ok (.getfield 46, 3) := dAt wdX11_findFit_94 adX11_findFit_94.2.2.2.2.2.2.2.2.2.2.2.2.2.1 rfl
theorem dX11_findFit_122 : decode cX11_findFit 122 = .ok (.getfield 388, 3) := dAt wdX11_findFit_94 adX11_findFit_94.2.2.2.2.2.2.2.2.2.2.2.2.2.2.1 rfl
theorem dX11_findFit_125 : decode cX11_findFit 125 = .ok (.iload_n 1, 1) := dAt wdX11_findFit_94 adX11_findFit_94.2.2.2.2.2.2.2.2.2.2.2.2.2.2.2 rfl
def bdX11_findFit_126 : ByteArray := .mk #[46, 182, 1, 190, 177]
theorem wdX11_findFit_126 : LocW cX11_findFit 126 bdX11_findFit_126 := loc_of (by decide +kernel)
theorem adX11_findFit_126 : De bdX11_findFit_126 0 (.iaload) 1 ∧ De bdX11_findFit_126 1 (.invokevirtual 446) 3 ∧ De bdX11_findFit_126 4 (.return_) 1 := by decide +kernel
theorem dX11_findFit_126 : decode cX11_findFit 126 = .ok (.iaload, 1) := dAt wdX11_findFit_126 adX11_findFit_126.1 rfl
theorem dX11_findFit_127 : decode cX11_findFit 127 = .ok (.invokevirtual 446, 3) := dAt wdX11_findFit_126 adX11_findFit_126.2.1 rfl
theorem dX11_findFit_130 : decode cX11_findFit 130 = .ok (.return_, 1) := dAt wdX11_findFit_126 adX11_findFit_126.2.2 rfl
def bdX11_locked_0 : ByteArray := .mk #[27, 184, 1, 126, 154, 0, 11, 187, 0, 84, 89, 183, 0, 86, 191, 28]
theorem wdX11_locked_0 : LocW cX11_locked 0 bdX11_locked_0 := loc_of (by decide +kernel)
theorem adX11_locked_0 : De bdX11_locked_0 0 (.iload_n 1) 1 ∧ De bdX11_locked_0 1 (.invokestatic 382) 3 ∧ De bdX11_locked_0 4 (.ifCond .ne 11) 3 ∧ De bdX11_locked_0 7 (.new 84) 3 ∧ De bdX11_locked_0 10 (.dup) 1 ∧ De bdX11_locked_0 11 (.invokespecial 86) 3 ∧ De bdX11_locked_0 14 (.athrow) 1 ∧ De bdX11_locked_0 15 (.iload_n 2) 1 := by decide +kernel
theorem dX11_locked_0 : decode cX11_locked 0 = .ok (.iload_n 1, 1) := dAt wdX11_locked_0 adX11_locked_0.1 rfl
theorem dX11_locked_1 : decode cX11_locked 1 = .ok (.invokestatic 382, 3) := dAt wdX11_locked_0 adX11_locked_0.2.1 rfl
theorem dX11_locked_4 : decode cX11_locked 4 = .ok (.ifCond .ne 11, 3) := dAt wdX11_locked_0 adX11_locked_0.2.2.1 rfl
theorem dX11_locked_7 : decode cX11_locked 7 = .ok (.new 84, 3) := dAt wdX11_locked_0 adX11_locked_0.2.2.2.1 rfl
theorem dX11_locked_10 : decode cX11_locked 10 = .ok (.dup, 1) := dAt wdX11_locked_0 adX11_locked_0.2.2.2.2.1 rfl
theorem dX11_locked_11 : decode cX11_locked 11 = .ok (.invokespecial 86, 3) := dAt wdX11_locked_0 adX11_locked_0.2.2.2.2.2.1 rfl
theorem dX11_locked_14 : decode cX11_locked 14 = .ok (.athrow, 1) := dAt wdX11_locked_0 adX11_locked_0.2.2.2.2.2.2.1 rfl
theorem dX11_locked_15 : decode cX11_locked 15 = .ok (.iload_n 2, 1) := dAt wdX11_locked_0 adX11_locked_0.2.2.2.2.2.2.2 rfl
theorem dX11_locked_16 : decode cX11_locked 16 = .ok (.tableswitch 86 0 4 #[36, 46, 56, 66, 76], 36) := by decide +kernel
def bdX11_locked_52 : ByteArray := .mk #[42, 180, 0, 46, 180, 1, 175, 27, 46, 172, 42, 180, 0, 46, 180, 1, 166, 27, 46, 172, 42, 180, 0, 46, 180, 1, 169, 27]
theorem wdX11_locked_52 : LocW cX11_locked 52 bdX11_locked_52 := loc_of (by decide +kernel)
theorem adX11_locked_52 : De bdX11_locked_52 0 (.aload_n 0) 1 ∧ De bdX11_locked_52 1 (.getfield 46) 3 ∧ De bdX11_locked_52 4 (.getfield 431) 3 ∧ De bdX11_locked_52 7 (.iload_n 1) 1 ∧ De bdX11_locked_52 8 (.iaload) 1 ∧ De bdX11_locked_52 9 (.ireturn) 1 ∧ De bdX11_locked_52 10 (.aload_n 0) 1 ∧ De bdX11_locked_52 11 (.getfield 46) 3 ∧ De bdX11_locked_52 14 (.getfield 422) 3 ∧ De bdX11_locked_52 17 (.iload_n 1) 1 ∧ De bdX11_locked_52 18 (.iaload) 1 ∧ De bdX11_locked_52 19 (.ireturn) 1 ∧ De bdX11_locked_52 20 (.aload_n 0) 1 ∧ De bdX11_locked_52 21 (.getfield 46) 3 ∧ De bdX11_locked_52 24 (.getfield 425) 3 ∧ De bdX11_locked_52 27 (.iload_n 1) 1 := by decide +kernel
theorem dX11_locked_52 : decode cX11_locked 52 = .ok (.aload_n 0, 1) := dAt wdX11_locked_52 adX11_locked_52.1 rfl
theorem dX11_locked_53 : decode cX11_locked 53 = .ok (.getfield 46, 3) := dAt wdX11_locked_52 adX11_locked_52.2.1 rfl
theorem dX11_locked_56 : decode cX11_locked 56 = .ok (.getfield 431, 3) := dAt wdX11_locked_52 adX11_locked_52.2.2.1 rfl
theorem dX11_locked_59 : decode cX11_locked 59 = .ok (.iload_n 1, 1) := dAt wdX11_locked_52 adX11_locked_52.2.2.2.1 rfl
theorem dX11_locked_60 : decode cX11_locked 60 = .ok (.iaload, 1) := dAt wdX11_locked_52 adX11_locked_52.2.2.2.2.1 rfl
theorem dX11_locked_61 : decode cX11_locked 61 = .ok (.ireturn, 1) := dAt wdX11_locked_52 adX11_locked_52.2.2.2.2.2.1 rfl
theorem dX11_locked_62 : decode cX11_locked 62 = .ok (.aload_n 0, 1) := dAt wdX11_locked_52 adX11_locked_52.2.2.2.2.2.2.1 rfl
theorem dX11_locked_63 : decode cX11_locked 63 = .ok (.getfield 46, 3) := dAt wdX11_locked_52 adX11_locked_52.2.2.2.2.2.2.2.1 rfl
theorem dX11_locked_66 : decode cX11_locked 66 = .ok (.getfield 422, 3) := dAt wdX11_locked_52 adX11_locked_52.2.2.2.2.2.2.2.2.1 rfl
theorem dX11_locked_69 : decode cX11_locked 69 = .ok (.iload_n 1, 1) := dAt wdX11_locked_52 adX11_locked_52.2.2.2.2.2.2.2.2.2.1 rfl
theorem dX11_locked_70 : decode cX11_locked 70 = .ok (.iaload, 1) := dAt wdX11_locked_52 adX11_locked_52.2.2.2.2.2.2.2.2.2.2.1 rfl
theorem dX11_locked_71 : decode cX11_locked 71 = .ok (.ireturn, 1) := dAt wdX11_locked_52 adX11_locked_52.2.2.2.2.2.2.2.2.2.2.2.1 rfl
theorem dX11_locked_72 : decode cX11_locked 72 = .ok (.aload_n 0, 1) := dAt wdX11_locked_52 adX11_locked_52.2.2.2.2.2.2.2.2.2.2.2.2.1 rfl
theorem dX11_locked_73 : decode cX11_locked 73 = .ok (.getfield 46, 3) := dAt wdX11_locked_52 adX11_locked_52.2.2.2.2.2.2.2.2.2.2.2.2.2.1 rfl
theorem dX11_locked_76 : decode cX11_locked 76 = .ok (.getfield 425, 3) := dAt wdX11_locked_52 adX11_locked_52.2.2.2.2.2.2.2.2.2.2.2.2.2.2.1 rfl
theorem dX11_locked_79 : decode cX11_locked 79 = .ok (.iload_n 1, 1) := dAt wdX11_locked_52 adX11_locked_52.2.2.2.2.2.2.2.2.2.2.2.2.2.2.2 rfl
def bdX11_locked_80 : ByteArray := .mk #[46, 172, 42, 180, 0, 46, 180, 1, 129, 27, 46, 172, 42, 180, 0, 46, 180, 1, 132, 27, 46, 172, 187, 0, 172, 89]
theorem wdX11_locked_80 : LocW cX11_locked 80 bdX11_locked_80 := loc_of (by decide +kernel)
theorem adX11_locked_80 : De bdX11_locked_80 0 (.iaload) 1 ∧ De bdX11_locked_80 1 (.ireturn) 1 ∧ De bdX11_locked_80 2 (.aload_n 0) 1 ∧ De bdX11_locked_80 3 (.getfield 46) 3 ∧ De bdX11_locked_80 6 (.getfield 385) 3 ∧ De bdX11_locked_80 9 (.iload_n 1) 1 ∧ De bdX11_locked_80 10 (.iaload) 1 ∧ De bdX11_locked_80 11 (.ireturn) 1 ∧ De bdX11_locked_80 12 (.aload_n 0) 1 ∧ De bdX11_locked_80 13 (.getfield 46) 3 ∧ De bdX11_locked_80 16 (.getfield 388) 3 ∧ De bdX11_locked_80 19 (.iload_n 1) 1 ∧ De bdX11_locked_80 20 (.iaload) 1 ∧ De bdX11_locked_80 21 (.ireturn) 1 ∧ De bdX11_locked_80 22 (.new 172) 3 ∧ De bdX11_locked_80 25 (.dup) 1 := by decide +kernel
theorem dX11_locked_80 : decode cX11_locked 80 = .ok (.iaload, 1) := dAt wdX11_locked_80 adX11_locked_80.1 rfl
theorem dX11_locked_81 : decode cX11_locked 81 = .ok (.ireturn, 1) := dAt wdX11_locked_80 adX11_locked_80.2.1 rfl
theorem dX11_locked_82 : decode cX11_locked 82 = .ok (.aload_n 0, 1) := dAt wdX11_locked_80 adX11_locked_80.2.2.1 rfl
theorem dX11_locked_83 : decode cX11_locked 83 = .ok (.getfield 46, 3) := dAt wdX11_locked_80 adX11_locked_80.2.2.2.1 rfl
theorem dX11_locked_86 : decode cX11_locked 86 = .ok (.getfield 385, 3) := dAt wdX11_locked_80 adX11_locked_80.2.2.2.2.1 rfl
theorem dX11_locked_89 : decode cX11_locked 89 = .ok (.iload_n 1, 1) := dAt wdX11_locked_80 adX11_locked_80.2.2.2.2.2.1 rfl
theorem dX11_locked_90 : decode cX11_locked 90 = .ok (.iaload, 1) := dAt wdX11_locked_80 adX11_locked_80.2.2.2.2.2.2.1 rfl
theorem dX11_locked_91 : decode cX11_locked 91 = .ok (.ireturn, 1) := dAt wdX11_locked_80 adX11_locked_80.2.2.2.2.2.2.2.1 rfl
theorem dX11_locked_92 : decode cX11_locked 92 = .ok (.aload_n 0, 1) := dAt wdX11_locked_80 adX11_locked_80.2.2.2.2.2.2.2.2.1 rfl
theorem dX11_locked_93 : decode cX11_locked 93 = .ok (.getfield 46, 3) := dAt wdX11_locked_80 adX11_locked_80.2.2.2.2.2.2.2.2.2.1 rfl
theorem dX11_locked_96 : decode cX11_locked 96 = .ok (.getfield 388, 3) := dAt wdX11_locked_80 adX11_locked_80.2.2.2.2.2.2.2.2.2.2.1 rfl
theorem dX11_locked_99 : decode cX11_locked 99 = .ok (.iload_n 1, 1) := dAt wdX11_locked_80 adX11_locked_80.2.2.2.2.2.2.2.2.2.2.2.1 rfl
theorem dX11_locked_100 : decode cX11_locked 100 = .ok (.iaload, 1) := dAt wdX11_locked_80 adX11_locked_80.2.2.2.2.2.2.2.2.2.2.2.2.1 rfl
theorem dX11_locked_101 : decode cX11_locked 101 = .ok (.ireturn, 1) := dAt wdX11_locked_80 adX11_locked_80.2.2.2.2.2.2.2.2.2.2.2.2.2.1 rfl
theorem dX11_locked_102 : decode cX11_locked 102 = .ok (.new 172, 3) := dAt wdX11_locked_80 adX11_locked_80.2.2.2.2.2.2.2.2.2.2.2.2.2.2.1 rfl
theorem dX11_locked_105 : decode cX11_locked 105 = .ok (.dup, 1) := dAt wdX11_locked_80 adX11_locked_80.2.2.2.2.2.2.2.2.2.2.2.2.2.2.2 rfl
def bdX11_locked_106 : ByteArray := .mk #[183, 0, 174, 191]
theorem wdX11_locked_106 : LocW cX11_locked 106 bdX11_locked_106 := loc_of (by decide +kernel)
theorem adX11_locked_106 : De bdX11_locked_106 0 (.invokespecial 174) 3 ∧ De bdX11_locked_106 3 (.athrow) 1 := by decide +kernel
theorem dX11_locked_106 : decode cX11_locked 106 = .ok (.invokespecial 174, 3) := dAt wdX11_locked_106 adX11_locked_106.1 rfl
theorem dX11_locked_109 : decode cX11_locked 109 = .ok (.athrow, 1) := dAt wdX11_locked_106 adX11_locked_106.2 rfl
def bdX11_stands_0 : ByteArray := .mk #[27, 184, 1, 126, 153, 0, 11, 42, 28, 182, 1, 194, 154, 0, 11, 187, 0, 84, 89, 183, 0, 86, 191, 42, 180, 0, 46, 16, 6, 28, 4]
theorem wdX11_stands_0 : LocW cX11_stands 0 bdX11_stands_0 := loc_of (by decide +kernel)
theorem adX11_stands_0 : De bdX11_stands_0 0 (.iload_n 1) 1 ∧ De bdX11_stands_0 1 (.invokestatic 382) 3 ∧ De bdX11_stands_0 4 (.ifCond .eq 11) 3 ∧ De bdX11_stands_0 7 (.aload_n 0) 1 ∧ De bdX11_stands_0 8 (.iload_n 2) 1 ∧ De bdX11_stands_0 9 (.invokevirtual 450) 3 ∧ De bdX11_stands_0 12 (.ifCond .ne 11) 3 ∧ De bdX11_stands_0 15 (.new 84) 3 ∧ De bdX11_stands_0 18 (.dup) 1 ∧ De bdX11_stands_0 19 (.invokespecial 86) 3 ∧ De bdX11_stands_0 22 (.athrow) 1 ∧ De bdX11_stands_0 23 (.aload_n 0) 1 ∧ De bdX11_stands_0 24 (.getfield 46) 3 ∧ De bdX11_stands_0 27 (.bipush 6) 2 ∧ De bdX11_stands_0 29 (.iload_n 2) 1 ∧ De bdX11_stands_0 30 (.iconst 1) 1 := by decide +kernel
theorem dX11_stands_0 : decode cX11_stands 0 = .ok (.iload_n 1, 1) := dAt wdX11_stands_0 adX11_stands_0.1 rfl
theorem dX11_stands_1 : decode cX11_stands 1 = .ok (.invokestatic 382, 3) := dAt wdX11_stands_0 adX11_stands_0.2.1 rfl
theorem dX11_stands_4 : decode cX11_stands 4 = .ok (.ifCond .eq 11, 3) := dAt wdX11_stands_0 adX11_stands_0.2.2.1 rfl
theorem dX11_stands_7 : decode cX11_stands 7 = .ok (.aload_n 0, 1) := dAt wdX11_stands_0 adX11_stands_0.2.2.2.1 rfl
theorem dX11_stands_8 : decode cX11_stands 8 = .ok (.iload_n 2, 1) := dAt wdX11_stands_0 adX11_stands_0.2.2.2.2.1 rfl
theorem dX11_stands_9 : decode cX11_stands 9 = .ok (.invokevirtual 450, 3) := dAt wdX11_stands_0 adX11_stands_0.2.2.2.2.2.1 rfl
theorem dX11_stands_12 : decode cX11_stands 12 = .ok (.ifCond .ne 11, 3) := dAt wdX11_stands_0 adX11_stands_0.2.2.2.2.2.2.1 rfl
theorem dX11_stands_15 : decode cX11_stands 15 = .ok (.new 84, 3) := dAt wdX11_stands_0 adX11_stands_0.2.2.2.2.2.2.2.1 rfl
theorem dX11_stands_18 : decode cX11_stands 18 = .ok (.dup, 1) := dAt wdX11_stands_0 adX11_stands_0.2.2.2.2.2.2.2.2.1 rfl
theorem dX11_stands_19 : decode cX11_stands 19 = .ok (.invokespecial 86, 3) := dAt wdX11_stands_0 adX11_stands_0.2.2.2.2.2.2.2.2.2.1 rfl
theorem dX11_stands_22 : decode cX11_stands 22 = .ok (.athrow, 1) := dAt wdX11_stands_0 adX11_stands_0.2.2.2.2.2.2.2.2.2.2.1 rfl
theorem dX11_stands_23 : decode cX11_stands 23 = .ok (.aload_n 0, 1) := dAt wdX11_stands_0 adX11_stands_0.2.2.2.2.2.2.2.2.2.2.2.1 rfl
theorem dX11_stands_24 : decode cX11_stands 24 = .ok (.getfield 46, 3) := dAt wdX11_stands_0 adX11_stands_0.2.2.2.2.2.2.2.2.2.2.2.2.1 rfl
theorem dX11_stands_27 : decode cX11_stands 27 = .ok (.bipush 6, 2) := dAt wdX11_stands_0 adX11_stands_0.2.2.2.2.2.2.2.2.2.2.2.2.2.1 rfl
theorem dX11_stands_29 : decode cX11_stands 29 = .ok (.iload_n 2, 1) := dAt wdX11_stands_0 adX11_stands_0.2.2.2.2.2.2.2.2.2.2.2.2.2.2.1 rfl
theorem dX11_stands_30 : decode cX11_stands 30 = .ok (.iconst 1, 1) := dAt wdX11_stands_0 adX11_stands_0.2.2.2.2.2.2.2.2.2.2.2.2.2.2.2 rfl
def bdX11_stands_31 : ByteArray := .mk #[96, 104, 27, 96, 29, 182, 1, 197, 172]
theorem wdX11_stands_31 : LocW cX11_stands 31 bdX11_stands_31 := loc_of (by decide +kernel)
theorem adX11_stands_31 : De bdX11_stands_31 0 (.iadd) 1 ∧ De bdX11_stands_31 1 (.imul) 1 ∧ De bdX11_stands_31 2 (.iload_n 1) 1 ∧ De bdX11_stands_31 3 (.iadd) 1 ∧ De bdX11_stands_31 4 (.iload_n 3) 1 ∧ De bdX11_stands_31 5 (.invokevirtual 453) 3 ∧ De bdX11_stands_31 8 (.ireturn) 1 := by decide +kernel
theorem dX11_stands_31 : decode cX11_stands 31 = .ok (.iadd, 1) := dAt wdX11_stands_31 adX11_stands_31.1 rfl
theorem dX11_stands_32 : decode cX11_stands 32 = .ok (.imul, 1) := dAt wdX11_stands_31 adX11_stands_31.2.1 rfl
theorem dX11_stands_33 : decode cX11_stands 33 = .ok (.iload_n 1, 1) := dAt wdX11_stands_31 adX11_stands_31.2.2.1 rfl
theorem dX11_stands_34 : decode cX11_stands 34 = .ok (.iadd, 1) := dAt wdX11_stands_31 adX11_stands_31.2.2.2.1 rfl
theorem dX11_stands_35 : decode cX11_stands 35 = .ok (.iload_n 3, 1) := dAt wdX11_stands_31 adX11_stands_31.2.2.2.2.1 rfl
theorem dX11_stands_36 : decode cX11_stands 36 = .ok (.invokevirtual 453, 3) := dAt wdX11_stands_31 adX11_stands_31.2.2.2.2.2.1 rfl
theorem dX11_stands_39 : decode cX11_stands 39 = .ok (.ireturn, 1) := dAt wdX11_stands_31 adX11_stands_31.2.2.2.2.2.2 rfl
def bdX11_edition_0 : ByteArray := .mk #[42, 180, 0, 46, 180, 1, 200, 16, 8, 161, 0, 11, 187, 0, 110, 89, 183, 0, 112, 191, 42, 180, 0, 46, 182, 1, 203, 172]
theorem wdX11_edition_0 : LocW cX11_edition 0 bdX11_edition_0 := loc_of (by decide +kernel)
theorem adX11_edition_0 : De bdX11_edition_0 0 (.aload_n 0) 1 ∧ De bdX11_edition_0 1 (.getfield 46) 3 ∧ De bdX11_edition_0 4 (.getfield 456) 3 ∧ De bdX11_edition_0 7 (.bipush 8) 2 ∧ De bdX11_edition_0 9 (.if_icmp .lt 11) 3 ∧ De bdX11_edition_0 12 (.new 110) 3 ∧ De bdX11_edition_0 15 (.dup) 1 ∧ De bdX11_edition_0 16 (.invokespecial 112) 3 ∧ De bdX11_edition_0 19 (.athrow) 1 ∧ De bdX11_edition_0 20 (.aload_n 0) 1 ∧ De bdX11_edition_0 21 (.getfield 46) 3 ∧ De bdX11_edition_0 24 (.invokevirtual 459) 3 ∧ De bdX11_edition_0 27 (.ireturn) 1 := by decide +kernel
theorem dX11_edition_0 : decode cX11_edition 0 = .ok (.aload_n 0, 1) := dAt wdX11_edition_0 adX11_edition_0.1 rfl
theorem dX11_edition_1 : decode cX11_edition 1 = .ok (.getfield 46, 3) := dAt wdX11_edition_0 adX11_edition_0.2.1 rfl
theorem dX11_edition_4 : decode cX11_edition 4 = .ok (.getfield 456, 3) := dAt wdX11_edition_0 adX11_edition_0.2.2.1 rfl
theorem dX11_edition_7 : decode cX11_edition 7 = .ok (.bipush 8, 2) := dAt wdX11_edition_0 adX11_edition_0.2.2.2.1 rfl
theorem dX11_edition_9 : decode cX11_edition 9 = .ok (.if_icmp .lt 11, 3) := dAt wdX11_edition_0 adX11_edition_0.2.2.2.2.1 rfl
theorem dX11_edition_12 : decode cX11_edition 12 = .ok (.new 110, 3) := dAt wdX11_edition_0 adX11_edition_0.2.2.2.2.2.1 rfl
theorem dX11_edition_15 : decode cX11_edition 15 = .ok (.dup, 1) := dAt wdX11_edition_0 adX11_edition_0.2.2.2.2.2.2.1 rfl
theorem dX11_edition_16 : decode cX11_edition 16 = .ok (.invokespecial 112, 3) := dAt wdX11_edition_0 adX11_edition_0.2.2.2.2.2.2.2.1 rfl
theorem dX11_edition_19 : decode cX11_edition 19 = .ok (.athrow, 1) := dAt wdX11_edition_0 adX11_edition_0.2.2.2.2.2.2.2.2.1 rfl
theorem dX11_edition_20 : decode cX11_edition 20 = .ok (.aload_n 0, 1) := dAt wdX11_edition_0 adX11_edition_0.2.2.2.2.2.2.2.2.2.1 rfl
theorem dX11_edition_21 : decode cX11_edition 21 = .ok (.getfield 46, 3) := dAt wdX11_edition_0 adX11_edition_0.2.2.2.2.2.2.2.2.2.2.1 rfl
theorem dX11_edition_24 : decode cX11_edition 24 = .ok (.invokevirtual 459, 3) := dAt wdX11_edition_0 adX11_edition_0.2.2.2.2.2.2.2.2.2.2.2.1 rfl
theorem dX11_edition_27 : decode cX11_edition 27 = .ok (.ireturn, 1) := dAt wdX11_edition_0 adX11_edition_0.2.2.2.2.2.2.2.2.2.2.2.2 rfl
def bdX11_changed_0 : ByteArray := .mk #[27, 184, 1, 126, 153, 0, 19, 42, 28, 182, 1, 194, 153, 0, 11, 42, 29, 182, 1, 194, 154, 0, 11, 187, 0, 84, 89, 183, 0, 86, 191, 42]
theorem wdX11_changed_0 : LocW cX11_changed 0 bdX11_changed_0 := loc_of (by decide +kernel)
theorem adX11_changed_0 : De bdX11_changed_0 0 (.iload_n 1) 1 ∧ De bdX11_changed_0 1 (.invokestatic 382) 3 ∧ De bdX11_changed_0 4 (.ifCond .eq 19) 3 ∧ De bdX11_changed_0 7 (.aload_n 0) 1 ∧ De bdX11_changed_0 8 (.iload_n 2) 1 ∧ De bdX11_changed_0 9 (.invokevirtual 450) 3 ∧ De bdX11_changed_0 12 (.ifCond .eq 11) 3 ∧ De bdX11_changed_0 15 (.aload_n 0) 1 ∧ De bdX11_changed_0 16 (.iload_n 3) 1 ∧ De bdX11_changed_0 17 (.invokevirtual 450) 3 ∧ De bdX11_changed_0 20 (.ifCond .ne 11) 3 ∧ De bdX11_changed_0 23 (.new 84) 3 ∧ De bdX11_changed_0 26 (.dup) 1 ∧ De bdX11_changed_0 27 (.invokespecial 86) 3 ∧ De bdX11_changed_0 30 (.athrow) 1 ∧ De bdX11_changed_0 31 (.aload_n 0) 1 := by decide +kernel
theorem dX11_changed_0 : decode cX11_changed 0 = .ok (.iload_n 1, 1) := dAt wdX11_changed_0 adX11_changed_0.1 rfl
theorem dX11_changed_1 : decode cX11_changed 1 = .ok (.invokestatic 382, 3) := dAt wdX11_changed_0 adX11_changed_0.2.1 rfl
theorem dX11_changed_4 : decode cX11_changed 4 = .ok (.ifCond .eq 19, 3) := dAt wdX11_changed_0 adX11_changed_0.2.2.1 rfl
theorem dX11_changed_7 : decode cX11_changed 7 = .ok (.aload_n 0, 1) := dAt wdX11_changed_0 adX11_changed_0.2.2.2.1 rfl
theorem dX11_changed_8 : decode cX11_changed 8 = .ok (.iload_n 2, 1) := dAt wdX11_changed_0 adX11_changed_0.2.2.2.2.1 rfl
theorem dX11_changed_9 : decode cX11_changed 9 = .ok (.invokevirtual 450, 3) := dAt wdX11_changed_0 adX11_changed_0.2.2.2.2.2.1 rfl
theorem dX11_changed_12 : decode cX11_changed 12 = .ok (.ifCond .eq 11, 3) := dAt wdX11_changed_0 adX11_changed_0.2.2.2.2.2.2.1 rfl
theorem dX11_changed_15 : decode cX11_changed 15 = .ok (.aload_n 0, 1) := dAt wdX11_changed_0 adX11_changed_0.2.2.2.2.2.2.2.1 rfl
theorem dX11_changed_16 : decode cX11_changed 16 = .ok (.iload_n 3, 1) := dAt wdX11_changed_0 adX11_changed_0.2.2.2.2.2.2.2.2.1 rfl
theorem dX11_changed_17 : decode cX11_changed 17 = .ok (.invokevirtual 450, 3) := dAt wdX11_changed_0 adX11_changed_0.2.2.2.2.2.2.2.2.2.1 rfl
theorem dX11_changed_20 : decode cX11_changed 20 = .ok (.ifCond .ne 11, 3) := dAt wdX11_changed_0 adX11_changed_0.2.2.2.2.2.2.2.2.2.2.1 rfl
theorem dX11_changed_23 : decode cX11_changed 23 = .ok (.new 84, 3) := dAt wdX11_changed_0 adX11_changed_0.2.2.2.2.2.2.2.2.2.2.2.1 rfl
theorem dX11_changed_26 : decode cX11_changed 26 = .ok (.dup, 1) := dAt wdX11_changed_0 adX11_changed_0.2.2.2.2.2.2.2.2.2.2.2.2.1 rfl
theorem dX11_changed_27 : decode cX11_changed 27 = .ok (.invokespecial 86, 3) := dAt wdX11_changed_0 adX11_changed_0.2.2.2.2.2.2.2.2.2.2.2.2.2.1 rfl
theorem dX11_changed_30 : decode cX11_changed 30 = .ok (.athrow, 1) := dAt wdX11_changed_0 adX11_changed_0.2.2.2.2.2.2.2.2.2.2.2.2.2.2.1 rfl
theorem dX11_changed_31 : decode cX11_changed 31 = .ok (.aload_n 0, 1) := dAt wdX11_changed_0 adX11_changed_0.2.2.2.2.2.2.2.2.2.2.2.2.2.2.2 rfl
def bdX11_changed_32 : ByteArray := .mk #[180, 0, 46, 16, 6, 28, 4, 96, 104, 27, 96, 16, 6, 29, 4, 96, 104, 27, 96, 182, 1, 206]
theorem wdX11_changed_32 : LocW cX11_changed 32 bdX11_changed_32 := loc_of (by decide +kernel)
theorem adX11_changed_32 : De bdX11_changed_32 0 (.getfield 46) 3 ∧ De bdX11_changed_32 3 (.bipush 6) 2 ∧ De bdX11_changed_32 5 (.iload_n 2) 1 ∧ De bdX11_changed_32 6 (.iconst 1) 1 ∧ De bdX11_changed_32 7 (.iadd) 1 ∧ De bdX11_changed_32 8 (.imul) 1 ∧ De bdX11_changed_32 9 (.iload_n 1) 1 ∧ De bdX11_changed_32 10 (.iadd) 1 ∧ De bdX11_changed_32 11 (.bipush 6) 2 ∧ De bdX11_changed_32 13 (.iload_n 3) 1 ∧ De bdX11_changed_32 14 (.iconst 1) 1 ∧ De bdX11_changed_32 15 (.iadd) 1 ∧ De bdX11_changed_32 16 (.imul) 1 ∧ De bdX11_changed_32 17 (.iload_n 1) 1 ∧ De bdX11_changed_32 18 (.iadd) 1 ∧ De bdX11_changed_32 19 (.invokevirtual 462) 3 := by decide +kernel
theorem dX11_changed_32 : decode cX11_changed 32 = .ok (.getfield 46, 3) := dAt wdX11_changed_32 adX11_changed_32.1 rfl
theorem dX11_changed_35 : decode cX11_changed 35 = .ok (.bipush 6, 2) := dAt wdX11_changed_32 adX11_changed_32.2.1 rfl
theorem dX11_changed_37 : decode cX11_changed 37 = .ok (.iload_n 2, 1) := dAt wdX11_changed_32 adX11_changed_32.2.2.1 rfl
theorem dX11_changed_38 : decode cX11_changed 38 = .ok (.iconst 1, 1) := dAt wdX11_changed_32 adX11_changed_32.2.2.2.1 rfl
theorem dX11_changed_39 : decode cX11_changed 39 = .ok (.iadd, 1) := dAt wdX11_changed_32 adX11_changed_32.2.2.2.2.1 rfl
theorem dX11_changed_40 : decode cX11_changed 40 = .ok (.imul, 1) := dAt wdX11_changed_32 adX11_changed_32.2.2.2.2.2.1 rfl
theorem dX11_changed_41 : decode cX11_changed 41 = .ok (.iload_n 1, 1) := dAt wdX11_changed_32 adX11_changed_32.2.2.2.2.2.2.1 rfl
theorem dX11_changed_42 : decode cX11_changed 42 = .ok (.iadd, 1) := dAt wdX11_changed_32 adX11_changed_32.2.2.2.2.2.2.2.1 rfl
theorem dX11_changed_43 : decode cX11_changed 43 = .ok (.bipush 6, 2) := dAt wdX11_changed_32 adX11_changed_32.2.2.2.2.2.2.2.2.1 rfl
theorem dX11_changed_45 : decode cX11_changed 45 = .ok (.iload_n 3, 1) := dAt wdX11_changed_32 adX11_changed_32.2.2.2.2.2.2.2.2.2.1 rfl
theorem dX11_changed_46 : decode cX11_changed 46 = .ok (.iconst 1, 1) := dAt wdX11_changed_32 adX11_changed_32.2.2.2.2.2.2.2.2.2.2.1 rfl
theorem dX11_changed_47 : decode cX11_changed 47 = .ok (.iadd, 1) := dAt wdX11_changed_32 adX11_changed_32.2.2.2.2.2.2.2.2.2.2.2.1 rfl
theorem dX11_changed_48 : decode cX11_changed 48 = .ok (.imul, 1) := dAt wdX11_changed_32 adX11_changed_32.2.2.2.2.2.2.2.2.2.2.2.2.1 rfl
theorem dX11_changed_49 : decode cX11_changed 49 = .ok (.iload_n 1, 1) := dAt wdX11_changed_32 adX11_changed_32.2.2.2.2.2.2.2.2.2.2.2.2.2.1 rfl
theorem dX11_changed_50 : decode cX11_changed 50 = .ok (.iadd, 1) := dAt wdX11_changed_32 adX11_changed_32.2.2.2.2.2.2.2.2.2.2.2.2.2.2.1 rfl
theorem dX11_changed_51 : decode cX11_changed 51 = .ok (.invokevirtual 462, 3) := dAt wdX11_changed_32 adX11_changed_32.2.2.2.2.2.2.2.2.2.2.2.2.2.2.2 rfl
def bdX11_changed_54 : ByteArray := .mk #[172]
theorem wdX11_changed_54 : LocW cX11_changed 54 bdX11_changed_54 := loc_of (by decide +kernel)
theorem adX11_changed_54 : De bdX11_changed_54 0 (.ireturn) 1 := by decide +kernel
theorem dX11_changed_54 : decode cX11_changed 54 = .ok (.ireturn, 1) := dAt wdX11_changed_54 adX11_changed_54 rfl
def bdX11_least_0 : ByteArray := .mk #[42, 180, 0, 60, 42, 180, 0, 39, 182, 1, 209, 172]
theorem wdX11_least_0 : LocW cX11_least 0 bdX11_least_0 := loc_of (by decide +kernel)
theorem adX11_least_0 : De bdX11_least_0 0 (.aload_n 0) 1 ∧ De bdX11_least_0 1 (.getfield 60) 3 ∧ De bdX11_least_0 4 (.aload_n 0) 1 ∧ De bdX11_least_0 5 (.getfield 39) 3 ∧ De bdX11_least_0 8 (.invokevirtual 465) 3 ∧ De bdX11_least_0 11 (.ireturn) 1 := by decide +kernel
theorem dX11_least_0 : decode cX11_least 0 = .ok (.aload_n 0, 1) := dAt wdX11_least_0 adX11_least_0.1 rfl
theorem dX11_least_1 : decode cX11_least 1 = .ok (.getfield 60, 3) := dAt wdX11_least_0 adX11_least_0.2.1 rfl
theorem dX11_least_4 : decode cX11_least 4 = .ok (.aload_n 0, 1) := dAt wdX11_least_0 adX11_least_0.2.2.1 rfl
theorem dX11_least_5 : decode cX11_least 5 = .ok (.getfield 39, 3) := dAt wdX11_least_0 adX11_least_0.2.2.2.1 rfl
theorem dX11_least_8 : decode cX11_least 8 = .ok (.invokevirtual 465, 3) := dAt wdX11_least_0 adX11_least_0.2.2.2.2.1 rfl
theorem dX11_least_11 : decode cX11_least 11 = .ok (.ireturn, 1) := dAt wdX11_least_0 adX11_least_0.2.2.2.2.2 rfl
def bdX11_ahead_0 : ByteArray := .mk #[27, 2, 159, 0, 22, 42, 180, 0, 39, 27, 182, 0, 231, 199, 0, 11, 187, 0, 84, 89, 183, 0, 86, 191, 42, 180, 0, 70, 199, 0, 14, 42]
theorem wdX11_ahead_0 : LocW cX11_ahead 0 bdX11_ahead_0 := loc_of (by decide +kernel)
theorem adX11_ahead_0 : De bdX11_ahead_0 0 (.iload_n 1) 1 ∧ De bdX11_ahead_0 1 (.iconst (-1)) 1 ∧ De bdX11_ahead_0 2 (.if_icmp .eq 22) 3 ∧ De bdX11_ahead_0 5 (.aload_n 0) 1 ∧ De bdX11_ahead_0 6 (.getfield 39) 3 ∧ De bdX11_ahead_0 9 (.iload_n 1) 1 ∧ De bdX11_ahead_0 10 (.invokevirtual 231) 3 ∧ De bdX11_ahead_0 13 (.ifnonnull 11) 3 ∧ De bdX11_ahead_0 16 (.new 84) 3 ∧ De bdX11_ahead_0 19 (.dup) 1 ∧ De bdX11_ahead_0 20 (.invokespecial 86) 3 ∧ De bdX11_ahead_0 23 (.athrow) 1 ∧ De bdX11_ahead_0 24 (.aload_n 0) 1 ∧ De bdX11_ahead_0 25 (.getfield 70) 3 ∧ De bdX11_ahead_0 28 (.ifnonnull 14) 3 ∧ De bdX11_ahead_0 31 (.aload_n 0) 1 := by decide +kernel
theorem dX11_ahead_0 : decode cX11_ahead 0 = .ok (.iload_n 1, 1) := dAt wdX11_ahead_0 adX11_ahead_0.1 rfl
theorem dX11_ahead_1 : decode cX11_ahead 1 = .ok (.iconst (-1), 1) := dAt wdX11_ahead_0 adX11_ahead_0.2.1 rfl
theorem dX11_ahead_2 : decode cX11_ahead 2 = .ok (.if_icmp .eq 22, 3) := dAt wdX11_ahead_0 adX11_ahead_0.2.2.1 rfl
theorem dX11_ahead_5 : decode cX11_ahead 5 = .ok (.aload_n 0, 1) := dAt wdX11_ahead_0 adX11_ahead_0.2.2.2.1 rfl
theorem dX11_ahead_6 : decode cX11_ahead 6 = .ok (.getfield 39, 3) := dAt wdX11_ahead_0 adX11_ahead_0.2.2.2.2.1 rfl
theorem dX11_ahead_9 : decode cX11_ahead 9 = .ok (.iload_n 1, 1) := dAt wdX11_ahead_0 adX11_ahead_0.2.2.2.2.2.1 rfl
theorem dX11_ahead_10 : decode cX11_ahead 10 = .ok (.invokevirtual 231, 3) := dAt wdX11_ahead_0 adX11_ahead_0.2.2.2.2.2.2.1 rfl
theorem dX11_ahead_13 : decode cX11_ahead 13 = .ok (.ifnonnull 11, 3) := dAt wdX11_ahead_0 adX11_ahead_0.2.2.2.2.2.2.2.1 rfl
theorem dX11_ahead_16 : decode cX11_ahead 16 = .ok (.new 84, 3) := dAt wdX11_ahead_0 adX11_ahead_0.2.2.2.2.2.2.2.2.1 rfl
theorem dX11_ahead_19 : decode cX11_ahead 19 = .ok (.dup, 1) := dAt wdX11_ahead_0 adX11_ahead_0.2.2.2.2.2.2.2.2.2.1 rfl
theorem dX11_ahead_20 : decode cX11_ahead 20 = .ok (.invokespecial 86, 3) := dAt wdX11_ahead_0 adX11_ahead_0.2.2.2.2.2.2.2.2.2.2.1 rfl
theorem dX11_ahead_23 : decode cX11_ahead 23 = .ok (.athrow, 1) := dAt wdX11_ahead_0 adX11_ahead_0.2.2.2.2.2.2.2.2.2.2.2.1 rfl
theorem dX11_ahead_24 : decode cX11_ahead 24 = .ok (.aload_n 0, 1) := dAt wdX11_ahead_0 adX11_ahead_0.2.2.2.2.2.2.2.2.2.2.2.2.1 rfl
theorem dX11_ahead_25 : decode cX11_ahead 25 = .ok (.getfield 70, 3) := dAt wdX11_ahead_0 adX11_ahead_0.2.2.2.2.2.2.2.2.2.2.2.2.2.1 rfl
theorem dX11_ahead_28 : decode cX11_ahead 28 = .ok (.ifnonnull 14, 3) := dAt wdX11_ahead_0 adX11_ahead_0.2.2.2.2.2.2.2.2.2.2.2.2.2.2.1 rfl
theorem dX11_ahead_31 : decode cX11_ahead 31 = .ok (.aload_n 0, 1) := dAt wdX11_ahead_0 adX11_ahead_0.2.2.2.2.2.2.2.2.2.2.2.2.2.2.2 rfl
def bdX11_ahead_32 : ByteArray := .mk #[187, 0, 36, 89, 183, 0, 38, 181, 0, 70, 42, 180, 0, 70, 42, 180, 0, 39, 182, 1, 213, 42, 180, 0, 70, 27, 182, 0, 231, 77, 44, 198, 0, 8]
theorem wdX11_ahead_32 : LocW cX11_ahead 32 bdX11_ahead_32 := loc_of (by decide +kernel)
theorem adX11_ahead_32 : De bdX11_ahead_32 0 (.new 36) 3 ∧ De bdX11_ahead_32 3 (.dup) 1 ∧ De bdX11_ahead_32 4 (.invokespecial 38) 3 ∧ De bdX11_ahead_32 7 (.putfield 70) 3 ∧ De bdX11_ahead_32 10 (.aload_n 0) 1 ∧ De bdX11_ahead_32 11 (.getfield 70) 3 ∧ De bdX11_ahead_32 14 (.aload_n 0) 1 ∧ De bdX11_ahead_32 15 (.getfield 39) 3 ∧ De bdX11_ahead_32 18 (.invokevirtual 469) 3 ∧ De bdX11_ahead_32 21 (.aload_n 0) 1 ∧ De bdX11_ahead_32 22 (.getfield 70) 3 ∧ De bdX11_ahead_32 25 (.iload_n 1) 1 ∧ De bdX11_ahead_32 26 (.invokevirtual 231) 3 ∧ De bdX11_ahead_32 29 (.astore_n 2) 1 ∧ De bdX11_ahead_32 30 (.aload_n 2) 1 ∧ De bdX11_ahead_32 31 (.ifnull 8) 3 := by decide +kernel
theorem dX11_ahead_32 : decode cX11_ahead 32 = .ok (.new 36, 3) := dAt wdX11_ahead_32 adX11_ahead_32.1 rfl
theorem dX11_ahead_35 : decode cX11_ahead 35 = .ok (.dup, 1) := dAt wdX11_ahead_32 adX11_ahead_32.2.1 rfl
theorem dX11_ahead_36 : decode cX11_ahead 36 = .ok (.invokespecial 38, 3) := dAt wdX11_ahead_32 adX11_ahead_32.2.2.1 rfl
theorem dX11_ahead_39 : decode cX11_ahead 39 = .ok (.putfield 70, 3) := dAt wdX11_ahead_32 adX11_ahead_32.2.2.2.1 rfl
theorem dX11_ahead_42 : decode cX11_ahead 42 = .ok (.aload_n 0, 1) := dAt wdX11_ahead_32 adX11_ahead_32.2.2.2.2.1 rfl
theorem dX11_ahead_43 : decode cX11_ahead 43 = .ok (.getfield 70, 3) := dAt wdX11_ahead_32 adX11_ahead_32.2.2.2.2.2.1 rfl
theorem dX11_ahead_46 : decode cX11_ahead 46 = .ok (.aload_n 0, 1) := dAt wdX11_ahead_32 adX11_ahead_32.2.2.2.2.2.2.1 rfl
theorem dX11_ahead_47 : decode cX11_ahead 47 = .ok (.getfield 39, 3) := dAt wdX11_ahead_32 adX11_ahead_32.2.2.2.2.2.2.2.1 rfl
theorem dX11_ahead_50 : decode cX11_ahead 50 = .ok (.invokevirtual 469, 3) := dAt wdX11_ahead_32 adX11_ahead_32.2.2.2.2.2.2.2.2.1 rfl
theorem dX11_ahead_53 : decode cX11_ahead 53 = .ok (.aload_n 0, 1) := dAt wdX11_ahead_32 adX11_ahead_32.2.2.2.2.2.2.2.2.2.1 rfl
theorem dX11_ahead_54 : decode cX11_ahead 54 = .ok (.getfield 70, 3) := dAt wdX11_ahead_32 adX11_ahead_32.2.2.2.2.2.2.2.2.2.2.1 rfl
theorem dX11_ahead_57 : decode cX11_ahead 57 = .ok (.iload_n 1, 1) := dAt wdX11_ahead_32 adX11_ahead_32.2.2.2.2.2.2.2.2.2.2.2.1 rfl
theorem dX11_ahead_58 : decode cX11_ahead 58 = .ok (.invokevirtual 231, 3) := dAt wdX11_ahead_32 adX11_ahead_32.2.2.2.2.2.2.2.2.2.2.2.2.1 rfl
theorem dX11_ahead_61 : decode cX11_ahead 61 = .ok (.astore_n 2, 1) := dAt wdX11_ahead_32 adX11_ahead_32.2.2.2.2.2.2.2.2.2.2.2.2.2.1 rfl
theorem dX11_ahead_62 : decode cX11_ahead 62 = .ok (.aload_n 2, 1) := dAt wdX11_ahead_32 adX11_ahead_32.2.2.2.2.2.2.2.2.2.2.2.2.2.2.1 rfl
theorem dX11_ahead_63 : decode cX11_ahead 63 = .ok (.ifnull 8, 3) := dAt wdX11_ahead_32 adX11_ahead_32.2.2.2.2.2.2.2.2.2.2.2.2.2.2.2 rfl
def bdX11_ahead_66 : ByteArray := .mk #[44, 4, 181, 0, 255, 42, 180, 0, 39, 180, 0, 117, 62, 29, 17, 2, 88, 162, 0, 26, 42, 180, 0, 70, 182, 1, 217, 153, 0, 16, 42, 180, 0, 70]
theorem wdX11_ahead_66 : LocW cX11_ahead 66 bdX11_ahead_66 := loc_of (by decide +kernel)
theorem adX11_ahead_66 : De bdX11_ahead_66 0 (.aload_n 2) 1 ∧ De bdX11_ahead_66 1 (.iconst 1) 1 ∧ De bdX11_ahead_66 2 (.putfield 255) 3 ∧ De bdX11_ahead_66 5 (.aload_n 0) 1 ∧ De bdX11_ahead_66 6 (.getfield 39) 3 ∧ De bdX11_ahead_66 9 (.getfield 117) 3 ∧ De bdX11_ahead_66 12 (.istore_n 3) 1 ∧ De bdX11_ahead_66 13 (.iload_n 3) 1 ∧ De bdX11_ahead_66 14 (.sipush 600) 3 ∧ De bdX11_ahead_66 17 (.if_icmp .ge 26) 3 ∧ De bdX11_ahead_66 20 (.aload_n 0) 1 ∧ De bdX11_ahead_66 21 (.getfield 70) 3 ∧ De bdX11_ahead_66 24 (.invokevirtual 473) 3 ∧ De bdX11_ahead_66 27 (.ifCond .eq 16) 3 ∧ De bdX11_ahead_66 30 (.aload_n 0) 1 ∧ De bdX11_ahead_66 31 (.getfield 70) 3 := by decide +kernel
theorem dX11_ahead_66 : decode cX11_ahead 66 = .ok (.aload_n 2, 1) := dAt wdX11_ahead_66 adX11_ahead_66.1 rfl
theorem dX11_ahead_67 : decode cX11_ahead 67 = .ok (.iconst 1, 1) := dAt wdX11_ahead_66 adX11_ahead_66.2.1 rfl
theorem dX11_ahead_68 : decode cX11_ahead 68 = .ok (.putfield 255, 3) := dAt wdX11_ahead_66 adX11_ahead_66.2.2.1 rfl
theorem dX11_ahead_71 : decode cX11_ahead 71 = .ok (.aload_n 0, 1) := dAt wdX11_ahead_66 adX11_ahead_66.2.2.2.1 rfl
theorem dX11_ahead_72 : decode cX11_ahead 72 = .ok (.getfield 39, 3) := dAt wdX11_ahead_66 adX11_ahead_66.2.2.2.2.1 rfl
theorem dX11_ahead_75 : decode cX11_ahead 75 = .ok (.getfield 117, 3) := dAt wdX11_ahead_66 adX11_ahead_66.2.2.2.2.2.1 rfl
theorem dX11_ahead_78 : decode cX11_ahead 78 = .ok (.istore_n 3, 1) := dAt wdX11_ahead_66 adX11_ahead_66.2.2.2.2.2.2.1 rfl
theorem dX11_ahead_79 : decode cX11_ahead 79 = .ok (.iload_n 3, 1) := dAt wdX11_ahead_66 adX11_ahead_66.2.2.2.2.2.2.2.1 rfl
theorem dX11_ahead_80 : decode cX11_ahead 80 = .ok (.sipush 600, 3) := dAt wdX11_ahead_66 adX11_ahead_66.2.2.2.2.2.2.2.2.1 rfl
theorem dX11_ahead_83 : decode cX11_ahead 83 = .ok (.if_icmp .ge 26, 3) := dAt wdX11_ahead_66 adX11_ahead_66.2.2.2.2.2.2.2.2.2.1 rfl
theorem dX11_ahead_86 : decode cX11_ahead 86 = .ok (.aload_n 0, 1) := dAt wdX11_ahead_66 adX11_ahead_66.2.2.2.2.2.2.2.2.2.2.1 rfl
theorem dX11_ahead_87 : decode cX11_ahead 87 = .ok (.getfield 70, 3) := dAt wdX11_ahead_66 adX11_ahead_66.2.2.2.2.2.2.2.2.2.2.2.1 rfl
theorem dX11_ahead_90 : decode cX11_ahead 90 = .ok (.invokevirtual 473, 3) := dAt wdX11_ahead_66 adX11_ahead_66.2.2.2.2.2.2.2.2.2.2.2.2.1 rfl
theorem dX11_ahead_93 : decode cX11_ahead 93 = .ok (.ifCond .eq 16, 3) := dAt wdX11_ahead_66 adX11_ahead_66.2.2.2.2.2.2.2.2.2.2.2.2.2.1 rfl
theorem dX11_ahead_96 : decode cX11_ahead 96 = .ok (.aload_n 0, 1) := dAt wdX11_ahead_66 adX11_ahead_66.2.2.2.2.2.2.2.2.2.2.2.2.2.2.1 rfl
theorem dX11_ahead_97 : decode cX11_ahead 97 = .ok (.getfield 70, 3) := dAt wdX11_ahead_66 adX11_ahead_66.2.2.2.2.2.2.2.2.2.2.2.2.2.2.2 rfl
def bdX11_ahead_100 : ByteArray := .mk #[182, 1, 9, 132, 3, 1, 167, 255, 229, 42, 180, 0, 70, 182, 1, 221, 154, 0, 13, 42, 180, 0, 70, 180, 0, 117, 167, 0, 4, 2, 172]
theorem wdX11_ahead_100 : LocW cX11_ahead 100 bdX11_ahead_100 := loc_of (by decide +kernel)
theorem adX11_ahead_100 : De bdX11_ahead_100 0 (.invokevirtual 265) 3 ∧ De bdX11_ahead_100 3 (.iinc 3 1) 3 ∧ De bdX11_ahead_100 6 (.goto (-27)) 3 ∧ De bdX11_ahead_100 9 (.aload_n 0) 1 ∧ De bdX11_ahead_100 10 (.getfield 70) 3 ∧ De bdX11_ahead_100 13 (.invokevirtual 477) 3 ∧ De bdX11_ahead_100 16 (.ifCond .ne 13) 3 ∧ De bdX11_ahead_100 19 (.aload_n 0) 1 ∧ De bdX11_ahead_100 20 (.getfield 70) 3 ∧ De bdX11_ahead_100 23 (.getfield 117) 3 ∧ De bdX11_ahead_100 26 (.goto 4) 3 ∧ De bdX11_ahead_100 29 (.iconst (-1)) 1 ∧ De bdX11_ahead_100 30 (.ireturn) 1 := by decide +kernel
theorem dX11_ahead_100 : decode cX11_ahead 100 = .ok (.invokevirtual 265, 3) := dAt wdX11_ahead_100 adX11_ahead_100.1 rfl
theorem dX11_ahead_103 : decode cX11_ahead 103 = .ok (.iinc 3 1, 3) := dAt wdX11_ahead_100 adX11_ahead_100.2.1 rfl
theorem dX11_ahead_106 : decode cX11_ahead 106 = .ok (.goto (-27), 3) := dAt wdX11_ahead_100 adX11_ahead_100.2.2.1 rfl
theorem dX11_ahead_109 : decode cX11_ahead 109 = .ok (.aload_n 0, 1) := dAt wdX11_ahead_100 adX11_ahead_100.2.2.2.1 rfl
theorem dX11_ahead_110 : decode cX11_ahead 110 = .ok (.getfield 70, 3) := dAt wdX11_ahead_100 adX11_ahead_100.2.2.2.2.1 rfl
theorem dX11_ahead_113 : decode cX11_ahead 113 = .ok (.invokevirtual 477, 3) := dAt wdX11_ahead_100 adX11_ahead_100.2.2.2.2.2.1 rfl
theorem dX11_ahead_116 : decode cX11_ahead 116 = .ok (.ifCond .ne 13, 3) := dAt wdX11_ahead_100 adX11_ahead_100.2.2.2.2.2.2.1 rfl
theorem dX11_ahead_119 : decode cX11_ahead 119 = .ok (.aload_n 0, 1) := dAt wdX11_ahead_100 adX11_ahead_100.2.2.2.2.2.2.2.1 rfl
theorem dX11_ahead_120 : decode cX11_ahead 120 = .ok (.getfield 70, 3) := dAt wdX11_ahead_100 adX11_ahead_100.2.2.2.2.2.2.2.2.1 rfl
theorem dX11_ahead_123 : decode cX11_ahead 123 = .ok (.getfield 117, 3) := dAt wdX11_ahead_100 adX11_ahead_100.2.2.2.2.2.2.2.2.2.1 rfl
theorem dX11_ahead_126 : decode cX11_ahead 126 = .ok (.goto 4, 3) := dAt wdX11_ahead_100 adX11_ahead_100.2.2.2.2.2.2.2.2.2.2.1 rfl
theorem dX11_ahead_129 : decode cX11_ahead 129 = .ok (.iconst (-1), 1) := dAt wdX11_ahead_100 adX11_ahead_100.2.2.2.2.2.2.2.2.2.2.2.1 rfl
theorem dX11_ahead_130 : decode cX11_ahead 130 = .ok (.ireturn, 1) := dAt wdX11_ahead_100 adX11_ahead_100.2.2.2.2.2.2.2.2.2.2.2.2 rfl
def bdX11_pay_0 : ByteArray := .mk #[42, 180, 0, 39, 27, 182, 0, 231, 199, 0, 11, 187, 0, 84, 89, 183, 0, 86, 191, 42, 180, 0, 39, 27, 28, 29, 182, 1, 224, 172]
theorem wdX11_pay_0 : LocW cX11_pay 0 bdX11_pay_0 := loc_of (by decide +kernel)
theorem adX11_pay_0 : De bdX11_pay_0 0 (.aload_n 0) 1 ∧ De bdX11_pay_0 1 (.getfield 39) 3 ∧ De bdX11_pay_0 4 (.iload_n 1) 1 ∧ De bdX11_pay_0 5 (.invokevirtual 231) 3 ∧ De bdX11_pay_0 8 (.ifnonnull 11) 3 ∧ De bdX11_pay_0 11 (.new 84) 3 ∧ De bdX11_pay_0 14 (.dup) 1 ∧ De bdX11_pay_0 15 (.invokespecial 86) 3 ∧ De bdX11_pay_0 18 (.athrow) 1 ∧ De bdX11_pay_0 19 (.aload_n 0) 1 ∧ De bdX11_pay_0 20 (.getfield 39) 3 ∧ De bdX11_pay_0 23 (.iload_n 1) 1 ∧ De bdX11_pay_0 24 (.iload_n 2) 1 ∧ De bdX11_pay_0 25 (.iload_n 3) 1 ∧ De bdX11_pay_0 26 (.invokevirtual 480) 3 ∧ De bdX11_pay_0 29 (.ireturn) 1 := by decide +kernel
theorem dX11_pay_0 : decode cX11_pay 0 = .ok (.aload_n 0, 1) := dAt wdX11_pay_0 adX11_pay_0.1 rfl
theorem dX11_pay_1 : decode cX11_pay 1 = .ok (.getfield 39, 3) := dAt wdX11_pay_0 adX11_pay_0.2.1 rfl
theorem dX11_pay_4 : decode cX11_pay 4 = .ok (.iload_n 1, 1) := dAt wdX11_pay_0 adX11_pay_0.2.2.1 rfl
theorem dX11_pay_5 : decode cX11_pay 5 = .ok (.invokevirtual 231, 3) := dAt wdX11_pay_0 adX11_pay_0.2.2.2.1 rfl
theorem dX11_pay_8 : decode cX11_pay 8 = .ok (.ifnonnull 11, 3) := dAt wdX11_pay_0 adX11_pay_0.2.2.2.2.1 rfl
theorem dX11_pay_11 : decode cX11_pay 11 = .ok (.new 84, 3) := dAt wdX11_pay_0 adX11_pay_0.2.2.2.2.2.1 rfl
theorem dX11_pay_14 : decode cX11_pay 14 = .ok (.dup, 1) := dAt wdX11_pay_0 adX11_pay_0.2.2.2.2.2.2.1 rfl
theorem dX11_pay_15 : decode cX11_pay 15 = .ok (.invokespecial 86, 3) := dAt wdX11_pay_0 adX11_pay_0.2.2.2.2.2.2.2.1 rfl
theorem dX11_pay_18 : decode cX11_pay 18 = .ok (.athrow, 1) := dAt wdX11_pay_0 adX11_pay_0.2.2.2.2.2.2.2.2.1 rfl
theorem dX11_pay_19 : decode cX11_pay 19 = .ok (.aload_n 0, 1) := dAt wdX11_pay_0 adX11_pay_0.2.2.2.2.2.2.2.2.2.1 rfl
theorem dX11_pay_20 : decode cX11_pay 20 = .ok (.getfield 39, 3) := dAt wdX11_pay_0 adX11_pay_0.2.2.2.2.2.2.2.2.2.2.1 rfl
theorem dX11_pay_23 : decode cX11_pay 23 = .ok (.iload_n 1, 1) := dAt wdX11_pay_0 adX11_pay_0.2.2.2.2.2.2.2.2.2.2.2.1 rfl
theorem dX11_pay_24 : decode cX11_pay 24 = .ok (.iload_n 2, 1) := dAt wdX11_pay_0 adX11_pay_0.2.2.2.2.2.2.2.2.2.2.2.2.1 rfl
theorem dX11_pay_25 : decode cX11_pay 25 = .ok (.iload_n 3, 1) := dAt wdX11_pay_0 adX11_pay_0.2.2.2.2.2.2.2.2.2.2.2.2.2.1 rfl
theorem dX11_pay_26 : decode cX11_pay 26 = .ok (.invokevirtual 480, 3) := dAt wdX11_pay_0 adX11_pay_0.2.2.2.2.2.2.2.2.2.2.2.2.2.2.1 rfl
theorem dX11_pay_29 : decode cX11_pay 29 = .ok (.ireturn, 1) := dAt wdX11_pay_0 adX11_pay_0.2.2.2.2.2.2.2.2.2.2.2.2.2.2.2 rfl
def bdX11_row_0 : ByteArray := .mk #[42, 180, 0, 39, 27, 28, 182, 1, 227, 62, 29, 2, 160, 0, 11, 187, 0, 172, 89, 183, 0, 174, 191, 42, 180, 0, 39, 180, 1, 230]
theorem wdX11_row_0 : LocW cX11_row 0 bdX11_row_0 := loc_of (by decide +kernel)
theorem adX11_row_0 : De bdX11_row_0 0 (.aload_n 0) 1 ∧ De bdX11_row_0 1 (.getfield 39) 3 ∧ De bdX11_row_0 4 (.iload_n 1) 1 ∧ De bdX11_row_0 5 (.iload_n 2) 1 ∧ De bdX11_row_0 6 (.invokevirtual 483) 3 ∧ De bdX11_row_0 9 (.istore_n 3) 1 ∧ De bdX11_row_0 10 (.iload_n 3) 1 ∧ De bdX11_row_0 11 (.iconst (-1)) 1 ∧ De bdX11_row_0 12 (.if_icmp .ne 11) 3 ∧ De bdX11_row_0 15 (.new 172) 3 ∧ De bdX11_row_0 18 (.dup) 1 ∧ De bdX11_row_0 19 (.invokespecial 174) 3 ∧ De bdX11_row_0 22 (.athrow) 1 ∧ De bdX11_row_0 23 (.aload_n 0) 1 ∧ De bdX11_row_0 24 (.getfield 39) 3 ∧ De bdX11_row_0 27 (.getfield 486) 3 := by decide +kernel
theorem dX11_row_0 : decode cX11_row 0 = .ok (.aload_n 0, 1) := dAt wdX11_row_0 adX11_row_0.1 rfl
theorem dX11_row_1 : decode cX11_row 1 = .ok (.getfield 39, 3) := dAt wdX11_row_0 adX11_row_0.2.1 rfl
theorem dX11_row_4 : decode cX11_row 4 = .ok (.iload_n 1, 1) := dAt wdX11_row_0 adX11_row_0.2.2.1 rfl
theorem dX11_row_5 : decode cX11_row 5 = .ok (.iload_n 2, 1) := dAt wdX11_row_0 adX11_row_0.2.2.2.1 rfl
theorem dX11_row_6 : decode cX11_row 6 = .ok (.invokevirtual 483, 3) := dAt wdX11_row_0 adX11_row_0.2.2.2.2.1 rfl
theorem dX11_row_9 : decode cX11_row 9 = .ok (.istore_n 3, 1) := dAt wdX11_row_0 adX11_row_0.2.2.2.2.2.1 rfl
theorem dX11_row_10 : decode cX11_row 10 = .ok (.iload_n 3, 1) := dAt wdX11_row_0 adX11_row_0.2.2.2.2.2.2.1 rfl
theorem dX11_row_11 : decode cX11_row 11 = .ok (.iconst (-1), 1) := dAt wdX11_row_0 adX11_row_0.2.2.2.2.2.2.2.1 rfl
theorem dX11_row_12 : decode cX11_row 12 = .ok (.if_icmp .ne 11, 3) := dAt wdX11_row_0 adX11_row_0.2.2.2.2.2.2.2.2.1 rfl
theorem dX11_row_15 : decode cX11_row 15 = .ok (.new 172, 3) := dAt wdX11_row_0 adX11_row_0.2.2.2.2.2.2.2.2.2.1 rfl
theorem dX11_row_18 : decode cX11_row 18 = .ok (.dup, 1) := dAt wdX11_row_0 adX11_row_0.2.2.2.2.2.2.2.2.2.2.1 rfl
theorem dX11_row_19 : decode cX11_row 19 = .ok (.invokespecial 174, 3) := dAt wdX11_row_0 adX11_row_0.2.2.2.2.2.2.2.2.2.2.2.1 rfl
theorem dX11_row_22 : decode cX11_row 22 = .ok (.athrow, 1) := dAt wdX11_row_0 adX11_row_0.2.2.2.2.2.2.2.2.2.2.2.2.1 rfl
theorem dX11_row_23 : decode cX11_row 23 = .ok (.aload_n 0, 1) := dAt wdX11_row_0 adX11_row_0.2.2.2.2.2.2.2.2.2.2.2.2.2.1 rfl
theorem dX11_row_24 : decode cX11_row 24 = .ok (.getfield 39, 3) := dAt wdX11_row_0 adX11_row_0.2.2.2.2.2.2.2.2.2.2.2.2.2.2.1 rfl
theorem dX11_row_27 : decode cX11_row 27 = .ok (.getfield 486, 3) := dAt wdX11_row_0 adX11_row_0.2.2.2.2.2.2.2.2.2.2.2.2.2.2.2 rfl
def bdX11_row_30 : ByteArray := .mk #[29, 46, 172]
theorem wdX11_row_30 : LocW cX11_row 30 bdX11_row_30 := loc_of (by decide +kernel)
theorem adX11_row_30 : De bdX11_row_30 0 (.iload_n 3) 1 ∧ De bdX11_row_30 1 (.iaload) 1 ∧ De bdX11_row_30 2 (.ireturn) 1 := by decide +kernel
theorem dX11_row_30 : decode cX11_row 30 = .ok (.iload_n 3, 1) := dAt wdX11_row_30 adX11_row_30.1 rfl
theorem dX11_row_31 : decode cX11_row 31 = .ok (.iaload, 1) := dAt wdX11_row_30 adX11_row_30.2.1 rfl
theorem dX11_row_32 : decode cX11_row 32 = .ok (.ireturn, 1) := dAt wdX11_row_30 adX11_row_30.2.2 rfl
def bdX11_tear_0 : ByteArray := .mk #[42, 180, 0, 39, 27, 28, 182, 1, 227, 54, 4, 21, 4, 2, 160, 0, 11, 187, 0, 172, 89, 183, 0, 174, 191, 42, 180, 0, 39, 180, 1, 230]
theorem wdX11_tear_0 : LocW cX11_tear 0 bdX11_tear_0 := loc_of (by decide +kernel)
theorem adX11_tear_0 : De bdX11_tear_0 0 (.aload_n 0) 1 ∧ De bdX11_tear_0 1 (.getfield 39) 3 ∧ De bdX11_tear_0 4 (.iload_n 1) 1 ∧ De bdX11_tear_0 5 (.iload_n 2) 1 ∧ De bdX11_tear_0 6 (.invokevirtual 483) 3 ∧ De bdX11_tear_0 9 (.istore 4) 2 ∧ De bdX11_tear_0 11 (.iload 4) 2 ∧ De bdX11_tear_0 13 (.iconst (-1)) 1 ∧ De bdX11_tear_0 14 (.if_icmp .ne 11) 3 ∧ De bdX11_tear_0 17 (.new 172) 3 ∧ De bdX11_tear_0 20 (.dup) 1 ∧ De bdX11_tear_0 21 (.invokespecial 174) 3 ∧ De bdX11_tear_0 24 (.athrow) 1 ∧ De bdX11_tear_0 25 (.aload_n 0) 1 ∧ De bdX11_tear_0 26 (.getfield 39) 3 ∧ De bdX11_tear_0 29 (.getfield 486) 3 := by decide +kernel
theorem dX11_tear_0 : decode cX11_tear 0 = .ok (.aload_n 0, 1) := dAt wdX11_tear_0 adX11_tear_0.1 rfl
theorem dX11_tear_1 : decode cX11_tear 1 = .ok (.getfield 39, 3) := dAt wdX11_tear_0 adX11_tear_0.2.1 rfl
theorem dX11_tear_4 : decode cX11_tear 4 = .ok (.iload_n 1, 1) := dAt wdX11_tear_0 adX11_tear_0.2.2.1 rfl
theorem dX11_tear_5 : decode cX11_tear 5 = .ok (.iload_n 2, 1) := dAt wdX11_tear_0 adX11_tear_0.2.2.2.1 rfl
theorem dX11_tear_6 : decode cX11_tear 6 = .ok (.invokevirtual 483, 3) := dAt wdX11_tear_0 adX11_tear_0.2.2.2.2.1 rfl
theorem dX11_tear_9 : decode cX11_tear 9 = .ok (.istore 4, 2) := dAt wdX11_tear_0 adX11_tear_0.2.2.2.2.2.1 rfl
theorem dX11_tear_11 : decode cX11_tear 11 = .ok (.iload 4, 2) := dAt wdX11_tear_0 adX11_tear_0.2.2.2.2.2.2.1 rfl
theorem dX11_tear_13 : decode cX11_tear 13 = .ok (.iconst (-1), 1) := dAt wdX11_tear_0 adX11_tear_0.2.2.2.2.2.2.2.1 rfl
theorem dX11_tear_14 : decode cX11_tear 14 = .ok (.if_icmp .ne 11, 3) := dAt wdX11_tear_0 adX11_tear_0.2.2.2.2.2.2.2.2.1 rfl
theorem dX11_tear_17 : decode cX11_tear 17 = .ok (.new 172, 3) := dAt wdX11_tear_0 adX11_tear_0.2.2.2.2.2.2.2.2.2.1 rfl
theorem dX11_tear_20 : decode cX11_tear 20 = .ok (.dup, 1) := dAt wdX11_tear_0 adX11_tear_0.2.2.2.2.2.2.2.2.2.2.1 rfl
theorem dX11_tear_21 : decode cX11_tear 21 = .ok (.invokespecial 174, 3) := dAt wdX11_tear_0 adX11_tear_0.2.2.2.2.2.2.2.2.2.2.2.1 rfl
theorem dX11_tear_24 : decode cX11_tear 24 = .ok (.athrow, 1) := dAt wdX11_tear_0 adX11_tear_0.2.2.2.2.2.2.2.2.2.2.2.2.1 rfl
theorem dX11_tear_25 : decode cX11_tear 25 = .ok (.aload_n 0, 1) := dAt wdX11_tear_0 adX11_tear_0.2.2.2.2.2.2.2.2.2.2.2.2.2.1 rfl
theorem dX11_tear_26 : decode cX11_tear 26 = .ok (.getfield 39, 3) := dAt wdX11_tear_0 adX11_tear_0.2.2.2.2.2.2.2.2.2.2.2.2.2.2.1 rfl
theorem dX11_tear_29 : decode cX11_tear 29 = .ok (.getfield 486, 3) := dAt wdX11_tear_0 adX11_tear_0.2.2.2.2.2.2.2.2.2.2.2.2.2.2.2 rfl
def bdX11_tear_32 : ByteArray := .mk #[21, 4, 92, 46, 29, 130, 79, 42, 180, 0, 39, 180, 1, 230, 21, 4, 46, 172]
theorem wdX11_tear_32 : LocW cX11_tear 32 bdX11_tear_32 := loc_of (by decide +kernel)
theorem adX11_tear_32 : De bdX11_tear_32 0 (.iload 4) 2 ∧ De bdX11_tear_32 2 (.dup2) 1 ∧ De bdX11_tear_32 3 (.iaload) 1 ∧ De bdX11_tear_32 4 (.iload_n 3) 1 ∧ De bdX11_tear_32 5 (.ixor) 1 ∧ De bdX11_tear_32 6 (.iastore) 1 ∧ De bdX11_tear_32 7 (.aload_n 0) 1 ∧ De bdX11_tear_32 8 (.getfield 39) 3 ∧ De bdX11_tear_32 11 (.getfield 486) 3 ∧ De bdX11_tear_32 14 (.iload 4) 2 ∧ De bdX11_tear_32 16 (.iaload) 1 ∧ De bdX11_tear_32 17 (.ireturn) 1 := by decide +kernel
theorem dX11_tear_32 : decode cX11_tear 32 = .ok (.iload 4, 2) := dAt wdX11_tear_32 adX11_tear_32.1 rfl
theorem dX11_tear_34 : decode cX11_tear 34 = .ok (.dup2, 1) := dAt wdX11_tear_32 adX11_tear_32.2.1 rfl
theorem dX11_tear_35 : decode cX11_tear 35 = .ok (.iaload, 1) := dAt wdX11_tear_32 adX11_tear_32.2.2.1 rfl
theorem dX11_tear_36 : decode cX11_tear 36 = .ok (.iload_n 3, 1) := dAt wdX11_tear_32 adX11_tear_32.2.2.2.1 rfl
theorem dX11_tear_37 : decode cX11_tear 37 = .ok (.ixor, 1) := dAt wdX11_tear_32 adX11_tear_32.2.2.2.2.1 rfl
theorem dX11_tear_38 : decode cX11_tear 38 = .ok (.iastore, 1) := dAt wdX11_tear_32 adX11_tear_32.2.2.2.2.2.1 rfl
theorem dX11_tear_39 : decode cX11_tear 39 = .ok (.aload_n 0, 1) := dAt wdX11_tear_32 adX11_tear_32.2.2.2.2.2.2.1 rfl
theorem dX11_tear_40 : decode cX11_tear 40 = .ok (.getfield 39, 3) := dAt wdX11_tear_32 adX11_tear_32.2.2.2.2.2.2.2.1 rfl
theorem dX11_tear_43 : decode cX11_tear 43 = .ok (.getfield 486, 3) := dAt wdX11_tear_32 adX11_tear_32.2.2.2.2.2.2.2.2.1 rfl
theorem dX11_tear_46 : decode cX11_tear 46 = .ok (.iload 4, 2) := dAt wdX11_tear_32 adX11_tear_32.2.2.2.2.2.2.2.2.2.1 rfl
theorem dX11_tear_48 : decode cX11_tear 48 = .ok (.iaload, 1) := dAt wdX11_tear_32 adX11_tear_32.2.2.2.2.2.2.2.2.2.2.1 rfl
theorem dX11_tear_49 : decode cX11_tear 49 = .ok (.ireturn, 1) := dAt wdX11_tear_32 adX11_tear_32.2.2.2.2.2.2.2.2.2.2.2 rfl
def bdX11_check_0 : ByteArray := .mk #[3, 60, 27, 42, 180, 0, 39, 182, 1, 233, 162, 0, 64, 3, 61, 28, 7, 162, 0, 51, 42, 180, 0, 39, 27, 28]
theorem wdX11_check_0 : LocW cX11_check 0 bdX11_check_0 := loc_of (by decide +kernel)
theorem adX11_check_0 : De bdX11_check_0 0 (.iconst 0) 1 ∧ De bdX11_check_0 1 (.istore_n 1) 1 ∧ De bdX11_check_0 2 (.iload_n 1) 1 ∧ De bdX11_check_0 3 (.aload_n 0) 1 ∧ De bdX11_check_0 4 (.getfield 39) 3 ∧ De bdX11_check_0 7 (.invokevirtual 489) 3 ∧ De bdX11_check_0 10 (.if_icmp .ge 64) 3 ∧ De bdX11_check_0 13 (.iconst 0) 1 ∧ De bdX11_check_0 14 (.istore_n 2) 1 ∧ De bdX11_check_0 15 (.iload_n 2) 1 ∧ De bdX11_check_0 16 (.iconst 4) 1 ∧ De bdX11_check_0 17 (.if_icmp .ge 51) 3 ∧ De bdX11_check_0 20 (.aload_n 0) 1 ∧ De bdX11_check_0 21 (.getfield 39) 3 ∧ De bdX11_check_0 24 (.iload_n 1) 1 ∧ De bdX11_check_0 25 (.iload_n 2) 1 := by decide +kernel
theorem dX11_check_0 : decode cX11_check 0 = .ok (.iconst 0, 1) := dAt wdX11_check_0 adX11_check_0.1 rfl
theorem dX11_check_1 : decode cX11_check 1 = .ok (.istore_n 1, 1) := dAt wdX11_check_0 adX11_check_0.2.1 rfl
theorem dX11_check_2 : decode cX11_check 2 = .ok (.iload_n 1, 1) := dAt wdX11_check_0 adX11_check_0.2.2.1 rfl
theorem dX11_check_3 : decode cX11_check 3 = .ok (.aload_n 0, 1) := dAt wdX11_check_0 adX11_check_0.2.2.2.1 rfl
theorem dX11_check_4 : decode cX11_check 4 = .ok (.getfield 39, 3) := dAt wdX11_check_0 adX11_check_0.2.2.2.2.1 rfl
theorem dX11_check_7 : decode cX11_check 7 = .ok (.invokevirtual 489, 3) := dAt wdX11_check_0 adX11_check_0.2.2.2.2.2.1 rfl
theorem dX11_check_10 : decode cX11_check 10 = .ok (.if_icmp .ge 64, 3) := dAt wdX11_check_0 adX11_check_0.2.2.2.2.2.2.1 rfl
theorem dX11_check_13 : decode cX11_check 13 = .ok (.iconst 0, 1) := dAt wdX11_check_0 adX11_check_0.2.2.2.2.2.2.2.1 rfl
theorem dX11_check_14 : decode cX11_check 14 = .ok (.istore_n 2, 1) := dAt wdX11_check_0 adX11_check_0.2.2.2.2.2.2.2.2.1 rfl
theorem dX11_check_15 : decode cX11_check 15 = .ok (.iload_n 2, 1) := dAt wdX11_check_0 adX11_check_0.2.2.2.2.2.2.2.2.2.1 rfl
theorem dX11_check_16 : decode cX11_check 16 = .ok (.iconst 4, 1) := dAt wdX11_check_0 adX11_check_0.2.2.2.2.2.2.2.2.2.2.1 rfl
theorem dX11_check_17 : decode cX11_check 17 = .ok (.if_icmp .ge 51, 3) := dAt wdX11_check_0 adX11_check_0.2.2.2.2.2.2.2.2.2.2.2.1 rfl
theorem dX11_check_20 : decode cX11_check 20 = .ok (.aload_n 0, 1) := dAt wdX11_check_0 adX11_check_0.2.2.2.2.2.2.2.2.2.2.2.2.1 rfl
theorem dX11_check_21 : decode cX11_check 21 = .ok (.getfield 39, 3) := dAt wdX11_check_0 adX11_check_0.2.2.2.2.2.2.2.2.2.2.2.2.2.1 rfl
theorem dX11_check_24 : decode cX11_check 24 = .ok (.iload_n 1, 1) := dAt wdX11_check_0 adX11_check_0.2.2.2.2.2.2.2.2.2.2.2.2.2.2.1 rfl
theorem dX11_check_25 : decode cX11_check 25 = .ok (.iload_n 2, 1) := dAt wdX11_check_0 adX11_check_0.2.2.2.2.2.2.2.2.2.2.2.2.2.2.2 rfl
def bdX11_check_26 : ByteArray := .mk #[182, 1, 227, 62, 29, 2, 159, 0, 30, 42, 180, 0, 39, 180, 1, 230, 29, 46, 42, 180, 0, 39, 180, 1, 236, 29, 46, 159, 0, 9]
theorem wdX11_check_26 : LocW cX11_check 26 bdX11_check_26 := loc_of (by decide +kernel)
theorem adX11_check_26 : De bdX11_check_26 0 (.invokevirtual 483) 3 ∧ De bdX11_check_26 3 (.istore_n 3) 1 ∧ De bdX11_check_26 4 (.iload_n 3) 1 ∧ De bdX11_check_26 5 (.iconst (-1)) 1 ∧ De bdX11_check_26 6 (.if_icmp .eq 30) 3 ∧ De bdX11_check_26 9 (.aload_n 0) 1 ∧ De bdX11_check_26 10 (.getfield 39) 3 ∧ De bdX11_check_26 13 (.getfield 486) 3 ∧ De bdX11_check_26 16 (.iload_n 3) 1 ∧ De bdX11_check_26 17 (.iaload) 1 ∧ De bdX11_check_26 18 (.aload_n 0) 1 ∧ De bdX11_check_26 19 (.getfield 39) 3 ∧ De bdX11_check_26 22 (.getfield 492) 3 ∧ De bdX11_check_26 25 (.iload_n 3) 1 ∧ De bdX11_check_26 26 (.iaload) 1 ∧ De bdX11_check_26 27 (.if_icmp .eq 9) 3 := by decide +kernel
theorem dX11_check_26 : decode cX11_check 26 = .ok (.invokevirtual 483, 3) := dAt wdX11_check_26 adX11_check_26.1 rfl
theorem dX11_check_29 : decode cX11_check 29 = .ok (.istore_n 3, 1) := dAt wdX11_check_26 adX11_check_26.2.1 rfl
theorem dX11_check_30 : decode cX11_check 30 = .ok (.iload_n 3, 1) := dAt wdX11_check_26 adX11_check_26.2.2.1 rfl
theorem dX11_check_31 : decode cX11_check 31 = .ok (.iconst (-1), 1) := dAt wdX11_check_26 adX11_check_26.2.2.2.1 rfl
theorem dX11_check_32 : decode cX11_check 32 = .ok (.if_icmp .eq 30, 3) := dAt wdX11_check_26 adX11_check_26.2.2.2.2.1 rfl
theorem dX11_check_35 : decode cX11_check 35 = .ok (.aload_n 0, 1) := dAt wdX11_check_26 adX11_check_26.2.2.2.2.2.1 rfl
theorem dX11_check_36 : decode cX11_check 36 = .ok (.getfield 39, 3) := dAt wdX11_check_26 adX11_check_26.2.2.2.2.2.2.1 rfl
theorem dX11_check_39 : decode cX11_check 39 = .ok (.getfield 486, 3) := dAt wdX11_check_26 adX11_check_26.2.2.2.2.2.2.2.1 rfl
theorem dX11_check_42 : decode cX11_check 42 = .ok (.iload_n 3, 1) := dAt wdX11_check_26 adX11_check_26.2.2.2.2.2.2.2.2.1 rfl
theorem dX11_check_43 : decode cX11_check 43 = .ok (.iaload, 1) := dAt wdX11_check_26 adX11_check_26.2.2.2.2.2.2.2.2.2.1 rfl
theorem dX11_check_44 : decode cX11_check 44 = .ok (.aload_n 0, 1) := dAt wdX11_check_26 adX11_check_26.2.2.2.2.2.2.2.2.2.2.1 rfl
theorem dX11_check_45 : decode cX11_check 45 = .ok (.getfield 39, 3) := dAt wdX11_check_26 adX11_check_26.2.2.2.2.2.2.2.2.2.2.2.1 rfl
theorem dX11_check_48 : decode cX11_check 48 = .ok (.getfield 492, 3) := dAt wdX11_check_26 adX11_check_26.2.2.2.2.2.2.2.2.2.2.2.2.1 rfl
theorem dX11_check_51 : decode cX11_check 51 = .ok (.iload_n 3, 1) := dAt wdX11_check_26 adX11_check_26.2.2.2.2.2.2.2.2.2.2.2.2.2.1 rfl
theorem dX11_check_52 : decode cX11_check 52 = .ok (.iaload, 1) := dAt wdX11_check_26 adX11_check_26.2.2.2.2.2.2.2.2.2.2.2.2.2.2.1 rfl
theorem dX11_check_53 : decode cX11_check 53 = .ok (.if_icmp .eq 9, 3) := dAt wdX11_check_26 adX11_check_26.2.2.2.2.2.2.2.2.2.2.2.2.2.2.2 rfl
def bdX11_check_56 : ByteArray := .mk #[7, 27, 104, 28, 96, 172, 132, 2, 1, 167, 255, 206, 132, 1, 1, 167, 255, 187, 2, 172]
theorem wdX11_check_56 : LocW cX11_check 56 bdX11_check_56 := loc_of (by decide +kernel)
theorem adX11_check_56 : De bdX11_check_56 0 (.iconst 4) 1 ∧ De bdX11_check_56 1 (.iload_n 1) 1 ∧ De bdX11_check_56 2 (.imul) 1 ∧ De bdX11_check_56 3 (.iload_n 2) 1 ∧ De bdX11_check_56 4 (.iadd) 1 ∧ De bdX11_check_56 5 (.ireturn) 1 ∧ De bdX11_check_56 6 (.iinc 2 1) 3 ∧ De bdX11_check_56 9 (.goto (-50)) 3 ∧ De bdX11_check_56 12 (.iinc 1 1) 3 ∧ De bdX11_check_56 15 (.goto (-69)) 3 ∧ De bdX11_check_56 18 (.iconst (-1)) 1 ∧ De bdX11_check_56 19 (.ireturn) 1 := by decide +kernel
theorem dX11_check_56 : decode cX11_check 56 = .ok (.iconst 4, 1) := dAt wdX11_check_56 adX11_check_56.1 rfl
theorem dX11_check_57 : decode cX11_check 57 = .ok (.iload_n 1, 1) := dAt wdX11_check_56 adX11_check_56.2.1 rfl
theorem dX11_check_58 : decode cX11_check 58 = .ok (.imul, 1) := dAt wdX11_check_56 adX11_check_56.2.2.1 rfl
theorem dX11_check_59 : decode cX11_check 59 = .ok (.iload_n 2, 1) := dAt wdX11_check_56 adX11_check_56.2.2.2.1 rfl
theorem dX11_check_60 : decode cX11_check 60 = .ok (.iadd, 1) := dAt wdX11_check_56 adX11_check_56.2.2.2.2.1 rfl
theorem dX11_check_61 : decode cX11_check 61 = .ok (.ireturn, 1) := dAt wdX11_check_56 adX11_check_56.2.2.2.2.2.1 rfl
theorem dX11_check_62 : decode cX11_check 62 = .ok (.iinc 2 1, 3) := dAt wdX11_check_56 adX11_check_56.2.2.2.2.2.2.1 rfl
theorem dX11_check_65 : decode cX11_check 65 = .ok (.goto (-50), 3) := dAt wdX11_check_56 adX11_check_56.2.2.2.2.2.2.2.1 rfl
theorem dX11_check_68 : decode cX11_check 68 = .ok (.iinc 1 1, 3) := dAt wdX11_check_56 adX11_check_56.2.2.2.2.2.2.2.2.1 rfl
theorem dX11_check_71 : decode cX11_check 71 = .ok (.goto (-69), 3) := dAt wdX11_check_56 adX11_check_56.2.2.2.2.2.2.2.2.2.1 rfl
theorem dX11_check_74 : decode cX11_check 74 = .ok (.iconst (-1), 1) := dAt wdX11_check_56 adX11_check_56.2.2.2.2.2.2.2.2.2.2.1 rfl
theorem dX11_check_75 : decode cX11_check 75 = .ok (.ireturn, 1) := dAt wdX11_check_56 adX11_check_56.2.2.2.2.2.2.2.2.2.2.2 rfl
def bdX11_image_0 : ByteArray := .mk #[42, 180, 0, 64, 199, 0, 14, 42, 187, 0, 36, 89, 183, 0, 38, 181, 0, 64, 42, 180, 0, 67, 199, 0, 14, 42, 187, 0, 43, 89, 183, 0, 45, 181, 0, 67]
theorem wdX11_image_0 : LocW cX11_image 0 bdX11_image_0 := loc_of (by decide +kernel)
theorem adX11_image_0 : De bdX11_image_0 0 (.aload_n 0) 1 ∧ De bdX11_image_0 1 (.getfield 64) 3 ∧ De bdX11_image_0 4 (.ifnonnull 14) 3 ∧ De bdX11_image_0 7 (.aload_n 0) 1 ∧ De bdX11_image_0 8 (.new 36) 3 ∧ De bdX11_image_0 11 (.dup) 1 ∧ De bdX11_image_0 12 (.invokespecial 38) 3 ∧ De bdX11_image_0 15 (.putfield 64) 3 ∧ De bdX11_image_0 18 (.aload_n 0) 1 ∧ De bdX11_image_0 19 (.getfield 67) 3 ∧ De bdX11_image_0 22 (.ifnonnull 14) 3 ∧ De bdX11_image_0 25 (.aload_n 0) 1 ∧ De bdX11_image_0 26 (.new 43) 3 ∧ De bdX11_image_0 29 (.dup) 1 ∧ De bdX11_image_0 30 (.invokespecial 45) 3 ∧ De bdX11_image_0 33 (.putfield 67) 3 := by decide +kernel
theorem dX11_image_0 : decode cX11_image 0 = .ok (.aload_n 0, 1) := dAt wdX11_image_0 adX11_image_0.1 rfl
theorem dX11_image_1 : decode cX11_image 1 = .ok (.getfield 64, 3) := dAt wdX11_image_0 adX11_image_0.2.1 rfl
theorem dX11_image_4 : decode cX11_image 4 = .ok (.ifnonnull 14, 3) := dAt wdX11_image_0 adX11_image_0.2.2.1 rfl
theorem dX11_image_7 : decode cX11_image 7 = .ok (.aload_n 0, 1) := dAt wdX11_image_0 adX11_image_0.2.2.2.1 rfl
theorem dX11_image_8 : decode cX11_image 8 = .ok (.new 36, 3) := dAt wdX11_image_0 adX11_image_0.2.2.2.2.1 rfl
theorem dX11_image_11 : decode cX11_image 11 = .ok (.dup, 1) := dAt wdX11_image_0 adX11_image_0.2.2.2.2.2.1 rfl
theorem dX11_image_12 : decode cX11_image 12 = .ok (.invokespecial 38, 3) := dAt wdX11_image_0 adX11_image_0.2.2.2.2.2.2.1 rfl
theorem dX11_image_15 : decode cX11_image 15 = .ok (.putfield 64, 3) := dAt wdX11_image_0 adX11_image_0.2.2.2.2.2.2.2.1 rfl
theorem dX11_image_18 : decode cX11_image 18 = .ok (.aload_n 0, 1) := dAt wdX11_image_0 adX11_image_0.2.2.2.2.2.2.2.2.1 rfl
theorem dX11_image_19 : decode cX11_image 19 = .ok (.getfield 67, 3) := dAt wdX11_image_0 adX11_image_0.2.2.2.2.2.2.2.2.2.1 rfl
theorem dX11_image_22 : decode cX11_image 22 = .ok (.ifnonnull 14, 3) := dAt wdX11_image_0 adX11_image_0.2.2.2.2.2.2.2.2.2.2.1 rfl
theorem dX11_image_25 : decode cX11_image 25 = .ok (.aload_n 0, 1) := dAt wdX11_image_0 adX11_image_0.2.2.2.2.2.2.2.2.2.2.2.1 rfl
theorem dX11_image_26 : decode cX11_image 26 = .ok (.new 43, 3) := dAt wdX11_image_0 adX11_image_0.2.2.2.2.2.2.2.2.2.2.2.2.1 rfl
theorem dX11_image_29 : decode cX11_image 29 = .ok (.dup, 1) := dAt wdX11_image_0 adX11_image_0.2.2.2.2.2.2.2.2.2.2.2.2.2.1 rfl
theorem dX11_image_30 : decode cX11_image 30 = .ok (.invokespecial 45, 3) := dAt wdX11_image_0 adX11_image_0.2.2.2.2.2.2.2.2.2.2.2.2.2.2.1 rfl
theorem dX11_image_33 : decode cX11_image 33 = .ok (.putfield 67, 3) := dAt wdX11_image_0 adX11_image_0.2.2.2.2.2.2.2.2.2.2.2.2.2.2.2 rfl
def bdX11_image_36 : ByteArray := .mk #[42, 180, 0, 64, 42, 180, 0, 39, 182, 1, 213, 42, 180, 0, 67, 42, 180, 0, 46, 182, 1, 239, 177]
theorem wdX11_image_36 : LocW cX11_image 36 bdX11_image_36 := loc_of (by decide +kernel)
theorem adX11_image_36 : De bdX11_image_36 0 (.aload_n 0) 1 ∧ De bdX11_image_36 1 (.getfield 64) 3 ∧ De bdX11_image_36 4 (.aload_n 0) 1 ∧ De bdX11_image_36 5 (.getfield 39) 3 ∧ De bdX11_image_36 8 (.invokevirtual 469) 3 ∧ De bdX11_image_36 11 (.aload_n 0) 1 ∧ De bdX11_image_36 12 (.getfield 67) 3 ∧ De bdX11_image_36 15 (.aload_n 0) 1 ∧ De bdX11_image_36 16 (.getfield 46) 3 ∧ De bdX11_image_36 19 (.invokevirtual 495) 3 ∧ De bdX11_image_36 22 (.return_) 1 := by decide +kernel
theorem dX11_image_36 : decode cX11_image 36 = .ok (.aload_n 0, 1) := dAt wdX11_image_36 adX11_image_36.1 rfl
theorem dX11_image_37 : decode cX11_image 37 = .ok (.getfield 64, 3) := dAt wdX11_image_36 adX11_image_36.2.1 rfl
theorem dX11_image_40 : decode cX11_image 40 = .ok (.aload_n 0, 1) := dAt wdX11_image_36 adX11_image_36.2.2.1 rfl
theorem dX11_image_41 : decode cX11_image 41 = .ok (.getfield 39, 3) := dAt wdX11_image_36 adX11_image_36.2.2.2.1 rfl
theorem dX11_image_44 : decode cX11_image 44 = .ok (.invokevirtual 469, 3) := dAt wdX11_image_36 adX11_image_36.2.2.2.2.1 rfl
theorem dX11_image_47 : decode cX11_image 47 = .ok (.aload_n 0, 1) := dAt wdX11_image_36 adX11_image_36.2.2.2.2.2.1 rfl
theorem dX11_image_48 : decode cX11_image 48 = .ok (.getfield 67, 3) := dAt wdX11_image_36 adX11_image_36.2.2.2.2.2.2.1 rfl
theorem dX11_image_51 : decode cX11_image 51 = .ok (.aload_n 0, 1) := dAt wdX11_image_36 adX11_image_36.2.2.2.2.2.2.2.1 rfl
theorem dX11_image_52 : decode cX11_image 52 = .ok (.getfield 46, 3) := dAt wdX11_image_36 adX11_image_36.2.2.2.2.2.2.2.2.1 rfl
theorem dX11_image_55 : decode cX11_image 55 = .ok (.invokevirtual 495, 3) := dAt wdX11_image_36 adX11_image_36.2.2.2.2.2.2.2.2.2.1 rfl
theorem dX11_image_58 : decode cX11_image 58 = .ok (.return_, 1) := dAt wdX11_image_36 adX11_image_36.2.2.2.2.2.2.2.2.2.2 rfl
def bdX11_back_0 : ByteArray := .mk #[42, 180, 0, 64, 198, 0, 10, 42, 180, 0, 67, 199, 0, 5, 3, 172, 42, 180, 0, 39, 42, 180, 0, 64, 182, 1, 213, 42, 180, 0, 46, 42]
theorem wdX11_back_0 : LocW cX11_back 0 bdX11_back_0 := loc_of (by decide +kernel)
theorem adX11_back_0 : De bdX11_back_0 0 (.aload_n 0) 1 ∧ De bdX11_back_0 1 (.getfield 64) 3 ∧ De bdX11_back_0 4 (.ifnull 10) 3 ∧ De bdX11_back_0 7 (.aload_n 0) 1 ∧ De bdX11_back_0 8 (.getfield 67) 3 ∧ De bdX11_back_0 11 (.ifnonnull 5) 3 ∧ De bdX11_back_0 14 (.iconst 0) 1 ∧ De bdX11_back_0 15 (.ireturn) 1 ∧ De bdX11_back_0 16 (.aload_n 0) 1 ∧ De bdX11_back_0 17 (.getfield 39) 3 ∧ De bdX11_back_0 20 (.aload_n 0) 1 ∧ De bdX11_back_0 21 (.getfield 64) 3 ∧ De bdX11_back_0 24 (.invokevirtual 469) 3 ∧ De bdX11_back_0 27 (.aload_n 0) 1 ∧ De bdX11_back_0 28 (.getfield 46) 3 ∧ De bdX11_back_0 31 (.aload_n 0) 1 := by decide +kernel
theorem dX11_back_0 : decode cX11_back 0 = .ok (.aload_n 0, 1) := dAt wdX11_back_0 adX11_back_0.1 rfl
theorem dX11_back_1 : decode cX11_back 1 = .ok (.getfield 64, 3) := dAt wdX11_back_0 adX11_back_0.2.1 rfl
theorem dX11_back_4 : decode cX11_back 4 = .ok (.ifnull 10, 3) := dAt wdX11_back_0 adX11_back_0.2.2.1 rfl
theorem dX11_back_7 : decode cX11_back 7 = .ok (.aload_n 0, 1) := dAt wdX11_back_0 adX11_back_0.2.2.2.1 rfl
theorem dX11_back_8 : decode cX11_back 8 = .ok (.getfield 67, 3) := dAt wdX11_back_0 adX11_back_0.2.2.2.2.1 rfl
theorem dX11_back_11 : decode cX11_back 11 = .ok (.ifnonnull 5, 3) := dAt wdX11_back_0 adX11_back_0.2.2.2.2.2.1 rfl
theorem dX11_back_14 : decode cX11_back 14 = .ok (.iconst 0, 1) := dAt wdX11_back_0 adX11_back_0.2.2.2.2.2.2.1 rfl
theorem dX11_back_15 : decode cX11_back 15 = .ok (.ireturn, 1) := dAt wdX11_back_0 adX11_back_0.2.2.2.2.2.2.2.1 rfl
theorem dX11_back_16 : decode cX11_back 16 = .ok (.aload_n 0, 1) := dAt wdX11_back_0 adX11_back_0.2.2.2.2.2.2.2.2.1 rfl
theorem dX11_back_17 : decode cX11_back 17 = .ok (.getfield 39, 3) := dAt wdX11_back_0 adX11_back_0.2.2.2.2.2.2.2.2.2.1 rfl
theorem dX11_back_20 : decode cX11_back 20 = .ok (.aload_n 0, 1) := dAt wdX11_back_0 adX11_back_0.2.2.2.2.2.2.2.2.2.2.1 rfl
theorem dX11_back_21 : decode cX11_back 21 = .ok (.getfield 64, 3) := dAt wdX11_back_0 adX11_back_0.2.2.2.2.2.2.2.2.2.2.2.1 rfl
theorem dX11_back_24 : decode cX11_back 24 = .ok (.invokevirtual 469, 3) := dAt wdX11_back_0 adX11_back_0.2.2.2.2.2.2.2.2.2.2.2.2.1 rfl
theorem dX11_back_27 : decode cX11_back 27 = .ok (.aload_n 0, 1) := dAt wdX11_back_0 adX11_back_0.2.2.2.2.2.2.2.2.2.2.2.2.2.1 rfl
theorem dX11_back_28 : decode cX11_back 28 = .ok (.getfield 46, 3) := dAt wdX11_back_0 adX11_back_0.2.2.2.2.2.2.2.2.2.2.2.2.2.2.1 rfl
theorem dX11_back_31 : decode cX11_back 31 = .ok (.aload_n 0, 1) := dAt wdX11_back_0 adX11_back_0.2.2.2.2.2.2.2.2.2.2.2.2.2.2.2 rfl
def bdX11_back_32 : ByteArray := .mk #[180, 0, 67, 182, 1, 239, 4, 172]
theorem wdX11_back_32 : LocW cX11_back 32 bdX11_back_32 := loc_of (by decide +kernel)
theorem adX11_back_32 : De bdX11_back_32 0 (.getfield 67) 3 ∧ De bdX11_back_32 3 (.invokevirtual 495) 3 ∧ De bdX11_back_32 6 (.iconst 1) 1 ∧ De bdX11_back_32 7 (.ireturn) 1 := by decide +kernel
theorem dX11_back_32 : decode cX11_back 32 = .ok (.getfield 67, 3) := dAt wdX11_back_32 adX11_back_32.1 rfl
theorem dX11_back_35 : decode cX11_back 35 = .ok (.invokevirtual 495, 3) := dAt wdX11_back_32 adX11_back_32.2.1 rfl
theorem dX11_back_38 : decode cX11_back 38 = .ok (.iconst 1, 1) := dAt wdX11_back_32 adX11_back_32.2.2.1 rfl
theorem dX11_back_39 : decode cX11_back 39 = .ok (.ireturn, 1) := dAt wdX11_back_32 adX11_back_32.2.2.2 rfl
def bdX11_count_0 : ByteArray := .mk #[27]
theorem wdX11_count_0 : LocW cX11_count 0 bdX11_count_0 := loc_of (by decide +kernel)
theorem adX11_count_0 : De bdX11_count_0 0 (.iload_n 1) 1 := by decide +kernel
theorem dX11_count_0 : decode cX11_count 0 = .ok (.iload_n 1, 1) := dAt wdX11_count_0 adX11_count_0 rfl
theorem dX11_count_1 : decode cX11_count 1 = .ok (.tableswitch 210 0 14 #[75, 83, 91, 99, 107, 115, 124, 133, 142, 150, 170, 178, 186, 194, 202], 75) := by decide +kernel
def bdX11_count_76 : ByteArray := .mk #[42, 180, 0, 39, 180, 0, 117, 172, 42, 180, 0, 39, 180, 0, 107, 172, 42, 180, 0, 39, 182, 1, 242, 172, 42, 180, 0, 39, 180, 0, 224, 172]
theorem wdX11_count_76 : LocW cX11_count 76 bdX11_count_76 := loc_of (by decide +kernel)
theorem adX11_count_76 : De bdX11_count_76 0 (.aload_n 0) 1 ∧ De bdX11_count_76 1 (.getfield 39) 3 ∧ De bdX11_count_76 4 (.getfield 117) 3 ∧ De bdX11_count_76 7 (.ireturn) 1 ∧ De bdX11_count_76 8 (.aload_n 0) 1 ∧ De bdX11_count_76 9 (.getfield 39) 3 ∧ De bdX11_count_76 12 (.getfield 107) 3 ∧ De bdX11_count_76 15 (.ireturn) 1 ∧ De bdX11_count_76 16 (.aload_n 0) 1 ∧ De bdX11_count_76 17 (.getfield 39) 3 ∧ De bdX11_count_76 20 (.invokevirtual 498) 3 ∧ De bdX11_count_76 23 (.ireturn) 1 ∧ De bdX11_count_76 24 (.aload_n 0) 1 ∧ De bdX11_count_76 25 (.getfield 39) 3 ∧ De bdX11_count_76 28 (.getfield 224) 3 ∧ De bdX11_count_76 31 (.ireturn) 1 := by decide +kernel
theorem dX11_count_76 : decode cX11_count 76 = .ok (.aload_n 0, 1) := dAt wdX11_count_76 adX11_count_76.1 rfl
theorem dX11_count_77 : decode cX11_count 77 = .ok (.getfield 39, 3) := dAt wdX11_count_76 adX11_count_76.2.1 rfl
theorem dX11_count_80 : decode cX11_count 80 = .ok (.getfield 117, 3) := dAt wdX11_count_76 adX11_count_76.2.2.1 rfl
theorem dX11_count_83 : decode cX11_count 83 = .ok (.ireturn, 1) := dAt wdX11_count_76 adX11_count_76.2.2.2.1 rfl
theorem dX11_count_84 : decode cX11_count 84 = .ok (.aload_n 0, 1) := dAt wdX11_count_76 adX11_count_76.2.2.2.2.1 rfl
theorem dX11_count_85 : decode cX11_count 85 = .ok (.getfield 39, 3) := dAt wdX11_count_76 adX11_count_76.2.2.2.2.2.1 rfl
theorem dX11_count_88 : decode cX11_count 88 = .ok (.getfield 107, 3) := dAt wdX11_count_76 adX11_count_76.2.2.2.2.2.2.1 rfl
theorem dX11_count_91 : decode cX11_count 91 = .ok (.ireturn, 1) := dAt wdX11_count_76 adX11_count_76.2.2.2.2.2.2.2.1 rfl
theorem dX11_count_92 : decode cX11_count 92 = .ok (.aload_n 0, 1) := dAt wdX11_count_76 adX11_count_76.2.2.2.2.2.2.2.2.1 rfl
theorem dX11_count_93 : decode cX11_count 93 = .ok (.getfield 39, 3) := dAt wdX11_count_76 adX11_count_76.2.2.2.2.2.2.2.2.2.1 rfl
theorem dX11_count_96 : decode cX11_count 96 = .ok (.invokevirtual 498, 3) := dAt wdX11_count_76 adX11_count_76.2.2.2.2.2.2.2.2.2.2.1 rfl
theorem dX11_count_99 : decode cX11_count 99 = .ok (.ireturn, 1) := dAt wdX11_count_76 adX11_count_76.2.2.2.2.2.2.2.2.2.2.2.1 rfl
theorem dX11_count_100 : decode cX11_count 100 = .ok (.aload_n 0, 1) := dAt wdX11_count_76 adX11_count_76.2.2.2.2.2.2.2.2.2.2.2.2.1 rfl
theorem dX11_count_101 : decode cX11_count 101 = .ok (.getfield 39, 3) := dAt wdX11_count_76 adX11_count_76.2.2.2.2.2.2.2.2.2.2.2.2.2.1 rfl
theorem dX11_count_104 : decode cX11_count 104 = .ok (.getfield 224, 3) := dAt wdX11_count_76 adX11_count_76.2.2.2.2.2.2.2.2.2.2.2.2.2.2.1 rfl
theorem dX11_count_107 : decode cX11_count 107 = .ok (.ireturn, 1) := dAt wdX11_count_76 adX11_count_76.2.2.2.2.2.2.2.2.2.2.2.2.2.2.2 rfl
def bdX11_count_108 : ByteArray := .mk #[42, 180, 0, 39, 180, 1, 245, 172, 42, 180, 0, 39, 3, 182, 1, 248, 172, 42, 180, 0, 39, 4, 182, 1, 248, 172, 42, 180, 0, 39]
theorem wdX11_count_108 : LocW cX11_count 108 bdX11_count_108 := loc_of (by decide +kernel)
theorem adX11_count_108 : De bdX11_count_108 0 (.aload_n 0) 1 ∧ De bdX11_count_108 1 (.getfield 39) 3 ∧ De bdX11_count_108 4 (.getfield 501) 3 ∧ De bdX11_count_108 7 (.ireturn) 1 ∧ De bdX11_count_108 8 (.aload_n 0) 1 ∧ De bdX11_count_108 9 (.getfield 39) 3 ∧ De bdX11_count_108 12 (.iconst 0) 1 ∧ De bdX11_count_108 13 (.invokevirtual 504) 3 ∧ De bdX11_count_108 16 (.ireturn) 1 ∧ De bdX11_count_108 17 (.aload_n 0) 1 ∧ De bdX11_count_108 18 (.getfield 39) 3 ∧ De bdX11_count_108 21 (.iconst 1) 1 ∧ De bdX11_count_108 22 (.invokevirtual 504) 3 ∧ De bdX11_count_108 25 (.ireturn) 1 ∧ De bdX11_count_108 26 (.aload_n 0) 1 ∧ De bdX11_count_108 27 (.getfield 39) 3 := by decide +kernel
theorem dX11_count_108 : decode cX11_count 108 = .ok (.aload_n 0, 1) := dAt wdX11_count_108 adX11_count_108.1 rfl
theorem dX11_count_109 : decode cX11_count 109 = .ok (.getfield 39, 3) := dAt wdX11_count_108 adX11_count_108.2.1 rfl
theorem dX11_count_112 : decode cX11_count 112 = .ok (.getfield 501, 3) := dAt wdX11_count_108 adX11_count_108.2.2.1 rfl
theorem dX11_count_115 : decode cX11_count 115 = .ok (.ireturn, 1) := dAt wdX11_count_108 adX11_count_108.2.2.2.1 rfl
theorem dX11_count_116 : decode cX11_count 116 = .ok (.aload_n 0, 1) := dAt wdX11_count_108 adX11_count_108.2.2.2.2.1 rfl
theorem dX11_count_117 : decode cX11_count 117 = .ok (.getfield 39, 3) := dAt wdX11_count_108 adX11_count_108.2.2.2.2.2.1 rfl
theorem dX11_count_120 : decode cX11_count 120 = .ok (.iconst 0, 1) := dAt wdX11_count_108 adX11_count_108.2.2.2.2.2.2.1 rfl
theorem dX11_count_121 : decode cX11_count 121 = .ok (.invokevirtual 504, 3) := dAt wdX11_count_108 adX11_count_108.2.2.2.2.2.2.2.1 rfl
theorem dX11_count_124 : decode cX11_count 124 = .ok (.ireturn, 1) := dAt wdX11_count_108 adX11_count_108.2.2.2.2.2.2.2.2.1 rfl
theorem dX11_count_125 : decode cX11_count 125 = .ok (.aload_n 0, 1) := dAt wdX11_count_108 adX11_count_108.2.2.2.2.2.2.2.2.2.1 rfl
theorem dX11_count_126 : decode cX11_count 126 = .ok (.getfield 39, 3) := dAt wdX11_count_108 adX11_count_108.2.2.2.2.2.2.2.2.2.2.1 rfl
theorem dX11_count_129 : decode cX11_count 129 = .ok (.iconst 1, 1) := dAt wdX11_count_108 adX11_count_108.2.2.2.2.2.2.2.2.2.2.2.1 rfl
theorem dX11_count_130 : decode cX11_count 130 = .ok (.invokevirtual 504, 3) := dAt wdX11_count_108 adX11_count_108.2.2.2.2.2.2.2.2.2.2.2.2.1 rfl
theorem dX11_count_133 : decode cX11_count 133 = .ok (.ireturn, 1) := dAt wdX11_count_108 adX11_count_108.2.2.2.2.2.2.2.2.2.2.2.2.2.1 rfl
theorem dX11_count_134 : decode cX11_count 134 = .ok (.aload_n 0, 1) := dAt wdX11_count_108 adX11_count_108.2.2.2.2.2.2.2.2.2.2.2.2.2.2.1 rfl
theorem dX11_count_135 : decode cX11_count 135 = .ok (.getfield 39, 3) := dAt wdX11_count_108 adX11_count_108.2.2.2.2.2.2.2.2.2.2.2.2.2.2.2 rfl
def bdX11_count_138 : ByteArray := .mk #[5, 182, 1, 248, 172, 42, 180, 0, 39, 182, 1, 251, 172, 42, 180, 0, 39, 4, 4, 182, 1, 111, 42, 180, 0, 39, 3, 4]
theorem wdX11_count_138 : LocW cX11_count 138 bdX11_count_138 := loc_of (by decide +kernel)
theorem adX11_count_138 : De bdX11_count_138 0 (.iconst 2) 1 ∧ De bdX11_count_138 1 (.invokevirtual 504) 3 ∧ De bdX11_count_138 4 (.ireturn) 1 ∧ De bdX11_count_138 5 (.aload_n 0) 1 ∧ De bdX11_count_138 6 (.getfield 39) 3 ∧ De bdX11_count_138 9 (.invokevirtual 507) 3 ∧ De bdX11_count_138 12 (.ireturn) 1 ∧ De bdX11_count_138 13 (.aload_n 0) 1 ∧ De bdX11_count_138 14 (.getfield 39) 3 ∧ De bdX11_count_138 17 (.iconst 1) 1 ∧ De bdX11_count_138 18 (.iconst 1) 1 ∧ De bdX11_count_138 19 (.invokevirtual 367) 3 ∧ De bdX11_count_138 22 (.aload_n 0) 1 ∧ De bdX11_count_138 23 (.getfield 39) 3 ∧ De bdX11_count_138 26 (.iconst 0) 1 ∧ De bdX11_count_138 27 (.iconst 1) 1 := by decide +kernel
theorem dX11_count_138 : decode cX11_count 138 = .ok (.iconst 2, 1) := dAt wdX11_count_138 adX11_count_138.1 rfl
theorem dX11_count_139 : decode cX11_count 139 = .ok (.invokevirtual 504, 3) := dAt wdX11_count_138 adX11_count_138.2.1 rfl
theorem dX11_count_142 : decode cX11_count 142 = .ok (.ireturn, 1) := dAt wdX11_count_138 adX11_count_138.2.2.1 rfl
theorem dX11_count_143 : decode cX11_count 143 = .ok (.aload_n 0, 1) := dAt wdX11_count_138 adX11_count_138.2.2.2.1 rfl
theorem dX11_count_144 : decode cX11_count 144 = .ok (.getfield 39, 3) := dAt wdX11_count_138 adX11_count_138.2.2.2.2.1 rfl
theorem dX11_count_147 : decode cX11_count 147 = .ok (.invokevirtual 507, 3) := dAt wdX11_count_138 adX11_count_138.2.2.2.2.2.1 rfl
theorem dX11_count_150 : decode cX11_count 150 = .ok (.ireturn, 1) := dAt wdX11_count_138 adX11_count_138.2.2.2.2.2.2.1 rfl
theorem dX11_count_151 : decode cX11_count 151 = .ok (.aload_n 0, 1) := dAt wdX11_count_138 adX11_count_138.2.2.2.2.2.2.2.1 rfl
theorem dX11_count_152 : decode cX11_count 152 = .ok (.getfield 39, 3) := dAt wdX11_count_138 adX11_count_138.2.2.2.2.2.2.2.2.1 rfl
theorem dX11_count_155 : decode cX11_count 155 = .ok (.iconst 1, 1) := dAt wdX11_count_138 adX11_count_138.2.2.2.2.2.2.2.2.2.1 rfl
theorem dX11_count_156 : decode cX11_count 156 = .ok (.iconst 1, 1) := dAt wdX11_count_138 adX11_count_138.2.2.2.2.2.2.2.2.2.2.1 rfl
theorem dX11_count_157 : decode cX11_count 157 = .ok (.invokevirtual 367, 3) := dAt wdX11_count_138 adX11_count_138.2.2.2.2.2.2.2.2.2.2.2.1 rfl
theorem dX11_count_160 : decode cX11_count 160 = .ok (.aload_n 0, 1) := dAt wdX11_count_138 adX11_count_138.2.2.2.2.2.2.2.2.2.2.2.2.1 rfl
theorem dX11_count_161 : decode cX11_count 161 = .ok (.getfield 39, 3) := dAt wdX11_count_138 adX11_count_138.2.2.2.2.2.2.2.2.2.2.2.2.2.1 rfl
theorem dX11_count_164 : decode cX11_count 164 = .ok (.iconst 0, 1) := dAt wdX11_count_138 adX11_count_138.2.2.2.2.2.2.2.2.2.2.2.2.2.2.1 rfl
theorem dX11_count_165 : decode cX11_count 165 = .ok (.iconst 1, 1) := dAt wdX11_count_138 adX11_count_138.2.2.2.2.2.2.2.2.2.2.2.2.2.2.2 rfl
def bdX11_count_166 : ByteArray := .mk #[182, 1, 111, 96, 172, 42, 180, 0, 46, 180, 1, 115, 172, 42, 180, 0, 46, 180, 1, 200, 172, 42, 180, 0, 39, 182, 1, 221, 172, 42]
theorem wdX11_count_166 : LocW cX11_count 166 bdX11_count_166 := loc_of (by decide +kernel)
theorem adX11_count_166 : De bdX11_count_166 0 (.invokevirtual 367) 3 ∧ De bdX11_count_166 3 (.iadd) 1 ∧ De bdX11_count_166 4 (.ireturn) 1 ∧ De bdX11_count_166 5 (.aload_n 0) 1 ∧ De bdX11_count_166 6 (.getfield 46) 3 ∧ De bdX11_count_166 9 (.getfield 371) 3 ∧ De bdX11_count_166 12 (.ireturn) 1 ∧ De bdX11_count_166 13 (.aload_n 0) 1 ∧ De bdX11_count_166 14 (.getfield 46) 3 ∧ De bdX11_count_166 17 (.getfield 456) 3 ∧ De bdX11_count_166 20 (.ireturn) 1 ∧ De bdX11_count_166 21 (.aload_n 0) 1 ∧ De bdX11_count_166 22 (.getfield 39) 3 ∧ De bdX11_count_166 25 (.invokevirtual 477) 3 ∧ De bdX11_count_166 28 (.ireturn) 1 ∧ De bdX11_count_166 29 (.aload_n 0) 1 := by decide +kernel
theorem dX11_count_166 : decode cX11_count 166 = .ok (.invokevirtual 367, 3) := dAt wdX11_count_166 adX11_count_166.1 rfl
theorem dX11_count_169 : decode cX11_count 169 = .ok (.iadd, 1) := dAt wdX11_count_166 adX11_count_166.2.1 rfl
theorem dX11_count_170 : decode cX11_count 170 = .ok (.ireturn, 1) := dAt wdX11_count_166 adX11_count_166.2.2.1 rfl
theorem dX11_count_171 : decode cX11_count 171 = .ok (.aload_n 0, 1) := dAt wdX11_count_166 adX11_count_166.2.2.2.1 rfl
theorem dX11_count_172 : decode cX11_count 172 = .ok (.getfield 46, 3) := dAt wdX11_count_166 adX11_count_166.2.2.2.2.1 rfl
theorem dX11_count_175 : decode cX11_count 175 = .ok (.getfield 371, 3) := dAt wdX11_count_166 adX11_count_166.2.2.2.2.2.1 rfl
theorem dX11_count_178 : decode cX11_count 178 = .ok (.ireturn, 1) := dAt wdX11_count_166 adX11_count_166.2.2.2.2.2.2.1 rfl
theorem dX11_count_179 : decode cX11_count 179 = .ok (.aload_n 0, 1) := dAt wdX11_count_166 adX11_count_166.2.2.2.2.2.2.2.1 rfl
theorem dX11_count_180 : decode cX11_count 180 = .ok (.getfield 46, 3) := dAt wdX11_count_166 adX11_count_166.2.2.2.2.2.2.2.2.1 rfl
theorem dX11_count_183 : decode cX11_count 183 = .ok (.getfield 456, 3) := dAt wdX11_count_166 adX11_count_166.2.2.2.2.2.2.2.2.2.1 rfl
theorem dX11_count_186 : decode cX11_count 186 = .ok (.ireturn, 1) := dAt wdX11_count_166 adX11_count_166.2.2.2.2.2.2.2.2.2.2.1 rfl
theorem dX11_count_187 : decode cX11_count 187 = .ok (.aload_n 0, 1) := dAt wdX11_count_166 adX11_count_166.2.2.2.2.2.2.2.2.2.2.2.1 rfl
theorem dX11_count_188 : decode cX11_count 188 = .ok (.getfield 39, 3) := dAt wdX11_count_166 adX11_count_166.2.2.2.2.2.2.2.2.2.2.2.2.1 rfl
theorem dX11_count_191 : decode cX11_count 191 = .ok (.invokevirtual 477, 3) := dAt wdX11_count_166 adX11_count_166.2.2.2.2.2.2.2.2.2.2.2.2.2.1 rfl
theorem dX11_count_194 : decode cX11_count 194 = .ok (.ireturn, 1) := dAt wdX11_count_166 adX11_count_166.2.2.2.2.2.2.2.2.2.2.2.2.2.2.1 rfl
theorem dX11_count_195 : decode cX11_count 195 = .ok (.aload_n 0, 1) := dAt wdX11_count_166 adX11_count_166.2.2.2.2.2.2.2.2.2.2.2.2.2.2.2 rfl
def bdX11_count_196 : ByteArray := .mk #[180, 0, 39, 180, 0, 123, 172, 42, 180, 0, 39, 182, 1, 233, 172, 2, 172]
theorem wdX11_count_196 : LocW cX11_count 196 bdX11_count_196 := loc_of (by decide +kernel)
theorem adX11_count_196 : De bdX11_count_196 0 (.getfield 39) 3 ∧ De bdX11_count_196 3 (.getfield 123) 3 ∧ De bdX11_count_196 6 (.ireturn) 1 ∧ De bdX11_count_196 7 (.aload_n 0) 1 ∧ De bdX11_count_196 8 (.getfield 39) 3 ∧ De bdX11_count_196 11 (.invokevirtual 489) 3 ∧ De bdX11_count_196 14 (.ireturn) 1 ∧ De bdX11_count_196 15 (.iconst (-1)) 1 ∧ De bdX11_count_196 16 (.ireturn) 1 := by decide +kernel
theorem dX11_count_196 : decode cX11_count 196 = .ok (.getfield 39, 3) := dAt wdX11_count_196 adX11_count_196.1 rfl
theorem dX11_count_199 : decode cX11_count 199 = .ok (.getfield 123, 3) := dAt wdX11_count_196 adX11_count_196.2.1 rfl
theorem dX11_count_202 : decode cX11_count 202 = .ok (.ireturn, 1) := dAt wdX11_count_196 adX11_count_196.2.2.1 rfl
theorem dX11_count_203 : decode cX11_count 203 = .ok (.aload_n 0, 1) := dAt wdX11_count_196 adX11_count_196.2.2.2.1 rfl
theorem dX11_count_204 : decode cX11_count 204 = .ok (.getfield 39, 3) := dAt wdX11_count_196 adX11_count_196.2.2.2.2.1 rfl
theorem dX11_count_207 : decode cX11_count 207 = .ok (.invokevirtual 489, 3) := dAt wdX11_count_196 adX11_count_196.2.2.2.2.2.1 rfl
theorem dX11_count_210 : decode cX11_count 210 = .ok (.ireturn, 1) := dAt wdX11_count_196 adX11_count_196.2.2.2.2.2.2.1 rfl
theorem dX11_count_211 : decode cX11_count 211 = .ok (.iconst (-1), 1) := dAt wdX11_count_196 adX11_count_196.2.2.2.2.2.2.2.1 rfl
theorem dX11_count_212 : decode cX11_count 212 = .ok (.ireturn, 1) := dAt wdX11_count_196 adX11_count_196.2.2.2.2.2.2.2.2 rfl
def bdX11_isFace_0 : ByteArray := .mk #[26, 155, 0, 12, 26, 5, 162, 0, 7, 4, 167, 0, 4, 3, 172]
theorem wdX11_isFace_0 : LocW cX11_isFace 0 bdX11_isFace_0 := loc_of (by decide +kernel)
theorem adX11_isFace_0 : De bdX11_isFace_0 0 (.iload_n 0) 1 ∧ De bdX11_isFace_0 1 (.ifCond .lt 12) 3 ∧ De bdX11_isFace_0 4 (.iload_n 0) 1 ∧ De bdX11_isFace_0 5 (.iconst 2) 1 ∧ De bdX11_isFace_0 6 (.if_icmp .ge 7) 3 ∧ De bdX11_isFace_0 9 (.iconst 1) 1 ∧ De bdX11_isFace_0 10 (.goto 4) 3 ∧ De bdX11_isFace_0 13 (.iconst 0) 1 ∧ De bdX11_isFace_0 14 (.ireturn) 1 := by decide +kernel
theorem dX11_isFace_0 : decode cX11_isFace 0 = .ok (.iload_n 0, 1) := dAt wdX11_isFace_0 adX11_isFace_0.1 rfl
theorem dX11_isFace_1 : decode cX11_isFace 1 = .ok (.ifCond .lt 12, 3) := dAt wdX11_isFace_0 adX11_isFace_0.2.1 rfl
theorem dX11_isFace_4 : decode cX11_isFace 4 = .ok (.iload_n 0, 1) := dAt wdX11_isFace_0 adX11_isFace_0.2.2.1 rfl
theorem dX11_isFace_5 : decode cX11_isFace 5 = .ok (.iconst 2, 1) := dAt wdX11_isFace_0 adX11_isFace_0.2.2.2.1 rfl
theorem dX11_isFace_6 : decode cX11_isFace 6 = .ok (.if_icmp .ge 7, 3) := dAt wdX11_isFace_0 adX11_isFace_0.2.2.2.2.1 rfl
theorem dX11_isFace_9 : decode cX11_isFace 9 = .ok (.iconst 1, 1) := dAt wdX11_isFace_0 adX11_isFace_0.2.2.2.2.2.1 rfl
theorem dX11_isFace_10 : decode cX11_isFace 10 = .ok (.goto 4, 3) := dAt wdX11_isFace_0 adX11_isFace_0.2.2.2.2.2.2.1 rfl
theorem dX11_isFace_13 : decode cX11_isFace 13 = .ok (.iconst 0, 1) := dAt wdX11_isFace_0 adX11_isFace_0.2.2.2.2.2.2.2.1 rfl
theorem dX11_isFace_14 : decode cX11_isFace 14 = .ok (.ireturn, 1) := dAt wdX11_isFace_0 adX11_isFace_0.2.2.2.2.2.2.2.2 rfl
def bdX11_isSign_0 : ByteArray := .mk #[26, 155, 0, 13, 26, 16, 27, 162, 0, 7, 4, 167, 0, 4, 3, 172]
theorem wdX11_isSign_0 : LocW cX11_isSign 0 bdX11_isSign_0 := loc_of (by decide +kernel)
theorem adX11_isSign_0 : De bdX11_isSign_0 0 (.iload_n 0) 1 ∧ De bdX11_isSign_0 1 (.ifCond .lt 13) 3 ∧ De bdX11_isSign_0 4 (.iload_n 0) 1 ∧ De bdX11_isSign_0 5 (.bipush 27) 2 ∧ De bdX11_isSign_0 7 (.if_icmp .ge 7) 3 ∧ De bdX11_isSign_0 10 (.iconst 1) 1 ∧ De bdX11_isSign_0 11 (.goto 4) 3 ∧ De bdX11_isSign_0 14 (.iconst 0) 1 ∧ De bdX11_isSign_0 15 (.ireturn) 1 := by decide +kernel
theorem dX11_isSign_0 : decode cX11_isSign 0 = .ok (.iload_n 0, 1) := dAt wdX11_isSign_0 adX11_isSign_0.1 rfl
theorem dX11_isSign_1 : decode cX11_isSign 1 = .ok (.ifCond .lt 13, 3) := dAt wdX11_isSign_0 adX11_isSign_0.2.1 rfl
theorem dX11_isSign_4 : decode cX11_isSign 4 = .ok (.iload_n 0, 1) := dAt wdX11_isSign_0 adX11_isSign_0.2.2.1 rfl
theorem dX11_isSign_5 : decode cX11_isSign 5 = .ok (.bipush 27, 2) := dAt wdX11_isSign_0 adX11_isSign_0.2.2.2.1 rfl
theorem dX11_isSign_7 : decode cX11_isSign 7 = .ok (.if_icmp .ge 7, 3) := dAt wdX11_isSign_0 adX11_isSign_0.2.2.2.2.1 rfl
theorem dX11_isSign_10 : decode cX11_isSign 10 = .ok (.iconst 1, 1) := dAt wdX11_isSign_0 adX11_isSign_0.2.2.2.2.2.1 rfl
theorem dX11_isSign_11 : decode cX11_isSign 11 = .ok (.goto 4, 3) := dAt wdX11_isSign_0 adX11_isSign_0.2.2.2.2.2.2.1 rfl
theorem dX11_isSign_14 : decode cX11_isSign 14 = .ok (.iconst 0, 1) := dAt wdX11_isSign_0 adX11_isSign_0.2.2.2.2.2.2.2.1 rfl
theorem dX11_isSign_15 : decode cX11_isSign 15 = .ok (.ireturn, 1) := dAt wdX11_isSign_0 adX11_isSign_0.2.2.2.2.2.2.2.2 rfl
def bdX11_isMinute_0 : ByteArray := .mk #[26, 155, 0, 14, 26, 17, 2, 88, 163, 0, 7, 4, 167, 0, 4, 3, 172]
theorem wdX11_isMinute_0 : LocW cX11_isMinute 0 bdX11_isMinute_0 := loc_of (by decide +kernel)
theorem adX11_isMinute_0 : De bdX11_isMinute_0 0 (.iload_n 0) 1 ∧ De bdX11_isMinute_0 1 (.ifCond .lt 14) 3 ∧ De bdX11_isMinute_0 4 (.iload_n 0) 1 ∧ De bdX11_isMinute_0 5 (.sipush 600) 3 ∧ De bdX11_isMinute_0 8 (.if_icmp .gt 7) 3 ∧ De bdX11_isMinute_0 11 (.iconst 1) 1 ∧ De bdX11_isMinute_0 12 (.goto 4) 3 ∧ De bdX11_isMinute_0 15 (.iconst 0) 1 ∧ De bdX11_isMinute_0 16 (.ireturn) 1 := by decide +kernel
theorem dX11_isMinute_0 : decode cX11_isMinute 0 = .ok (.iload_n 0, 1) := dAt wdX11_isMinute_0 adX11_isMinute_0.1 rfl
theorem dX11_isMinute_1 : decode cX11_isMinute 1 = .ok (.ifCond .lt 14, 3) := dAt wdX11_isMinute_0 adX11_isMinute_0.2.1 rfl
theorem dX11_isMinute_4 : decode cX11_isMinute 4 = .ok (.iload_n 0, 1) := dAt wdX11_isMinute_0 adX11_isMinute_0.2.2.1 rfl
theorem dX11_isMinute_5 : decode cX11_isMinute 5 = .ok (.sipush 600, 3) := dAt wdX11_isMinute_0 adX11_isMinute_0.2.2.2.1 rfl
theorem dX11_isMinute_8 : decode cX11_isMinute 8 = .ok (.if_icmp .gt 7, 3) := dAt wdX11_isMinute_0 adX11_isMinute_0.2.2.2.2.1 rfl
theorem dX11_isMinute_11 : decode cX11_isMinute 11 = .ok (.iconst 1, 1) := dAt wdX11_isMinute_0 adX11_isMinute_0.2.2.2.2.2.1 rfl
theorem dX11_isMinute_12 : decode cX11_isMinute 12 = .ok (.goto 4, 3) := dAt wdX11_isMinute_0 adX11_isMinute_0.2.2.2.2.2.2.1 rfl
theorem dX11_isMinute_15 : decode cX11_isMinute 15 = .ok (.iconst 0, 1) := dAt wdX11_isMinute_0 adX11_isMinute_0.2.2.2.2.2.2.2.1 rfl
theorem dX11_isMinute_16 : decode cX11_isMinute 16 = .ok (.ireturn, 1) := dAt wdX11_isMinute_0 adX11_isMinute_0.2.2.2.2.2.2.2.2 rfl
def bdX11_isBrasses_0 : ByteArray := .mk #[26, 155, 0, 13, 26, 16, 40, 163, 0, 7, 4, 167, 0, 4, 3, 172]
theorem wdX11_isBrasses_0 : LocW cX11_isBrasses 0 bdX11_isBrasses_0 := loc_of (by decide +kernel)
theorem adX11_isBrasses_0 : De bdX11_isBrasses_0 0 (.iload_n 0) 1 ∧ De bdX11_isBrasses_0 1 (.ifCond .lt 13) 3 ∧ De bdX11_isBrasses_0 4 (.iload_n 0) 1 ∧ De bdX11_isBrasses_0 5 (.bipush 40) 2 ∧ De bdX11_isBrasses_0 7 (.if_icmp .gt 7) 3 ∧ De bdX11_isBrasses_0 10 (.iconst 1) 1 ∧ De bdX11_isBrasses_0 11 (.goto 4) 3 ∧ De bdX11_isBrasses_0 14 (.iconst 0) 1 ∧ De bdX11_isBrasses_0 15 (.ireturn) 1 := by decide +kernel
theorem dX11_isBrasses_0 : decode cX11_isBrasses 0 = .ok (.iload_n 0, 1) := dAt wdX11_isBrasses_0 adX11_isBrasses_0.1 rfl
theorem dX11_isBrasses_1 : decode cX11_isBrasses 1 = .ok (.ifCond .lt 13, 3) := dAt wdX11_isBrasses_0 adX11_isBrasses_0.2.1 rfl
theorem dX11_isBrasses_4 : decode cX11_isBrasses 4 = .ok (.iload_n 0, 1) := dAt wdX11_isBrasses_0 adX11_isBrasses_0.2.2.1 rfl
theorem dX11_isBrasses_5 : decode cX11_isBrasses 5 = .ok (.bipush 40, 2) := dAt wdX11_isBrasses_0 adX11_isBrasses_0.2.2.2.1 rfl
theorem dX11_isBrasses_7 : decode cX11_isBrasses 7 = .ok (.if_icmp .gt 7, 3) := dAt wdX11_isBrasses_0 adX11_isBrasses_0.2.2.2.2.1 rfl
theorem dX11_isBrasses_10 : decode cX11_isBrasses 10 = .ok (.iconst 1, 1) := dAt wdX11_isBrasses_0 adX11_isBrasses_0.2.2.2.2.2.1 rfl
theorem dX11_isBrasses_11 : decode cX11_isBrasses 11 = .ok (.goto 4, 3) := dAt wdX11_isBrasses_0 adX11_isBrasses_0.2.2.2.2.2.2.1 rfl
theorem dX11_isBrasses_14 : decode cX11_isBrasses 14 = .ok (.iconst 0, 1) := dAt wdX11_isBrasses_0 adX11_isBrasses_0.2.2.2.2.2.2.2.1 rfl
theorem dX11_isBrasses_15 : decode cX11_isBrasses 15 = .ok (.ireturn, 1) := dAt wdX11_isBrasses_0 adX11_isBrasses_0.2.2.2.2.2.2.2.2 rfl
def bdX11_isPage_0 : ByteArray := .mk #[26, 155, 0, 13, 26, 16, 6, 162, 0, 7, 4, 167, 0, 4, 3, 172]
theorem wdX11_isPage_0 : LocW cX11_isPage 0 bdX11_isPage_0 := loc_of (by decide +kernel)
theorem adX11_isPage_0 : De bdX11_isPage_0 0 (.iload_n 0) 1 ∧ De bdX11_isPage_0 1 (.ifCond .lt 13) 3 ∧ De bdX11_isPage_0 4 (.iload_n 0) 1 ∧ De bdX11_isPage_0 5 (.bipush 6) 2 ∧ De bdX11_isPage_0 7 (.if_icmp .ge 7) 3 ∧ De bdX11_isPage_0 10 (.iconst 1) 1 ∧ De bdX11_isPage_0 11 (.goto 4) 3 ∧ De bdX11_isPage_0 14 (.iconst 0) 1 ∧ De bdX11_isPage_0 15 (.ireturn) 1 := by decide +kernel
theorem dX11_isPage_0 : decode cX11_isPage 0 = .ok (.iload_n 0, 1) := dAt wdX11_isPage_0 adX11_isPage_0.1 rfl
theorem dX11_isPage_1 : decode cX11_isPage 1 = .ok (.ifCond .lt 13, 3) := dAt wdX11_isPage_0 adX11_isPage_0.2.1 rfl
theorem dX11_isPage_4 : decode cX11_isPage 4 = .ok (.iload_n 0, 1) := dAt wdX11_isPage_0 adX11_isPage_0.2.2.1 rfl
theorem dX11_isPage_5 : decode cX11_isPage 5 = .ok (.bipush 6, 2) := dAt wdX11_isPage_0 adX11_isPage_0.2.2.2.1 rfl
theorem dX11_isPage_7 : decode cX11_isPage 7 = .ok (.if_icmp .ge 7, 3) := dAt wdX11_isPage_0 adX11_isPage_0.2.2.2.2.1 rfl
theorem dX11_isPage_10 : decode cX11_isPage 10 = .ok (.iconst 1, 1) := dAt wdX11_isPage_0 adX11_isPage_0.2.2.2.2.2.1 rfl
theorem dX11_isPage_11 : decode cX11_isPage 11 = .ok (.goto 4, 3) := dAt wdX11_isPage_0 adX11_isPage_0.2.2.2.2.2.2.1 rfl
theorem dX11_isPage_14 : decode cX11_isPage 14 = .ok (.iconst 0, 1) := dAt wdX11_isPage_0 adX11_isPage_0.2.2.2.2.2.2.2.1 rfl
theorem dX11_isPage_15 : decode cX11_isPage 15 = .ok (.ireturn, 1) := dAt wdX11_isPage_0 adX11_isPage_0.2.2.2.2.2.2.2.2 rfl
def bdX11_isEdition_0 : ByteArray := .mk #[27, 2, 161, 0, 18, 27, 42, 180, 0, 46, 180, 1, 200, 162, 0, 7, 4, 167, 0, 4, 3, 172]
theorem wdX11_isEdition_0 : LocW cX11_isEdition 0 bdX11_isEdition_0 := loc_of (by decide +kernel)
theorem adX11_isEdition_0 : De bdX11_isEdition_0 0 (.iload_n 1) 1 ∧ De bdX11_isEdition_0 1 (.iconst (-1)) 1 ∧ De bdX11_isEdition_0 2 (.if_icmp .lt 18) 3 ∧ De bdX11_isEdition_0 5 (.iload_n 1) 1 ∧ De bdX11_isEdition_0 6 (.aload_n 0) 1 ∧ De bdX11_isEdition_0 7 (.getfield 46) 3 ∧ De bdX11_isEdition_0 10 (.getfield 456) 3 ∧ De bdX11_isEdition_0 13 (.if_icmp .ge 7) 3 ∧ De bdX11_isEdition_0 16 (.iconst 1) 1 ∧ De bdX11_isEdition_0 17 (.goto 4) 3 ∧ De bdX11_isEdition_0 20 (.iconst 0) 1 ∧ De bdX11_isEdition_0 21 (.ireturn) 1 := by decide +kernel
theorem dX11_isEdition_0 : decode cX11_isEdition 0 = .ok (.iload_n 1, 1) := dAt wdX11_isEdition_0 adX11_isEdition_0.1 rfl
theorem dX11_isEdition_1 : decode cX11_isEdition 1 = .ok (.iconst (-1), 1) := dAt wdX11_isEdition_0 adX11_isEdition_0.2.1 rfl
theorem dX11_isEdition_2 : decode cX11_isEdition 2 = .ok (.if_icmp .lt 18, 3) := dAt wdX11_isEdition_0 adX11_isEdition_0.2.2.1 rfl
theorem dX11_isEdition_5 : decode cX11_isEdition 5 = .ok (.iload_n 1, 1) := dAt wdX11_isEdition_0 adX11_isEdition_0.2.2.2.1 rfl
theorem dX11_isEdition_6 : decode cX11_isEdition 6 = .ok (.aload_n 0, 1) := dAt wdX11_isEdition_0 adX11_isEdition_0.2.2.2.2.1 rfl
theorem dX11_isEdition_7 : decode cX11_isEdition 7 = .ok (.getfield 46, 3) := dAt wdX11_isEdition_0 adX11_isEdition_0.2.2.2.2.2.1 rfl
theorem dX11_isEdition_10 : decode cX11_isEdition 10 = .ok (.getfield 456, 3) := dAt wdX11_isEdition_0 adX11_isEdition_0.2.2.2.2.2.2.1 rfl
theorem dX11_isEdition_13 : decode cX11_isEdition 13 = .ok (.if_icmp .ge 7, 3) := dAt wdX11_isEdition_0 adX11_isEdition_0.2.2.2.2.2.2.2.1 rfl
theorem dX11_isEdition_16 : decode cX11_isEdition 16 = .ok (.iconst 1, 1) := dAt wdX11_isEdition_0 adX11_isEdition_0.2.2.2.2.2.2.2.2.1 rfl
theorem dX11_isEdition_17 : decode cX11_isEdition 17 = .ok (.goto 4, 3) := dAt wdX11_isEdition_0 adX11_isEdition_0.2.2.2.2.2.2.2.2.2.1 rfl
theorem dX11_isEdition_20 : decode cX11_isEdition 20 = .ok (.iconst 0, 1) := dAt wdX11_isEdition_0 adX11_isEdition_0.2.2.2.2.2.2.2.2.2.2.1 rfl
theorem dX11_isEdition_21 : decode cX11_isEdition 21 = .ok (.ireturn, 1) := dAt wdX11_isEdition_0 adX11_isEdition_0.2.2.2.2.2.2.2.2.2.2.2 rfl
def bdX11_copyFlags_0 : ByteArray := .mk #[3, 61, 28, 42, 190, 162, 0, 21, 28, 43, 190, 162, 0, 15, 43, 28, 42, 28, 51, 84]
theorem wdX11_copyFlags_0 : LocW cX11_copyFlags 0 bdX11_copyFlags_0 := loc_of (by decide +kernel)
theorem adX11_copyFlags_0 : De bdX11_copyFlags_0 0 (.iconst 0) 1 ∧ De bdX11_copyFlags_0 1 (.istore_n 2) 1 ∧ De bdX11_copyFlags_0 2 (.iload_n 2) 1 ∧ De bdX11_copyFlags_0 3 (.aload_n 0) 1 ∧ De bdX11_copyFlags_0 4 (.arraylength) 1 ∧ De bdX11_copyFlags_0 5 (.if_icmp .ge 21) 3 ∧ De bdX11_copyFlags_0 8 (.iload_n 2) 1 ∧ De bdX11_copyFlags_0 9 (.aload_n 1) 1 ∧ De bdX11_copyFlags_0 10 (.arraylength) 1 ∧ De bdX11_copyFlags_0 11 (.if_icmp .ge 15) 3 ∧ De bdX11_copyFlags_0 14 (.aload_n 1) 1 ∧ De bdX11_copyFlags_0 15 (.iload_n 2) 1 ∧ De bdX11_copyFlags_0 16 (.aload_n 0) 1 ∧ De bdX11_copyFlags_0 17 (.iload_n 2) 1 ∧ De bdX11_copyFlags_0 18 (.baload) 1 ∧ De bdX11_copyFlags_0 19 (.bastore) 1 := by decide +kernel
theorem dX11_copyFlags_0 : decode cX11_copyFlags 0 = .ok (.iconst 0, 1) := dAt wdX11_copyFlags_0 adX11_copyFlags_0.1 rfl
theorem dX11_copyFlags_1 : decode cX11_copyFlags 1 = .ok (.istore_n 2, 1) := dAt wdX11_copyFlags_0 adX11_copyFlags_0.2.1 rfl
theorem dX11_copyFlags_2 : decode cX11_copyFlags 2 = .ok (.iload_n 2, 1) := dAt wdX11_copyFlags_0 adX11_copyFlags_0.2.2.1 rfl
theorem dX11_copyFlags_3 : decode cX11_copyFlags 3 = .ok (.aload_n 0, 1) := dAt wdX11_copyFlags_0 adX11_copyFlags_0.2.2.2.1 rfl
theorem dX11_copyFlags_4 : decode cX11_copyFlags 4 = .ok (.arraylength, 1) := dAt wdX11_copyFlags_0 adX11_copyFlags_0.2.2.2.2.1 rfl
theorem dX11_copyFlags_5 : decode cX11_copyFlags 5 = .ok (.if_icmp .ge 21, 3) := dAt wdX11_copyFlags_0 adX11_copyFlags_0.2.2.2.2.2.1 rfl
theorem dX11_copyFlags_8 : decode cX11_copyFlags 8 = .ok (.iload_n 2, 1) := dAt wdX11_copyFlags_0 adX11_copyFlags_0.2.2.2.2.2.2.1 rfl
theorem dX11_copyFlags_9 : decode cX11_copyFlags 9 = .ok (.aload_n 1, 1) := dAt wdX11_copyFlags_0 adX11_copyFlags_0.2.2.2.2.2.2.2.1 rfl
theorem dX11_copyFlags_10 : decode cX11_copyFlags 10 = .ok (.arraylength, 1) := dAt wdX11_copyFlags_0 adX11_copyFlags_0.2.2.2.2.2.2.2.2.1 rfl
theorem dX11_copyFlags_11 : decode cX11_copyFlags 11 = .ok (.if_icmp .ge 15, 3) := dAt wdX11_copyFlags_0 adX11_copyFlags_0.2.2.2.2.2.2.2.2.2.1 rfl
theorem dX11_copyFlags_14 : decode cX11_copyFlags 14 = .ok (.aload_n 1, 1) := dAt wdX11_copyFlags_0 adX11_copyFlags_0.2.2.2.2.2.2.2.2.2.2.1 rfl
theorem dX11_copyFlags_15 : decode cX11_copyFlags 15 = .ok (.iload_n 2, 1) := dAt wdX11_copyFlags_0 adX11_copyFlags_0.2.2.2.2.2.2.2.2.2.2.2.1 rfl
theorem dX11_copyFlags_16 : decode cX11_copyFlags 16 = .ok (.aload_n 0, 1) := dAt wdX11_copyFlags_0 adX11_copyFlags_0.2.2.2.2.2.2.2.2.2.2.2.2.1 rfl
theorem dX11_copyFlags_17 : decode cX11_copyFlags 17 = .ok (.iload_n 2, 1) := dAt wdX11_copyFlags_0 adX11_copyFlags_0.2.2.2.2.2.2.2.2.2.2.2.2.2.1 rfl
theorem dX11_copyFlags_18 : decode cX11_copyFlags 18 = .ok (.baload, 1) := dAt wdX11_copyFlags_0 adX11_copyFlags_0.2.2.2.2.2.2.2.2.2.2.2.2.2.2.1 rfl
theorem dX11_copyFlags_19 : decode cX11_copyFlags 19 = .ok (.bastore, 1) := dAt wdX11_copyFlags_0 adX11_copyFlags_0.2.2.2.2.2.2.2.2.2.2.2.2.2.2.2 rfl
def bdX11_copyFlags_20 : ByteArray := .mk #[132, 2, 1, 167, 255, 235, 177]
theorem wdX11_copyFlags_20 : LocW cX11_copyFlags 20 bdX11_copyFlags_20 := loc_of (by decide +kernel)
theorem adX11_copyFlags_20 : De bdX11_copyFlags_20 0 (.iinc 2 1) 3 ∧ De bdX11_copyFlags_20 3 (.goto (-21)) 3 ∧ De bdX11_copyFlags_20 6 (.return_) 1 := by decide +kernel
theorem dX11_copyFlags_20 : decode cX11_copyFlags 20 = .ok (.iinc 2 1, 3) := dAt wdX11_copyFlags_20 adX11_copyFlags_20.1 rfl
theorem dX11_copyFlags_23 : decode cX11_copyFlags 23 = .ok (.goto (-21), 3) := dAt wdX11_copyFlags_20 adX11_copyFlags_20.2.1 rfl
theorem dX11_copyFlags_26 : decode cX11_copyFlags 26 = .ok (.return_, 1) := dAt wdX11_copyFlags_20 adX11_copyFlags_20.2.2 rfl
def bdX12_init_0 : ByteArray := .mk #[42, 183, 0, 1, 42, 18, 7, 188, 10, 181, 0, 8, 42, 18, 7, 188, 10, 181, 0, 14, 42, 18, 7, 188, 10, 181, 0, 17, 42, 17, 1, 144]
theorem wdX12_init_0 : LocW cX12_init 0 bdX12_init_0 := loc_of (by decide +kernel)
theorem adX12_init_0 : De bdX12_init_0 0 (.aload_n 0) 1 ∧ De bdX12_init_0 1 (.invokespecial 1) 3 ∧ De bdX12_init_0 4 (.aload_n 0) 1 ∧ De bdX12_init_0 5 (.ldc 7) 2 ∧ De bdX12_init_0 7 (.newarray .int) 2 ∧ De bdX12_init_0 9 (.putfield 8) 3 ∧ De bdX12_init_0 12 (.aload_n 0) 1 ∧ De bdX12_init_0 13 (.ldc 7) 2 ∧ De bdX12_init_0 15 (.newarray .int) 2 ∧ De bdX12_init_0 17 (.putfield 14) 3 ∧ De bdX12_init_0 20 (.aload_n 0) 1 ∧ De bdX12_init_0 21 (.ldc 7) 2 ∧ De bdX12_init_0 23 (.newarray .int) 2 ∧ De bdX12_init_0 25 (.putfield 17) 3 ∧ De bdX12_init_0 28 (.aload_n 0) 1 ∧ De bdX12_init_0 29 (.sipush 400) 3 := by decide +kernel
theorem dX12_init_0 : decode cX12_init 0 = .ok (.aload_n 0, 1) := dAt wdX12_init_0 adX12_init_0.1 rfl
theorem dX12_init_1 : decode cX12_init 1 = .ok (.invokespecial 1, 3) := dAt wdX12_init_0 adX12_init_0.2.1 rfl
theorem dX12_init_4 : decode cX12_init 4 = .ok (.aload_n 0, 1) := dAt wdX12_init_0 adX12_init_0.2.2.1 rfl
theorem dX12_init_5 : decode cX12_init 5 = .ok (.ldc 7, 2) := dAt wdX12_init_0 adX12_init_0.2.2.2.1 rfl
theorem dX12_init_7 : decode cX12_init 7 = .ok (.newarray .int, 2) := dAt wdX12_init_0 adX12_init_0.2.2.2.2.1 rfl
theorem dX12_init_9 : decode cX12_init 9 = .ok (.putfield 8, 3) := dAt wdX12_init_0 adX12_init_0.2.2.2.2.2.1 rfl
theorem dX12_init_12 : decode cX12_init 12 = .ok (.aload_n 0, 1) := dAt wdX12_init_0 adX12_init_0.2.2.2.2.2.2.1 rfl
theorem dX12_init_13 : decode cX12_init 13 = .ok (.ldc 7, 2) := dAt wdX12_init_0 adX12_init_0.2.2.2.2.2.2.2.1 rfl
theorem dX12_init_15 : decode cX12_init 15 = .ok (.newarray .int, 2) := dAt wdX12_init_0 adX12_init_0.2.2.2.2.2.2.2.2.1 rfl
theorem dX12_init_17 : decode cX12_init 17 = .ok (.putfield 14, 3) := dAt wdX12_init_0 adX12_init_0.2.2.2.2.2.2.2.2.2.1 rfl
theorem dX12_init_20 : decode cX12_init 20 = .ok (.aload_n 0, 1) := dAt wdX12_init_0 adX12_init_0.2.2.2.2.2.2.2.2.2.2.1 rfl
theorem dX12_init_21 : decode cX12_init 21 = .ok (.ldc 7, 2) := dAt wdX12_init_0 adX12_init_0.2.2.2.2.2.2.2.2.2.2.2.1 rfl
theorem dX12_init_23 : decode cX12_init 23 = .ok (.newarray .int, 2) := dAt wdX12_init_0 adX12_init_0.2.2.2.2.2.2.2.2.2.2.2.2.1 rfl
theorem dX12_init_25 : decode cX12_init 25 = .ok (.putfield 17, 3) := dAt wdX12_init_0 adX12_init_0.2.2.2.2.2.2.2.2.2.2.2.2.2.1 rfl
theorem dX12_init_28 : decode cX12_init 28 = .ok (.aload_n 0, 1) := dAt wdX12_init_0 adX12_init_0.2.2.2.2.2.2.2.2.2.2.2.2.2.2.1 rfl
theorem dX12_init_29 : decode cX12_init 29 = .ok (.sipush 400, 3) := dAt wdX12_init_0 adX12_init_0.2.2.2.2.2.2.2.2.2.2.2.2.2.2.2 rfl
def bdX12_init_32 : ByteArray := .mk #[188, 10, 181, 0, 20, 42, 2, 181, 0, 23, 42, 17, 0, 200, 188, 10, 181, 0, 27, 42, 17, 0, 200, 188, 10, 181, 0, 30, 42, 17, 9, 96, 188, 10]
theorem wdX12_init_32 : LocW cX12_init 32 bdX12_init_32 := loc_of (by decide +kernel)
theorem adX12_init_32 : De bdX12_init_32 0 (.newarray .int) 2 ∧ De bdX12_init_32 2 (.putfield 20) 3 ∧ De bdX12_init_32 5 (.aload_n 0) 1 ∧ De bdX12_init_32 6 (.iconst (-1)) 1 ∧ De bdX12_init_32 7 (.putfield 23) 3 ∧ De bdX12_init_32 10 (.aload_n 0) 1 ∧ De bdX12_init_32 11 (.sipush 200) 3 ∧ De bdX12_init_32 14 (.newarray .int) 2 ∧ De bdX12_init_32 16 (.putfield 27) 3 ∧ De bdX12_init_32 19 (.aload_n 0) 1 ∧ De bdX12_init_32 20 (.sipush 200) 3 ∧ De bdX12_init_32 23 (.newarray .int) 2 ∧ De bdX12_init_32 25 (.putfield 30) 3 ∧ De bdX12_init_32 28 (.aload_n 0) 1 ∧ De bdX12_init_32 29 (.sipush 2400) 3 ∧ De bdX12_init_32 32 (.newarray .int) 2 := by decide +kernel
theorem dX12_init_32 : decode cX12_init 32 = .ok (.newarray .int, 2) := dAt wdX12_init_32 adX12_init_32.1 rfl
theorem dX12_init_34 : decode cX12_init 34 = .ok (.putfield 20, 3) := dAt wdX12_init_32 adX12_init_32.2.1 rfl
theorem dX12_init_37 : decode cX12_init 37 = .ok (.aload_n 0, 1) := dAt wdX12_init_32 adX12_init_32.2.2.1 rfl
theorem dX12_init_38 : decode cX12_init 38 = .ok (.iconst (-1), 1) := dAt wdX12_init_32 adX12_init_32.2.2.2.1 rfl
theorem dX12_init_39 : decode cX12_init 39 = .ok (.putfield 23, 3) := dAt wdX12_init_32 adX12_init_32.2.2.2.2.1 rfl
theorem dX12_init_42 : decode cX12_init 42 = .ok (.aload_n 0, 1) := dAt wdX12_init_32 adX12_init_32.2.2.2.2.2.1 rfl
theorem dX12_init_43 : decode cX12_init 43 = .ok (.sipush 200, 3) := dAt wdX12_init_32 adX12_init_32.2.2.2.2.2.2.1 rfl
theorem dX12_init_46 : decode cX12_init 46 = .ok (.newarray .int, 2) := dAt wdX12_init_32 adX12_init_32.2.2.2.2.2.2.2.1 rfl
theorem dX12_init_48 : decode cX12_init 48 = .ok (.putfield 27, 3) := dAt wdX12_init_32 adX12_init_32.2.2.2.2.2.2.2.2.1 rfl
theorem dX12_init_51 : decode cX12_init 51 = .ok (.aload_n 0, 1) := dAt wdX12_init_32 adX12_init_32.2.2.2.2.2.2.2.2.2.1 rfl
theorem dX12_init_52 : decode cX12_init 52 = .ok (.sipush 200, 3) := dAt wdX12_init_32 adX12_init_32.2.2.2.2.2.2.2.2.2.2.1 rfl
theorem dX12_init_55 : decode cX12_init 55 = .ok (.newarray .int, 2) := dAt wdX12_init_32 adX12_init_32.2.2.2.2.2.2.2.2.2.2.2.1 rfl
theorem dX12_init_57 : decode cX12_init 57 = .ok (.putfield 30, 3) := dAt wdX12_init_32 adX12_init_32.2.2.2.2.2.2.2.2.2.2.2.2.1 rfl
theorem dX12_init_60 : decode cX12_init 60 = .ok (.aload_n 0, 1) := dAt wdX12_init_32 adX12_init_32.2.2.2.2.2.2.2.2.2.2.2.2.2.1 rfl
theorem dX12_init_61 : decode cX12_init 61 = .ok (.sipush 2400, 3) := dAt wdX12_init_32 adX12_init_32.2.2.2.2.2.2.2.2.2.2.2.2.2.2.1 rfl
theorem dX12_init_64 : decode cX12_init 64 = .ok (.newarray .int, 2) := dAt wdX12_init_32 adX12_init_32.2.2.2.2.2.2.2.2.2.2.2.2.2.2.2 rfl
def bdX12_init_66 : ByteArray := .mk #[181, 0, 33, 42, 8, 188, 10, 181, 0, 36, 42, 8, 188, 10, 181, 0, 39, 42, 17, 2, 50, 188, 10, 181, 0, 42, 42, 6, 188, 4]
theorem wdX12_init_66 : LocW cX12_init 66 bdX12_init_66 := loc_of (by decide +kernel)
theorem adX12_init_66 : De bdX12_init_66 0 (.putfield 33) 3 ∧ De bdX12_init_66 3 (.aload_n 0) 1 ∧ De bdX12_init_66 4 (.iconst 5) 1 ∧ De bdX12_init_66 5 (.newarray .int) 2 ∧ De bdX12_init_66 7 (.putfield 36) 3 ∧ De bdX12_init_66 10 (.aload_n 0) 1 ∧ De bdX12_init_66 11 (.iconst 5) 1 ∧ De bdX12_init_66 12 (.newarray .int) 2 ∧ De bdX12_init_66 14 (.putfield 39) 3 ∧ De bdX12_init_66 17 (.aload_n 0) 1 ∧ De bdX12_init_66 18 (.sipush 562) 3 ∧ De bdX12_init_66 21 (.newarray .int) 2 ∧ De bdX12_init_66 23 (.putfield 42) 3 ∧ De bdX12_init_66 26 (.aload_n 0) 1 ∧ De bdX12_init_66 27 (.iconst 3) 1 ∧ De bdX12_init_66 28 (.newarray .boolean) 2 := by decide +kernel
theorem dX12_init_66 : decode cX12_init 66 = .ok (.putfield 33, 3) := dAt wdX12_init_66 adX12_init_66.1 rfl
theorem dX12_init_69 : decode cX12_init 69 = .ok (.aload_n 0, 1) := dAt wdX12_init_66 adX12_init_66.2.1 rfl
theorem dX12_init_70 : decode cX12_init 70 = .ok (.iconst 5, 1) := dAt wdX12_init_66 adX12_init_66.2.2.1 rfl
theorem dX12_init_71 : decode cX12_init 71 = .ok (.newarray .int, 2) := dAt wdX12_init_66 adX12_init_66.2.2.2.1 rfl
theorem dX12_init_73 : decode cX12_init 73 = .ok (.putfield 36, 3) := dAt wdX12_init_66 adX12_init_66.2.2.2.2.1 rfl
theorem dX12_init_76 : decode cX12_init 76 = .ok (.aload_n 0, 1) := dAt wdX12_init_66 adX12_init_66.2.2.2.2.2.1 rfl
theorem dX12_init_77 : decode cX12_init 77 = .ok (.iconst 5, 1) := dAt wdX12_init_66 adX12_init_66.2.2.2.2.2.2.1 rfl
theorem dX12_init_78 : decode cX12_init 78 = .ok (.newarray .int, 2) := dAt wdX12_init_66 adX12_init_66.2.2.2.2.2.2.2.1 rfl
theorem dX12_init_80 : decode cX12_init 80 = .ok (.putfield 39, 3) := dAt wdX12_init_66 adX12_init_66.2.2.2.2.2.2.2.2.1 rfl
theorem dX12_init_83 : decode cX12_init 83 = .ok (.aload_n 0, 1) := dAt wdX12_init_66 adX12_init_66.2.2.2.2.2.2.2.2.2.1 rfl
theorem dX12_init_84 : decode cX12_init 84 = .ok (.sipush 562, 3) := dAt wdX12_init_66 adX12_init_66.2.2.2.2.2.2.2.2.2.2.1 rfl
theorem dX12_init_87 : decode cX12_init 87 = .ok (.newarray .int, 2) := dAt wdX12_init_66 adX12_init_66.2.2.2.2.2.2.2.2.2.2.2.1 rfl
theorem dX12_init_89 : decode cX12_init 89 = .ok (.putfield 42, 3) := dAt wdX12_init_66 adX12_init_66.2.2.2.2.2.2.2.2.2.2.2.2.1 rfl
theorem dX12_init_92 : decode cX12_init 92 = .ok (.aload_n 0, 1) := dAt wdX12_init_66 adX12_init_66.2.2.2.2.2.2.2.2.2.2.2.2.2.1 rfl
theorem dX12_init_93 : decode cX12_init 93 = .ok (.iconst 3, 1) := dAt wdX12_init_66 adX12_init_66.2.2.2.2.2.2.2.2.2.2.2.2.2.2.1 rfl
theorem dX12_init_94 : decode cX12_init 94 = .ok (.newarray .boolean, 2) := dAt wdX12_init_66 adX12_init_66.2.2.2.2.2.2.2.2.2.2.2.2.2.2.2 rfl
def bdX12_init_96 : ByteArray := .mk #[181, 0, 45, 42, 16, 6, 188, 10, 181, 0, 49, 42, 16, 100, 188, 4, 181, 0, 52, 42, 16, 41, 188, 10, 181, 0, 55, 42, 16, 41, 188, 10]
theorem wdX12_init_96 : LocW cX12_init 96 bdX12_init_96 := loc_of (by decide +kernel)
theorem adX12_init_96 : De bdX12_init_96 0 (.putfield 45) 3 ∧ De bdX12_init_96 3 (.aload_n 0) 1 ∧ De bdX12_init_96 4 (.bipush 6) 2 ∧ De bdX12_init_96 6 (.newarray .int) 2 ∧ De bdX12_init_96 8 (.putfield 49) 3 ∧ De bdX12_init_96 11 (.aload_n 0) 1 ∧ De bdX12_init_96 12 (.bipush 100) 2 ∧ De bdX12_init_96 14 (.newarray .boolean) 2 ∧ De bdX12_init_96 16 (.putfield 52) 3 ∧ De bdX12_init_96 19 (.aload_n 0) 1 ∧ De bdX12_init_96 20 (.bipush 41) 2 ∧ De bdX12_init_96 22 (.newarray .int) 2 ∧ De bdX12_init_96 24 (.putfield 55) 3 ∧ De bdX12_init_96 27 (.aload_n 0) 1 ∧ De bdX12_init_96 28 (.bipush 41) 2 ∧ De bdX12_init_96 30 (.newarray .int) 2 := by decide +kernel
theorem dX12_init_96 : decode cX12_init 96 = .ok (.putfield 45, 3) := dAt wdX12_init_96 adX12_init_96.1 rfl
theorem dX12_init_99 : decode cX12_init 99 = .ok (.aload_n 0, 1) := dAt wdX12_init_96 adX12_init_96.2.1 rfl
theorem dX12_init_100 : decode cX12_init 100 = .ok (.bipush 6, 2) := dAt wdX12_init_96 adX12_init_96.2.2.1 rfl
theorem dX12_init_102 : decode cX12_init 102 = .ok (.newarray .int, 2) := dAt wdX12_init_96 adX12_init_96.2.2.2.1 rfl
theorem dX12_init_104 : decode cX12_init 104 = .ok (.putfield 49, 3) := dAt wdX12_init_96 adX12_init_96.2.2.2.2.1 rfl
theorem dX12_init_107 : decode cX12_init 107 = .ok (.aload_n 0, 1) := dAt wdX12_init_96 adX12_init_96.2.2.2.2.2.1 rfl
theorem dX12_init_108 : decode cX12_init 108 = .ok (.bipush 100, 2) := dAt wdX12_init_96 adX12_init_96.2.2.2.2.2.2.1 rfl
theorem dX12_init_110 : decode cX12_init 110 = .ok (.newarray .boolean, 2) := dAt wdX12_init_96 adX12_init_96.2.2.2.2.2.2.2.1 rfl
theorem dX12_init_112 : decode cX12_init 112 = .ok (.putfield 52, 3) := dAt wdX12_init_96 adX12_init_96.2.2.2.2.2.2.2.2.1 rfl
theorem dX12_init_115 : decode cX12_init 115 = .ok (.aload_n 0, 1) := dAt wdX12_init_96 adX12_init_96.2.2.2.2.2.2.2.2.2.1 rfl
theorem dX12_init_116 : decode cX12_init 116 = .ok (.bipush 41, 2) := dAt wdX12_init_96 adX12_init_96.2.2.2.2.2.2.2.2.2.2.1 rfl
theorem dX12_init_118 : decode cX12_init 118 = .ok (.newarray .int, 2) := dAt wdX12_init_96 adX12_init_96.2.2.2.2.2.2.2.2.2.2.2.1 rfl
theorem dX12_init_120 : decode cX12_init 120 = .ok (.putfield 55, 3) := dAt wdX12_init_96 adX12_init_96.2.2.2.2.2.2.2.2.2.2.2.2.1 rfl
theorem dX12_init_123 : decode cX12_init 123 = .ok (.aload_n 0, 1) := dAt wdX12_init_96 adX12_init_96.2.2.2.2.2.2.2.2.2.2.2.2.2.1 rfl
theorem dX12_init_124 : decode cX12_init 124 = .ok (.bipush 41, 2) := dAt wdX12_init_96 adX12_init_96.2.2.2.2.2.2.2.2.2.2.2.2.2.2.1 rfl
theorem dX12_init_126 : decode cX12_init 126 = .ok (.newarray .int, 2) := dAt wdX12_init_96 adX12_init_96.2.2.2.2.2.2.2.2.2.2.2.2.2.2.2 rfl
def bdX12_init_128 : ByteArray := .mk #[181, 0, 58, 42, 16, 41, 188, 10, 181, 0, 61, 42, 17, 1, 174, 188, 10, 181, 0, 64, 42, 16, 27, 188, 10, 181, 0, 67, 42, 16, 41, 188, 4]
theorem wdX12_init_128 : LocW cX12_init 128 bdX12_init_128 := loc_of (by decide +kernel)
theorem adX12_init_128 : De bdX12_init_128 0 (.putfield 58) 3 ∧ De bdX12_init_128 3 (.aload_n 0) 1 ∧ De bdX12_init_128 4 (.bipush 41) 2 ∧ De bdX12_init_128 6 (.newarray .int) 2 ∧ De bdX12_init_128 8 (.putfield 61) 3 ∧ De bdX12_init_128 11 (.aload_n 0) 1 ∧ De bdX12_init_128 12 (.sipush 430) 3 ∧ De bdX12_init_128 15 (.newarray .int) 2 ∧ De bdX12_init_128 17 (.putfield 64) 3 ∧ De bdX12_init_128 20 (.aload_n 0) 1 ∧ De bdX12_init_128 21 (.bipush 27) 2 ∧ De bdX12_init_128 23 (.newarray .int) 2 ∧ De bdX12_init_128 25 (.putfield 67) 3 ∧ De bdX12_init_128 28 (.aload_n 0) 1 ∧ De bdX12_init_128 29 (.bipush 41) 2 ∧ De bdX12_init_128 31 (.newarray .boolean) 2 := by decide +kernel
theorem dX12_init_128 : decode cX12_init 128 = .ok (.putfield 58, 3) := dAt wdX12_init_128 adX12_init_128.1 rfl
theorem dX12_init_131 : decode cX12_init 131 = .ok (.aload_n 0, 1) := dAt wdX12_init_128 adX12_init_128.2.1 rfl
theorem dX12_init_132 : decode cX12_init 132 = .ok (.bipush 41, 2) := dAt wdX12_init_128 adX12_init_128.2.2.1 rfl
theorem dX12_init_134 : decode cX12_init 134 = .ok (.newarray .int, 2) := dAt wdX12_init_128 adX12_init_128.2.2.2.1 rfl
theorem dX12_init_136 : decode cX12_init 136 = .ok (.putfield 61, 3) := dAt wdX12_init_128 adX12_init_128.2.2.2.2.1 rfl
theorem dX12_init_139 : decode cX12_init 139 = .ok (.aload_n 0, 1) := dAt wdX12_init_128 adX12_init_128.2.2.2.2.2.1 rfl
theorem dX12_init_140 : decode cX12_init 140 = .ok (.sipush 430, 3) := dAt wdX12_init_128 adX12_init_128.2.2.2.2.2.2.1 rfl
theorem dX12_init_143 : decode cX12_init 143 = .ok (.newarray .int, 2) := dAt wdX12_init_128 adX12_init_128.2.2.2.2.2.2.2.1 rfl
theorem dX12_init_145 : decode cX12_init 145 = .ok (.putfield 64, 3) := dAt wdX12_init_128 adX12_init_128.2.2.2.2.2.2.2.2.1 rfl
theorem dX12_init_148 : decode cX12_init 148 = .ok (.aload_n 0, 1) := dAt wdX12_init_128 adX12_init_128.2.2.2.2.2.2.2.2.2.1 rfl
theorem dX12_init_149 : decode cX12_init 149 = .ok (.bipush 27, 2) := dAt wdX12_init_128 adX12_init_128.2.2.2.2.2.2.2.2.2.2.1 rfl
theorem dX12_init_151 : decode cX12_init 151 = .ok (.newarray .int, 2) := dAt wdX12_init_128 adX12_init_128.2.2.2.2.2.2.2.2.2.2.2.1 rfl
theorem dX12_init_153 : decode cX12_init 153 = .ok (.putfield 67, 3) := dAt wdX12_init_128 adX12_init_128.2.2.2.2.2.2.2.2.2.2.2.2.1 rfl
theorem dX12_init_156 : decode cX12_init 156 = .ok (.aload_n 0, 1) := dAt wdX12_init_128 adX12_init_128.2.2.2.2.2.2.2.2.2.2.2.2.2.1 rfl
theorem dX12_init_157 : decode cX12_init 157 = .ok (.bipush 41, 2) := dAt wdX12_init_128 adX12_init_128.2.2.2.2.2.2.2.2.2.2.2.2.2.2.1 rfl
theorem dX12_init_159 : decode cX12_init 159 = .ok (.newarray .boolean, 2) := dAt wdX12_init_128 adX12_init_128.2.2.2.2.2.2.2.2.2.2.2.2.2.2.2 rfl
def bdX12_init_161 : ByteArray := .mk #[181, 0, 70, 42, 17, 67, 48, 188, 10, 181, 0, 73, 42, 16, 40, 188, 10, 181, 0, 76, 42, 16, 40, 188, 10, 181, 0, 79, 42, 17, 2, 133, 188, 10]
theorem wdX12_init_161 : LocW cX12_init 161 bdX12_init_161 := loc_of (by decide +kernel)
theorem adX12_init_161 : De bdX12_init_161 0 (.putfield 70) 3 ∧ De bdX12_init_161 3 (.aload_n 0) 1 ∧ De bdX12_init_161 4 (.sipush 17200) 3 ∧ De bdX12_init_161 7 (.newarray .int) 2 ∧ De bdX12_init_161 9 (.putfield 73) 3 ∧ De bdX12_init_161 12 (.aload_n 0) 1 ∧ De bdX12_init_161 13 (.bipush 40) 2 ∧ De bdX12_init_161 15 (.newarray .int) 2 ∧ De bdX12_init_161 17 (.putfield 76) 3 ∧ De bdX12_init_161 20 (.aload_n 0) 1 ∧ De bdX12_init_161 21 (.bipush 40) 2 ∧ De bdX12_init_161 23 (.newarray .int) 2 ∧ De bdX12_init_161 25 (.putfield 79) 3 ∧ De bdX12_init_161 28 (.aload_n 0) 1 ∧ De bdX12_init_161 29 (.sipush 645) 3 ∧ De bdX12_init_161 32 (.newarray .int) 2 := by decide +kernel
theorem dX12_init_161 : decode cX12_init 161 = .ok (.putfield 70, 3) := dAt wdX12_init_161 adX12_init_161.1 rfl
theorem dX12_init_164 : decode cX12_init 164 = .ok (.aload_n 0, 1) := dAt wdX12_init_161 adX12_init_161.2.1 rfl
theorem dX12_init_165 : decode cX12_init 165 = .ok (.sipush 17200, 3) := dAt wdX12_init_161 adX12_init_161.2.2.1 rfl
theorem dX12_init_168 : decode cX12_init 168 = .ok (.newarray .int, 2) := dAt wdX12_init_161 adX12_init_161.2.2.2.1 rfl
theorem dX12_init_170 : decode cX12_init 170 = .ok (.putfield 73, 3) := dAt wdX12_init_161 adX12_init_161.2.2.2.2.1 rfl
theorem dX12_init_173 : decode cX12_init 173 = .ok (.aload_n 0, 1) := dAt wdX12_init_161 adX12_init_161.2.2.2.2.2.1 rfl
theorem dX12_init_174 : decode cX12_init 174 = .ok (.bipush 40, 2) := dAt wdX12_init_161 adX12_init_161.2.2.2.2.2.2.1 rfl
theorem dX12_init_176 : decode cX12_init 176 = .ok (.newarray .int, 2) := dAt wdX12_init_161 adX12_init_161.2.2.2.2.2.2.2.1 rfl
theorem dX12_init_178 : decode cX12_init 178 = .ok (.putfield 76, 3) := dAt wdX12_init_161 adX12_init_161.2.2.2.2.2.2.2.2.1 rfl
theorem dX12_init_181 : decode cX12_init 181 = .ok (.aload_n 0, 1) := dAt wdX12_init_161 adX12_init_161.2.2.2.2.2.2.2.2.2.1 rfl
theorem dX12_init_182 : decode cX12_init 182 = .ok (.bipush 40, 2) := dAt wdX12_init_161 adX12_init_161.2.2.2.2.2.2.2.2.2.2.1 rfl
theorem dX12_init_184 : decode cX12_init 184 = .ok (.newarray .int, 2) := dAt wdX12_init_161 adX12_init_161.2.2.2.2.2.2.2.2.2.2.2.1 rfl
theorem dX12_init_186 : decode cX12_init 186 = .ok (.putfield 79, 3) := dAt wdX12_init_161 adX12_init_161.2.2.2.2.2.2.2.2.2.2.2.2.1 rfl
theorem dX12_init_189 : decode cX12_init 189 = .ok (.aload_n 0, 1) := dAt wdX12_init_161 adX12_init_161.2.2.2.2.2.2.2.2.2.2.2.2.2.1 rfl
theorem dX12_init_190 : decode cX12_init 190 = .ok (.sipush 645, 3) := dAt wdX12_init_161 adX12_init_161.2.2.2.2.2.2.2.2.2.2.2.2.2.2.1 rfl
theorem dX12_init_193 : decode cX12_init 193 = .ok (.newarray .int, 2) := dAt wdX12_init_161 adX12_init_161.2.2.2.2.2.2.2.2.2.2.2.2.2.2.2 rfl
def bdX12_init_195 : ByteArray := .mk #[181, 0, 82, 42, 16, 40, 188, 10, 181, 0, 85, 42, 16, 40, 188, 10, 181, 0, 88, 42, 17, 1, 224, 188, 10, 181, 0, 91, 42, 7, 188, 10]
theorem wdX12_init_195 : LocW cX12_init 195 bdX12_init_195 := loc_of (by decide +kernel)
theorem adX12_init_195 : De bdX12_init_195 0 (.putfield 82) 3 ∧ De bdX12_init_195 3 (.aload_n 0) 1 ∧ De bdX12_init_195 4 (.bipush 40) 2 ∧ De bdX12_init_195 6 (.newarray .int) 2 ∧ De bdX12_init_195 8 (.putfield 85) 3 ∧ De bdX12_init_195 11 (.aload_n 0) 1 ∧ De bdX12_init_195 12 (.bipush 40) 2 ∧ De bdX12_init_195 14 (.newarray .int) 2 ∧ De bdX12_init_195 16 (.putfield 88) 3 ∧ De bdX12_init_195 19 (.aload_n 0) 1 ∧ De bdX12_init_195 20 (.sipush 480) 3 ∧ De bdX12_init_195 23 (.newarray .int) 2 ∧ De bdX12_init_195 25 (.putfield 91) 3 ∧ De bdX12_init_195 28 (.aload_n 0) 1 ∧ De bdX12_init_195 29 (.iconst 4) 1 ∧ De bdX12_init_195 30 (.newarray .int) 2 := by decide +kernel
theorem dX12_init_195 : decode cX12_init 195 = .ok (.putfield 82, 3) := dAt wdX12_init_195 adX12_init_195.1 rfl
theorem dX12_init_198 : decode cX12_init 198 = .ok (.aload_n 0, 1) := dAt wdX12_init_195 adX12_init_195.2.1 rfl
theorem dX12_init_199 : decode cX12_init 199 = .ok (.bipush 40, 2) := dAt wdX12_init_195 adX12_init_195.2.2.1 rfl
theorem dX12_init_201 : decode cX12_init 201 = .ok (.newarray .int, 2) := dAt wdX12_init_195 adX12_init_195.2.2.2.1 rfl
theorem dX12_init_203 : decode cX12_init 203 = .ok (.putfield 85, 3) := dAt wdX12_init_195 adX12_init_195.2.2.2.2.1 rfl
theorem dX12_init_206 : decode cX12_init 206 = .ok (.aload_n 0, 1) := dAt wdX12_init_195 adX12_init_195.2.2.2.2.2.1 rfl
theorem dX12_init_207 : decode cX12_init 207 = .ok (.bipush 40, 2) := dAt wdX12_init_195 adX12_init_195.2.2.2.2.2.2.1 rfl
theorem dX12_init_209 : decode cX12_init 209 = .ok (.newarray .int, 2) := dAt wdX12_init_195 adX12_init_195.2.2.2.2.2.2.2.1 rfl
theorem dX12_init_211 : decode cX12_init 211 = .ok (.putfield 88, 3) := dAt wdX12_init_195 adX12_init_195.2.2.2.2.2.2.2.2.1 rfl
theorem dX12_init_214 : decode cX12_init 214 = .ok (.aload_n 0, 1) := dAt wdX12_init_195 adX12_init_195.2.2.2.2.2.2.2.2.2.1 rfl
theorem dX12_init_215 : decode cX12_init 215 = .ok (.sipush 480, 3) := dAt wdX12_init_195 adX12_init_195.2.2.2.2.2.2.2.2.2.2.1 rfl
theorem dX12_init_218 : decode cX12_init 218 = .ok (.newarray .int, 2) := dAt wdX12_init_195 adX12_init_195.2.2.2.2.2.2.2.2.2.2.2.1 rfl
theorem dX12_init_220 : decode cX12_init 220 = .ok (.putfield 91, 3) := dAt wdX12_init_195 adX12_init_195.2.2.2.2.2.2.2.2.2.2.2.2.1 rfl
theorem dX12_init_223 : decode cX12_init 223 = .ok (.aload_n 0, 1) := dAt wdX12_init_195 adX12_init_195.2.2.2.2.2.2.2.2.2.2.2.2.2.1 rfl
theorem dX12_init_224 : decode cX12_init 224 = .ok (.iconst 4, 1) := dAt wdX12_init_195 adX12_init_195.2.2.2.2.2.2.2.2.2.2.2.2.2.2.1 rfl
theorem dX12_init_225 : decode cX12_init 225 = .ok (.newarray .int, 2) := dAt wdX12_init_195 adX12_init_195.2.2.2.2.2.2.2.2.2.2.2.2.2.2.2 rfl
def bdX12_init_227 : ByteArray := .mk #[181, 0, 94, 42, 7, 188, 10, 181, 0, 97, 42, 7, 188, 10, 181, 0, 100, 42, 7, 188, 10, 181, 0, 103, 42, 7, 188, 10]
theorem wdX12_init_227 : LocW cX12_init 227 bdX12_init_227 := loc_of (by decide +kernel)
theorem adX12_init_227 : De bdX12_init_227 0 (.putfield 94) 3 ∧ De bdX12_init_227 3 (.aload_n 0) 1 ∧ De bdX12_init_227 4 (.iconst 4) 1 ∧ De bdX12_init_227 5 (.newarray .int) 2 ∧ De bdX12_init_227 7 (.putfield 97) 3 ∧ De bdX12_init_227 10 (.aload_n 0) 1 ∧ De bdX12_init_227 11 (.iconst 4) 1 ∧ De bdX12_init_227 12 (.newarray .int) 2 ∧ De bdX12_init_227 14 (.putfield 100) 3 ∧ De bdX12_init_227 17 (.aload_n 0) 1 ∧ De bdX12_init_227 18 (.iconst 4) 1 ∧ De bdX12_init_227 19 (.newarray .int) 2 ∧ De bdX12_init_227 21 (.putfield 103) 3 ∧ De bdX12_init_227 24 (.aload_n 0) 1 ∧ De bdX12_init_227 25 (.iconst 4) 1 ∧ De bdX12_init_227 26 (.newarray .int) 2 := by decide +kernel
theorem dX12_init_227 : decode cX12_init 227 = .ok (.putfield 94, 3) := dAt wdX12_init_227 adX12_init_227.1 rfl
theorem dX12_init_230 : decode cX12_init 230 = .ok (.aload_n 0, 1) := dAt wdX12_init_227 adX12_init_227.2.1 rfl
theorem dX12_init_231 : decode cX12_init 231 = .ok (.iconst 4, 1) := dAt wdX12_init_227 adX12_init_227.2.2.1 rfl
theorem dX12_init_232 : decode cX12_init 232 = .ok (.newarray .int, 2) := dAt wdX12_init_227 adX12_init_227.2.2.2.1 rfl
theorem dX12_init_234 : decode cX12_init 234 = .ok (.putfield 97, 3) := dAt wdX12_init_227 adX12_init_227.2.2.2.2.1 rfl
theorem dX12_init_237 : decode cX12_init 237 = .ok (.aload_n 0, 1) := dAt wdX12_init_227 adX12_init_227.2.2.2.2.2.1 rfl
theorem dX12_init_238 : decode cX12_init 238 = .ok (.iconst 4, 1) := dAt wdX12_init_227 adX12_init_227.2.2.2.2.2.2.1 rfl
theorem dX12_init_239 : decode cX12_init 239 = .ok (.newarray .int, 2) := dAt wdX12_init_227 adX12_init_227.2.2.2.2.2.2.2.1 rfl
theorem dX12_init_241 : decode cX12_init 241 = .ok (.putfield 100, 3) := dAt wdX12_init_227 adX12_init_227.2.2.2.2.2.2.2.2.1 rfl
theorem dX12_init_244 : decode cX12_init 244 = .ok (.aload_n 0, 1) := dAt wdX12_init_227 adX12_init_227.2.2.2.2.2.2.2.2.2.1 rfl
theorem dX12_init_245 : decode cX12_init 245 = .ok (.iconst 4, 1) := dAt wdX12_init_227 adX12_init_227.2.2.2.2.2.2.2.2.2.2.1 rfl
theorem dX12_init_246 : decode cX12_init 246 = .ok (.newarray .int, 2) := dAt wdX12_init_227 adX12_init_227.2.2.2.2.2.2.2.2.2.2.2.1 rfl
theorem dX12_init_248 : decode cX12_init 248 = .ok (.putfield 103, 3) := dAt wdX12_init_227 adX12_init_227.2.2.2.2.2.2.2.2.2.2.2.2.1 rfl
theorem dX12_init_251 : decode cX12_init 251 = .ok (.aload_n 0, 1) := dAt wdX12_init_227 adX12_init_227.2.2.2.2.2.2.2.2.2.2.2.2.2.1 rfl
theorem dX12_init_252 : decode cX12_init 252 = .ok (.iconst 4, 1) := dAt wdX12_init_227 adX12_init_227.2.2.2.2.2.2.2.2.2.2.2.2.2.2.1 rfl
theorem dX12_init_253 : decode cX12_init 253 = .ok (.newarray .int, 2) := dAt wdX12_init_227 adX12_init_227.2.2.2.2.2.2.2.2.2.2.2.2.2.2.2 rfl
def bdX12_init_255 : ByteArray := .mk #[181, 0, 106, 42, 6, 188, 10, 181, 0, 109, 42, 8, 188, 10, 181, 0, 112, 42, 8, 188, 10, 181, 0, 115, 42, 7, 188, 10]
theorem wdX12_init_255 : LocW cX12_init 255 bdX12_init_255 := loc_of (by decide +kernel)
theorem adX12_init_255 : De bdX12_init_255 0 (.putfield 106) 3 ∧ De bdX12_init_255 3 (.aload_n 0) 1 ∧ De bdX12_init_255 4 (.iconst 3) 1 ∧ De bdX12_init_255 5 (.newarray .int) 2 ∧ De bdX12_init_255 7 (.putfield 109) 3 ∧ De bdX12_init_255 10 (.aload_n 0) 1 ∧ De bdX12_init_255 11 (.iconst 5) 1 ∧ De bdX12_init_255 12 (.newarray .int) 2 ∧ De bdX12_init_255 14 (.putfield 112) 3 ∧ De bdX12_init_255 17 (.aload_n 0) 1 ∧ De bdX12_init_255 18 (.iconst 5) 1 ∧ De bdX12_init_255 19 (.newarray .int) 2 ∧ De bdX12_init_255 21 (.putfield 115) 3 ∧ De bdX12_init_255 24 (.aload_n 0) 1 ∧ De bdX12_init_255 25 (.iconst 4) 1 ∧ De bdX12_init_255 26 (.newarray .int) 2 := by decide +kernel
theorem dX12_init_255 : decode cX12_init 255 = .ok (.putfield 106, 3) := dAt wdX12_init_255 adX12_init_255.1 rfl
theorem dX12_init_258 : decode cX12_init 258 = .ok (.aload_n 0, 1) := dAt wdX12_init_255 adX12_init_255.2.1 rfl
theorem dX12_init_259 : decode cX12_init 259 = .ok (.iconst 3, 1) := dAt wdX12_init_255 adX12_init_255.2.2.1 rfl
theorem dX12_init_260 : decode cX12_init 260 = .ok (.newarray .int, 2) := dAt wdX12_init_255 adX12_init_255.2.2.2.1 rfl
theorem dX12_init_262 : decode cX12_init 262 = .ok (.putfield 109, 3) := dAt wdX12_init_255 adX12_init_255.2.2.2.2.1 rfl
theorem dX12_init_265 : decode cX12_init 265 = .ok (.aload_n 0, 1) := dAt wdX12_init_255 adX12_init_255.2.2.2.2.2.1 rfl
theorem dX12_init_266 : decode cX12_init 266 = .ok (.iconst 5, 1) := dAt wdX12_init_255 adX12_init_255.2.2.2.2.2.2.1 rfl
theorem dX12_init_267 : decode cX12_init 267 = .ok (.newarray .int, 2) := dAt wdX12_init_255 adX12_init_255.2.2.2.2.2.2.2.1 rfl
theorem dX12_init_269 : decode cX12_init 269 = .ok (.putfield 112, 3) := dAt wdX12_init_255 adX12_init_255.2.2.2.2.2.2.2.2.1 rfl
theorem dX12_init_272 : decode cX12_init 272 = .ok (.aload_n 0, 1) := dAt wdX12_init_255 adX12_init_255.2.2.2.2.2.2.2.2.2.1 rfl
theorem dX12_init_273 : decode cX12_init 273 = .ok (.iconst 5, 1) := dAt wdX12_init_255 adX12_init_255.2.2.2.2.2.2.2.2.2.2.1 rfl
theorem dX12_init_274 : decode cX12_init 274 = .ok (.newarray .int, 2) := dAt wdX12_init_255 adX12_init_255.2.2.2.2.2.2.2.2.2.2.2.1 rfl
theorem dX12_init_276 : decode cX12_init 276 = .ok (.putfield 115, 3) := dAt wdX12_init_255 adX12_init_255.2.2.2.2.2.2.2.2.2.2.2.2.1 rfl
theorem dX12_init_279 : decode cX12_init 279 = .ok (.aload_n 0, 1) := dAt wdX12_init_255 adX12_init_255.2.2.2.2.2.2.2.2.2.2.2.2.2.1 rfl
theorem dX12_init_280 : decode cX12_init 280 = .ok (.iconst 4, 1) := dAt wdX12_init_255 adX12_init_255.2.2.2.2.2.2.2.2.2.2.2.2.2.2.1 rfl
theorem dX12_init_281 : decode cX12_init 281 = .ok (.newarray .int, 2) := dAt wdX12_init_255 adX12_init_255.2.2.2.2.2.2.2.2.2.2.2.2.2.2.2 rfl
def bdX12_init_283 : ByteArray := .mk #[181, 0, 118, 3, 60, 27, 16, 54, 162, 0, 19, 42, 180, 0, 8, 16, 16, 27, 96, 7, 79, 132, 1, 1, 167, 255, 237, 3]
theorem wdX12_init_283 : LocW cX12_init 283 bdX12_init_283 := loc_of (by decide +kernel)
theorem adX12_init_283 : De bdX12_init_283 0 (.putfield 118) 3 ∧ De bdX12_init_283 3 (.iconst 0) 1 ∧ De bdX12_init_283 4 (.istore_n 1) 1 ∧ De bdX12_init_283 5 (.iload_n 1) 1 ∧ De bdX12_init_283 6 (.bipush 54) 2 ∧ De bdX12_init_283 8 (.if_icmp .ge 19) 3 ∧ De bdX12_init_283 11 (.aload_n 0) 1 ∧ De bdX12_init_283 12 (.getfield 8) 3 ∧ De bdX12_init_283 15 (.bipush 16) 2 ∧ De bdX12_init_283 17 (.iload_n 1) 1 ∧ De bdX12_init_283 18 (.iadd) 1 ∧ De bdX12_init_283 19 (.iconst 4) 1 ∧ De bdX12_init_283 20 (.iastore) 1 ∧ De bdX12_init_283 21 (.iinc 1 1) 3 ∧ De bdX12_init_283 24 (.goto (-19)) 3 ∧ De bdX12_init_283 27 (.iconst 0) 1 := by decide +kernel
theorem dX12_init_283 : decode cX12_init 283 = .ok (.putfield 118, 3) := dAt wdX12_init_283 adX12_init_283.1 rfl
theorem dX12_init_286 : decode cX12_init 286 = .ok (.iconst 0, 1) := dAt wdX12_init_283 adX12_init_283.2.1 rfl
theorem dX12_init_287 : decode cX12_init 287 = .ok (.istore_n 1, 1) := dAt wdX12_init_283 adX12_init_283.2.2.1 rfl
theorem dX12_init_288 : decode cX12_init 288 = .ok (.iload_n 1, 1) := dAt wdX12_init_283 adX12_init_283.2.2.2.1 rfl
theorem dX12_init_289 : decode cX12_init 289 = .ok (.bipush 54, 2) := dAt wdX12_init_283 adX12_init_283.2.2.2.2.1 rfl
theorem dX12_init_291 : decode cX12_init 291 = .ok (.if_icmp .ge 19, 3) := dAt wdX12_init_283 adX12_init_283.2.2.2.2.2.1 rfl
theorem dX12_init_294 : decode cX12_init 294 = .ok (.aload_n 0, 1) := dAt wdX12_init_283 adX12_init_283.2.2.2.2.2.2.1 rfl
theorem dX12_init_295 : decode cX12_init 295 = .ok (.getfield 8, 3) := dAt wdX12_init_283 adX12_init_283.2.2.2.2.2.2.2.1 rfl
theorem dX12_init_298 : decode cX12_init 298 = .ok (.bipush 16, 2) := dAt wdX12_init_283 adX12_init_283.2.2.2.2.2.2.2.2.1 rfl
theorem dX12_init_300 : decode cX12_init 300 = .ok (.iload_n 1, 1) := dAt wdX12_init_283 adX12_init_283.2.2.2.2.2.2.2.2.2.1 rfl
theorem dX12_init_301 : decode cX12_init 301 = .ok (.iadd, 1) := dAt wdX12_init_283 adX12_init_283.2.2.2.2.2.2.2.2.2.2.1 rfl
theorem dX12_init_302 : decode cX12_init 302 = .ok (.iconst 4, 1) := dAt wdX12_init_283 adX12_init_283.2.2.2.2.2.2.2.2.2.2.2.1 rfl
theorem dX12_init_303 : decode cX12_init 303 = .ok (.iastore, 1) := dAt wdX12_init_283 adX12_init_283.2.2.2.2.2.2.2.2.2.2.2.2.1 rfl
theorem dX12_init_304 : decode cX12_init 304 = .ok (.iinc 1 1, 3) := dAt wdX12_init_283 adX12_init_283.2.2.2.2.2.2.2.2.2.2.2.2.2.1 rfl
theorem dX12_init_307 : decode cX12_init 307 = .ok (.goto (-19), 3) := dAt wdX12_init_283 adX12_init_283.2.2.2.2.2.2.2.2.2.2.2.2.2.2.1 rfl
theorem dX12_init_310 : decode cX12_init 310 = .ok (.iconst 0, 1) := dAt wdX12_init_283 adX12_init_283.2.2.2.2.2.2.2.2.2.2.2.2.2.2.2 rfl
def bdX12_init_311 : ByteArray := .mk #[60, 27, 16, 6, 162, 0, 56, 42, 180, 0, 8, 18, 121, 17, 0, 185, 27, 104, 96, 4, 79, 42, 180, 0, 8, 18, 121]
theorem wdX12_init_311 : LocW cX12_init 311 bdX12_init_311 := loc_of (by decide +kernel)
theorem adX12_init_311 : De bdX12_init_311 0 (.istore_n 1) 1 ∧ De bdX12_init_311 1 (.iload_n 1) 1 ∧ De bdX12_init_311 2 (.bipush 6) 2 ∧ De bdX12_init_311 4 (.if_icmp .ge 56) 3 ∧ De bdX12_init_311 7 (.aload_n 0) 1 ∧ De bdX12_init_311 8 (.getfield 8) 3 ∧ De bdX12_init_311 11 (.ldc 121) 2 ∧ De bdX12_init_311 13 (.sipush 185) 3 ∧ De bdX12_init_311 16 (.iload_n 1) 1 ∧ De bdX12_init_311 17 (.imul) 1 ∧ De bdX12_init_311 18 (.iadd) 1 ∧ De bdX12_init_311 19 (.iconst 1) 1 ∧ De bdX12_init_311 20 (.iastore) 1 ∧ De bdX12_init_311 21 (.aload_n 0) 1 ∧ De bdX12_init_311 22 (.getfield 8) 3 ∧ De bdX12_init_311 25 (.ldc 121) 2 := by decide +kernel
theorem dX12_init_311 : decode cX12_init 311 = .ok (.istore_n 1, 1) := dAt wdX12_init_311 adX12_init_311.1 rfl
theorem dX12_init_312 : decode cX12_init 312 = .ok (.iload_n 1, 1) := dAt wdX12_init_311 adX12_init_311.2.1 rfl
theorem dX12_init_313 : decode cX12_init 313 = .ok (.bipush 6, 2) := dAt wdX12_init_311 adX12_init_311.2.2.1 rfl
theorem dX12_init_315 : decode cX12_init 315 = .ok (.if_icmp .ge 56, 3) := dAt wdX12_init_311 adX12_init_311.2.2.2.1 rfl
theorem dX12_init_318 : decode cX12_init 318 = .ok (.aload_n 0, 1) := dAt wdX12_init_311 adX12_init_311.2.2.2.2.1 rfl
theorem dX12_init_319 : decode cX12_init 319 = .ok (.getfield 8, 3) := dAt wdX12_init_311 adX12_init_311.2.2.2.2.2.1 rfl
theorem dX12_init_322 : decode cX12_init 322 = .ok (.ldc 121, 2) := dAt wdX12_init_311 adX12_init_311.2.2.2.2.2.2.1 rfl
theorem dX12_init_324 : decode cX12_init 324 = .ok (.sipush 185, 3) := dAt wdX12_init_311 adX12_init_311.2.2.2.2.2.2.2.1 rfl
theorem dX12_init_327 : decode cX12_init 327 = .ok (.iload_n 1, 1) := dAt wdX12_init_311 adX12_init_311.2.2.2.2.2.2.2.2.1 rfl
theorem dX12_init_328 : decode cX12_init 328 = .ok (.imul, 1) := dAt wdX12_init_311 adX12_init_311.2.2.2.2.2.2.2.2.2.1 rfl
theorem dX12_init_329 : decode cX12_init 329 = .ok (.iadd, 1) := dAt wdX12_init_311 adX12_init_311.2.2.2.2.2.2.2.2.2.2.1 rfl
theorem dX12_init_330 : decode cX12_init 330 = .ok (.iconst 1, 1) := dAt wdX12_init_311 adX12_init_311.2.2.2.2.2.2.2.2.2.2.2.1 rfl
theorem dX12_init_331 : decode cX12_init 331 = .ok (.iastore, 1) := dAt wdX12_init_311 adX12_init_311.2.2.2.2.2.2.2.2.2.2.2.2.1 rfl
theorem dX12_init_332 : decode cX12_init 332 = .ok (.aload_n 0, 1) := dAt wdX12_init_311 adX12_init_311.2.2.2.2.2.2.2.2.2.2.2.2.2.1 rfl
theorem dX12_init_333 : decode cX12_init 333 = .ok (.getfield 8, 3) := dAt wdX12_init_311 adX12_init_311.2.2.2.2.2.2.2.2.2.2.2.2.2.2.1 rfl
theorem dX12_init_336 : decode cX12_init 336 = .ok (.ldc 121, 2) := dAt wdX12_init_311 adX12_init_311.2.2.2.2.2.2.2.2.2.2.2.2.2.2.2 rfl
def bdX12_init_338 : ByteArray := .mk #[17, 0, 185, 27, 104, 96, 4, 96, 16, 20, 79, 42, 180, 0, 8, 18, 121, 17, 0, 185, 27, 104, 96, 6]
theorem wdX12_init_338 : LocW cX12_init 338 bdX12_init_338 := loc_of (by decide +kernel)
theorem adX12_init_338 : De bdX12_init_338 0 (.sipush 185) 3 ∧ De bdX12_init_338 3 (.iload_n 1) 1 ∧ De bdX12_init_338 4 (.imul) 1 ∧ De bdX12_init_338 5 (.iadd) 1 ∧ De bdX12_init_338 6 (.iconst 1) 1 ∧ De bdX12_init_338 7 (.iadd) 1 ∧ De bdX12_init_338 8 (.bipush 20) 2 ∧ De bdX12_init_338 10 (.iastore) 1 ∧ De bdX12_init_338 11 (.aload_n 0) 1 ∧ De bdX12_init_338 12 (.getfield 8) 3 ∧ De bdX12_init_338 15 (.ldc 121) 2 ∧ De bdX12_init_338 17 (.sipush 185) 3 ∧ De bdX12_init_338 20 (.iload_n 1) 1 ∧ De bdX12_init_338 21 (.imul) 1 ∧ De bdX12_init_338 22 (.iadd) 1 ∧ De bdX12_init_338 23 (.iconst 3) 1 := by decide +kernel
theorem dX12_init_338 : decode cX12_init 338 = .ok (.sipush 185, 3) := dAt wdX12_init_338 adX12_init_338.1 rfl
theorem dX12_init_341 : decode cX12_init 341 = .ok (.iload_n 1, 1) := dAt wdX12_init_338 adX12_init_338.2.1 rfl
theorem dX12_init_342 : decode cX12_init 342 = .ok (.imul, 1) := dAt wdX12_init_338 adX12_init_338.2.2.1 rfl
theorem dX12_init_343 : decode cX12_init 343 = .ok (.iadd, 1) := dAt wdX12_init_338 adX12_init_338.2.2.2.1 rfl
theorem dX12_init_344 : decode cX12_init 344 = .ok (.iconst 1, 1) := dAt wdX12_init_338 adX12_init_338.2.2.2.2.1 rfl
theorem dX12_init_345 : decode cX12_init 345 = .ok (.iadd, 1) := dAt wdX12_init_338 adX12_init_338.2.2.2.2.2.1 rfl
theorem dX12_init_346 : decode cX12_init 346 = .ok (.bipush 20, 2) := dAt wdX12_init_338 adX12_init_338.2.2.2.2.2.2.1 rfl
theorem dX12_init_348 : decode cX12_init 348 = .ok (.iastore, 1) := dAt wdX12_init_338 adX12_init_338.2.2.2.2.2.2.2.1 rfl
theorem dX12_init_349 : decode cX12_init 349 = .ok (.aload_n 0, 1) := dAt wdX12_init_338 adX12_init_338.2.2.2.2.2.2.2.2.1 rfl
theorem dX12_init_350 : decode cX12_init 350 = .ok (.getfield 8, 3) := dAt wdX12_init_338 adX12_init_338.2.2.2.2.2.2.2.2.2.1 rfl
theorem dX12_init_353 : decode cX12_init 353 = .ok (.ldc 121, 2) := dAt wdX12_init_338 adX12_init_338.2.2.2.2.2.2.2.2.2.2.1 rfl
theorem dX12_init_355 : decode cX12_init 355 = .ok (.sipush 185, 3) := dAt wdX12_init_338 adX12_init_338.2.2.2.2.2.2.2.2.2.2.2.1 rfl
theorem dX12_init_358 : decode cX12_init 358 = .ok (.iload_n 1, 1) := dAt wdX12_init_338 adX12_init_338.2.2.2.2.2.2.2.2.2.2.2.2.1 rfl
theorem dX12_init_359 : decode cX12_init 359 = .ok (.imul, 1) := dAt wdX12_init_338 adX12_init_338.2.2.2.2.2.2.2.2.2.2.2.2.2.1 rfl
theorem dX12_init_360 : decode cX12_init 360 = .ok (.iadd, 1) := dAt wdX12_init_338 adX12_init_338.2.2.2.2.2.2.2.2.2.2.2.2.2.2.1 rfl
theorem dX12_init_361 : decode cX12_init 361 = .ok (.iconst 3, 1) := dAt wdX12_init_338 adX12_init_338.2.2.2.2.2.2.2.2.2.2.2.2.2.2.2 rfl
def bdX12_init_362 : ByteArray := .mk #[96, 2, 79, 132, 1, 1, 167, 255, 200, 177]
theorem wdX12_init_362 : LocW cX12_init 362 bdX12_init_362 := loc_of (by decide +kernel)
theorem adX12_init_362 : De bdX12_init_362 0 (.iadd) 1 ∧ De bdX12_init_362 1 (.iconst (-1)) 1 ∧ De bdX12_init_362 2 (.iastore) 1 ∧ De bdX12_init_362 3 (.iinc 1 1) 3 ∧ De bdX12_init_362 6 (.goto (-56)) 3 ∧ De bdX12_init_362 9 (.return_) 1 := by decide +kernel
theorem dX12_init_362 : decode cX12_init 362 = .ok (.iadd, 1) := dAt wdX12_init_362 adX12_init_362.1 rfl
theorem dX12_init_363 : decode cX12_init 363 = .ok (.iconst (-1), 1) := dAt wdX12_init_362 adX12_init_362.2.1 rfl
theorem dX12_init_364 : decode cX12_init 364 = .ok (.iastore, 1) := dAt wdX12_init_362 adX12_init_362.2.2.1 rfl
theorem dX12_init_365 : decode cX12_init 365 = .ok (.iinc 1 1, 3) := dAt wdX12_init_362 adX12_init_362.2.2.2.1 rfl
theorem dX12_init_368 : decode cX12_init 368 = .ok (.goto (-56), 3) := dAt wdX12_init_362 adX12_init_362.2.2.2.2.1 rfl
theorem dX12_init_371 : decode cX12_init 371 = .ok (.return_, 1) := dAt wdX12_init_362 adX12_init_362.2.2.2.2.2 rfl
def bdX12_thrown_0 : ByteArray := .mk #[42, 180, 0, 122, 172]
theorem wdX12_thrown_0 : LocW cX12_thrown 0 bdX12_thrown_0 := loc_of (by decide +kernel)
theorem adX12_thrown_0 : De bdX12_thrown_0 0 (.aload_n 0) 1 ∧ De bdX12_thrown_0 1 (.getfield 122) 3 ∧ De bdX12_thrown_0 4 (.ireturn) 1 := by decide +kernel
theorem dX12_thrown_0 : decode cX12_thrown 0 = .ok (.aload_n 0, 1) := dAt wdX12_thrown_0 adX12_thrown_0.1 rfl
theorem dX12_thrown_1 : decode cX12_thrown 1 = .ok (.getfield 122, 3) := dAt wdX12_thrown_0 adX12_thrown_0.2.1 rfl
theorem dX12_thrown_4 : decode cX12_thrown 4 = .ok (.ireturn, 1) := dAt wdX12_thrown_0 adX12_thrown_0.2.2 rfl
def bdX12_isIn_0 : ByteArray := .mk #[26, 27, 161, 0, 12, 26, 28, 163, 0, 7, 4, 167, 0, 4, 3, 172]
theorem wdX12_isIn_0 : LocW cX12_isIn 0 bdX12_isIn_0 := loc_of (by decide +kernel)
theorem adX12_isIn_0 : De bdX12_isIn_0 0 (.iload_n 0) 1 ∧ De bdX12_isIn_0 1 (.iload_n 1) 1 ∧ De bdX12_isIn_0 2 (.if_icmp .lt 12) 3 ∧ De bdX12_isIn_0 5 (.iload_n 0) 1 ∧ De bdX12_isIn_0 6 (.iload_n 2) 1 ∧ De bdX12_isIn_0 7 (.if_icmp .gt 7) 3 ∧ De bdX12_isIn_0 10 (.iconst 1) 1 ∧ De bdX12_isIn_0 11 (.goto 4) 3 ∧ De bdX12_isIn_0 14 (.iconst 0) 1 ∧ De bdX12_isIn_0 15 (.ireturn) 1 := by decide +kernel
theorem dX12_isIn_0 : decode cX12_isIn 0 = .ok (.iload_n 0, 1) := dAt wdX12_isIn_0 adX12_isIn_0.1 rfl
theorem dX12_isIn_1 : decode cX12_isIn 1 = .ok (.iload_n 1, 1) := dAt wdX12_isIn_0 adX12_isIn_0.2.1 rfl
theorem dX12_isIn_2 : decode cX12_isIn 2 = .ok (.if_icmp .lt 12, 3) := dAt wdX12_isIn_0 adX12_isIn_0.2.2.1 rfl
theorem dX12_isIn_5 : decode cX12_isIn 5 = .ok (.iload_n 0, 1) := dAt wdX12_isIn_0 adX12_isIn_0.2.2.2.1 rfl
theorem dX12_isIn_6 : decode cX12_isIn 6 = .ok (.iload_n 2, 1) := dAt wdX12_isIn_0 adX12_isIn_0.2.2.2.2.1 rfl
theorem dX12_isIn_7 : decode cX12_isIn 7 = .ok (.if_icmp .gt 7, 3) := dAt wdX12_isIn_0 adX12_isIn_0.2.2.2.2.2.1 rfl
theorem dX12_isIn_10 : decode cX12_isIn 10 = .ok (.iconst 1, 1) := dAt wdX12_isIn_0 adX12_isIn_0.2.2.2.2.2.2.1 rfl
theorem dX12_isIn_11 : decode cX12_isIn 11 = .ok (.goto 4, 3) := dAt wdX12_isIn_0 adX12_isIn_0.2.2.2.2.2.2.2.1 rfl
theorem dX12_isIn_14 : decode cX12_isIn 14 = .ok (.iconst 0, 1) := dAt wdX12_isIn_0 adX12_isIn_0.2.2.2.2.2.2.2.2.1 rfl
theorem dX12_isIn_15 : decode cX12_isIn 15 = .ok (.ireturn, 1) := dAt wdX12_isIn_0 adX12_isIn_0.2.2.2.2.2.2.2.2.2 rfl
def bdX12_part0_0 : ByteArray := .mk #[17, 0, 130, 17, 2, 133, 26, 104, 96, 172]
theorem wdX12_part0_0 : LocW cX12_part0 0 bdX12_part0_0 := loc_of (by decide +kernel)
theorem adX12_part0_0 : De bdX12_part0_0 0 (.sipush 130) 3 ∧ De bdX12_part0_0 3 (.sipush 645) 3 ∧ De bdX12_part0_0 6 (.iload_n 0) 1 ∧ De bdX12_part0_0 7 (.imul) 1 ∧ De bdX12_part0_0 8 (.iadd) 1 ∧ De bdX12_part0_0 9 (.ireturn) 1 := by decide +kernel
theorem dX12_part0_0 : decode cX12_part0 0 = .ok (.sipush 130, 3) := dAt wdX12_part0_0 adX12_part0_0.1 rfl
theorem dX12_part0_3 : decode cX12_part0 3 = .ok (.sipush 645, 3) := dAt wdX12_part0_0 adX12_part0_0.2.1 rfl
theorem dX12_part0_6 : decode cX12_part0 6 = .ok (.iload_n 0, 1) := dAt wdX12_part0_0 adX12_part0_0.2.2.1 rfl
theorem dX12_part0_7 : decode cX12_part0 7 = .ok (.imul, 1) := dAt wdX12_part0_0 adX12_part0_0.2.2.2.1 rfl
theorem dX12_part0_8 : decode cX12_part0 8 = .ok (.iadd, 1) := dAt wdX12_part0_0 adX12_part0_0.2.2.2.2.1 rfl
theorem dX12_part0_9 : decode cX12_part0 9 = .ok (.ireturn, 1) := dAt wdX12_part0_0 adX12_part0_0.2.2.2.2.2 rfl
def bdX12_slug0_0 : ByteArray := .mk #[18, 125, 17, 3, 84, 26, 104, 96, 172]
theorem wdX12_slug0_0 : LocW cX12_slug0 0 bdX12_slug0_0 := loc_of (by decide +kernel)
theorem adX12_slug0_0 : De bdX12_slug0_0 0 (.ldc 125) 2 ∧ De bdX12_slug0_0 2 (.sipush 852) 3 ∧ De bdX12_slug0_0 5 (.iload_n 0) 1 ∧ De bdX12_slug0_0 6 (.imul) 1 ∧ De bdX12_slug0_0 7 (.iadd) 1 ∧ De bdX12_slug0_0 8 (.ireturn) 1 := by decide +kernel
theorem dX12_slug0_0 : decode cX12_slug0 0 = .ok (.ldc 125, 2) := dAt wdX12_slug0_0 adX12_slug0_0.1 rfl
theorem dX12_slug0_2 : decode cX12_slug0 2 = .ok (.sipush 852, 3) := dAt wdX12_slug0_0 adX12_slug0_0.2.1 rfl
theorem dX12_slug0_5 : decode cX12_slug0 5 = .ok (.iload_n 0, 1) := dAt wdX12_slug0_0 adX12_slug0_0.2.2.1 rfl
theorem dX12_slug0_6 : decode cX12_slug0 6 = .ok (.imul, 1) := dAt wdX12_slug0_0 adX12_slug0_0.2.2.2.1 rfl
theorem dX12_slug0_7 : decode cX12_slug0 7 = .ok (.iadd, 1) := dAt wdX12_slug0_0 adX12_slug0_0.2.2.2.2.1 rfl
theorem dX12_slug0_8 : decode cX12_slug0 8 = .ok (.ireturn, 1) := dAt wdX12_slug0_0 adX12_slug0_0.2.2.2.2.2 rfl
def bdX12_machine0_0 : ByteArray := .mk #[18, 126, 17, 0, 183, 26, 104, 96, 172]
theorem wdX12_machine0_0 : LocW cX12_machine0 0 bdX12_machine0_0 := loc_of (by decide +kernel)
theorem adX12_machine0_0 : De bdX12_machine0_0 0 (.ldc 126) 2 ∧ De bdX12_machine0_0 2 (.sipush 183) 3 ∧ De bdX12_machine0_0 5 (.iload_n 0) 1 ∧ De bdX12_machine0_0 6 (.imul) 1 ∧ De bdX12_machine0_0 7 (.iadd) 1 ∧ De bdX12_machine0_0 8 (.ireturn) 1 := by decide +kernel
theorem dX12_machine0_0 : decode cX12_machine0 0 = .ok (.ldc 126, 2) := dAt wdX12_machine0_0 adX12_machine0_0.1 rfl
theorem dX12_machine0_2 : decode cX12_machine0 2 = .ok (.sipush 183, 3) := dAt wdX12_machine0_0 adX12_machine0_0.2.1 rfl
theorem dX12_machine0_5 : decode cX12_machine0 5 = .ok (.iload_n 0, 1) := dAt wdX12_machine0_0 adX12_machine0_0.2.2.1 rfl
theorem dX12_machine0_6 : decode cX12_machine0 6 = .ok (.imul, 1) := dAt wdX12_machine0_0 adX12_machine0_0.2.2.2.1 rfl
theorem dX12_machine0_7 : decode cX12_machine0 7 = .ok (.iadd, 1) := dAt wdX12_machine0_0 adX12_machine0_0.2.2.2.2.1 rfl
theorem dX12_machine0_8 : decode cX12_machine0 8 = .ok (.ireturn, 1) := dAt wdX12_machine0_0 adX12_machine0_0.2.2.2.2.2 rfl
def bdX12_isPart_0 : ByteArray := .mk #[27, 155, 0, 36, 27, 8, 108, 42, 180, 0, 8, 4, 46, 162, 0, 24, 27, 8, 112, 42, 180, 0, 8, 16, 110]
theorem wdX12_isPart_0 : LocW cX12_isPart 0 bdX12_isPart_0 := loc_of (by decide +kernel)
theorem adX12_isPart_0 : De bdX12_isPart_0 0 (.iload_n 1) 1 ∧ De bdX12_isPart_0 1 (.ifCond .lt 36) 3 ∧ De bdX12_isPart_0 4 (.iload_n 1) 1 ∧ De bdX12_isPart_0 5 (.iconst 5) 1 ∧ De bdX12_isPart_0 6 (.idiv) 1 ∧ De bdX12_isPart_0 7 (.aload_n 0) 1 ∧ De bdX12_isPart_0 8 (.getfield 8) 3 ∧ De bdX12_isPart_0 11 (.iconst 1) 1 ∧ De bdX12_isPart_0 12 (.iaload) 1 ∧ De bdX12_isPart_0 13 (.if_icmp .ge 24) 3 ∧ De bdX12_isPart_0 16 (.iload_n 1) 1 ∧ De bdX12_isPart_0 17 (.iconst 5) 1 ∧ De bdX12_isPart_0 18 (.irem) 1 ∧ De bdX12_isPart_0 19 (.aload_n 0) 1 ∧ De bdX12_isPart_0 20 (.getfield 8) 3 ∧ De bdX12_isPart_0 23 (.bipush 110) 2 := by decide +kernel
theorem dX12_isPart_0 : decode cX12_isPart 0 = .ok (.iload_n 1, 1) := dAt wdX12_isPart_0 adX12_isPart_0.1 rfl
theorem dX12_isPart_1 : decode cX12_isPart 1 = .ok (.ifCond .lt 36, 3) := dAt wdX12_isPart_0 adX12_isPart_0.2.1 rfl
theorem dX12_isPart_4 : decode cX12_isPart 4 = .ok (.iload_n 1, 1) := dAt wdX12_isPart_0 adX12_isPart_0.2.2.1 rfl
theorem dX12_isPart_5 : decode cX12_isPart 5 = .ok (.iconst 5, 1) := dAt wdX12_isPart_0 adX12_isPart_0.2.2.2.1 rfl
theorem dX12_isPart_6 : decode cX12_isPart 6 = .ok (.idiv, 1) := dAt wdX12_isPart_0 adX12_isPart_0.2.2.2.2.1 rfl
theorem dX12_isPart_7 : decode cX12_isPart 7 = .ok (.aload_n 0, 1) := dAt wdX12_isPart_0 adX12_isPart_0.2.2.2.2.2.1 rfl
theorem dX12_isPart_8 : decode cX12_isPart 8 = .ok (.getfield 8, 3) := dAt wdX12_isPart_0 adX12_isPart_0.2.2.2.2.2.2.1 rfl
theorem dX12_isPart_11 : decode cX12_isPart 11 = .ok (.iconst 1, 1) := dAt wdX12_isPart_0 adX12_isPart_0.2.2.2.2.2.2.2.1 rfl
theorem dX12_isPart_12 : decode cX12_isPart 12 = .ok (.iaload, 1) := dAt wdX12_isPart_0 adX12_isPart_0.2.2.2.2.2.2.2.2.1 rfl
theorem dX12_isPart_13 : decode cX12_isPart 13 = .ok (.if_icmp .ge 24, 3) := dAt wdX12_isPart_0 adX12_isPart_0.2.2.2.2.2.2.2.2.2.1 rfl
theorem dX12_isPart_16 : decode cX12_isPart 16 = .ok (.iload_n 1, 1) := dAt wdX12_isPart_0 adX12_isPart_0.2.2.2.2.2.2.2.2.2.2.1 rfl
theorem dX12_isPart_17 : decode cX12_isPart 17 = .ok (.iconst 5, 1) := dAt wdX12_isPart_0 adX12_isPart_0.2.2.2.2.2.2.2.2.2.2.2.1 rfl
theorem dX12_isPart_18 : decode cX12_isPart 18 = .ok (.irem, 1) := dAt wdX12_isPart_0 adX12_isPart_0.2.2.2.2.2.2.2.2.2.2.2.2.1 rfl
theorem dX12_isPart_19 : decode cX12_isPart 19 = .ok (.aload_n 0, 1) := dAt wdX12_isPart_0 adX12_isPart_0.2.2.2.2.2.2.2.2.2.2.2.2.2.1 rfl
theorem dX12_isPart_20 : decode cX12_isPart 20 = .ok (.getfield 8, 3) := dAt wdX12_isPart_0 adX12_isPart_0.2.2.2.2.2.2.2.2.2.2.2.2.2.2.1 rfl
theorem dX12_isPart_23 : decode cX12_isPart 23 = .ok (.bipush 110, 2) := dAt wdX12_isPart_0 adX12_isPart_0.2.2.2.2.2.2.2.2.2.2.2.2.2.2.2 rfl
def bdX12_isPart_25 : ByteArray := .mk #[27, 8, 108, 96, 46, 162, 0, 7, 4, 167, 0, 4, 3, 172]
theorem wdX12_isPart_25 : LocW cX12_isPart 25 bdX12_isPart_25 := loc_of (by decide +kernel)
theorem adX12_isPart_25 : De bdX12_isPart_25 0 (.iload_n 1) 1 ∧ De bdX12_isPart_25 1 (.iconst 5) 1 ∧ De bdX12_isPart_25 2 (.idiv) 1 ∧ De bdX12_isPart_25 3 (.iadd) 1 ∧ De bdX12_isPart_25 4 (.iaload) 1 ∧ De bdX12_isPart_25 5 (.if_icmp .ge 7) 3 ∧ De bdX12_isPart_25 8 (.iconst 1) 1 ∧ De bdX12_isPart_25 9 (.goto 4) 3 ∧ De bdX12_isPart_25 12 (.iconst 0) 1 ∧ De bdX12_isPart_25 13 (.ireturn) 1 := by decide +kernel
theorem dX12_isPart_25 : decode cX12_isPart 25 = .ok (.iload_n 1, 1) := dAt wdX12_isPart_25 adX12_isPart_25.1 rfl
theorem dX12_isPart_26 : decode cX12_isPart 26 = .ok (.iconst 5, 1) := dAt wdX12_isPart_25 adX12_isPart_25.2.1 rfl
theorem dX12_isPart_27 : decode cX12_isPart 27 = .ok (.idiv, 1) := dAt wdX12_isPart_25 adX12_isPart_25.2.2.1 rfl
theorem dX12_isPart_28 : decode cX12_isPart 28 = .ok (.iadd, 1) := dAt wdX12_isPart_25 adX12_isPart_25.2.2.2.1 rfl
theorem dX12_isPart_29 : decode cX12_isPart 29 = .ok (.iaload, 1) := dAt wdX12_isPart_25 adX12_isPart_25.2.2.2.2.1 rfl
theorem dX12_isPart_30 : decode cX12_isPart 30 = .ok (.if_icmp .ge 7, 3) := dAt wdX12_isPart_25 adX12_isPart_25.2.2.2.2.2.1 rfl
theorem dX12_isPart_33 : decode cX12_isPart 33 = .ok (.iconst 1, 1) := dAt wdX12_isPart_25 adX12_isPart_25.2.2.2.2.2.2.1 rfl
theorem dX12_isPart_34 : decode cX12_isPart 34 = .ok (.goto 4, 3) := dAt wdX12_isPart_25 adX12_isPart_25.2.2.2.2.2.2.2.1 rfl
theorem dX12_isPart_37 : decode cX12_isPart 37 = .ok (.iconst 0, 1) := dAt wdX12_isPart_25 adX12_isPart_25.2.2.2.2.2.2.2.2.1 rfl
theorem dX12_isPart_38 : decode cX12_isPart 38 = .ok (.ireturn, 1) := dAt wdX12_isPart_25 adX12_isPart_25.2.2.2.2.2.2.2.2.2 rfl
def bdX12_isMachine_0 : ByteArray := .mk #[27, 155, 0, 17, 27, 42, 180, 0, 8, 6, 46, 162, 0, 7, 4, 167, 0, 4, 3, 172]
theorem wdX12_isMachine_0 : LocW cX12_isMachine 0 bdX12_isMachine_0 := loc_of (by decide +kernel)
theorem adX12_isMachine_0 : De bdX12_isMachine_0 0 (.iload_n 1) 1 ∧ De bdX12_isMachine_0 1 (.ifCond .lt 17) 3 ∧ De bdX12_isMachine_0 4 (.iload_n 1) 1 ∧ De bdX12_isMachine_0 5 (.aload_n 0) 1 ∧ De bdX12_isMachine_0 6 (.getfield 8) 3 ∧ De bdX12_isMachine_0 9 (.iconst 3) 1 ∧ De bdX12_isMachine_0 10 (.iaload) 1 ∧ De bdX12_isMachine_0 11 (.if_icmp .ge 7) 3 ∧ De bdX12_isMachine_0 14 (.iconst 1) 1 ∧ De bdX12_isMachine_0 15 (.goto 4) 3 ∧ De bdX12_isMachine_0 18 (.iconst 0) 1 ∧ De bdX12_isMachine_0 19 (.ireturn) 1 := by decide +kernel
theorem dX12_isMachine_0 : decode cX12_isMachine 0 = .ok (.iload_n 1, 1) := dAt wdX12_isMachine_0 adX12_isMachine_0.1 rfl
theorem dX12_isMachine_1 : decode cX12_isMachine 1 = .ok (.ifCond .lt 17, 3) := dAt wdX12_isMachine_0 adX12_isMachine_0.2.1 rfl
theorem dX12_isMachine_4 : decode cX12_isMachine 4 = .ok (.iload_n 1, 1) := dAt wdX12_isMachine_0 adX12_isMachine_0.2.2.1 rfl
theorem dX12_isMachine_5 : decode cX12_isMachine 5 = .ok (.aload_n 0, 1) := dAt wdX12_isMachine_0 adX12_isMachine_0.2.2.2.1 rfl
theorem dX12_isMachine_6 : decode cX12_isMachine 6 = .ok (.getfield 8, 3) := dAt wdX12_isMachine_0 adX12_isMachine_0.2.2.2.2.1 rfl
theorem dX12_isMachine_9 : decode cX12_isMachine 9 = .ok (.iconst 3, 1) := dAt wdX12_isMachine_0 adX12_isMachine_0.2.2.2.2.2.1 rfl
theorem dX12_isMachine_10 : decode cX12_isMachine 10 = .ok (.iaload, 1) := dAt wdX12_isMachine_0 adX12_isMachine_0.2.2.2.2.2.2.1 rfl
theorem dX12_isMachine_11 : decode cX12_isMachine 11 = .ok (.if_icmp .ge 7, 3) := dAt wdX12_isMachine_0 adX12_isMachine_0.2.2.2.2.2.2.2.1 rfl
theorem dX12_isMachine_14 : decode cX12_isMachine 14 = .ok (.iconst 1, 1) := dAt wdX12_isMachine_0 adX12_isMachine_0.2.2.2.2.2.2.2.2.1 rfl
theorem dX12_isMachine_15 : decode cX12_isMachine 15 = .ok (.goto 4, 3) := dAt wdX12_isMachine_0 adX12_isMachine_0.2.2.2.2.2.2.2.2.2.1 rfl
theorem dX12_isMachine_18 : decode cX12_isMachine 18 = .ok (.iconst 0, 1) := dAt wdX12_isMachine_0 adX12_isMachine_0.2.2.2.2.2.2.2.2.2.2.1 rfl
theorem dX12_isMachine_19 : decode cX12_isMachine 19 = .ok (.ireturn, 1) := dAt wdX12_isMachine_0 adX12_isMachine_0.2.2.2.2.2.2.2.2.2.2.2 rfl
def bdX12_isSlug_0 : ByteArray := .mk #[27, 155, 0, 17, 27, 42, 180, 0, 8, 7, 46, 162, 0, 7, 4, 167, 0, 4, 3, 172]
theorem wdX12_isSlug_0 : LocW cX12_isSlug 0 bdX12_isSlug_0 := loc_of (by decide +kernel)
theorem adX12_isSlug_0 : De bdX12_isSlug_0 0 (.iload_n 1) 1 ∧ De bdX12_isSlug_0 1 (.ifCond .lt 17) 3 ∧ De bdX12_isSlug_0 4 (.iload_n 1) 1 ∧ De bdX12_isSlug_0 5 (.aload_n 0) 1 ∧ De bdX12_isSlug_0 6 (.getfield 8) 3 ∧ De bdX12_isSlug_0 9 (.iconst 4) 1 ∧ De bdX12_isSlug_0 10 (.iaload) 1 ∧ De bdX12_isSlug_0 11 (.if_icmp .ge 7) 3 ∧ De bdX12_isSlug_0 14 (.iconst 1) 1 ∧ De bdX12_isSlug_0 15 (.goto 4) 3 ∧ De bdX12_isSlug_0 18 (.iconst 0) 1 ∧ De bdX12_isSlug_0 19 (.ireturn) 1 := by decide +kernel
theorem dX12_isSlug_0 : decode cX12_isSlug 0 = .ok (.iload_n 1, 1) := dAt wdX12_isSlug_0 adX12_isSlug_0.1 rfl
theorem dX12_isSlug_1 : decode cX12_isSlug 1 = .ok (.ifCond .lt 17, 3) := dAt wdX12_isSlug_0 adX12_isSlug_0.2.1 rfl
theorem dX12_isSlug_4 : decode cX12_isSlug 4 = .ok (.iload_n 1, 1) := dAt wdX12_isSlug_0 adX12_isSlug_0.2.2.1 rfl
theorem dX12_isSlug_5 : decode cX12_isSlug 5 = .ok (.aload_n 0, 1) := dAt wdX12_isSlug_0 adX12_isSlug_0.2.2.2.1 rfl
theorem dX12_isSlug_6 : decode cX12_isSlug 6 = .ok (.getfield 8, 3) := dAt wdX12_isSlug_0 adX12_isSlug_0.2.2.2.2.1 rfl
theorem dX12_isSlug_9 : decode cX12_isSlug 9 = .ok (.iconst 4, 1) := dAt wdX12_isSlug_0 adX12_isSlug_0.2.2.2.2.2.1 rfl
theorem dX12_isSlug_10 : decode cX12_isSlug 10 = .ok (.iaload, 1) := dAt wdX12_isSlug_0 adX12_isSlug_0.2.2.2.2.2.2.1 rfl
theorem dX12_isSlug_11 : decode cX12_isSlug 11 = .ok (.if_icmp .ge 7, 3) := dAt wdX12_isSlug_0 adX12_isSlug_0.2.2.2.2.2.2.2.1 rfl
theorem dX12_isSlug_14 : decode cX12_isSlug 14 = .ok (.iconst 1, 1) := dAt wdX12_isSlug_0 adX12_isSlug_0.2.2.2.2.2.2.2.2.1 rfl
theorem dX12_isSlug_15 : decode cX12_isSlug 15 = .ok (.goto 4, 3) := dAt wdX12_isSlug_0 adX12_isSlug_0.2.2.2.2.2.2.2.2.2.1 rfl
theorem dX12_isSlug_18 : decode cX12_isSlug 18 = .ok (.iconst 0, 1) := dAt wdX12_isSlug_0 adX12_isSlug_0.2.2.2.2.2.2.2.2.2.2.1 rfl
theorem dX12_isSlug_19 : decode cX12_isSlug 19 = .ok (.ireturn, 1) := dAt wdX12_isSlug_0 adX12_isSlug_0.2.2.2.2.2.2.2.2.2.2.2 rfl
def bdX12_isPage_0 : ByteArray := .mk #[26, 155, 0, 13, 26, 16, 6, 162, 0, 7, 4, 167, 0, 4, 3, 172]
theorem wdX12_isPage_0 : LocW cX12_isPage 0 bdX12_isPage_0 := loc_of (by decide +kernel)
theorem adX12_isPage_0 : De bdX12_isPage_0 0 (.iload_n 0) 1 ∧ De bdX12_isPage_0 1 (.ifCond .lt 13) 3 ∧ De bdX12_isPage_0 4 (.iload_n 0) 1 ∧ De bdX12_isPage_0 5 (.bipush 6) 2 ∧ De bdX12_isPage_0 7 (.if_icmp .ge 7) 3 ∧ De bdX12_isPage_0 10 (.iconst 1) 1 ∧ De bdX12_isPage_0 11 (.goto 4) 3 ∧ De bdX12_isPage_0 14 (.iconst 0) 1 ∧ De bdX12_isPage_0 15 (.ireturn) 1 := by decide +kernel
theorem dX12_isPage_0 : decode cX12_isPage 0 = .ok (.iload_n 0, 1) := dAt wdX12_isPage_0 adX12_isPage_0.1 rfl
theorem dX12_isPage_1 : decode cX12_isPage 1 = .ok (.ifCond .lt 13, 3) := dAt wdX12_isPage_0 adX12_isPage_0.2.1 rfl
theorem dX12_isPage_4 : decode cX12_isPage 4 = .ok (.iload_n 0, 1) := dAt wdX12_isPage_0 adX12_isPage_0.2.2.1 rfl
theorem dX12_isPage_5 : decode cX12_isPage 5 = .ok (.bipush 6, 2) := dAt wdX12_isPage_0 adX12_isPage_0.2.2.2.1 rfl
theorem dX12_isPage_7 : decode cX12_isPage 7 = .ok (.if_icmp .ge 7, 3) := dAt wdX12_isPage_0 adX12_isPage_0.2.2.2.2.1 rfl
theorem dX12_isPage_10 : decode cX12_isPage 10 = .ok (.iconst 1, 1) := dAt wdX12_isPage_0 adX12_isPage_0.2.2.2.2.2.1 rfl
theorem dX12_isPage_11 : decode cX12_isPage 11 = .ok (.goto 4, 3) := dAt wdX12_isPage_0 adX12_isPage_0.2.2.2.2.2.2.1 rfl
theorem dX12_isPage_14 : decode cX12_isPage 14 = .ok (.iconst 0, 1) := dAt wdX12_isPage_0 adX12_isPage_0.2.2.2.2.2.2.2.1 rfl
theorem dX12_isPage_15 : decode cX12_isPage 15 = .ok (.ireturn, 1) := dAt wdX12_isPage_0 adX12_isPage_0.2.2.2.2.2.2.2.2 rfl
def bdX12_byteCame_0 : ByteArray := .mk #[42, 180, 0, 20, 42, 180, 0, 127, 27, 17, 0, 255, 126, 79, 42, 89, 180, 0, 127, 4, 96, 181, 0, 127, 177]
theorem wdX12_byteCame_0 : LocW cX12_byteCame 0 bdX12_byteCame_0 := loc_of (by decide +kernel)
theorem adX12_byteCame_0 : De bdX12_byteCame_0 0 (.aload_n 0) 1 ∧ De bdX12_byteCame_0 1 (.getfield 20) 3 ∧ De bdX12_byteCame_0 4 (.aload_n 0) 1 ∧ De bdX12_byteCame_0 5 (.getfield 127) 3 ∧ De bdX12_byteCame_0 8 (.iload_n 1) 1 ∧ De bdX12_byteCame_0 9 (.sipush 255) 3 ∧ De bdX12_byteCame_0 12 (.iand) 1 ∧ De bdX12_byteCame_0 13 (.iastore) 1 ∧ De bdX12_byteCame_0 14 (.aload_n 0) 1 ∧ De bdX12_byteCame_0 15 (.dup) 1 ∧ De bdX12_byteCame_0 16 (.getfield 127) 3 ∧ De bdX12_byteCame_0 19 (.iconst 1) 1 ∧ De bdX12_byteCame_0 20 (.iadd) 1 ∧ De bdX12_byteCame_0 21 (.putfield 127) 3 ∧ De bdX12_byteCame_0 24 (.return_) 1 := by decide +kernel
theorem dX12_byteCame_0 : decode cX12_byteCame 0 = .ok (.aload_n 0, 1) := dAt wdX12_byteCame_0 adX12_byteCame_0.1 rfl
theorem dX12_byteCame_1 : decode cX12_byteCame 1 = .ok (.getfield 20, 3) := dAt wdX12_byteCame_0 adX12_byteCame_0.2.1 rfl
theorem dX12_byteCame_4 : decode cX12_byteCame 4 = .ok (.aload_n 0, 1) := dAt wdX12_byteCame_0 adX12_byteCame_0.2.2.1 rfl
theorem dX12_byteCame_5 : decode cX12_byteCame 5 = .ok (.getfield 127, 3) := dAt wdX12_byteCame_0 adX12_byteCame_0.2.2.2.1 rfl
theorem dX12_byteCame_8 : decode cX12_byteCame 8 = .ok (.iload_n 1, 1) := dAt wdX12_byteCame_0 adX12_byteCame_0.2.2.2.2.1 rfl
theorem dX12_byteCame_9 : decode cX12_byteCame 9 = .ok (.sipush 255, 3) := dAt wdX12_byteCame_0 adX12_byteCame_0.2.2.2.2.2.1 rfl
theorem dX12_byteCame_12 : decode cX12_byteCame 12 = .ok (.iand, 1) := dAt wdX12_byteCame_0 adX12_byteCame_0.2.2.2.2.2.2.1 rfl
theorem dX12_byteCame_13 : decode cX12_byteCame 13 = .ok (.iastore, 1) := dAt wdX12_byteCame_0 adX12_byteCame_0.2.2.2.2.2.2.2.1 rfl
theorem dX12_byteCame_14 : decode cX12_byteCame 14 = .ok (.aload_n 0, 1) := dAt wdX12_byteCame_0 adX12_byteCame_0.2.2.2.2.2.2.2.2.1 rfl
theorem dX12_byteCame_15 : decode cX12_byteCame 15 = .ok (.dup, 1) := dAt wdX12_byteCame_0 adX12_byteCame_0.2.2.2.2.2.2.2.2.2.1 rfl
theorem dX12_byteCame_16 : decode cX12_byteCame 16 = .ok (.getfield 127, 3) := dAt wdX12_byteCame_0 adX12_byteCame_0.2.2.2.2.2.2.2.2.2.2.1 rfl
theorem dX12_byteCame_19 : decode cX12_byteCame 19 = .ok (.iconst 1, 1) := dAt wdX12_byteCame_0 adX12_byteCame_0.2.2.2.2.2.2.2.2.2.2.2.1 rfl
theorem dX12_byteCame_20 : decode cX12_byteCame 20 = .ok (.iadd, 1) := dAt wdX12_byteCame_0 adX12_byteCame_0.2.2.2.2.2.2.2.2.2.2.2.2.1 rfl
theorem dX12_byteCame_21 : decode cX12_byteCame 21 = .ok (.putfield 127, 3) := dAt wdX12_byteCame_0 adX12_byteCame_0.2.2.2.2.2.2.2.2.2.2.2.2.2.1 rfl
theorem dX12_byteCame_24 : decode cX12_byteCame 24 = .ok (.return_, 1) := dAt wdX12_byteCame_0 adX12_byteCame_0.2.2.2.2.2.2.2.2.2.2.2.2.2.2 rfl
def bdX12_feed_0 : ByteArray := .mk #[42, 3, 181, 0, 122, 42, 180, 0, 127, 16, 20, 96, 17, 1, 144, 164, 0, 5, 2, 172, 16, 24, 54, 6, 21, 6, 155, 0, 17, 42]
theorem wdX12_feed_0 : LocW cX12_feed 0 bdX12_feed_0 := loc_of (by decide +kernel)
theorem adX12_feed_0 : De bdX12_feed_0 0 (.aload_n 0) 1 ∧ De bdX12_feed_0 1 (.iconst 0) 1 ∧ De bdX12_feed_0 2 (.putfield 122) 3 ∧ De bdX12_feed_0 5 (.aload_n 0) 1 ∧ De bdX12_feed_0 6 (.getfield 127) 3 ∧ De bdX12_feed_0 9 (.bipush 20) 2 ∧ De bdX12_feed_0 11 (.iadd) 1 ∧ De bdX12_feed_0 12 (.sipush 400) 3 ∧ De bdX12_feed_0 15 (.if_icmp .le 5) 3 ∧ De bdX12_feed_0 18 (.iconst (-1)) 1 ∧ De bdX12_feed_0 19 (.ireturn) 1 ∧ De bdX12_feed_0 20 (.bipush 24) 2 ∧ De bdX12_feed_0 22 (.istore 6) 2 ∧ De bdX12_feed_0 24 (.iload 6) 2 ∧ De bdX12_feed_0 26 (.ifCond .lt 17) 3 ∧ De bdX12_feed_0 29 (.aload_n 0) 1 := by decide +kernel
theorem dX12_feed_0 : decode cX12_feed 0 = .ok (.aload_n 0, 1) := dAt wdX12_feed_0 adX12_feed_0.1 rfl
theorem dX12_feed_1 : decode cX12_feed 1 = .ok (.iconst 0, 1) := dAt wdX12_feed_0 adX12_feed_0.2.1 rfl
theorem dX12_feed_2 : decode cX12_feed 2 = .ok (.putfield 122, 3) := dAt wdX12_feed_0 adX12_feed_0.2.2.1 rfl
theorem dX12_feed_5 : decode cX12_feed 5 = .ok (.aload_n 0, 1) := dAt wdX12_feed_0 adX12_feed_0.2.2.2.1 rfl
theorem dX12_feed_6 : decode cX12_feed 6 = .ok (.getfield 127, 3) := dAt wdX12_feed_0 adX12_feed_0.2.2.2.2.1 rfl
theorem dX12_feed_9 : decode cX12_feed 9 = .ok (.bipush 20, 2) := dAt wdX12_feed_0 adX12_feed_0.2.2.2.2.2.1 rfl
theorem dX12_feed_11 : decode cX12_feed 11 = .ok (.iadd, 1) := dAt wdX12_feed_0 adX12_feed_0.2.2.2.2.2.2.1 rfl
theorem dX12_feed_12 : decode cX12_feed 12 = .ok (.sipush 400, 3) := dAt wdX12_feed_0 adX12_feed_0.2.2.2.2.2.2.2.1 rfl
theorem dX12_feed_15 : decode cX12_feed 15 = .ok (.if_icmp .le 5, 3) := dAt wdX12_feed_0 adX12_feed_0.2.2.2.2.2.2.2.2.1 rfl
theorem dX12_feed_18 : decode cX12_feed 18 = .ok (.iconst (-1), 1) := dAt wdX12_feed_0 adX12_feed_0.2.2.2.2.2.2.2.2.2.1 rfl
theorem dX12_feed_19 : decode cX12_feed 19 = .ok (.ireturn, 1) := dAt wdX12_feed_0 adX12_feed_0.2.2.2.2.2.2.2.2.2.2.1 rfl
theorem dX12_feed_20 : decode cX12_feed 20 = .ok (.bipush 24, 2) := dAt wdX12_feed_0 adX12_feed_0.2.2.2.2.2.2.2.2.2.2.2.1 rfl
theorem dX12_feed_22 : decode cX12_feed 22 = .ok (.istore 6, 2) := dAt wdX12_feed_0 adX12_feed_0.2.2.2.2.2.2.2.2.2.2.2.2.1 rfl
theorem dX12_feed_24 : decode cX12_feed 24 = .ok (.iload 6, 2) := dAt wdX12_feed_0 adX12_feed_0.2.2.2.2.2.2.2.2.2.2.2.2.2.1 rfl
theorem dX12_feed_26 : decode cX12_feed 26 = .ok (.ifCond .lt 17, 3) := dAt wdX12_feed_0 adX12_feed_0.2.2.2.2.2.2.2.2.2.2.2.2.2.2.1 rfl
theorem dX12_feed_29 : decode cX12_feed 29 = .ok (.aload_n 0, 1) := dAt wdX12_feed_0 adX12_feed_0.2.2.2.2.2.2.2.2.2.2.2.2.2.2.2 rfl
def bdX12_feed_30 : ByteArray := .mk #[27, 21, 6, 122, 182, 0, 130, 132, 6, 248, 167, 255, 240, 16, 24, 54, 6, 21, 6, 155, 0, 17, 42, 28, 21, 6, 122, 182, 0, 130, 132, 6, 248]
theorem wdX12_feed_30 : LocW cX12_feed 30 bdX12_feed_30 := loc_of (by decide +kernel)
theorem adX12_feed_30 : De bdX12_feed_30 0 (.iload_n 1) 1 ∧ De bdX12_feed_30 1 (.iload 6) 2 ∧ De bdX12_feed_30 3 (.ishr) 1 ∧ De bdX12_feed_30 4 (.invokevirtual 130) 3 ∧ De bdX12_feed_30 7 (.iinc 6 (-8)) 3 ∧ De bdX12_feed_30 10 (.goto (-16)) 3 ∧ De bdX12_feed_30 13 (.bipush 24) 2 ∧ De bdX12_feed_30 15 (.istore 6) 2 ∧ De bdX12_feed_30 17 (.iload 6) 2 ∧ De bdX12_feed_30 19 (.ifCond .lt 17) 3 ∧ De bdX12_feed_30 22 (.aload_n 0) 1 ∧ De bdX12_feed_30 23 (.iload_n 2) 1 ∧ De bdX12_feed_30 24 (.iload 6) 2 ∧ De bdX12_feed_30 26 (.ishr) 1 ∧ De bdX12_feed_30 27 (.invokevirtual 130) 3 ∧ De bdX12_feed_30 30 (.iinc 6 (-8)) 3 := by decide +kernel
theorem dX12_feed_30 : decode cX12_feed 30 = .ok (.iload_n 1, 1) := dAt wdX12_feed_30 adX12_feed_30.1 rfl
theorem dX12_feed_31 : decode cX12_feed 31 = .ok (.iload 6, 2) := dAt wdX12_feed_30 adX12_feed_30.2.1 rfl
theorem dX12_feed_33 : decode cX12_feed 33 = .ok (.ishr, 1) := dAt wdX12_feed_30 adX12_feed_30.2.2.1 rfl
theorem dX12_feed_34 : decode cX12_feed 34 = .ok (.invokevirtual 130, 3) := dAt wdX12_feed_30 adX12_feed_30.2.2.2.1 rfl
theorem dX12_feed_37 : decode cX12_feed 37 = .ok (.iinc 6 (-8), 3) := dAt wdX12_feed_30 adX12_feed_30.2.2.2.2.1 rfl
theorem dX12_feed_40 : decode cX12_feed 40 = .ok (.goto (-16), 3) := dAt wdX12_feed_30 adX12_feed_30.2.2.2.2.2.1 rfl
theorem dX12_feed_43 : decode cX12_feed 43 = .ok (.bipush 24, 2) := dAt wdX12_feed_30 adX12_feed_30.2.2.2.2.2.2.1 rfl
theorem dX12_feed_45 : decode cX12_feed 45 = .ok (.istore 6, 2) := dAt wdX12_feed_30 adX12_feed_30.2.2.2.2.2.2.2.1 rfl
theorem dX12_feed_47 : decode cX12_feed 47 = .ok (.iload 6, 2) := dAt wdX12_feed_30 adX12_feed_30.2.2.2.2.2.2.2.2.1 rfl
theorem dX12_feed_49 : decode cX12_feed 49 = .ok (.ifCond .lt 17, 3) := dAt wdX12_feed_30 adX12_feed_30.2.2.2.2.2.2.2.2.2.1 rfl
theorem dX12_feed_52 : decode cX12_feed 52 = .ok (.aload_n 0, 1) := dAt wdX12_feed_30 adX12_feed_30.2.2.2.2.2.2.2.2.2.2.1 rfl
theorem dX12_feed_53 : decode cX12_feed 53 = .ok (.iload_n 2, 1) := dAt wdX12_feed_30 adX12_feed_30.2.2.2.2.2.2.2.2.2.2.2.1 rfl
theorem dX12_feed_54 : decode cX12_feed 54 = .ok (.iload 6, 2) := dAt wdX12_feed_30 adX12_feed_30.2.2.2.2.2.2.2.2.2.2.2.2.1 rfl
theorem dX12_feed_56 : decode cX12_feed 56 = .ok (.ishr, 1) := dAt wdX12_feed_30 adX12_feed_30.2.2.2.2.2.2.2.2.2.2.2.2.2.1 rfl
theorem dX12_feed_57 : decode cX12_feed 57 = .ok (.invokevirtual 130, 3) := dAt wdX12_feed_30 adX12_feed_30.2.2.2.2.2.2.2.2.2.2.2.2.2.2.1 rfl
theorem dX12_feed_60 : decode cX12_feed 60 = .ok (.iinc 6 (-8), 3) := dAt wdX12_feed_30 adX12_feed_30.2.2.2.2.2.2.2.2.2.2.2.2.2.2.2 rfl
def bdX12_feed_63 : ByteArray := .mk #[167, 255, 240, 16, 24, 54, 6, 21, 6, 155, 0, 17, 42, 29, 21, 6, 122, 182, 0, 130, 132, 6, 248, 167, 255, 240, 16, 24, 54, 6, 21, 6, 155, 0, 18]
theorem wdX12_feed_63 : LocW cX12_feed 63 bdX12_feed_63 := loc_of (by decide +kernel)
theorem adX12_feed_63 : De bdX12_feed_63 0 (.goto (-16)) 3 ∧ De bdX12_feed_63 3 (.bipush 24) 2 ∧ De bdX12_feed_63 5 (.istore 6) 2 ∧ De bdX12_feed_63 7 (.iload 6) 2 ∧ De bdX12_feed_63 9 (.ifCond .lt 17) 3 ∧ De bdX12_feed_63 12 (.aload_n 0) 1 ∧ De bdX12_feed_63 13 (.iload_n 3) 1 ∧ De bdX12_feed_63 14 (.iload 6) 2 ∧ De bdX12_feed_63 16 (.ishr) 1 ∧ De bdX12_feed_63 17 (.invokevirtual 130) 3 ∧ De bdX12_feed_63 20 (.iinc 6 (-8)) 3 ∧ De bdX12_feed_63 23 (.goto (-16)) 3 ∧ De bdX12_feed_63 26 (.bipush 24) 2 ∧ De bdX12_feed_63 28 (.istore 6) 2 ∧ De bdX12_feed_63 30 (.iload 6) 2 ∧ De bdX12_feed_63 32 (.ifCond .lt 18) 3 := by decide +kernel
theorem dX12_feed_63 : decode cX12_feed 63 = .ok (.goto (-16), 3) := dAt wdX12_feed_63 adX12_feed_63.1 rfl
theorem dX12_feed_66 : decode cX12_feed 66 = .ok (.bipush 24, 2) := dAt wdX12_feed_63 adX12_feed_63.2.1 rfl
theorem dX12_feed_68 : decode cX12_feed 68 = .ok (.istore 6, 2) := dAt wdX12_feed_63 adX12_feed_63.2.2.1 rfl
theorem dX12_feed_70 : decode cX12_feed 70 = .ok (.iload 6, 2) := dAt wdX12_feed_63 adX12_feed_63.2.2.2.1 rfl
theorem dX12_feed_72 : decode cX12_feed 72 = .ok (.ifCond .lt 17, 3) := dAt wdX12_feed_63 adX12_feed_63.2.2.2.2.1 rfl
theorem dX12_feed_75 : decode cX12_feed 75 = .ok (.aload_n 0, 1) := dAt wdX12_feed_63 adX12_feed_63.2.2.2.2.2.1 rfl
theorem dX12_feed_76 : decode cX12_feed 76 = .ok (.iload_n 3, 1) := dAt wdX12_feed_63 adX12_feed_63.2.2.2.2.2.2.1 rfl
theorem dX12_feed_77 : decode cX12_feed 77 = .ok (.iload 6, 2) := dAt wdX12_feed_63 adX12_feed_63.2.2.2.2.2.2.2.1 rfl
theorem dX12_feed_79 : decode cX12_feed 79 = .ok (.ishr, 1) := dAt wdX12_feed_63 adX12_feed_63.2.2.2.2.2.2.2.2.1 rfl
theorem dX12_feed_80 : decode cX12_feed 80 = .ok (.invokevirtual 130, 3) := dAt wdX12_feed_63 adX12_feed_63.2.2.2.2.2.2.2.2.2.1 rfl
theorem dX12_feed_83 : decode cX12_feed 83 = .ok (.iinc 6 (-8), 3) := dAt wdX12_feed_63 adX12_feed_63.2.2.2.2.2.2.2.2.2.2.1 rfl
theorem dX12_feed_86 : decode cX12_feed 86 = .ok (.goto (-16), 3) := dAt wdX12_feed_63 adX12_feed_63.2.2.2.2.2.2.2.2.2.2.2.1 rfl
theorem dX12_feed_89 : decode cX12_feed 89 = .ok (.bipush 24, 2) := dAt wdX12_feed_63 adX12_feed_63.2.2.2.2.2.2.2.2.2.2.2.2.1 rfl
theorem dX12_feed_91 : decode cX12_feed 91 = .ok (.istore 6, 2) := dAt wdX12_feed_63 adX12_feed_63.2.2.2.2.2.2.2.2.2.2.2.2.2.1 rfl
theorem dX12_feed_93 : decode cX12_feed 93 = .ok (.iload 6, 2) := dAt wdX12_feed_63 adX12_feed_63.2.2.2.2.2.2.2.2.2.2.2.2.2.2.1 rfl
theorem dX12_feed_95 : decode cX12_feed 95 = .ok (.ifCond .lt 18, 3) := dAt wdX12_feed_63 adX12_feed_63.2.2.2.2.2.2.2.2.2.2.2.2.2.2.2 rfl
def bdX12_feed_98 : ByteArray := .mk #[42, 21, 4, 21, 6, 122, 182, 0, 130, 132, 6, 248, 167, 255, 239, 16, 24, 54, 6, 21, 6, 155, 0, 18, 42, 21, 5, 21, 6, 122, 182, 0, 130]
theorem wdX12_feed_98 : LocW cX12_feed 98 bdX12_feed_98 := loc_of (by decide +kernel)
theorem adX12_feed_98 : De bdX12_feed_98 0 (.aload_n 0) 1 ∧ De bdX12_feed_98 1 (.iload 4) 2 ∧ De bdX12_feed_98 3 (.iload 6) 2 ∧ De bdX12_feed_98 5 (.ishr) 1 ∧ De bdX12_feed_98 6 (.invokevirtual 130) 3 ∧ De bdX12_feed_98 9 (.iinc 6 (-8)) 3 ∧ De bdX12_feed_98 12 (.goto (-17)) 3 ∧ De bdX12_feed_98 15 (.bipush 24) 2 ∧ De bdX12_feed_98 17 (.istore 6) 2 ∧ De bdX12_feed_98 19 (.iload 6) 2 ∧ De bdX12_feed_98 21 (.ifCond .lt 18) 3 ∧ De bdX12_feed_98 24 (.aload_n 0) 1 ∧ De bdX12_feed_98 25 (.iload 5) 2 ∧ De bdX12_feed_98 27 (.iload 6) 2 ∧ De bdX12_feed_98 29 (.ishr) 1 ∧ De bdX12_feed_98 30 (.invokevirtual 130) 3 := by decide +kernel
theorem dX12_feed_98 : decode cX12_feed 98 = .ok (.aload_n 0, 1) := dAt wdX12_feed_98 adX12_feed_98.1 rfl
theorem dX12_feed_99 : decode cX12_feed 99 = .ok (.iload 4, 2) := dAt wdX12_feed_98 adX12_feed_98.2.1 rfl
theorem dX12_feed_101 : decode cX12_feed 101 = .ok (.iload 6, 2) := dAt wdX12_feed_98 adX12_feed_98.2.2.1 rfl
theorem dX12_feed_103 : decode cX12_feed 103 = .ok (.ishr, 1) := dAt wdX12_feed_98 adX12_feed_98.2.2.2.1 rfl
theorem dX12_feed_104 : decode cX12_feed 104 = .ok (.invokevirtual 130, 3) := dAt wdX12_feed_98 adX12_feed_98.2.2.2.2.1 rfl
theorem dX12_feed_107 : decode cX12_feed 107 = .ok (.iinc 6 (-8), 3) := dAt wdX12_feed_98 adX12_feed_98.2.2.2.2.2.1 rfl
theorem dX12_feed_110 : decode cX12_feed 110 = .ok (.goto (-17), 3) := dAt wdX12_feed_98 adX12_feed_98.2.2.2.2.2.2.1 rfl
theorem dX12_feed_113 : decode cX12_feed 113 = .ok (.bipush 24, 2) := dAt wdX12_feed_98 adX12_feed_98.2.2.2.2.2.2.2.1 rfl
theorem dX12_feed_115 : decode cX12_feed 115 = .ok (.istore 6, 2) := dAt wdX12_feed_98 adX12_feed_98.2.2.2.2.2.2.2.2.1 rfl
theorem dX12_feed_117 : decode cX12_feed 117 = .ok (.iload 6, 2) := dAt wdX12_feed_98 adX12_feed_98.2.2.2.2.2.2.2.2.2.1 rfl
theorem dX12_feed_119 : decode cX12_feed 119 = .ok (.ifCond .lt 18, 3) := dAt wdX12_feed_98 adX12_feed_98.2.2.2.2.2.2.2.2.2.2.1 rfl
theorem dX12_feed_122 : decode cX12_feed 122 = .ok (.aload_n 0, 1) := dAt wdX12_feed_98 adX12_feed_98.2.2.2.2.2.2.2.2.2.2.2.1 rfl
theorem dX12_feed_123 : decode cX12_feed 123 = .ok (.iload 5, 2) := dAt wdX12_feed_98 adX12_feed_98.2.2.2.2.2.2.2.2.2.2.2.2.1 rfl
theorem dX12_feed_125 : decode cX12_feed 125 = .ok (.iload 6, 2) := dAt wdX12_feed_98 adX12_feed_98.2.2.2.2.2.2.2.2.2.2.2.2.2.1 rfl
theorem dX12_feed_127 : decode cX12_feed 127 = .ok (.ishr, 1) := dAt wdX12_feed_98 adX12_feed_98.2.2.2.2.2.2.2.2.2.2.2.2.2.2.1 rfl
theorem dX12_feed_128 : decode cX12_feed 128 = .ok (.invokevirtual 130, 3) := dAt wdX12_feed_98 adX12_feed_98.2.2.2.2.2.2.2.2.2.2.2.2.2.2.2 rfl
def bdX12_feed_131 : ByteArray := .mk #[132, 6, 248, 167, 255, 239, 42, 180, 0, 127, 172]
theorem wdX12_feed_131 : LocW cX12_feed 131 bdX12_feed_131 := loc_of (by decide +kernel)
theorem adX12_feed_131 : De bdX12_feed_131 0 (.iinc 6 (-8)) 3 ∧ De bdX12_feed_131 3 (.goto (-17)) 3 ∧ De bdX12_feed_131 6 (.aload_n 0) 1 ∧ De bdX12_feed_131 7 (.getfield 127) 3 ∧ De bdX12_feed_131 10 (.ireturn) 1 := by decide +kernel
theorem dX12_feed_131 : decode cX12_feed 131 = .ok (.iinc 6 (-8), 3) := dAt wdX12_feed_131 adX12_feed_131.1 rfl
theorem dX12_feed_134 : decode cX12_feed 134 = .ok (.goto (-17), 3) := dAt wdX12_feed_131 adX12_feed_131.2.1 rfl
theorem dX12_feed_137 : decode cX12_feed 137 = .ok (.aload_n 0, 1) := dAt wdX12_feed_131 adX12_feed_131.2.2.1 rfl
theorem dX12_feed_138 : decode cX12_feed 138 = .ok (.getfield 127, 3) := dAt wdX12_feed_131 adX12_feed_131.2.2.2.1 rfl
theorem dX12_feed_141 : decode cX12_feed 141 = .ok (.ireturn, 1) := dAt wdX12_feed_131 adX12_feed_131.2.2.2.2 rfl
def bdX12_end_0 : ByteArray := .mk #[42, 3, 181, 0, 122, 27, 155, 0, 11, 27, 42, 180, 0, 127, 164, 0, 5, 3, 172, 42, 27, 181, 0, 127, 4, 172]
theorem wdX12_end_0 : LocW cX12_end 0 bdX12_end_0 := loc_of (by decide +kernel)
theorem adX12_end_0 : De bdX12_end_0 0 (.aload_n 0) 1 ∧ De bdX12_end_0 1 (.iconst 0) 1 ∧ De bdX12_end_0 2 (.putfield 122) 3 ∧ De bdX12_end_0 5 (.iload_n 1) 1 ∧ De bdX12_end_0 6 (.ifCond .lt 11) 3 ∧ De bdX12_end_0 9 (.iload_n 1) 1 ∧ De bdX12_end_0 10 (.aload_n 0) 1 ∧ De bdX12_end_0 11 (.getfield 127) 3 ∧ De bdX12_end_0 14 (.if_icmp .le 5) 3 ∧ De bdX12_end_0 17 (.iconst 0) 1 ∧ De bdX12_end_0 18 (.ireturn) 1 ∧ De bdX12_end_0 19 (.aload_n 0) 1 ∧ De bdX12_end_0 20 (.iload_n 1) 1 ∧ De bdX12_end_0 21 (.putfield 127) 3 ∧ De bdX12_end_0 24 (.iconst 1) 1 ∧ De bdX12_end_0 25 (.ireturn) 1 := by decide +kernel
theorem dX12_end_0 : decode cX12_end 0 = .ok (.aload_n 0, 1) := dAt wdX12_end_0 adX12_end_0.1 rfl
theorem dX12_end_1 : decode cX12_end 1 = .ok (.iconst 0, 1) := dAt wdX12_end_0 adX12_end_0.2.1 rfl
theorem dX12_end_2 : decode cX12_end 2 = .ok (.putfield 122, 3) := dAt wdX12_end_0 adX12_end_0.2.2.1 rfl
theorem dX12_end_5 : decode cX12_end 5 = .ok (.iload_n 1, 1) := dAt wdX12_end_0 adX12_end_0.2.2.2.1 rfl
theorem dX12_end_6 : decode cX12_end 6 = .ok (.ifCond .lt 11, 3) := dAt wdX12_end_0 adX12_end_0.2.2.2.2.1 rfl
theorem dX12_end_9 : decode cX12_end 9 = .ok (.iload_n 1, 1) := dAt wdX12_end_0 adX12_end_0.2.2.2.2.2.1 rfl
theorem dX12_end_10 : decode cX12_end 10 = .ok (.aload_n 0, 1) := dAt wdX12_end_0 adX12_end_0.2.2.2.2.2.2.1 rfl
theorem dX12_end_11 : decode cX12_end 11 = .ok (.getfield 127, 3) := dAt wdX12_end_0 adX12_end_0.2.2.2.2.2.2.2.1 rfl
theorem dX12_end_14 : decode cX12_end 14 = .ok (.if_icmp .le 5, 3) := dAt wdX12_end_0 adX12_end_0.2.2.2.2.2.2.2.2.1 rfl
theorem dX12_end_17 : decode cX12_end 17 = .ok (.iconst 0, 1) := dAt wdX12_end_0 adX12_end_0.2.2.2.2.2.2.2.2.2.1 rfl
theorem dX12_end_18 : decode cX12_end 18 = .ok (.ireturn, 1) := dAt wdX12_end_0 adX12_end_0.2.2.2.2.2.2.2.2.2.2.1 rfl
theorem dX12_end_19 : decode cX12_end 19 = .ok (.aload_n 0, 1) := dAt wdX12_end_0 adX12_end_0.2.2.2.2.2.2.2.2.2.2.2.1 rfl
theorem dX12_end_20 : decode cX12_end 20 = .ok (.iload_n 1, 1) := dAt wdX12_end_0 adX12_end_0.2.2.2.2.2.2.2.2.2.2.2.2.1 rfl
theorem dX12_end_21 : decode cX12_end 21 = .ok (.putfield 127, 3) := dAt wdX12_end_0 adX12_end_0.2.2.2.2.2.2.2.2.2.2.2.2.2.1 rfl
theorem dX12_end_24 : decode cX12_end 24 = .ok (.iconst 1, 1) := dAt wdX12_end_0 adX12_end_0.2.2.2.2.2.2.2.2.2.2.2.2.2.2.1 rfl
theorem dX12_end_25 : decode cX12_end 25 = .ok (.ireturn, 1) := dAt wdX12_end_0 adX12_end_0.2.2.2.2.2.2.2.2.2.2.2.2.2.2.2 rfl
def bdX12_use_0 : ByteArray := .mk #[42, 42, 180, 0, 127, 181, 0, 134, 42, 3, 181, 0, 127, 42, 3, 181, 0, 137, 177]
theorem wdX12_use_0 : LocW cX12_use 0 bdX12_use_0 := loc_of (by decide +kernel)
theorem adX12_use_0 : De bdX12_use_0 0 (.aload_n 0) 1 ∧ De bdX12_use_0 1 (.aload_n 0) 1 ∧ De bdX12_use_0 2 (.getfield 127) 3 ∧ De bdX12_use_0 5 (.putfield 134) 3 ∧ De bdX12_use_0 8 (.aload_n 0) 1 ∧ De bdX12_use_0 9 (.iconst 0) 1 ∧ De bdX12_use_0 10 (.putfield 127) 3 ∧ De bdX12_use_0 13 (.aload_n 0) 1 ∧ De bdX12_use_0 14 (.iconst 0) 1 ∧ De bdX12_use_0 15 (.putfield 137) 3 ∧ De bdX12_use_0 18 (.return_) 1 := by decide +kernel
theorem dX12_use_0 : decode cX12_use 0 = .ok (.aload_n 0, 1) := dAt wdX12_use_0 adX12_use_0.1 rfl
theorem dX12_use_1 : decode cX12_use 1 = .ok (.aload_n 0, 1) := dAt wdX12_use_0 adX12_use_0.2.1 rfl
theorem dX12_use_2 : decode cX12_use 2 = .ok (.getfield 127, 3) := dAt wdX12_use_0 adX12_use_0.2.2.1 rfl
theorem dX12_use_5 : decode cX12_use 5 = .ok (.putfield 134, 3) := dAt wdX12_use_0 adX12_use_0.2.2.2.1 rfl
theorem dX12_use_8 : decode cX12_use 8 = .ok (.aload_n 0, 1) := dAt wdX12_use_0 adX12_use_0.2.2.2.2.1 rfl
theorem dX12_use_9 : decode cX12_use 9 = .ok (.iconst 0, 1) := dAt wdX12_use_0 adX12_use_0.2.2.2.2.2.1 rfl
theorem dX12_use_10 : decode cX12_use 10 = .ok (.putfield 127, 3) := dAt wdX12_use_0 adX12_use_0.2.2.2.2.2.2.1 rfl
theorem dX12_use_13 : decode cX12_use 13 = .ok (.aload_n 0, 1) := dAt wdX12_use_0 adX12_use_0.2.2.2.2.2.2.2.1 rfl
theorem dX12_use_14 : decode cX12_use 14 = .ok (.iconst 0, 1) := dAt wdX12_use_0 adX12_use_0.2.2.2.2.2.2.2.2.1 rfl
theorem dX12_use_15 : decode cX12_use 15 = .ok (.putfield 137, 3) := dAt wdX12_use_0 adX12_use_0.2.2.2.2.2.2.2.2.2.1 rfl
theorem dX12_use_18 : decode cX12_use 18 = .ok (.return_, 1) := dAt wdX12_use_0 adX12_use_0.2.2.2.2.2.2.2.2.2.2 rfl
def bdX12_fault_0 : ByteArray := .mk #[42, 3, 181, 0, 122, 42, 180, 0, 23, 172]
theorem wdX12_fault_0 : LocW cX12_fault 0 bdX12_fault_0 := loc_of (by decide +kernel)
theorem adX12_fault_0 : De bdX12_fault_0 0 (.aload_n 0) 1 ∧ De bdX12_fault_0 1 (.iconst 0) 1 ∧ De bdX12_fault_0 2 (.putfield 122) 3 ∧ De bdX12_fault_0 5 (.aload_n 0) 1 ∧ De bdX12_fault_0 6 (.getfield 23) 3 ∧ De bdX12_fault_0 9 (.ireturn) 1 := by decide +kernel
theorem dX12_fault_0 : decode cX12_fault 0 = .ok (.aload_n 0, 1) := dAt wdX12_fault_0 adX12_fault_0.1 rfl
theorem dX12_fault_1 : decode cX12_fault 1 = .ok (.iconst 0, 1) := dAt wdX12_fault_0 adX12_fault_0.2.1 rfl
theorem dX12_fault_2 : decode cX12_fault 2 = .ok (.putfield 122, 3) := dAt wdX12_fault_0 adX12_fault_0.2.2.1 rfl
theorem dX12_fault_5 : decode cX12_fault 5 = .ok (.aload_n 0, 1) := dAt wdX12_fault_0 adX12_fault_0.2.2.2.1 rfl
theorem dX12_fault_6 : decode cX12_fault 6 = .ok (.getfield 23, 3) := dAt wdX12_fault_0 adX12_fault_0.2.2.2.2.1 rfl
theorem dX12_fault_9 : decode cX12_fault 9 = .ok (.ireturn, 1) := dAt wdX12_fault_0 adX12_fault_0.2.2.2.2.2 rfl
def bdX12_isLetter_0 : ByteArray := .mk #[26, 16, 97, 161, 0, 13, 26, 16, 122, 163, 0, 7, 4, 167, 0, 4, 3, 172]
theorem wdX12_isLetter_0 : LocW cX12_isLetter 0 bdX12_isLetter_0 := loc_of (by decide +kernel)
theorem adX12_isLetter_0 : De bdX12_isLetter_0 0 (.iload_n 0) 1 ∧ De bdX12_isLetter_0 1 (.bipush 97) 2 ∧ De bdX12_isLetter_0 3 (.if_icmp .lt 13) 3 ∧ De bdX12_isLetter_0 6 (.iload_n 0) 1 ∧ De bdX12_isLetter_0 7 (.bipush 122) 2 ∧ De bdX12_isLetter_0 9 (.if_icmp .gt 7) 3 ∧ De bdX12_isLetter_0 12 (.iconst 1) 1 ∧ De bdX12_isLetter_0 13 (.goto 4) 3 ∧ De bdX12_isLetter_0 16 (.iconst 0) 1 ∧ De bdX12_isLetter_0 17 (.ireturn) 1 := by decide +kernel
theorem dX12_isLetter_0 : decode cX12_isLetter 0 = .ok (.iload_n 0, 1) := dAt wdX12_isLetter_0 adX12_isLetter_0.1 rfl
theorem dX12_isLetter_1 : decode cX12_isLetter 1 = .ok (.bipush 97, 2) := dAt wdX12_isLetter_0 adX12_isLetter_0.2.1 rfl
theorem dX12_isLetter_3 : decode cX12_isLetter 3 = .ok (.if_icmp .lt 13, 3) := dAt wdX12_isLetter_0 adX12_isLetter_0.2.2.1 rfl
theorem dX12_isLetter_6 : decode cX12_isLetter 6 = .ok (.iload_n 0, 1) := dAt wdX12_isLetter_0 adX12_isLetter_0.2.2.2.1 rfl
theorem dX12_isLetter_7 : decode cX12_isLetter 7 = .ok (.bipush 122, 2) := dAt wdX12_isLetter_0 adX12_isLetter_0.2.2.2.2.1 rfl
theorem dX12_isLetter_9 : decode cX12_isLetter 9 = .ok (.if_icmp .gt 7, 3) := dAt wdX12_isLetter_0 adX12_isLetter_0.2.2.2.2.2.1 rfl
theorem dX12_isLetter_12 : decode cX12_isLetter 12 = .ok (.iconst 1, 1) := dAt wdX12_isLetter_0 adX12_isLetter_0.2.2.2.2.2.2.1 rfl
theorem dX12_isLetter_13 : decode cX12_isLetter 13 = .ok (.goto 4, 3) := dAt wdX12_isLetter_0 adX12_isLetter_0.2.2.2.2.2.2.2.1 rfl
theorem dX12_isLetter_16 : decode cX12_isLetter 16 = .ok (.iconst 0, 1) := dAt wdX12_isLetter_0 adX12_isLetter_0.2.2.2.2.2.2.2.2.1 rfl
theorem dX12_isLetter_17 : decode cX12_isLetter 17 = .ok (.ireturn, 1) := dAt wdX12_isLetter_0 adX12_isLetter_0.2.2.2.2.2.2.2.2.2 rfl
def bdX12_readWord_0 : ByteArray := .mk #[4, 54, 4, 21, 4, 153, 1, 6, 27, 42, 180, 0, 36, 42, 180, 0, 140, 46, 96, 54, 5, 29, 42, 180, 0, 36, 42]
theorem wdX12_readWord_0 : LocW cX12_readWord 0 bdX12_readWord_0 := loc_of (by decide +kernel)
theorem adX12_readWord_0 : De bdX12_readWord_0 0 (.iconst 1) 1 ∧ De bdX12_readWord_0 1 (.istore 4) 2 ∧ De bdX12_readWord_0 3 (.iload 4) 2 ∧ De bdX12_readWord_0 5 (.ifCond .eq 262) 3 ∧ De bdX12_readWord_0 8 (.iload_n 1) 1 ∧ De bdX12_readWord_0 9 (.aload_n 0) 1 ∧ De bdX12_readWord_0 10 (.getfield 36) 3 ∧ De bdX12_readWord_0 13 (.aload_n 0) 1 ∧ De bdX12_readWord_0 14 (.getfield 140) 3 ∧ De bdX12_readWord_0 17 (.iaload) 1 ∧ De bdX12_readWord_0 18 (.iadd) 1 ∧ De bdX12_readWord_0 19 (.istore 5) 2 ∧ De bdX12_readWord_0 21 (.iload_n 3) 1 ∧ De bdX12_readWord_0 22 (.aload_n 0) 1 ∧ De bdX12_readWord_0 23 (.getfield 36) 3 ∧ De bdX12_readWord_0 26 (.aload_n 0) 1 := by decide +kernel
theorem dX12_readWord_0 : decode cX12_readWord 0 = .ok (.iconst 1, 1) := dAt wdX12_readWord_0 adX12_readWord_0.1 rfl
theorem dX12_readWord_1 : decode cX12_readWord 1 = .ok (.istore 4, 2) := dAt wdX12_readWord_0 adX12_readWord_0.2.1 rfl
theorem dX12_readWord_3 : decode cX12_readWord 3 = .ok (.iload 4, 2) := dAt wdX12_readWord_0 adX12_readWord_0.2.2.1 rfl
theorem dX12_readWord_5 : decode cX12_readWord 5 = .ok (.ifCond .eq 262, 3) := dAt wdX12_readWord_0 adX12_readWord_0.2.2.2.1 rfl
theorem dX12_readWord_8 : decode cX12_readWord 8 = .ok (.iload_n 1, 1) := dAt wdX12_readWord_0 adX12_readWord_0.2.2.2.2.1 rfl
theorem dX12_readWord_9 : decode cX12_readWord 9 = .ok (.aload_n 0, 1) := dAt wdX12_readWord_0 adX12_readWord_0.2.2.2.2.2.1 rfl
theorem dX12_readWord_10 : decode cX12_readWord 10 = .ok (.getfield 36, 3) := dAt wdX12_readWord_0 adX12_readWord_0.2.2.2.2.2.2.1 rfl
theorem dX12_readWord_13 : decode cX12_readWord 13 = .ok (.aload_n 0, 1) := dAt wdX12_readWord_0 adX12_readWord_0.2.2.2.2.2.2.2.1 rfl
theorem dX12_readWord_14 : decode cX12_readWord 14 = .ok (.getfield 140, 3) := dAt wdX12_readWord_0 adX12_readWord_0.2.2.2.2.2.2.2.2.1 rfl
theorem dX12_readWord_17 : decode cX12_readWord 17 = .ok (.iaload, 1) := dAt wdX12_readWord_0 adX12_readWord_0.2.2.2.2.2.2.2.2.2.1 rfl
theorem dX12_readWord_18 : decode cX12_readWord 18 = .ok (.iadd, 1) := dAt wdX12_readWord_0 adX12_readWord_0.2.2.2.2.2.2.2.2.2.2.1 rfl
theorem dX12_readWord_19 : decode cX12_readWord 19 = .ok (.istore 5, 2) := dAt wdX12_readWord_0 adX12_readWord_0.2.2.2.2.2.2.2.2.2.2.2.1 rfl
theorem dX12_readWord_21 : decode cX12_readWord 21 = .ok (.iload_n 3, 1) := dAt wdX12_readWord_0 adX12_readWord_0.2.2.2.2.2.2.2.2.2.2.2.2.1 rfl
theorem dX12_readWord_22 : decode cX12_readWord 22 = .ok (.aload_n 0, 1) := dAt wdX12_readWord_0 adX12_readWord_0.2.2.2.2.2.2.2.2.2.2.2.2.2.1 rfl
theorem dX12_readWord_23 : decode cX12_readWord 23 = .ok (.getfield 36, 3) := dAt wdX12_readWord_0 adX12_readWord_0.2.2.2.2.2.2.2.2.2.2.2.2.2.2.1 rfl
theorem dX12_readWord_26 : decode cX12_readWord 26 = .ok (.aload_n 0, 1) := dAt wdX12_readWord_0 adX12_readWord_0.2.2.2.2.2.2.2.2.2.2.2.2.2.2.2 rfl
def bdX12_readWord_27 : ByteArray := .mk #[180, 0, 140, 46, 96, 16, 40, 160, 0, 13, 42, 42, 180, 0, 137, 181, 0, 23, 3, 172, 42, 180, 0, 27, 21, 5, 28, 79]
theorem wdX12_readWord_27 : LocW cX12_readWord 27 bdX12_readWord_27 := loc_of (by decide +kernel)
theorem adX12_readWord_27 : De bdX12_readWord_27 0 (.getfield 140) 3 ∧ De bdX12_readWord_27 3 (.iaload) 1 ∧ De bdX12_readWord_27 4 (.iadd) 1 ∧ De bdX12_readWord_27 5 (.bipush 40) 2 ∧ De bdX12_readWord_27 7 (.if_icmp .ne 13) 3 ∧ De bdX12_readWord_27 10 (.aload_n 0) 1 ∧ De bdX12_readWord_27 11 (.aload_n 0) 1 ∧ De bdX12_readWord_27 12 (.getfield 137) 3 ∧ De bdX12_readWord_27 15 (.putfield 23) 3 ∧ De bdX12_readWord_27 18 (.iconst 0) 1 ∧ De bdX12_readWord_27 19 (.ireturn) 1 ∧ De bdX12_readWord_27 20 (.aload_n 0) 1 ∧ De bdX12_readWord_27 21 (.getfield 27) 3 ∧ De bdX12_readWord_27 24 (.iload 5) 2 ∧ De bdX12_readWord_27 26 (.iload_n 2) 1 ∧ De bdX12_readWord_27 27 (.iastore) 1 := by decide +kernel
theorem dX12_readWord_27 : decode cX12_readWord 27 = .ok (.getfield 140, 3) := dAt wdX12_readWord_27 adX12_readWord_27.1 rfl
theorem dX12_readWord_30 : decode cX12_readWord 30 = .ok (.iaload, 1) := dAt wdX12_readWord_27 adX12_readWord_27.2.1 rfl
theorem dX12_readWord_31 : decode cX12_readWord 31 = .ok (.iadd, 1) := dAt wdX12_readWord_27 adX12_readWord_27.2.2.1 rfl
theorem dX12_readWord_32 : decode cX12_readWord 32 = .ok (.bipush 40, 2) := dAt wdX12_readWord_27 adX12_readWord_27.2.2.2.1 rfl
theorem dX12_readWord_34 : decode cX12_readWord 34 = .ok (.if_icmp .ne 13, 3) := dAt wdX12_readWord_27 adX12_readWord_27.2.2.2.2.1 rfl
theorem dX12_readWord_37 : decode cX12_readWord 37 = .ok (.aload_n 0, 1) := dAt wdX12_readWord_27 adX12_readWord_27.2.2.2.2.2.1 rfl
theorem dX12_readWord_38 : decode cX12_readWord 38 = .ok (.aload_n 0, 1) := dAt wdX12_readWord_27 adX12_readWord_27.2.2.2.2.2.2.1 rfl
theorem dX12_readWord_39 : decode cX12_readWord 39 = .ok (.getfield 137, 3) := dAt wdX12_readWord_27 adX12_readWord_27.2.2.2.2.2.2.2.1 rfl
theorem dX12_readWord_42 : decode cX12_readWord 42 = .ok (.putfield 23, 3) := dAt wdX12_readWord_27 adX12_readWord_27.2.2.2.2.2.2.2.2.1 rfl
theorem dX12_readWord_45 : decode cX12_readWord 45 = .ok (.iconst 0, 1) := dAt wdX12_readWord_27 adX12_readWord_27.2.2.2.2.2.2.2.2.2.1 rfl
theorem dX12_readWord_46 : decode cX12_readWord 46 = .ok (.ireturn, 1) := dAt wdX12_readWord_27 adX12_readWord_27.2.2.2.2.2.2.2.2.2.2.1 rfl
theorem dX12_readWord_47 : decode cX12_readWord 47 = .ok (.aload_n 0, 1) := dAt wdX12_readWord_27 adX12_readWord_27.2.2.2.2.2.2.2.2.2.2.2.1 rfl
theorem dX12_readWord_48 : decode cX12_readWord 48 = .ok (.getfield 27, 3) := dAt wdX12_readWord_27 adX12_readWord_27.2.2.2.2.2.2.2.2.2.2.2.2.1 rfl
theorem dX12_readWord_51 : decode cX12_readWord 51 = .ok (.iload 5, 2) := dAt wdX12_readWord_27 adX12_readWord_27.2.2.2.2.2.2.2.2.2.2.2.2.2.1 rfl
theorem dX12_readWord_53 : decode cX12_readWord 53 = .ok (.iload_n 2, 1) := dAt wdX12_readWord_27 adX12_readWord_27.2.2.2.2.2.2.2.2.2.2.2.2.2.2.1 rfl
theorem dX12_readWord_54 : decode cX12_readWord 54 = .ok (.iastore, 1) := dAt wdX12_readWord_27 adX12_readWord_27.2.2.2.2.2.2.2.2.2.2.2.2.2.2.2 rfl
def bdX12_readWord_55 : ByteArray := .mk #[42, 180, 0, 30, 21, 5, 3, 79, 42, 180, 0, 137, 42, 180, 0, 134, 162, 0, 94, 42, 180, 0, 20, 42, 180, 0, 137, 46, 184, 0, 143]
theorem wdX12_readWord_55 : LocW cX12_readWord 55 bdX12_readWord_55 := loc_of (by decide +kernel)
theorem adX12_readWord_55 : De bdX12_readWord_55 0 (.aload_n 0) 1 ∧ De bdX12_readWord_55 1 (.getfield 30) 3 ∧ De bdX12_readWord_55 4 (.iload 5) 2 ∧ De bdX12_readWord_55 6 (.iconst 0) 1 ∧ De bdX12_readWord_55 7 (.iastore) 1 ∧ De bdX12_readWord_55 8 (.aload_n 0) 1 ∧ De bdX12_readWord_55 9 (.getfield 137) 3 ∧ De bdX12_readWord_55 12 (.aload_n 0) 1 ∧ De bdX12_readWord_55 13 (.getfield 134) 3 ∧ De bdX12_readWord_55 16 (.if_icmp .ge 94) 3 ∧ De bdX12_readWord_55 19 (.aload_n 0) 1 ∧ De bdX12_readWord_55 20 (.getfield 20) 3 ∧ De bdX12_readWord_55 23 (.aload_n 0) 1 ∧ De bdX12_readWord_55 24 (.getfield 137) 3 ∧ De bdX12_readWord_55 27 (.iaload) 1 ∧ De bdX12_readWord_55 28 (.invokestatic 143) 3 := by decide +kernel
theorem dX12_readWord_55 : decode cX12_readWord 55 = .ok (.aload_n 0, 1) := dAt wdX12_readWord_55 adX12_readWord_55.1 rfl
theorem dX12_readWord_56 : decode cX12_readWord 56 = .ok (.getfield 30, 3) := dAt wdX12_readWord_55 adX12_readWord_55.2.1 rfl
theorem dX12_readWord_59 : decode cX12_readWord 59 = .ok (.iload 5, 2) := dAt wdX12_readWord_55 adX12_readWord_55.2.2.1 rfl
theorem dX12_readWord_61 : decode cX12_readWord 61 = .ok (.iconst 0, 1) := dAt wdX12_readWord_55 adX12_readWord_55.2.2.2.1 rfl
theorem dX12_readWord_62 : decode cX12_readWord 62 = .ok (.iastore, 1) := dAt wdX12_readWord_55 adX12_readWord_55.2.2.2.2.1 rfl
theorem dX12_readWord_63 : decode cX12_readWord 63 = .ok (.aload_n 0, 1) := dAt wdX12_readWord_55 adX12_readWord_55.2.2.2.2.2.1 rfl
theorem dX12_readWord_64 : decode cX12_readWord 64 = .ok (.getfield 137, 3) := dAt wdX12_readWord_55 adX12_readWord_55.2.2.2.2.2.2.1 rfl
theorem dX12_readWord_67 : decode cX12_readWord 67 = .ok (.aload_n 0, 1) := dAt wdX12_readWord_55 adX12_readWord_55.2.2.2.2.2.2.2.1 rfl
theorem dX12_readWord_68 : decode cX12_readWord 68 = .ok (.getfield 134, 3) := dAt wdX12_readWord_55 adX12_readWord_55.2.2.2.2.2.2.2.2.1 rfl
theorem dX12_readWord_71 : decode cX12_readWord 71 = .ok (.if_icmp .ge 94, 3) := dAt wdX12_readWord_55 adX12_readWord_55.2.2.2.2.2.2.2.2.2.1 rfl
theorem dX12_readWord_74 : decode cX12_readWord 74 = .ok (.aload_n 0, 1) := dAt wdX12_readWord_55 adX12_readWord_55.2.2.2.2.2.2.2.2.2.2.1 rfl
theorem dX12_readWord_75 : decode cX12_readWord 75 = .ok (.getfield 20, 3) := dAt wdX12_readWord_55 adX12_readWord_55.2.2.2.2.2.2.2.2.2.2.2.1 rfl
theorem dX12_readWord_78 : decode cX12_readWord 78 = .ok (.aload_n 0, 1) := dAt wdX12_readWord_55 adX12_readWord_55.2.2.2.2.2.2.2.2.2.2.2.2.1 rfl
theorem dX12_readWord_79 : decode cX12_readWord 79 = .ok (.getfield 137, 3) := dAt wdX12_readWord_55 adX12_readWord_55.2.2.2.2.2.2.2.2.2.2.2.2.2.1 rfl
theorem dX12_readWord_82 : decode cX12_readWord 82 = .ok (.iaload, 1) := dAt wdX12_readWord_55 adX12_readWord_55.2.2.2.2.2.2.2.2.2.2.2.2.2.2.1 rfl
theorem dX12_readWord_83 : decode cX12_readWord 83 = .ok (.invokestatic 143, 3) := dAt wdX12_readWord_55 adX12_readWord_55.2.2.2.2.2.2.2.2.2.2.2.2.2.2.2 rfl
def bdX12_readWord_86 : ByteArray := .mk #[153, 0, 79, 42, 180, 0, 30, 21, 5, 46, 16, 12, 160, 0, 13, 42, 42, 180, 0, 137, 181, 0, 23, 3, 172, 42, 180, 0, 33, 16, 12]
theorem wdX12_readWord_86 : LocW cX12_readWord 86 bdX12_readWord_86 := loc_of (by decide +kernel)
theorem adX12_readWord_86 : De bdX12_readWord_86 0 (.ifCond .eq 79) 3 ∧ De bdX12_readWord_86 3 (.aload_n 0) 1 ∧ De bdX12_readWord_86 4 (.getfield 30) 3 ∧ De bdX12_readWord_86 7 (.iload 5) 2 ∧ De bdX12_readWord_86 9 (.iaload) 1 ∧ De bdX12_readWord_86 10 (.bipush 12) 2 ∧ De bdX12_readWord_86 12 (.if_icmp .ne 13) 3 ∧ De bdX12_readWord_86 15 (.aload_n 0) 1 ∧ De bdX12_readWord_86 16 (.aload_n 0) 1 ∧ De bdX12_readWord_86 17 (.getfield 137) 3 ∧ De bdX12_readWord_86 20 (.putfield 23) 3 ∧ De bdX12_readWord_86 23 (.iconst 0) 1 ∧ De bdX12_readWord_86 24 (.ireturn) 1 ∧ De bdX12_readWord_86 25 (.aload_n 0) 1 ∧ De bdX12_readWord_86 26 (.getfield 33) 3 ∧ De bdX12_readWord_86 29 (.bipush 12) 2 := by decide +kernel
theorem dX12_readWord_86 : decode cX12_readWord 86 = .ok (.ifCond .eq 79, 3) := dAt wdX12_readWord_86 adX12_readWord_86.1 rfl
theorem dX12_readWord_89 : decode cX12_readWord 89 = .ok (.aload_n 0, 1) := dAt wdX12_readWord_86 adX12_readWord_86.2.1 rfl
theorem dX12_readWord_90 : decode cX12_readWord 90 = .ok (.getfield 30, 3) := dAt wdX12_readWord_86 adX12_readWord_86.2.2.1 rfl
theorem dX12_readWord_93 : decode cX12_readWord 93 = .ok (.iload 5, 2) := dAt wdX12_readWord_86 adX12_readWord_86.2.2.2.1 rfl
theorem dX12_readWord_95 : decode cX12_readWord 95 = .ok (.iaload, 1) := dAt wdX12_readWord_86 adX12_readWord_86.2.2.2.2.1 rfl
theorem dX12_readWord_96 : decode cX12_readWord 96 = .ok (.bipush 12, 2) := dAt wdX12_readWord_86 adX12_readWord_86.2.2.2.2.2.1 rfl
theorem dX12_readWord_98 : decode cX12_readWord 98 = .ok (.if_icmp .ne 13, 3) := dAt wdX12_readWord_86 adX12_readWord_86.2.2.2.2.2.2.1 rfl
theorem dX12_readWord_101 : decode cX12_readWord 101 = .ok (.aload_n 0, 1) := dAt wdX12_readWord_86 adX12_readWord_86.2.2.2.2.2.2.2.1 rfl
theorem dX12_readWord_102 : decode cX12_readWord 102 = .ok (.aload_n 0, 1) := dAt wdX12_readWord_86 adX12_readWord_86.2.2.2.2.2.2.2.2.1 rfl
theorem dX12_readWord_103 : decode cX12_readWord 103 = .ok (.getfield 137, 3) := dAt wdX12_readWord_86 adX12_readWord_86.2.2.2.2.2.2.2.2.2.1 rfl
theorem dX12_readWord_106 : decode cX12_readWord 106 = .ok (.putfield 23, 3) := dAt wdX12_readWord_86 adX12_readWord_86.2.2.2.2.2.2.2.2.2.2.1 rfl
theorem dX12_readWord_109 : decode cX12_readWord 109 = .ok (.iconst 0, 1) := dAt wdX12_readWord_86 adX12_readWord_86.2.2.2.2.2.2.2.2.2.2.2.1 rfl
theorem dX12_readWord_110 : decode cX12_readWord 110 = .ok (.ireturn, 1) := dAt wdX12_readWord_86 adX12_readWord_86.2.2.2.2.2.2.2.2.2.2.2.2.1 rfl
theorem dX12_readWord_111 : decode cX12_readWord 111 = .ok (.aload_n 0, 1) := dAt wdX12_readWord_86 adX12_readWord_86.2.2.2.2.2.2.2.2.2.2.2.2.2.1 rfl
theorem dX12_readWord_112 : decode cX12_readWord 112 = .ok (.getfield 33, 3) := dAt wdX12_readWord_86 adX12_readWord_86.2.2.2.2.2.2.2.2.2.2.2.2.2.2.1 rfl
theorem dX12_readWord_115 : decode cX12_readWord 115 = .ok (.bipush 12, 2) := dAt wdX12_readWord_86 adX12_readWord_86.2.2.2.2.2.2.2.2.2.2.2.2.2.2.2 rfl
def bdX12_readWord_117 : ByteArray := .mk #[21, 5, 104, 42, 180, 0, 30, 21, 5, 46, 96, 42, 180, 0, 20, 42, 180, 0, 137, 46, 16, 97, 100, 79, 42]
theorem wdX12_readWord_117 : LocW cX12_readWord 117 bdX12_readWord_117 := loc_of (by decide +kernel)
theorem adX12_readWord_117 : De bdX12_readWord_117 0 (.iload 5) 2 ∧ De bdX12_readWord_117 2 (.imul) 1 ∧ De bdX12_readWord_117 3 (.aload_n 0) 1 ∧ De bdX12_readWord_117 4 (.getfield 30) 3 ∧ De bdX12_readWord_117 7 (.iload 5) 2 ∧ De bdX12_readWord_117 9 (.iaload) 1 ∧ De bdX12_readWord_117 10 (.iadd) 1 ∧ De bdX12_readWord_117 11 (.aload_n 0) 1 ∧ De bdX12_readWord_117 12 (.getfield 20) 3 ∧ De bdX12_readWord_117 15 (.aload_n 0) 1 ∧ De bdX12_readWord_117 16 (.getfield 137) 3 ∧ De bdX12_readWord_117 19 (.iaload) 1 ∧ De bdX12_readWord_117 20 (.bipush 97) 2 ∧ De bdX12_readWord_117 22 (.isub) 1 ∧ De bdX12_readWord_117 23 (.iastore) 1 ∧ De bdX12_readWord_117 24 (.aload_n 0) 1 := by decide +kernel
theorem dX12_readWord_117 : decode cX12_readWord 117 = .ok (.iload 5, 2) := dAt wdX12_readWord_117 adX12_readWord_117.1 rfl
theorem dX12_readWord_119 : decode cX12_readWord 119 = .ok (.imul, 1) := dAt wdX12_readWord_117 adX12_readWord_117.2.1 rfl
theorem dX12_readWord_120 : decode cX12_readWord 120 = .ok (.aload_n 0, 1) := dAt wdX12_readWord_117 adX12_readWord_117.2.2.1 rfl
theorem dX12_readWord_121 : decode cX12_readWord 121 = .ok (.getfield 30, 3) := dAt wdX12_readWord_117 adX12_readWord_117.2.2.2.1 rfl
theorem dX12_readWord_124 : decode cX12_readWord 124 = .ok (.iload 5, 2) := dAt wdX12_readWord_117 adX12_readWord_117.2.2.2.2.1 rfl
theorem dX12_readWord_126 : decode cX12_readWord 126 = .ok (.iaload, 1) := dAt wdX12_readWord_117 adX12_readWord_117.2.2.2.2.2.1 rfl
theorem dX12_readWord_127 : decode cX12_readWord 127 = .ok (.iadd, 1) := dAt wdX12_readWord_117 adX12_readWord_117.2.2.2.2.2.2.1 rfl
theorem dX12_readWord_128 : decode cX12_readWord 128 = .ok (.aload_n 0, 1) := dAt wdX12_readWord_117 adX12_readWord_117.2.2.2.2.2.2.2.1 rfl
theorem dX12_readWord_129 : decode cX12_readWord 129 = .ok (.getfield 20, 3) := dAt wdX12_readWord_117 adX12_readWord_117.2.2.2.2.2.2.2.2.1 rfl
theorem dX12_readWord_132 : decode cX12_readWord 132 = .ok (.aload_n 0, 1) := dAt wdX12_readWord_117 adX12_readWord_117.2.2.2.2.2.2.2.2.2.1 rfl
theorem dX12_readWord_133 : decode cX12_readWord 133 = .ok (.getfield 137, 3) := dAt wdX12_readWord_117 adX12_readWord_117.2.2.2.2.2.2.2.2.2.2.1 rfl
theorem dX12_readWord_136 : decode cX12_readWord 136 = .ok (.iaload, 1) := dAt wdX12_readWord_117 adX12_readWord_117.2.2.2.2.2.2.2.2.2.2.2.1 rfl
theorem dX12_readWord_137 : decode cX12_readWord 137 = .ok (.bipush 97, 2) := dAt wdX12_readWord_117 adX12_readWord_117.2.2.2.2.2.2.2.2.2.2.2.2.1 rfl
theorem dX12_readWord_139 : decode cX12_readWord 139 = .ok (.isub, 1) := dAt wdX12_readWord_117 adX12_readWord_117.2.2.2.2.2.2.2.2.2.2.2.2.2.1 rfl
theorem dX12_readWord_140 : decode cX12_readWord 140 = .ok (.iastore, 1) := dAt wdX12_readWord_117 adX12_readWord_117.2.2.2.2.2.2.2.2.2.2.2.2.2.2.1 rfl
theorem dX12_readWord_141 : decode cX12_readWord 141 = .ok (.aload_n 0, 1) := dAt wdX12_readWord_117 adX12_readWord_117.2.2.2.2.2.2.2.2.2.2.2.2.2.2.2 rfl
def bdX12_readWord_142 : ByteArray := .mk #[180, 0, 30, 21, 5, 92, 46, 4, 96, 79, 42, 89, 180, 0, 137, 4, 96, 181, 0, 137, 167, 255, 157, 42, 180, 0, 36]
theorem wdX12_readWord_142 : LocW cX12_readWord 142 bdX12_readWord_142 := loc_of (by decide +kernel)
theorem adX12_readWord_142 : De bdX12_readWord_142 0 (.getfield 30) 3 ∧ De bdX12_readWord_142 3 (.iload 5) 2 ∧ De bdX12_readWord_142 5 (.dup2) 1 ∧ De bdX12_readWord_142 6 (.iaload) 1 ∧ De bdX12_readWord_142 7 (.iconst 1) 1 ∧ De bdX12_readWord_142 8 (.iadd) 1 ∧ De bdX12_readWord_142 9 (.iastore) 1 ∧ De bdX12_readWord_142 10 (.aload_n 0) 1 ∧ De bdX12_readWord_142 11 (.dup) 1 ∧ De bdX12_readWord_142 12 (.getfield 137) 3 ∧ De bdX12_readWord_142 15 (.iconst 1) 1 ∧ De bdX12_readWord_142 16 (.iadd) 1 ∧ De bdX12_readWord_142 17 (.putfield 137) 3 ∧ De bdX12_readWord_142 20 (.goto (-99)) 3 ∧ De bdX12_readWord_142 23 (.aload_n 0) 1 ∧ De bdX12_readWord_142 24 (.getfield 36) 3 := by decide +kernel
theorem dX12_readWord_142 : decode cX12_readWord 142 = .ok (.getfield 30, 3) := dAt wdX12_readWord_142 adX12_readWord_142.1 rfl
theorem dX12_readWord_145 : decode cX12_readWord 145 = .ok (.iload 5, 2) := dAt wdX12_readWord_142 adX12_readWord_142.2.1 rfl
theorem dX12_readWord_147 : decode cX12_readWord 147 = .ok (.dup2, 1) := dAt wdX12_readWord_142 adX12_readWord_142.2.2.1 rfl
theorem dX12_readWord_148 : decode cX12_readWord 148 = .ok (.iaload, 1) := dAt wdX12_readWord_142 adX12_readWord_142.2.2.2.1 rfl
theorem dX12_readWord_149 : decode cX12_readWord 149 = .ok (.iconst 1, 1) := dAt wdX12_readWord_142 adX12_readWord_142.2.2.2.2.1 rfl
theorem dX12_readWord_150 : decode cX12_readWord 150 = .ok (.iadd, 1) := dAt wdX12_readWord_142 adX12_readWord_142.2.2.2.2.2.1 rfl
theorem dX12_readWord_151 : decode cX12_readWord 151 = .ok (.iastore, 1) := dAt wdX12_readWord_142 adX12_readWord_142.2.2.2.2.2.2.1 rfl
theorem dX12_readWord_152 : decode cX12_readWord 152 = .ok (.aload_n 0, 1) := dAt wdX12_readWord_142 adX12_readWord_142.2.2.2.2.2.2.2.1 rfl
theorem dX12_readWord_153 : decode cX12_readWord 153 = .ok (.dup, 1) := dAt wdX12_readWord_142 adX12_readWord_142.2.2.2.2.2.2.2.2.1 rfl
theorem dX12_readWord_154 : decode cX12_readWord 154 = .ok (.getfield 137, 3) := dAt wdX12_readWord_142 adX12_readWord_142.2.2.2.2.2.2.2.2.2.1 rfl
theorem dX12_readWord_157 : decode cX12_readWord 157 = .ok (.iconst 1, 1) := dAt wdX12_readWord_142 adX12_readWord_142.2.2.2.2.2.2.2.2.2.2.1 rfl
theorem dX12_readWord_158 : decode cX12_readWord 158 = .ok (.iadd, 1) := dAt wdX12_readWord_142 adX12_readWord_142.2.2.2.2.2.2.2.2.2.2.2.1 rfl
theorem dX12_readWord_159 : decode cX12_readWord 159 = .ok (.putfield 137, 3) := dAt wdX12_readWord_142 adX12_readWord_142.2.2.2.2.2.2.2.2.2.2.2.2.1 rfl
theorem dX12_readWord_162 : decode cX12_readWord 162 = .ok (.goto (-99), 3) := dAt wdX12_readWord_142 adX12_readWord_142.2.2.2.2.2.2.2.2.2.2.2.2.2.1 rfl
theorem dX12_readWord_165 : decode cX12_readWord 165 = .ok (.aload_n 0, 1) := dAt wdX12_readWord_142 adX12_readWord_142.2.2.2.2.2.2.2.2.2.2.2.2.2.2.1 rfl
theorem dX12_readWord_166 : decode cX12_readWord 166 = .ok (.getfield 36, 3) := dAt wdX12_readWord_142 adX12_readWord_142.2.2.2.2.2.2.2.2.2.2.2.2.2.2.2 rfl
def bdX12_readWord_169 : ByteArray := .mk #[42, 180, 0, 140, 92, 46, 4, 96, 79, 42, 180, 0, 137, 42, 180, 0, 134, 162, 0, 21, 42, 180, 0, 20, 42, 180, 0, 137]
theorem wdX12_readWord_169 : LocW cX12_readWord 169 bdX12_readWord_169 := loc_of (by decide +kernel)
theorem adX12_readWord_169 : De bdX12_readWord_169 0 (.aload_n 0) 1 ∧ De bdX12_readWord_169 1 (.getfield 140) 3 ∧ De bdX12_readWord_169 4 (.dup2) 1 ∧ De bdX12_readWord_169 5 (.iaload) 1 ∧ De bdX12_readWord_169 6 (.iconst 1) 1 ∧ De bdX12_readWord_169 7 (.iadd) 1 ∧ De bdX12_readWord_169 8 (.iastore) 1 ∧ De bdX12_readWord_169 9 (.aload_n 0) 1 ∧ De bdX12_readWord_169 10 (.getfield 137) 3 ∧ De bdX12_readWord_169 13 (.aload_n 0) 1 ∧ De bdX12_readWord_169 14 (.getfield 134) 3 ∧ De bdX12_readWord_169 17 (.if_icmp .ge 21) 3 ∧ De bdX12_readWord_169 20 (.aload_n 0) 1 ∧ De bdX12_readWord_169 21 (.getfield 20) 3 ∧ De bdX12_readWord_169 24 (.aload_n 0) 1 ∧ De bdX12_readWord_169 25 (.getfield 137) 3 := by decide +kernel
theorem dX12_readWord_169 : decode cX12_readWord 169 = .ok (.aload_n 0, 1) := dAt wdX12_readWord_169 adX12_readWord_169.1 rfl
theorem dX12_readWord_170 : decode cX12_readWord 170 = .ok (.getfield 140, 3) := dAt wdX12_readWord_169 adX12_readWord_169.2.1 rfl
theorem dX12_readWord_173 : decode cX12_readWord 173 = .ok (.dup2, 1) := dAt wdX12_readWord_169 adX12_readWord_169.2.2.1 rfl
theorem dX12_readWord_174 : decode cX12_readWord 174 = .ok (.iaload, 1) := dAt wdX12_readWord_169 adX12_readWord_169.2.2.2.1 rfl
theorem dX12_readWord_175 : decode cX12_readWord 175 = .ok (.iconst 1, 1) := dAt wdX12_readWord_169 adX12_readWord_169.2.2.2.2.1 rfl
theorem dX12_readWord_176 : decode cX12_readWord 176 = .ok (.iadd, 1) := dAt wdX12_readWord_169 adX12_readWord_169.2.2.2.2.2.1 rfl
theorem dX12_readWord_177 : decode cX12_readWord 177 = .ok (.iastore, 1) := dAt wdX12_readWord_169 adX12_readWord_169.2.2.2.2.2.2.1 rfl
theorem dX12_readWord_178 : decode cX12_readWord 178 = .ok (.aload_n 0, 1) := dAt wdX12_readWord_169 adX12_readWord_169.2.2.2.2.2.2.2.1 rfl
theorem dX12_readWord_179 : decode cX12_readWord 179 = .ok (.getfield 137, 3) := dAt wdX12_readWord_169 adX12_readWord_169.2.2.2.2.2.2.2.2.1 rfl
theorem dX12_readWord_182 : decode cX12_readWord 182 = .ok (.aload_n 0, 1) := dAt wdX12_readWord_169 adX12_readWord_169.2.2.2.2.2.2.2.2.2.1 rfl
theorem dX12_readWord_183 : decode cX12_readWord 183 = .ok (.getfield 134, 3) := dAt wdX12_readWord_169 adX12_readWord_169.2.2.2.2.2.2.2.2.2.2.1 rfl
theorem dX12_readWord_186 : decode cX12_readWord 186 = .ok (.if_icmp .ge 21, 3) := dAt wdX12_readWord_169 adX12_readWord_169.2.2.2.2.2.2.2.2.2.2.2.1 rfl
theorem dX12_readWord_189 : decode cX12_readWord 189 = .ok (.aload_n 0, 1) := dAt wdX12_readWord_169 adX12_readWord_169.2.2.2.2.2.2.2.2.2.2.2.2.1 rfl
theorem dX12_readWord_190 : decode cX12_readWord 190 = .ok (.getfield 20, 3) := dAt wdX12_readWord_169 adX12_readWord_169.2.2.2.2.2.2.2.2.2.2.2.2.2.1 rfl
theorem dX12_readWord_193 : decode cX12_readWord 193 = .ok (.aload_n 0, 1) := dAt wdX12_readWord_169 adX12_readWord_169.2.2.2.2.2.2.2.2.2.2.2.2.2.2.1 rfl
theorem dX12_readWord_194 : decode cX12_readWord 194 = .ok (.getfield 137, 3) := dAt wdX12_readWord_169 adX12_readWord_169.2.2.2.2.2.2.2.2.2.2.2.2.2.2.2 rfl
def bdX12_readWord_197 : ByteArray := .mk #[46, 16, 45, 160, 0, 7, 4, 167, 0, 4, 3, 54, 4, 21, 4, 154, 0, 6, 167, 255, 44, 42, 89, 180, 0, 137, 4, 96, 181, 0, 137]
theorem wdX12_readWord_197 : LocW cX12_readWord 197 bdX12_readWord_197 := loc_of (by decide +kernel)
theorem adX12_readWord_197 : De bdX12_readWord_197 0 (.iaload) 1 ∧ De bdX12_readWord_197 1 (.bipush 45) 2 ∧ De bdX12_readWord_197 3 (.if_icmp .ne 7) 3 ∧ De bdX12_readWord_197 6 (.iconst 1) 1 ∧ De bdX12_readWord_197 7 (.goto 4) 3 ∧ De bdX12_readWord_197 10 (.iconst 0) 1 ∧ De bdX12_readWord_197 11 (.istore 4) 2 ∧ De bdX12_readWord_197 13 (.iload 4) 2 ∧ De bdX12_readWord_197 15 (.ifCond .ne 6) 3 ∧ De bdX12_readWord_197 18 (.goto (-212)) 3 ∧ De bdX12_readWord_197 21 (.aload_n 0) 1 ∧ De bdX12_readWord_197 22 (.dup) 1 ∧ De bdX12_readWord_197 23 (.getfield 137) 3 ∧ De bdX12_readWord_197 26 (.iconst 1) 1 ∧ De bdX12_readWord_197 27 (.iadd) 1 ∧ De bdX12_readWord_197 28 (.putfield 137) 3 := by decide +kernel
theorem dX12_readWord_197 : decode cX12_readWord 197 = .ok (.iaload, 1) := dAt wdX12_readWord_197 adX12_readWord_197.1 rfl
theorem dX12_readWord_198 : decode cX12_readWord 198 = .ok (.bipush 45, 2) := dAt wdX12_readWord_197 adX12_readWord_197.2.1 rfl
theorem dX12_readWord_200 : decode cX12_readWord 200 = .ok (.if_icmp .ne 7, 3) := dAt wdX12_readWord_197 adX12_readWord_197.2.2.1 rfl
theorem dX12_readWord_203 : decode cX12_readWord 203 = .ok (.iconst 1, 1) := dAt wdX12_readWord_197 adX12_readWord_197.2.2.2.1 rfl
theorem dX12_readWord_204 : decode cX12_readWord 204 = .ok (.goto 4, 3) := dAt wdX12_readWord_197 adX12_readWord_197.2.2.2.2.1 rfl
theorem dX12_readWord_207 : decode cX12_readWord 207 = .ok (.iconst 0, 1) := dAt wdX12_readWord_197 adX12_readWord_197.2.2.2.2.2.1 rfl
theorem dX12_readWord_208 : decode cX12_readWord 208 = .ok (.istore 4, 2) := dAt wdX12_readWord_197 adX12_readWord_197.2.2.2.2.2.2.1 rfl
theorem dX12_readWord_210 : decode cX12_readWord 210 = .ok (.iload 4, 2) := dAt wdX12_readWord_197 adX12_readWord_197.2.2.2.2.2.2.2.1 rfl
theorem dX12_readWord_212 : decode cX12_readWord 212 = .ok (.ifCond .ne 6, 3) := dAt wdX12_readWord_197 adX12_readWord_197.2.2.2.2.2.2.2.2.1 rfl
theorem dX12_readWord_215 : decode cX12_readWord 215 = .ok (.goto (-212), 3) := dAt wdX12_readWord_197 adX12_readWord_197.2.2.2.2.2.2.2.2.2.1 rfl
theorem dX12_readWord_218 : decode cX12_readWord 218 = .ok (.aload_n 0, 1) := dAt wdX12_readWord_197 adX12_readWord_197.2.2.2.2.2.2.2.2.2.2.1 rfl
theorem dX12_readWord_219 : decode cX12_readWord 219 = .ok (.dup, 1) := dAt wdX12_readWord_197 adX12_readWord_197.2.2.2.2.2.2.2.2.2.2.2.1 rfl
theorem dX12_readWord_220 : decode cX12_readWord 220 = .ok (.getfield 137, 3) := dAt wdX12_readWord_197 adX12_readWord_197.2.2.2.2.2.2.2.2.2.2.2.2.1 rfl
theorem dX12_readWord_223 : decode cX12_readWord 223 = .ok (.iconst 1, 1) := dAt wdX12_readWord_197 adX12_readWord_197.2.2.2.2.2.2.2.2.2.2.2.2.2.1 rfl
theorem dX12_readWord_224 : decode cX12_readWord 224 = .ok (.iadd, 1) := dAt wdX12_readWord_197 adX12_readWord_197.2.2.2.2.2.2.2.2.2.2.2.2.2.2.1 rfl
theorem dX12_readWord_225 : decode cX12_readWord 225 = .ok (.putfield 137, 3) := dAt wdX12_readWord_197 adX12_readWord_197.2.2.2.2.2.2.2.2.2.2.2.2.2.2.2 rfl
def bdX12_readWord_228 : ByteArray := .mk #[42, 180, 0, 137, 42, 180, 0, 134, 162, 0, 18, 42, 180, 0, 20, 42, 180, 0, 137, 46, 184, 0, 143, 154, 0, 13, 42, 42, 180, 0, 137, 181, 0, 23]
theorem wdX12_readWord_228 : LocW cX12_readWord 228 bdX12_readWord_228 := loc_of (by decide +kernel)
theorem adX12_readWord_228 : De bdX12_readWord_228 0 (.aload_n 0) 1 ∧ De bdX12_readWord_228 1 (.getfield 137) 3 ∧ De bdX12_readWord_228 4 (.aload_n 0) 1 ∧ De bdX12_readWord_228 5 (.getfield 134) 3 ∧ De bdX12_readWord_228 8 (.if_icmp .ge 18) 3 ∧ De bdX12_readWord_228 11 (.aload_n 0) 1 ∧ De bdX12_readWord_228 12 (.getfield 20) 3 ∧ De bdX12_readWord_228 15 (.aload_n 0) 1 ∧ De bdX12_readWord_228 16 (.getfield 137) 3 ∧ De bdX12_readWord_228 19 (.iaload) 1 ∧ De bdX12_readWord_228 20 (.invokestatic 143) 3 ∧ De bdX12_readWord_228 23 (.ifCond .ne 13) 3 ∧ De bdX12_readWord_228 26 (.aload_n 0) 1 ∧ De bdX12_readWord_228 27 (.aload_n 0) 1 ∧ De bdX12_readWord_228 28 (.getfield 137) 3 ∧ De bdX12_readWord_228 31 (.putfield 23) 3 := by decide +kernel
theorem dX12_readWord_228 : decode cX12_readWord 228 = .ok (.aload_n 0, 1) := dAt wdX12_readWord_228 adX12_readWord_228.1 rfl
theorem dX12_readWord_229 : decode cX12_readWord 229 = .ok (.getfield 137, 3) := dAt wdX12_readWord_228 adX12_readWord_228.2.1 rfl
theorem dX12_readWord_232 : decode cX12_readWord 232 = .ok (.aload_n 0, 1) := dAt wdX12_readWord_228 adX12_readWord_228.2.2.1 rfl
theorem dX12_readWord_233 : decode cX12_readWord 233 = .ok (.getfield 134, 3) := dAt wdX12_readWord_228 adX12_readWord_228.2.2.2.1 rfl
theorem dX12_readWord_236 : decode cX12_readWord 236 = .ok (.if_icmp .ge 18, 3) := dAt wdX12_readWord_228 adX12_readWord_228.2.2.2.2.1 rfl
theorem dX12_readWord_239 : decode cX12_readWord 239 = .ok (.aload_n 0, 1) := dAt wdX12_readWord_228 adX12_readWord_228.2.2.2.2.2.1 rfl
theorem dX12_readWord_240 : decode cX12_readWord 240 = .ok (.getfield 20, 3) := dAt wdX12_readWord_228 adX12_readWord_228.2.2.2.2.2.2.1 rfl
theorem dX12_readWord_243 : decode cX12_readWord 243 = .ok (.aload_n 0, 1) := dAt wdX12_readWord_228 adX12_readWord_228.2.2.2.2.2.2.2.1 rfl
theorem dX12_readWord_244 : decode cX12_readWord 244 = .ok (.getfield 137, 3) := dAt wdX12_readWord_228 adX12_readWord_228.2.2.2.2.2.2.2.2.1 rfl
theorem dX12_readWord_247 : decode cX12_readWord 247 = .ok (.iaload, 1) := dAt wdX12_readWord_228 adX12_readWord_228.2.2.2.2.2.2.2.2.2.1 rfl
theorem dX12_readWord_248 : decode cX12_readWord 248 = .ok (.invokestatic 143, 3) := dAt wdX12_readWord_228 adX12_readWord_228.2.2.2.2.2.2.2.2.2.2.1 rfl
theorem dX12_readWord_251 : decode cX12_readWord 251 = .ok (.ifCond .ne 13, 3) := dAt wdX12_readWord_228 adX12_readWord_228.2.2.2.2.2.2.2.2.2.2.2.1 rfl
theorem dX12_readWord_254 : decode cX12_readWord 254 = .ok (.aload_n 0, 1) := dAt wdX12_readWord_228 adX12_readWord_228.2.2.2.2.2.2.2.2.2.2.2.2.1 rfl
theorem dX12_readWord_255 : decode cX12_readWord 255 = .ok (.aload_n 0, 1) := dAt wdX12_readWord_228 adX12_readWord_228.2.2.2.2.2.2.2.2.2.2.2.2.2.1 rfl
theorem dX12_readWord_256 : decode cX12_readWord 256 = .ok (.getfield 137, 3) := dAt wdX12_readWord_228 adX12_readWord_228.2.2.2.2.2.2.2.2.2.2.2.2.2.2.1 rfl
theorem dX12_readWord_259 : decode cX12_readWord 259 = .ok (.putfield 23, 3) := dAt wdX12_readWord_228 adX12_readWord_228.2.2.2.2.2.2.2.2.2.2.2.2.2.2.2 rfl
def bdX12_readWord_262 : ByteArray := .mk #[3, 172, 167, 254, 251, 4, 172]
theorem wdX12_readWord_262 : LocW cX12_readWord 262 bdX12_readWord_262 := loc_of (by decide +kernel)
theorem adX12_readWord_262 : De bdX12_readWord_262 0 (.iconst 0) 1 ∧ De bdX12_readWord_262 1 (.ireturn) 1 ∧ De bdX12_readWord_262 2 (.goto (-261)) 3 ∧ De bdX12_readWord_262 5 (.iconst 1) 1 ∧ De bdX12_readWord_262 6 (.ireturn) 1 := by decide +kernel
theorem dX12_readWord_262 : decode cX12_readWord 262 = .ok (.iconst 0, 1) := dAt wdX12_readWord_262 adX12_readWord_262.1 rfl
theorem dX12_readWord_263 : decode cX12_readWord 263 = .ok (.ireturn, 1) := dAt wdX12_readWord_262 adX12_readWord_262.2.1 rfl
theorem dX12_readWord_264 : decode cX12_readWord 264 = .ok (.goto (-261), 3) := dAt wdX12_readWord_262 adX12_readWord_262.2.2.1 rfl
theorem dX12_readWord_267 : decode cX12_readWord 267 = .ok (.iconst 1, 1) := dAt wdX12_readWord_262 adX12_readWord_262.2.2.2.1 rfl
theorem dX12_readWord_268 : decode cX12_readWord 268 = .ok (.ireturn, 1) := dAt wdX12_readWord_262 adX12_readWord_262.2.2.2.2 rfl
def bdX12_blanks_0 : ByteArray := .mk #[42, 180, 0, 137, 42, 180, 0, 134, 162, 0, 30, 42, 180, 0, 20, 42, 180, 0, 137, 46, 16, 32, 160, 0, 16, 42, 89, 180, 0, 137, 4]
theorem wdX12_blanks_0 : LocW cX12_blanks 0 bdX12_blanks_0 := loc_of (by decide +kernel)
theorem adX12_blanks_0 : De bdX12_blanks_0 0 (.aload_n 0) 1 ∧ De bdX12_blanks_0 1 (.getfield 137) 3 ∧ De bdX12_blanks_0 4 (.aload_n 0) 1 ∧ De bdX12_blanks_0 5 (.getfield 134) 3 ∧ De bdX12_blanks_0 8 (.if_icmp .ge 30) 3 ∧ De bdX12_blanks_0 11 (.aload_n 0) 1 ∧ De bdX12_blanks_0 12 (.getfield 20) 3 ∧ De bdX12_blanks_0 15 (.aload_n 0) 1 ∧ De bdX12_blanks_0 16 (.getfield 137) 3 ∧ De bdX12_blanks_0 19 (.iaload) 1 ∧ De bdX12_blanks_0 20 (.bipush 32) 2 ∧ De bdX12_blanks_0 22 (.if_icmp .ne 16) 3 ∧ De bdX12_blanks_0 25 (.aload_n 0) 1 ∧ De bdX12_blanks_0 26 (.dup) 1 ∧ De bdX12_blanks_0 27 (.getfield 137) 3 ∧ De bdX12_blanks_0 30 (.iconst 1) 1 := by decide +kernel
theorem dX12_blanks_0 : decode cX12_blanks 0 = .ok (.aload_n 0, 1) := dAt wdX12_blanks_0 adX12_blanks_0.1 rfl
theorem dX12_blanks_1 : decode cX12_blanks 1 = .ok (.getfield 137, 3) := dAt wdX12_blanks_0 adX12_blanks_0.2.1 rfl
theorem dX12_blanks_4 : decode cX12_blanks 4 = .ok (.aload_n 0, 1) := dAt wdX12_blanks_0 adX12_blanks_0.2.2.1 rfl
theorem dX12_blanks_5 : decode cX12_blanks 5 = .ok (.getfield 134, 3) := dAt wdX12_blanks_0 adX12_blanks_0.2.2.2.1 rfl
theorem dX12_blanks_8 : decode cX12_blanks 8 = .ok (.if_icmp .ge 30, 3) := dAt wdX12_blanks_0 adX12_blanks_0.2.2.2.2.1 rfl
theorem dX12_blanks_11 : decode cX12_blanks 11 = .ok (.aload_n 0, 1) := dAt wdX12_blanks_0 adX12_blanks_0.2.2.2.2.2.1 rfl
theorem dX12_blanks_12 : decode cX12_blanks 12 = .ok (.getfield 20, 3) := dAt wdX12_blanks_0 adX12_blanks_0.2.2.2.2.2.2.1 rfl
theorem dX12_blanks_15 : decode cX12_blanks 15 = .ok (.aload_n 0, 1) := dAt wdX12_blanks_0 adX12_blanks_0.2.2.2.2.2.2.2.1 rfl
theorem dX12_blanks_16 : decode cX12_blanks 16 = .ok (.getfield 137, 3) := dAt wdX12_blanks_0 adX12_blanks_0.2.2.2.2.2.2.2.2.1 rfl
theorem dX12_blanks_19 : decode cX12_blanks 19 = .ok (.iaload, 1) := dAt wdX12_blanks_0 adX12_blanks_0.2.2.2.2.2.2.2.2.2.1 rfl
theorem dX12_blanks_20 : decode cX12_blanks 20 = .ok (.bipush 32, 2) := dAt wdX12_blanks_0 adX12_blanks_0.2.2.2.2.2.2.2.2.2.2.1 rfl
theorem dX12_blanks_22 : decode cX12_blanks 22 = .ok (.if_icmp .ne 16, 3) := dAt wdX12_blanks_0 adX12_blanks_0.2.2.2.2.2.2.2.2.2.2.2.1 rfl
theorem dX12_blanks_25 : decode cX12_blanks 25 = .ok (.aload_n 0, 1) := dAt wdX12_blanks_0 adX12_blanks_0.2.2.2.2.2.2.2.2.2.2.2.2.1 rfl
theorem dX12_blanks_26 : decode cX12_blanks 26 = .ok (.dup, 1) := dAt wdX12_blanks_0 adX12_blanks_0.2.2.2.2.2.2.2.2.2.2.2.2.2.1 rfl
theorem dX12_blanks_27 : decode cX12_blanks 27 = .ok (.getfield 137, 3) := dAt wdX12_blanks_0 adX12_blanks_0.2.2.2.2.2.2.2.2.2.2.2.2.2.2.1 rfl
theorem dX12_blanks_30 : decode cX12_blanks 30 = .ok (.iconst 1, 1) := dAt wdX12_blanks_0 adX12_blanks_0.2.2.2.2.2.2.2.2.2.2.2.2.2.2.2 rfl
def bdX12_blanks_31 : ByteArray := .mk #[96, 181, 0, 137, 167, 255, 221, 177]
theorem wdX12_blanks_31 : LocW cX12_blanks 31 bdX12_blanks_31 := loc_of (by decide +kernel)
theorem adX12_blanks_31 : De bdX12_blanks_31 0 (.iadd) 1 ∧ De bdX12_blanks_31 1 (.putfield 137) 3 ∧ De bdX12_blanks_31 4 (.goto (-35)) 3 ∧ De bdX12_blanks_31 7 (.return_) 1 := by decide +kernel
theorem dX12_blanks_31 : decode cX12_blanks 31 = .ok (.iadd, 1) := dAt wdX12_blanks_31 adX12_blanks_31.1 rfl
theorem dX12_blanks_32 : decode cX12_blanks 32 = .ok (.putfield 137, 3) := dAt wdX12_blanks_31 adX12_blanks_31.2.1 rfl
theorem dX12_blanks_35 : decode cX12_blanks 35 = .ok (.goto (-35), 3) := dAt wdX12_blanks_31 adX12_blanks_31.2.2.1 rfl
theorem dX12_blanks_38 : decode cX12_blanks 38 = .ok (.return_, 1) := dAt wdX12_blanks_31 adX12_blanks_31.2.2.2 rfl
def bdX12_readStory_0 : ByteArray := .mk #[42, 3, 181, 0, 140, 42, 180, 0, 36, 3, 3, 79, 42, 180, 0, 39, 3, 3, 79, 42, 182, 0, 147, 42]
theorem wdX12_readStory_0 : LocW cX12_readStory 0 bdX12_readStory_0 := loc_of (by decide +kernel)
theorem adX12_readStory_0 : De bdX12_readStory_0 0 (.aload_n 0) 1 ∧ De bdX12_readStory_0 1 (.iconst 0) 1 ∧ De bdX12_readStory_0 2 (.putfield 140) 3 ∧ De bdX12_readStory_0 5 (.aload_n 0) 1 ∧ De bdX12_readStory_0 6 (.getfield 36) 3 ∧ De bdX12_readStory_0 9 (.iconst 0) 1 ∧ De bdX12_readStory_0 10 (.iconst 0) 1 ∧ De bdX12_readStory_0 11 (.iastore) 1 ∧ De bdX12_readStory_0 12 (.aload_n 0) 1 ∧ De bdX12_readStory_0 13 (.getfield 39) 3 ∧ De bdX12_readStory_0 16 (.iconst 0) 1 ∧ De bdX12_readStory_0 17 (.iconst 0) 1 ∧ De bdX12_readStory_0 18 (.iastore) 1 ∧ De bdX12_readStory_0 19 (.aload_n 0) 1 ∧ De bdX12_readStory_0 20 (.invokevirtual 147) 3 ∧ De bdX12_readStory_0 23 (.aload_n 0) 1 := by decide +kernel
theorem dX12_readStory_0 : decode cX12_readStory 0 = .ok (.aload_n 0, 1) := dAt wdX12_readStory_0 adX12_readStory_0.1 rfl
theorem dX12_readStory_1 : decode cX12_readStory 1 = .ok (.iconst 0, 1) := dAt wdX12_readStory_0 adX12_readStory_0.2.1 rfl
theorem dX12_readStory_2 : decode cX12_readStory 2 = .ok (.putfield 140, 3) := dAt wdX12_readStory_0 adX12_readStory_0.2.2.1 rfl
theorem dX12_readStory_5 : decode cX12_readStory 5 = .ok (.aload_n 0, 1) := dAt wdX12_readStory_0 adX12_readStory_0.2.2.2.1 rfl
theorem dX12_readStory_6 : decode cX12_readStory 6 = .ok (.getfield 36, 3) := dAt wdX12_readStory_0 adX12_readStory_0.2.2.2.2.1 rfl
theorem dX12_readStory_9 : decode cX12_readStory 9 = .ok (.iconst 0, 1) := dAt wdX12_readStory_0 adX12_readStory_0.2.2.2.2.2.1 rfl
theorem dX12_readStory_10 : decode cX12_readStory 10 = .ok (.iconst 0, 1) := dAt wdX12_readStory_0 adX12_readStory_0.2.2.2.2.2.2.1 rfl
theorem dX12_readStory_11 : decode cX12_readStory 11 = .ok (.iastore, 1) := dAt wdX12_readStory_0 adX12_readStory_0.2.2.2.2.2.2.2.1 rfl
theorem dX12_readStory_12 : decode cX12_readStory 12 = .ok (.aload_n 0, 1) := dAt wdX12_readStory_0 adX12_readStory_0.2.2.2.2.2.2.2.2.1 rfl
theorem dX12_readStory_13 : decode cX12_readStory 13 = .ok (.getfield 39, 3) := dAt wdX12_readStory_0 adX12_readStory_0.2.2.2.2.2.2.2.2.2.1 rfl
theorem dX12_readStory_16 : decode cX12_readStory 16 = .ok (.iconst 0, 1) := dAt wdX12_readStory_0 adX12_readStory_0.2.2.2.2.2.2.2.2.2.2.1 rfl
theorem dX12_readStory_17 : decode cX12_readStory 17 = .ok (.iconst 0, 1) := dAt wdX12_readStory_0 adX12_readStory_0.2.2.2.2.2.2.2.2.2.2.2.1 rfl
theorem dX12_readStory_18 : decode cX12_readStory 18 = .ok (.iastore, 1) := dAt wdX12_readStory_0 adX12_readStory_0.2.2.2.2.2.2.2.2.2.2.2.2.1 rfl
theorem dX12_readStory_19 : decode cX12_readStory 19 = .ok (.aload_n 0, 1) := dAt wdX12_readStory_0 adX12_readStory_0.2.2.2.2.2.2.2.2.2.2.2.2.2.1 rfl
theorem dX12_readStory_20 : decode cX12_readStory 20 = .ok (.invokevirtual 147, 3) := dAt wdX12_readStory_0 adX12_readStory_0.2.2.2.2.2.2.2.2.2.2.2.2.2.2.1 rfl
theorem dX12_readStory_23 : decode cX12_readStory 23 = .ok (.aload_n 0, 1) := dAt wdX12_readStory_0 adX12_readStory_0.2.2.2.2.2.2.2.2.2.2.2.2.2.2.2 rfl
def bdX12_readStory_24 : ByteArray := .mk #[180, 0, 137, 42, 180, 0, 134, 162, 0, 225, 42, 180, 0, 20, 42, 180, 0, 137, 46, 60, 27, 184, 0, 143, 153, 0, 122, 42, 180, 0, 39, 42]
theorem wdX12_readStory_24 : LocW cX12_readStory 24 bdX12_readStory_24 := loc_of (by decide +kernel)
theorem adX12_readStory_24 : De bdX12_readStory_24 0 (.getfield 137) 3 ∧ De bdX12_readStory_24 3 (.aload_n 0) 1 ∧ De bdX12_readStory_24 4 (.getfield 134) 3 ∧ De bdX12_readStory_24 7 (.if_icmp .ge 225) 3 ∧ De bdX12_readStory_24 10 (.aload_n 0) 1 ∧ De bdX12_readStory_24 11 (.getfield 20) 3 ∧ De bdX12_readStory_24 14 (.aload_n 0) 1 ∧ De bdX12_readStory_24 15 (.getfield 137) 3 ∧ De bdX12_readStory_24 18 (.iaload) 1 ∧ De bdX12_readStory_24 19 (.istore_n 1) 1 ∧ De bdX12_readStory_24 20 (.iload_n 1) 1 ∧ De bdX12_readStory_24 21 (.invokestatic 143) 3 ∧ De bdX12_readStory_24 24 (.ifCond .eq 122) 3 ∧ De bdX12_readStory_24 27 (.aload_n 0) 1 ∧ De bdX12_readStory_24 28 (.getfield 39) 3 ∧ De bdX12_readStory_24 31 (.aload_n 0) 1 := by decide +kernel
theorem dX12_readStory_24 : decode cX12_readStory 24 = .ok (.getfield 137, 3) := dAt wdX12_readStory_24 adX12_readStory_24.1 rfl
theorem dX12_readStory_27 : decode cX12_readStory 27 = .ok (.aload_n 0, 1) := dAt wdX12_readStory_24 adX12_readStory_24.2.1 rfl
theorem dX12_readStory_28 : decode cX12_readStory 28 = .ok (.getfield 134, 3) := dAt wdX12_readStory_24 adX12_readStory_24.2.2.1 rfl
theorem dX12_readStory_31 : decode cX12_readStory 31 = .ok (.if_icmp .ge 225, 3) := dAt wdX12_readStory_24 adX12_readStory_24.2.2.2.1 rfl
theorem dX12_readStory_34 : decode cX12_readStory 34 = .ok (.aload_n 0, 1) := dAt wdX12_readStory_24 adX12_readStory_24.2.2.2.2.1 rfl
theorem dX12_readStory_35 : decode cX12_readStory 35 = .ok (.getfield 20, 3) := dAt wdX12_readStory_24 adX12_readStory_24.2.2.2.2.2.1 rfl
theorem dX12_readStory_38 : decode cX12_readStory 38 = .ok (.aload_n 0, 1) := dAt wdX12_readStory_24 adX12_readStory_24.2.2.2.2.2.2.1 rfl
theorem dX12_readStory_39 : decode cX12_readStory 39 = .ok (.getfield 137, 3) := dAt wdX12_readStory_24 adX12_readStory_24.2.2.2.2.2.2.2.1 rfl
theorem dX12_readStory_42 : decode cX12_readStory 42 = .ok (.iaload, 1) := dAt wdX12_readStory_24 adX12_readStory_24.2.2.2.2.2.2.2.2.1 rfl
theorem dX12_readStory_43 : decode cX12_readStory 43 = .ok (.istore_n 1, 1) := dAt wdX12_readStory_24 adX12_readStory_24.2.2.2.2.2.2.2.2.2.1 rfl
theorem dX12_readStory_44 : decode cX12_readStory 44 = .ok (.iload_n 1, 1) := dAt wdX12_readStory_24 adX12_readStory_24.2.2.2.2.2.2.2.2.2.2.1 rfl
theorem dX12_readStory_45 : decode cX12_readStory 45 = .ok (.invokestatic 143, 3) := dAt wdX12_readStory_24 adX12_readStory_24.2.2.2.2.2.2.2.2.2.2.2.1 rfl
theorem dX12_readStory_48 : decode cX12_readStory 48 = .ok (.ifCond .eq 122, 3) := dAt wdX12_readStory_24 adX12_readStory_24.2.2.2.2.2.2.2.2.2.2.2.2.1 rfl
theorem dX12_readStory_51 : decode cX12_readStory 51 = .ok (.aload_n 0, 1) := dAt wdX12_readStory_24 adX12_readStory_24.2.2.2.2.2.2.2.2.2.2.2.2.2.1 rfl
theorem dX12_readStory_52 : decode cX12_readStory 52 = .ok (.getfield 39, 3) := dAt wdX12_readStory_24 adX12_readStory_24.2.2.2.2.2.2.2.2.2.2.2.2.2.2.1 rfl
theorem dX12_readStory_55 : decode cX12_readStory 55 = .ok (.aload_n 0, 1) := dAt wdX12_readStory_24 adX12_readStory_24.2.2.2.2.2.2.2.2.2.2.2.2.2.2.2 rfl
def bdX12_readStory_56 : ByteArray := .mk #[180, 0, 140, 46, 16, 24, 160, 0, 13, 42, 42, 180, 0, 137, 181, 0, 23, 3, 172, 42, 16, 40, 42, 180, 0, 140, 104, 42]
theorem wdX12_readStory_56 : LocW cX12_readStory 56 bdX12_readStory_56 := loc_of (by decide +kernel)
theorem adX12_readStory_56 : De bdX12_readStory_56 0 (.getfield 140) 3 ∧ De bdX12_readStory_56 3 (.iaload) 1 ∧ De bdX12_readStory_56 4 (.bipush 24) 2 ∧ De bdX12_readStory_56 6 (.if_icmp .ne 13) 3 ∧ De bdX12_readStory_56 9 (.aload_n 0) 1 ∧ De bdX12_readStory_56 10 (.aload_n 0) 1 ∧ De bdX12_readStory_56 11 (.getfield 137) 3 ∧ De bdX12_readStory_56 14 (.putfield 23) 3 ∧ De bdX12_readStory_56 17 (.iconst 0) 1 ∧ De bdX12_readStory_56 18 (.ireturn) 1 ∧ De bdX12_readStory_56 19 (.aload_n 0) 1 ∧ De bdX12_readStory_56 20 (.bipush 40) 2 ∧ De bdX12_readStory_56 22 (.aload_n 0) 1 ∧ De bdX12_readStory_56 23 (.getfield 140) 3 ∧ De bdX12_readStory_56 26 (.imul) 1 ∧ De bdX12_readStory_56 27 (.aload_n 0) 1 := by decide +kernel
theorem dX12_readStory_56 : decode cX12_readStory 56 = .ok (.getfield 140, 3) := dAt wdX12_readStory_56 adX12_readStory_56.1 rfl
theorem dX12_readStory_59 : decode cX12_readStory 59 = .ok (.iaload, 1) := dAt wdX12_readStory_56 adX12_readStory_56.2.1 rfl
theorem dX12_readStory_60 : decode cX12_readStory 60 = .ok (.bipush 24, 2) := dAt wdX12_readStory_56 adX12_readStory_56.2.2.1 rfl
theorem dX12_readStory_62 : decode cX12_readStory 62 = .ok (.if_icmp .ne 13, 3) := dAt wdX12_readStory_56 adX12_readStory_56.2.2.2.1 rfl
theorem dX12_readStory_65 : decode cX12_readStory 65 = .ok (.aload_n 0, 1) := dAt wdX12_readStory_56 adX12_readStory_56.2.2.2.2.1 rfl
theorem dX12_readStory_66 : decode cX12_readStory 66 = .ok (.aload_n 0, 1) := dAt wdX12_readStory_56 adX12_readStory_56.2.2.2.2.2.1 rfl
theorem dX12_readStory_67 : decode cX12_readStory 67 = .ok (.getfield 137, 3) := dAt wdX12_readStory_56 adX12_readStory_56.2.2.2.2.2.2.1 rfl
theorem dX12_readStory_70 : decode cX12_readStory 70 = .ok (.putfield 23, 3) := dAt wdX12_readStory_56 adX12_readStory_56.2.2.2.2.2.2.2.1 rfl
theorem dX12_readStory_73 : decode cX12_readStory 73 = .ok (.iconst 0, 1) := dAt wdX12_readStory_56 adX12_readStory_56.2.2.2.2.2.2.2.2.1 rfl
theorem dX12_readStory_74 : decode cX12_readStory 74 = .ok (.ireturn, 1) := dAt wdX12_readStory_56 adX12_readStory_56.2.2.2.2.2.2.2.2.2.1 rfl
theorem dX12_readStory_75 : decode cX12_readStory 75 = .ok (.aload_n 0, 1) := dAt wdX12_readStory_56 adX12_readStory_56.2.2.2.2.2.2.2.2.2.2.1 rfl
theorem dX12_readStory_76 : decode cX12_readStory 76 = .ok (.bipush 40, 2) := dAt wdX12_readStory_56 adX12_readStory_56.2.2.2.2.2.2.2.2.2.2.2.1 rfl
theorem dX12_readStory_78 : decode cX12_readStory 78 = .ok (.aload_n 0, 1) := dAt wdX12_readStory_56 adX12_readStory_56.2.2.2.2.2.2.2.2.2.2.2.2.1 rfl
theorem dX12_readStory_79 : decode cX12_readStory 79 = .ok (.getfield 140, 3) := dAt wdX12_readStory_56 adX12_readStory_56.2.2.2.2.2.2.2.2.2.2.2.2.2.1 rfl
theorem dX12_readStory_82 : decode cX12_readStory 82 = .ok (.imul, 1) := dAt wdX12_readStory_56 adX12_readStory_56.2.2.2.2.2.2.2.2.2.2.2.2.2.2.1 rfl
theorem dX12_readStory_83 : decode cX12_readStory 83 = .ok (.aload_n 0, 1) := dAt wdX12_readStory_56 adX12_readStory_56.2.2.2.2.2.2.2.2.2.2.2.2.2.2.2 rfl
def bdX12_readStory_84 : ByteArray := .mk #[180, 0, 39, 42, 180, 0, 140, 46, 3, 182, 0, 150, 154, 0, 5, 3, 172, 42, 180, 0, 39, 42, 180, 0, 140, 92, 46, 4]
theorem wdX12_readStory_84 : LocW cX12_readStory 84 bdX12_readStory_84 := loc_of (by decide +kernel)
theorem adX12_readStory_84 : De bdX12_readStory_84 0 (.getfield 39) 3 ∧ De bdX12_readStory_84 3 (.aload_n 0) 1 ∧ De bdX12_readStory_84 4 (.getfield 140) 3 ∧ De bdX12_readStory_84 7 (.iaload) 1 ∧ De bdX12_readStory_84 8 (.iconst 0) 1 ∧ De bdX12_readStory_84 9 (.invokevirtual 150) 3 ∧ De bdX12_readStory_84 12 (.ifCond .ne 5) 3 ∧ De bdX12_readStory_84 15 (.iconst 0) 1 ∧ De bdX12_readStory_84 16 (.ireturn) 1 ∧ De bdX12_readStory_84 17 (.aload_n 0) 1 ∧ De bdX12_readStory_84 18 (.getfield 39) 3 ∧ De bdX12_readStory_84 21 (.aload_n 0) 1 ∧ De bdX12_readStory_84 22 (.getfield 140) 3 ∧ De bdX12_readStory_84 25 (.dup2) 1 ∧ De bdX12_readStory_84 26 (.iaload) 1 ∧ De bdX12_readStory_84 27 (.iconst 1) 1 := by decide +kernel
theorem dX12_readStory_84 : decode cX12_readStory 84 = .ok (.getfield 39, 3) := dAt wdX12_readStory_84 adX12_readStory_84.1 rfl
theorem dX12_readStory_87 : decode cX12_readStory 87 = .ok (.aload_n 0, 1) := dAt wdX12_readStory_84 adX12_readStory_84.2.1 rfl
theorem dX12_readStory_88 : decode cX12_readStory 88 = .ok (.getfield 140, 3) := dAt wdX12_readStory_84 adX12_readStory_84.2.2.1 rfl
theorem dX12_readStory_91 : decode cX12_readStory 91 = .ok (.iaload, 1) := dAt wdX12_readStory_84 adX12_readStory_84.2.2.2.1 rfl
theorem dX12_readStory_92 : decode cX12_readStory 92 = .ok (.iconst 0, 1) := dAt wdX12_readStory_84 adX12_readStory_84.2.2.2.2.1 rfl
theorem dX12_readStory_93 : decode cX12_readStory 93 = .ok (.invokevirtual 150, 3) := dAt wdX12_readStory_84 adX12_readStory_84.2.2.2.2.2.1 rfl
theorem dX12_readStory_96 : decode cX12_readStory 96 = .ok (.ifCond .ne 5, 3) := dAt wdX12_readStory_84 adX12_readStory_84.2.2.2.2.2.2.1 rfl
theorem dX12_readStory_99 : decode cX12_readStory 99 = .ok (.iconst 0, 1) := dAt wdX12_readStory_84 adX12_readStory_84.2.2.2.2.2.2.2.1 rfl
theorem dX12_readStory_100 : decode cX12_readStory 100 = .ok (.ireturn, 1) := dAt wdX12_readStory_84 adX12_readStory_84.2.2.2.2.2.2.2.2.1 rfl
theorem dX12_readStory_101 : decode cX12_readStory 101 = .ok (.aload_n 0, 1) := dAt wdX12_readStory_84 adX12_readStory_84.2.2.2.2.2.2.2.2.2.1 rfl
theorem dX12_readStory_102 : decode cX12_readStory 102 = .ok (.getfield 39, 3) := dAt wdX12_readStory_84 adX12_readStory_84.2.2.2.2.2.2.2.2.2.2.1 rfl
theorem dX12_readStory_105 : decode cX12_readStory 105 = .ok (.aload_n 0, 1) := dAt wdX12_readStory_84 adX12_readStory_84.2.2.2.2.2.2.2.2.2.2.2.1 rfl
theorem dX12_readStory_106 : decode cX12_readStory 106 = .ok (.getfield 140, 3) := dAt wdX12_readStory_84 adX12_readStory_84.2.2.2.2.2.2.2.2.2.2.2.2.1 rfl
theorem dX12_readStory_109 : decode cX12_readStory 109 = .ok (.dup2, 1) := dAt wdX12_readStory_84 adX12_readStory_84.2.2.2.2.2.2.2.2.2.2.2.2.2.1 rfl
theorem dX12_readStory_110 : decode cX12_readStory 110 = .ok (.iaload, 1) := dAt wdX12_readStory_84 adX12_readStory_84.2.2.2.2.2.2.2.2.2.2.2.2.2.2.1 rfl
theorem dX12_readStory_111 : decode cX12_readStory 111 = .ok (.iconst 1, 1) := dAt wdX12_readStory_84 adX12_readStory_84.2.2.2.2.2.2.2.2.2.2.2.2.2.2.2 rfl
def bdX12_readStory_112 : ByteArray := .mk #[96, 79, 42, 180, 0, 137, 42, 180, 0, 134, 162, 0, 41, 42, 180, 0, 20, 42, 180, 0, 137, 46, 16, 32, 159, 0, 27, 42, 180, 0, 20]
theorem wdX12_readStory_112 : LocW cX12_readStory 112 bdX12_readStory_112 := loc_of (by decide +kernel)
theorem adX12_readStory_112 : De bdX12_readStory_112 0 (.iadd) 1 ∧ De bdX12_readStory_112 1 (.iastore) 1 ∧ De bdX12_readStory_112 2 (.aload_n 0) 1 ∧ De bdX12_readStory_112 3 (.getfield 137) 3 ∧ De bdX12_readStory_112 6 (.aload_n 0) 1 ∧ De bdX12_readStory_112 7 (.getfield 134) 3 ∧ De bdX12_readStory_112 10 (.if_icmp .ge 41) 3 ∧ De bdX12_readStory_112 13 (.aload_n 0) 1 ∧ De bdX12_readStory_112 14 (.getfield 20) 3 ∧ De bdX12_readStory_112 17 (.aload_n 0) 1 ∧ De bdX12_readStory_112 18 (.getfield 137) 3 ∧ De bdX12_readStory_112 21 (.iaload) 1 ∧ De bdX12_readStory_112 22 (.bipush 32) 2 ∧ De bdX12_readStory_112 24 (.if_icmp .eq 27) 3 ∧ De bdX12_readStory_112 27 (.aload_n 0) 1 ∧ De bdX12_readStory_112 28 (.getfield 20) 3 := by decide +kernel
theorem dX12_readStory_112 : decode cX12_readStory 112 = .ok (.iadd, 1) := dAt wdX12_readStory_112 adX12_readStory_112.1 rfl
theorem dX12_readStory_113 : decode cX12_readStory 113 = .ok (.iastore, 1) := dAt wdX12_readStory_112 adX12_readStory_112.2.1 rfl
theorem dX12_readStory_114 : decode cX12_readStory 114 = .ok (.aload_n 0, 1) := dAt wdX12_readStory_112 adX12_readStory_112.2.2.1 rfl
theorem dX12_readStory_115 : decode cX12_readStory 115 = .ok (.getfield 137, 3) := dAt wdX12_readStory_112 adX12_readStory_112.2.2.2.1 rfl
theorem dX12_readStory_118 : decode cX12_readStory 118 = .ok (.aload_n 0, 1) := dAt wdX12_readStory_112 adX12_readStory_112.2.2.2.2.1 rfl
theorem dX12_readStory_119 : decode cX12_readStory 119 = .ok (.getfield 134, 3) := dAt wdX12_readStory_112 adX12_readStory_112.2.2.2.2.2.1 rfl
theorem dX12_readStory_122 : decode cX12_readStory 122 = .ok (.if_icmp .ge 41, 3) := dAt wdX12_readStory_112 adX12_readStory_112.2.2.2.2.2.2.1 rfl
theorem dX12_readStory_125 : decode cX12_readStory 125 = .ok (.aload_n 0, 1) := dAt wdX12_readStory_112 adX12_readStory_112.2.2.2.2.2.2.2.1 rfl
theorem dX12_readStory_126 : decode cX12_readStory 126 = .ok (.getfield 20, 3) := dAt wdX12_readStory_112 adX12_readStory_112.2.2.2.2.2.2.2.2.1 rfl
theorem dX12_readStory_129 : decode cX12_readStory 129 = .ok (.aload_n 0, 1) := dAt wdX12_readStory_112 adX12_readStory_112.2.2.2.2.2.2.2.2.2.1 rfl
theorem dX12_readStory_130 : decode cX12_readStory 130 = .ok (.getfield 137, 3) := dAt wdX12_readStory_112 adX12_readStory_112.2.2.2.2.2.2.2.2.2.2.1 rfl
theorem dX12_readStory_133 : decode cX12_readStory 133 = .ok (.iaload, 1) := dAt wdX12_readStory_112 adX12_readStory_112.2.2.2.2.2.2.2.2.2.2.2.1 rfl
theorem dX12_readStory_134 : decode cX12_readStory 134 = .ok (.bipush 32, 2) := dAt wdX12_readStory_112 adX12_readStory_112.2.2.2.2.2.2.2.2.2.2.2.2.1 rfl
theorem dX12_readStory_136 : decode cX12_readStory 136 = .ok (.if_icmp .eq 27, 3) := dAt wdX12_readStory_112 adX12_readStory_112.2.2.2.2.2.2.2.2.2.2.2.2.2.1 rfl
theorem dX12_readStory_139 : decode cX12_readStory 139 = .ok (.aload_n 0, 1) := dAt wdX12_readStory_112 adX12_readStory_112.2.2.2.2.2.2.2.2.2.2.2.2.2.2.1 rfl
theorem dX12_readStory_140 : decode cX12_readStory 140 = .ok (.getfield 20, 3) := dAt wdX12_readStory_112 adX12_readStory_112.2.2.2.2.2.2.2.2.2.2.2.2.2.2.2 rfl
def bdX12_readStory_143 : ByteArray := .mk #[42, 180, 0, 137, 46, 16, 47, 159, 0, 13, 42, 42, 180, 0, 137, 181, 0, 23, 3, 172, 42, 182, 0, 147, 167, 0, 86, 27, 16, 47]
theorem wdX12_readStory_143 : LocW cX12_readStory 143 bdX12_readStory_143 := loc_of (by decide +kernel)
theorem adX12_readStory_143 : De bdX12_readStory_143 0 (.aload_n 0) 1 ∧ De bdX12_readStory_143 1 (.getfield 137) 3 ∧ De bdX12_readStory_143 4 (.iaload) 1 ∧ De bdX12_readStory_143 5 (.bipush 47) 2 ∧ De bdX12_readStory_143 7 (.if_icmp .eq 13) 3 ∧ De bdX12_readStory_143 10 (.aload_n 0) 1 ∧ De bdX12_readStory_143 11 (.aload_n 0) 1 ∧ De bdX12_readStory_143 12 (.getfield 137) 3 ∧ De bdX12_readStory_143 15 (.putfield 23) 3 ∧ De bdX12_readStory_143 18 (.iconst 0) 1 ∧ De bdX12_readStory_143 19 (.ireturn) 1 ∧ De bdX12_readStory_143 20 (.aload_n 0) 1 ∧ De bdX12_readStory_143 21 (.invokevirtual 147) 3 ∧ De bdX12_readStory_143 24 (.goto 86) 3 ∧ De bdX12_readStory_143 27 (.iload_n 1) 1 ∧ De bdX12_readStory_143 28 (.bipush 47) 2 := by decide +kernel
theorem dX12_readStory_143 : decode cX12_readStory 143 = .ok (.aload_n 0, 1) := dAt wdX12_readStory_143 adX12_readStory_143.1 rfl
theorem dX12_readStory_144 : decode cX12_readStory 144 = .ok (.getfield 137, 3) := dAt wdX12_readStory_143 adX12_readStory_143.2.1 rfl
theorem dX12_readStory_147 : decode cX12_readStory 147 = .ok (.iaload, 1) := dAt wdX12_readStory_143 adX12_readStory_143.2.2.1 rfl
theorem dX12_readStory_148 : decode cX12_readStory 148 = .ok (.bipush 47, 2) := dAt wdX12_readStory_143 adX12_readStory_143.2.2.2.1 rfl
theorem dX12_readStory_150 : decode cX12_readStory 150 = .ok (.if_icmp .eq 13, 3) := dAt wdX12_readStory_143 adX12_readStory_143.2.2.2.2.1 rfl
theorem dX12_readStory_153 : decode cX12_readStory 153 = .ok (.aload_n 0, 1) := dAt wdX12_readStory_143 adX12_readStory_143.2.2.2.2.2.1 rfl
theorem dX12_readStory_154 : decode cX12_readStory 154 = .ok (.aload_n 0, 1) := dAt wdX12_readStory_143 adX12_readStory_143.2.2.2.2.2.2.1 rfl
theorem dX12_readStory_155 : decode cX12_readStory 155 = .ok (.getfield 137, 3) := dAt wdX12_readStory_143 adX12_readStory_143.2.2.2.2.2.2.2.1 rfl
theorem dX12_readStory_158 : decode cX12_readStory 158 = .ok (.putfield 23, 3) := dAt wdX12_readStory_143 adX12_readStory_143.2.2.2.2.2.2.2.2.1 rfl
theorem dX12_readStory_161 : decode cX12_readStory 161 = .ok (.iconst 0, 1) := dAt wdX12_readStory_143 adX12_readStory_143.2.2.2.2.2.2.2.2.2.1 rfl
theorem dX12_readStory_162 : decode cX12_readStory 162 = .ok (.ireturn, 1) := dAt wdX12_readStory_143 adX12_readStory_143.2.2.2.2.2.2.2.2.2.2.1 rfl
theorem dX12_readStory_163 : decode cX12_readStory 163 = .ok (.aload_n 0, 1) := dAt wdX12_readStory_143 adX12_readStory_143.2.2.2.2.2.2.2.2.2.2.2.1 rfl
theorem dX12_readStory_164 : decode cX12_readStory 164 = .ok (.invokevirtual 147, 3) := dAt wdX12_readStory_143 adX12_readStory_143.2.2.2.2.2.2.2.2.2.2.2.2.1 rfl
theorem dX12_readStory_167 : decode cX12_readStory 167 = .ok (.goto 86, 3) := dAt wdX12_readStory_143 adX12_readStory_143.2.2.2.2.2.2.2.2.2.2.2.2.2.1 rfl
theorem dX12_readStory_170 : decode cX12_readStory 170 = .ok (.iload_n 1, 1) := dAt wdX12_readStory_143 adX12_readStory_143.2.2.2.2.2.2.2.2.2.2.2.2.2.2.1 rfl
theorem dX12_readStory_171 : decode cX12_readStory 171 = .ok (.bipush 47, 2) := dAt wdX12_readStory_143 adX12_readStory_143.2.2.2.2.2.2.2.2.2.2.2.2.2.2.2 rfl
def bdX12_readStory_173 : ByteArray := .mk #[160, 0, 70, 42, 180, 0, 39, 42, 180, 0, 140, 46, 158, 0, 58, 42, 180, 0, 140, 7, 162, 0, 50, 42, 89, 180, 0, 140, 4, 96]
theorem wdX12_readStory_173 : LocW cX12_readStory 173 bdX12_readStory_173 := loc_of (by decide +kernel)
theorem adX12_readStory_173 : De bdX12_readStory_173 0 (.if_icmp .ne 70) 3 ∧ De bdX12_readStory_173 3 (.aload_n 0) 1 ∧ De bdX12_readStory_173 4 (.getfield 39) 3 ∧ De bdX12_readStory_173 7 (.aload_n 0) 1 ∧ De bdX12_readStory_173 8 (.getfield 140) 3 ∧ De bdX12_readStory_173 11 (.iaload) 1 ∧ De bdX12_readStory_173 12 (.ifCond .le 58) 3 ∧ De bdX12_readStory_173 15 (.aload_n 0) 1 ∧ De bdX12_readStory_173 16 (.getfield 140) 3 ∧ De bdX12_readStory_173 19 (.iconst 4) 1 ∧ De bdX12_readStory_173 20 (.if_icmp .ge 50) 3 ∧ De bdX12_readStory_173 23 (.aload_n 0) 1 ∧ De bdX12_readStory_173 24 (.dup) 1 ∧ De bdX12_readStory_173 25 (.getfield 140) 3 ∧ De bdX12_readStory_173 28 (.iconst 1) 1 ∧ De bdX12_readStory_173 29 (.iadd) 1 := by decide +kernel
theorem dX12_readStory_173 : decode cX12_readStory 173 = .ok (.if_icmp .ne 70, 3) := dAt wdX12_readStory_173 adX12_readStory_173.1 rfl
theorem dX12_readStory_176 : decode cX12_readStory 176 = .ok (.aload_n 0, 1) := dAt wdX12_readStory_173 adX12_readStory_173.2.1 rfl
theorem dX12_readStory_177 : decode cX12_readStory 177 = .ok (.getfield 39, 3) := dAt wdX12_readStory_173 adX12_readStory_173.2.2.1 rfl
theorem dX12_readStory_180 : decode cX12_readStory 180 = .ok (.aload_n 0, 1) := dAt wdX12_readStory_173 adX12_readStory_173.2.2.2.1 rfl
theorem dX12_readStory_181 : decode cX12_readStory 181 = .ok (.getfield 140, 3) := dAt wdX12_readStory_173 adX12_readStory_173.2.2.2.2.1 rfl
theorem dX12_readStory_184 : decode cX12_readStory 184 = .ok (.iaload, 1) := dAt wdX12_readStory_173 adX12_readStory_173.2.2.2.2.2.1 rfl
theorem dX12_readStory_185 : decode cX12_readStory 185 = .ok (.ifCond .le 58, 3) := dAt wdX12_readStory_173 adX12_readStory_173.2.2.2.2.2.2.1 rfl
theorem dX12_readStory_188 : decode cX12_readStory 188 = .ok (.aload_n 0, 1) := dAt wdX12_readStory_173 adX12_readStory_173.2.2.2.2.2.2.2.1 rfl
theorem dX12_readStory_189 : decode cX12_readStory 189 = .ok (.getfield 140, 3) := dAt wdX12_readStory_173 adX12_readStory_173.2.2.2.2.2.2.2.2.1 rfl
theorem dX12_readStory_192 : decode cX12_readStory 192 = .ok (.iconst 4, 1) := dAt wdX12_readStory_173 adX12_readStory_173.2.2.2.2.2.2.2.2.2.1 rfl
theorem dX12_readStory_193 : decode cX12_readStory 193 = .ok (.if_icmp .ge 50, 3) := dAt wdX12_readStory_173 adX12_readStory_173.2.2.2.2.2.2.2.2.2.2.1 rfl
theorem dX12_readStory_196 : decode cX12_readStory 196 = .ok (.aload_n 0, 1) := dAt wdX12_readStory_173 adX12_readStory_173.2.2.2.2.2.2.2.2.2.2.2.1 rfl
theorem dX12_readStory_197 : decode cX12_readStory 197 = .ok (.dup, 1) := dAt wdX12_readStory_173 adX12_readStory_173.2.2.2.2.2.2.2.2.2.2.2.2.1 rfl
theorem dX12_readStory_198 : decode cX12_readStory 198 = .ok (.getfield 140, 3) := dAt wdX12_readStory_173 adX12_readStory_173.2.2.2.2.2.2.2.2.2.2.2.2.2.1 rfl
theorem dX12_readStory_201 : decode cX12_readStory 201 = .ok (.iconst 1, 1) := dAt wdX12_readStory_173 adX12_readStory_173.2.2.2.2.2.2.2.2.2.2.2.2.2.2.1 rfl
theorem dX12_readStory_202 : decode cX12_readStory 202 = .ok (.iadd, 1) := dAt wdX12_readStory_173 adX12_readStory_173.2.2.2.2.2.2.2.2.2.2.2.2.2.2.2 rfl
def bdX12_readStory_203 : ByteArray := .mk #[181, 0, 140, 42, 180, 0, 36, 42, 180, 0, 140, 3, 79, 42, 180, 0, 39, 42, 180, 0, 140, 3, 79, 42, 89, 180, 0, 137]
theorem wdX12_readStory_203 : LocW cX12_readStory 203 bdX12_readStory_203 := loc_of (by decide +kernel)
theorem adX12_readStory_203 : De bdX12_readStory_203 0 (.putfield 140) 3 ∧ De bdX12_readStory_203 3 (.aload_n 0) 1 ∧ De bdX12_readStory_203 4 (.getfield 36) 3 ∧ De bdX12_readStory_203 7 (.aload_n 0) 1 ∧ De bdX12_readStory_203 8 (.getfield 140) 3 ∧ De bdX12_readStory_203 11 (.iconst 0) 1 ∧ De bdX12_readStory_203 12 (.iastore) 1 ∧ De bdX12_readStory_203 13 (.aload_n 0) 1 ∧ De bdX12_readStory_203 14 (.getfield 39) 3 ∧ De bdX12_readStory_203 17 (.aload_n 0) 1 ∧ De bdX12_readStory_203 18 (.getfield 140) 3 ∧ De bdX12_readStory_203 21 (.iconst 0) 1 ∧ De bdX12_readStory_203 22 (.iastore) 1 ∧ De bdX12_readStory_203 23 (.aload_n 0) 1 ∧ De bdX12_readStory_203 24 (.dup) 1 ∧ De bdX12_readStory_203 25 (.getfield 137) 3 := by decide +kernel
theorem dX12_readStory_203 : decode cX12_readStory 203 = .ok (.putfield 140, 3) := dAt wdX12_readStory_203 adX12_readStory_203.1 rfl
theorem dX12_readStory_206 : decode cX12_readStory 206 = .ok (.aload_n 0, 1) := dAt wdX12_readStory_203 adX12_readStory_203.2.1 rfl
theorem dX12_readStory_207 : decode cX12_readStory 207 = .ok (.getfield 36, 3) := dAt wdX12_readStory_203 adX12_readStory_203.2.2.1 rfl
theorem dX12_readStory_210 : decode cX12_readStory 210 = .ok (.aload_n 0, 1) := dAt wdX12_readStory_203 adX12_readStory_203.2.2.2.1 rfl
theorem dX12_readStory_211 : decode cX12_readStory 211 = .ok (.getfield 140, 3) := dAt wdX12_readStory_203 adX12_readStory_203.2.2.2.2.1 rfl
theorem dX12_readStory_214 : decode cX12_readStory 214 = .ok (.iconst 0, 1) := dAt wdX12_readStory_203 adX12_readStory_203.2.2.2.2.2.1 rfl
theorem dX12_readStory_215 : decode cX12_readStory 215 = .ok (.iastore, 1) := dAt wdX12_readStory_203 adX12_readStory_203.2.2.2.2.2.2.1 rfl
theorem dX12_readStory_216 : decode cX12_readStory 216 = .ok (.aload_n 0, 1) := dAt wdX12_readStory_203 adX12_readStory_203.2.2.2.2.2.2.2.1 rfl
theorem dX12_readStory_217 : decode cX12_readStory 217 = .ok (.getfield 39, 3) := dAt wdX12_readStory_203 adX12_readStory_203.2.2.2.2.2.2.2.2.1 rfl
theorem dX12_readStory_220 : decode cX12_readStory 220 = .ok (.aload_n 0, 1) := dAt wdX12_readStory_203 adX12_readStory_203.2.2.2.2.2.2.2.2.2.1 rfl
theorem dX12_readStory_221 : decode cX12_readStory 221 = .ok (.getfield 140, 3) := dAt wdX12_readStory_203 adX12_readStory_203.2.2.2.2.2.2.2.2.2.2.1 rfl
theorem dX12_readStory_224 : decode cX12_readStory 224 = .ok (.iconst 0, 1) := dAt wdX12_readStory_203 adX12_readStory_203.2.2.2.2.2.2.2.2.2.2.2.1 rfl
theorem dX12_readStory_225 : decode cX12_readStory 225 = .ok (.iastore, 1) := dAt wdX12_readStory_203 adX12_readStory_203.2.2.2.2.2.2.2.2.2.2.2.2.1 rfl
theorem dX12_readStory_226 : decode cX12_readStory 226 = .ok (.aload_n 0, 1) := dAt wdX12_readStory_203 adX12_readStory_203.2.2.2.2.2.2.2.2.2.2.2.2.2.1 rfl
theorem dX12_readStory_227 : decode cX12_readStory 227 = .ok (.dup, 1) := dAt wdX12_readStory_203 adX12_readStory_203.2.2.2.2.2.2.2.2.2.2.2.2.2.2.1 rfl
theorem dX12_readStory_228 : decode cX12_readStory 228 = .ok (.getfield 137, 3) := dAt wdX12_readStory_203 adX12_readStory_203.2.2.2.2.2.2.2.2.2.2.2.2.2.2.2 rfl
def bdX12_readStory_231 : ByteArray := .mk #[4, 96, 181, 0, 137, 42, 182, 0, 147, 167, 0, 13, 42, 42, 180, 0, 137, 181, 0, 23, 3, 172, 167, 255, 26, 42, 180, 0, 39, 42]
theorem wdX12_readStory_231 : LocW cX12_readStory 231 bdX12_readStory_231 := loc_of (by decide +kernel)
theorem adX12_readStory_231 : De bdX12_readStory_231 0 (.iconst 1) 1 ∧ De bdX12_readStory_231 1 (.iadd) 1 ∧ De bdX12_readStory_231 2 (.putfield 137) 3 ∧ De bdX12_readStory_231 5 (.aload_n 0) 1 ∧ De bdX12_readStory_231 6 (.invokevirtual 147) 3 ∧ De bdX12_readStory_231 9 (.goto 13) 3 ∧ De bdX12_readStory_231 12 (.aload_n 0) 1 ∧ De bdX12_readStory_231 13 (.aload_n 0) 1 ∧ De bdX12_readStory_231 14 (.getfield 137) 3 ∧ De bdX12_readStory_231 17 (.putfield 23) 3 ∧ De bdX12_readStory_231 20 (.iconst 0) 1 ∧ De bdX12_readStory_231 21 (.ireturn) 1 ∧ De bdX12_readStory_231 22 (.goto (-230)) 3 ∧ De bdX12_readStory_231 25 (.aload_n 0) 1 ∧ De bdX12_readStory_231 26 (.getfield 39) 3 ∧ De bdX12_readStory_231 29 (.aload_n 0) 1 := by decide +kernel
theorem dX12_readStory_231 : decode cX12_readStory 231 = .ok (.iconst 1, 1) := dAt wdX12_readStory_231 adX12_readStory_231.1 rfl
theorem dX12_readStory_232 : decode cX12_readStory 232 = .ok (.iadd, 1) := dAt wdX12_readStory_231 adX12_readStory_231.2.1 rfl
theorem dX12_readStory_233 : decode cX12_readStory 233 = .ok (.putfield 137, 3) := dAt wdX12_readStory_231 adX12_readStory_231.2.2.1 rfl
theorem dX12_readStory_236 : decode cX12_readStory 236 = .ok (.aload_n 0, 1) := dAt wdX12_readStory_231 adX12_readStory_231.2.2.2.1 rfl
theorem dX12_readStory_237 : decode cX12_readStory 237 = .ok (.invokevirtual 147, 3) := dAt wdX12_readStory_231 adX12_readStory_231.2.2.2.2.1 rfl
theorem dX12_readStory_240 : decode cX12_readStory 240 = .ok (.goto 13, 3) := dAt wdX12_readStory_231 adX12_readStory_231.2.2.2.2.2.1 rfl
theorem dX12_readStory_243 : decode cX12_readStory 243 = .ok (.aload_n 0, 1) := dAt wdX12_readStory_231 adX12_readStory_231.2.2.2.2.2.2.1 rfl
theorem dX12_readStory_244 : decode cX12_readStory 244 = .ok (.aload_n 0, 1) := dAt wdX12_readStory_231 adX12_readStory_231.2.2.2.2.2.2.2.1 rfl
theorem dX12_readStory_245 : decode cX12_readStory 245 = .ok (.getfield 137, 3) := dAt wdX12_readStory_231 adX12_readStory_231.2.2.2.2.2.2.2.2.1 rfl
theorem dX12_readStory_248 : decode cX12_readStory 248 = .ok (.putfield 23, 3) := dAt wdX12_readStory_231 adX12_readStory_231.2.2.2.2.2.2.2.2.2.1 rfl
theorem dX12_readStory_251 : decode cX12_readStory 251 = .ok (.iconst 0, 1) := dAt wdX12_readStory_231 adX12_readStory_231.2.2.2.2.2.2.2.2.2.2.1 rfl
theorem dX12_readStory_252 : decode cX12_readStory 252 = .ok (.ireturn, 1) := dAt wdX12_readStory_231 adX12_readStory_231.2.2.2.2.2.2.2.2.2.2.2.1 rfl
theorem dX12_readStory_253 : decode cX12_readStory 253 = .ok (.goto (-230), 3) := dAt wdX12_readStory_231 adX12_readStory_231.2.2.2.2.2.2.2.2.2.2.2.2.1 rfl
theorem dX12_readStory_256 : decode cX12_readStory 256 = .ok (.aload_n 0, 1) := dAt wdX12_readStory_231 adX12_readStory_231.2.2.2.2.2.2.2.2.2.2.2.2.2.1 rfl
theorem dX12_readStory_257 : decode cX12_readStory 257 = .ok (.getfield 39, 3) := dAt wdX12_readStory_231 adX12_readStory_231.2.2.2.2.2.2.2.2.2.2.2.2.2.2.1 rfl
theorem dX12_readStory_260 : decode cX12_readStory 260 = .ok (.aload_n 0, 1) := dAt wdX12_readStory_231 adX12_readStory_231.2.2.2.2.2.2.2.2.2.2.2.2.2.2.2 rfl
def bdX12_readStory_261 : ByteArray := .mk #[180, 0, 140, 46, 154, 0, 11, 42, 42, 180, 0, 134, 181, 0, 23, 42, 180, 0, 23, 2, 160, 0, 7, 4, 167, 0, 4, 3, 172]
theorem wdX12_readStory_261 : LocW cX12_readStory 261 bdX12_readStory_261 := loc_of (by decide +kernel)
theorem adX12_readStory_261 : De bdX12_readStory_261 0 (.getfield 140) 3 ∧ De bdX12_readStory_261 3 (.iaload) 1 ∧ De bdX12_readStory_261 4 (.ifCond .ne 11) 3 ∧ De bdX12_readStory_261 7 (.aload_n 0) 1 ∧ De bdX12_readStory_261 8 (.aload_n 0) 1 ∧ De bdX12_readStory_261 9 (.getfield 134) 3 ∧ De bdX12_readStory_261 12 (.putfield 23) 3 ∧ De bdX12_readStory_261 15 (.aload_n 0) 1 ∧ De bdX12_readStory_261 16 (.getfield 23) 3 ∧ De bdX12_readStory_261 19 (.iconst (-1)) 1 ∧ De bdX12_readStory_261 20 (.if_icmp .ne 7) 3 ∧ De bdX12_readStory_261 23 (.iconst 1) 1 ∧ De bdX12_readStory_261 24 (.goto 4) 3 ∧ De bdX12_readStory_261 27 (.iconst 0) 1 ∧ De bdX12_readStory_261 28 (.ireturn) 1 := by decide +kernel
theorem dX12_readStory_261 : decode cX12_readStory 261 = .ok (.getfield 140, 3) := dAt wdX12_readStory_261 adX12_readStory_261.1 rfl
theorem dX12_readStory_264 : decode cX12_readStory 264 = .ok (.iaload, 1) := dAt wdX12_readStory_261 adX12_readStory_261.2.1 rfl
theorem dX12_readStory_265 : decode cX12_readStory 265 = .ok (.ifCond .ne 11, 3) := dAt wdX12_readStory_261 adX12_readStory_261.2.2.1 rfl
theorem dX12_readStory_268 : decode cX12_readStory 268 = .ok (.aload_n 0, 1) := dAt wdX12_readStory_261 adX12_readStory_261.2.2.2.1 rfl
theorem dX12_readStory_269 : decode cX12_readStory 269 = .ok (.aload_n 0, 1) := dAt wdX12_readStory_261 adX12_readStory_261.2.2.2.2.1 rfl
theorem dX12_readStory_270 : decode cX12_readStory 270 = .ok (.getfield 134, 3) := dAt wdX12_readStory_261 adX12_readStory_261.2.2.2.2.2.1 rfl
theorem dX12_readStory_273 : decode cX12_readStory 273 = .ok (.putfield 23, 3) := dAt wdX12_readStory_261 adX12_readStory_261.2.2.2.2.2.2.1 rfl
theorem dX12_readStory_276 : decode cX12_readStory 276 = .ok (.aload_n 0, 1) := dAt wdX12_readStory_261 adX12_readStory_261.2.2.2.2.2.2.2.1 rfl
theorem dX12_readStory_277 : decode cX12_readStory 277 = .ok (.getfield 23, 3) := dAt wdX12_readStory_261 adX12_readStory_261.2.2.2.2.2.2.2.2.1 rfl
theorem dX12_readStory_280 : decode cX12_readStory 280 = .ok (.iconst (-1), 1) := dAt wdX12_readStory_261 adX12_readStory_261.2.2.2.2.2.2.2.2.2.1 rfl
theorem dX12_readStory_281 : decode cX12_readStory 281 = .ok (.if_icmp .ne 7, 3) := dAt wdX12_readStory_261 adX12_readStory_261.2.2.2.2.2.2.2.2.2.2.1 rfl
theorem dX12_readStory_284 : decode cX12_readStory 284 = .ok (.iconst 1, 1) := dAt wdX12_readStory_261 adX12_readStory_261.2.2.2.2.2.2.2.2.2.2.2.1 rfl
theorem dX12_readStory_285 : decode cX12_readStory 285 = .ok (.goto 4, 3) := dAt wdX12_readStory_261 adX12_readStory_261.2.2.2.2.2.2.2.2.2.2.2.2.1 rfl
theorem dX12_readStory_288 : decode cX12_readStory 288 = .ok (.iconst 0, 1) := dAt wdX12_readStory_261 adX12_readStory_261.2.2.2.2.2.2.2.2.2.2.2.2.2.1 rfl
theorem dX12_readStory_289 : decode cX12_readStory 289 = .ok (.ireturn, 1) := dAt wdX12_readStory_261 adX12_readStory_261.2.2.2.2.2.2.2.2.2.2.2.2.2.2 rfl
def bdX12_story_0 : ByteArray := .mk #[42, 182, 0, 154, 42, 27, 3, 4, 184, 0, 157, 154, 0, 7, 4, 167, 0, 19, 28, 3, 17, 2, 88, 184, 0, 157, 154, 0, 7, 5]
theorem wdX12_story_0 : LocW cX12_story 0 bdX12_story_0 := loc_of (by decide +kernel)
theorem adX12_story_0 : De bdX12_story_0 0 (.aload_n 0) 1 ∧ De bdX12_story_0 1 (.invokevirtual 154) 3 ∧ De bdX12_story_0 4 (.aload_n 0) 1 ∧ De bdX12_story_0 5 (.iload_n 1) 1 ∧ De bdX12_story_0 6 (.iconst 0) 1 ∧ De bdX12_story_0 7 (.iconst 1) 1 ∧ De bdX12_story_0 8 (.invokestatic 157) 3 ∧ De bdX12_story_0 11 (.ifCond .ne 7) 3 ∧ De bdX12_story_0 14 (.iconst 1) 1 ∧ De bdX12_story_0 15 (.goto 19) 3 ∧ De bdX12_story_0 18 (.iload_n 2) 1 ∧ De bdX12_story_0 19 (.iconst 0) 1 ∧ De bdX12_story_0 20 (.sipush 600) 3 ∧ De bdX12_story_0 23 (.invokestatic 157) 3 ∧ De bdX12_story_0 26 (.ifCond .ne 7) 3 ∧ De bdX12_story_0 29 (.iconst 2) 1 := by decide +kernel
theorem dX12_story_0 : decode cX12_story 0 = .ok (.aload_n 0, 1) := dAt wdX12_story_0 adX12_story_0.1 rfl
theorem dX12_story_1 : decode cX12_story 1 = .ok (.invokevirtual 154, 3) := dAt wdX12_story_0 adX12_story_0.2.1 rfl
theorem dX12_story_4 : decode cX12_story 4 = .ok (.aload_n 0, 1) := dAt wdX12_story_0 adX12_story_0.2.2.1 rfl
theorem dX12_story_5 : decode cX12_story 5 = .ok (.iload_n 1, 1) := dAt wdX12_story_0 adX12_story_0.2.2.2.1 rfl
theorem dX12_story_6 : decode cX12_story 6 = .ok (.iconst 0, 1) := dAt wdX12_story_0 adX12_story_0.2.2.2.2.1 rfl
theorem dX12_story_7 : decode cX12_story 7 = .ok (.iconst 1, 1) := dAt wdX12_story_0 adX12_story_0.2.2.2.2.2.1 rfl
theorem dX12_story_8 : decode cX12_story 8 = .ok (.invokestatic 157, 3) := dAt wdX12_story_0 adX12_story_0.2.2.2.2.2.2.1 rfl
theorem dX12_story_11 : decode cX12_story 11 = .ok (.ifCond .ne 7, 3) := dAt wdX12_story_0 adX12_story_0.2.2.2.2.2.2.2.1 rfl
theorem dX12_story_14 : decode cX12_story 14 = .ok (.iconst 1, 1) := dAt wdX12_story_0 adX12_story_0.2.2.2.2.2.2.2.2.1 rfl
theorem dX12_story_15 : decode cX12_story 15 = .ok (.goto 19, 3) := dAt wdX12_story_0 adX12_story_0.2.2.2.2.2.2.2.2.2.1 rfl
theorem dX12_story_18 : decode cX12_story 18 = .ok (.iload_n 2, 1) := dAt wdX12_story_0 adX12_story_0.2.2.2.2.2.2.2.2.2.2.1 rfl
theorem dX12_story_19 : decode cX12_story 19 = .ok (.iconst 0, 1) := dAt wdX12_story_0 adX12_story_0.2.2.2.2.2.2.2.2.2.2.2.1 rfl
theorem dX12_story_20 : decode cX12_story 20 = .ok (.sipush 600, 3) := dAt wdX12_story_0 adX12_story_0.2.2.2.2.2.2.2.2.2.2.2.2.1 rfl
theorem dX12_story_23 : decode cX12_story 23 = .ok (.invokestatic 157, 3) := dAt wdX12_story_0 adX12_story_0.2.2.2.2.2.2.2.2.2.2.2.2.2.1 rfl
theorem dX12_story_26 : decode cX12_story 26 = .ok (.ifCond .ne 7, 3) := dAt wdX12_story_0 adX12_story_0.2.2.2.2.2.2.2.2.2.2.2.2.2.2.1 rfl
theorem dX12_story_29 : decode cX12_story 29 = .ok (.iconst 2, 1) := dAt wdX12_story_0 adX12_story_0.2.2.2.2.2.2.2.2.2.2.2.2.2.2.2 rfl
def bdX12_story_30 : ByteArray := .mk #[167, 0, 4, 3, 181, 0, 122, 42, 180, 0, 122, 158, 0, 5, 3, 172, 42, 2, 181, 0, 23, 42, 182, 0, 160, 154, 0, 11, 42, 5]
theorem wdX12_story_30 : LocW cX12_story 30 bdX12_story_30 := loc_of (by decide +kernel)
theorem adX12_story_30 : De bdX12_story_30 0 (.goto 4) 3 ∧ De bdX12_story_30 3 (.iconst 0) 1 ∧ De bdX12_story_30 4 (.putfield 122) 3 ∧ De bdX12_story_30 7 (.aload_n 0) 1 ∧ De bdX12_story_30 8 (.getfield 122) 3 ∧ De bdX12_story_30 11 (.ifCond .le 5) 3 ∧ De bdX12_story_30 14 (.iconst 0) 1 ∧ De bdX12_story_30 15 (.ireturn) 1 ∧ De bdX12_story_30 16 (.aload_n 0) 1 ∧ De bdX12_story_30 17 (.iconst (-1)) 1 ∧ De bdX12_story_30 18 (.putfield 23) 3 ∧ De bdX12_story_30 21 (.aload_n 0) 1 ∧ De bdX12_story_30 22 (.invokevirtual 160) 3 ∧ De bdX12_story_30 25 (.ifCond .ne 11) 3 ∧ De bdX12_story_30 28 (.aload_n 0) 1 ∧ De bdX12_story_30 29 (.iconst 2) 1 := by decide +kernel
theorem dX12_story_30 : decode cX12_story 30 = .ok (.goto 4, 3) := dAt wdX12_story_30 adX12_story_30.1 rfl
theorem dX12_story_33 : decode cX12_story 33 = .ok (.iconst 0, 1) := dAt wdX12_story_30 adX12_story_30.2.1 rfl
theorem dX12_story_34 : decode cX12_story 34 = .ok (.putfield 122, 3) := dAt wdX12_story_30 adX12_story_30.2.2.1 rfl
theorem dX12_story_37 : decode cX12_story 37 = .ok (.aload_n 0, 1) := dAt wdX12_story_30 adX12_story_30.2.2.2.1 rfl
theorem dX12_story_38 : decode cX12_story 38 = .ok (.getfield 122, 3) := dAt wdX12_story_30 adX12_story_30.2.2.2.2.1 rfl
theorem dX12_story_41 : decode cX12_story 41 = .ok (.ifCond .le 5, 3) := dAt wdX12_story_30 adX12_story_30.2.2.2.2.2.1 rfl
theorem dX12_story_44 : decode cX12_story 44 = .ok (.iconst 0, 1) := dAt wdX12_story_30 adX12_story_30.2.2.2.2.2.2.1 rfl
theorem dX12_story_45 : decode cX12_story 45 = .ok (.ireturn, 1) := dAt wdX12_story_30 adX12_story_30.2.2.2.2.2.2.2.1 rfl
theorem dX12_story_46 : decode cX12_story 46 = .ok (.aload_n 0, 1) := dAt wdX12_story_30 adX12_story_30.2.2.2.2.2.2.2.2.1 rfl
theorem dX12_story_47 : decode cX12_story 47 = .ok (.iconst (-1), 1) := dAt wdX12_story_30 adX12_story_30.2.2.2.2.2.2.2.2.2.1 rfl
theorem dX12_story_48 : decode cX12_story 48 = .ok (.putfield 23, 3) := dAt wdX12_story_30 adX12_story_30.2.2.2.2.2.2.2.2.2.2.1 rfl
theorem dX12_story_51 : decode cX12_story 51 = .ok (.aload_n 0, 1) := dAt wdX12_story_30 adX12_story_30.2.2.2.2.2.2.2.2.2.2.2.1 rfl
theorem dX12_story_52 : decode cX12_story 52 = .ok (.invokevirtual 160, 3) := dAt wdX12_story_30 adX12_story_30.2.2.2.2.2.2.2.2.2.2.2.2.1 rfl
theorem dX12_story_55 : decode cX12_story 55 = .ok (.ifCond .ne 11, 3) := dAt wdX12_story_30 adX12_story_30.2.2.2.2.2.2.2.2.2.2.2.2.2.1 rfl
theorem dX12_story_58 : decode cX12_story 58 = .ok (.aload_n 0, 1) := dAt wdX12_story_30 adX12_story_30.2.2.2.2.2.2.2.2.2.2.2.2.2.2.1 rfl
theorem dX12_story_59 : decode cX12_story 59 = .ok (.iconst 2, 1) := dAt wdX12_story_30 adX12_story_30.2.2.2.2.2.2.2.2.2.2.2.2.2.2.2 rfl
def bdX12_story_60 : ByteArray := .mk #[181, 0, 122, 167, 0, 19, 42, 180, 0, 8, 4, 46, 16, 20, 160, 0, 8, 42, 6, 181, 0, 122, 42, 180, 0, 122, 158, 0, 5, 3, 172]
theorem wdX12_story_60 : LocW cX12_story 60 bdX12_story_60 := loc_of (by decide +kernel)
theorem adX12_story_60 : De bdX12_story_60 0 (.putfield 122) 3 ∧ De bdX12_story_60 3 (.goto 19) 3 ∧ De bdX12_story_60 6 (.aload_n 0) 1 ∧ De bdX12_story_60 7 (.getfield 8) 3 ∧ De bdX12_story_60 10 (.iconst 1) 1 ∧ De bdX12_story_60 11 (.iaload) 1 ∧ De bdX12_story_60 12 (.bipush 20) 2 ∧ De bdX12_story_60 14 (.if_icmp .ne 8) 3 ∧ De bdX12_story_60 17 (.aload_n 0) 1 ∧ De bdX12_story_60 18 (.iconst 3) 1 ∧ De bdX12_story_60 19 (.putfield 122) 3 ∧ De bdX12_story_60 22 (.aload_n 0) 1 ∧ De bdX12_story_60 23 (.getfield 122) 3 ∧ De bdX12_story_60 26 (.ifCond .le 5) 3 ∧ De bdX12_story_60 29 (.iconst 0) 1 ∧ De bdX12_story_60 30 (.ireturn) 1 := by decide +kernel
theorem dX12_story_60 : decode cX12_story 60 = .ok (.putfield 122, 3) := dAt wdX12_story_60 adX12_story_60.1 rfl
theorem dX12_story_63 : decode cX12_story 63 = .ok (.goto 19, 3) := dAt wdX12_story_60 adX12_story_60.2.1 rfl
theorem dX12_story_66 : decode cX12_story 66 = .ok (.aload_n 0, 1) := dAt wdX12_story_60 adX12_story_60.2.2.1 rfl
theorem dX12_story_67 : decode cX12_story 67 = .ok (.getfield 8, 3) := dAt wdX12_story_60 adX12_story_60.2.2.2.1 rfl
theorem dX12_story_70 : decode cX12_story 70 = .ok (.iconst 1, 1) := dAt wdX12_story_60 adX12_story_60.2.2.2.2.1 rfl
theorem dX12_story_71 : decode cX12_story 71 = .ok (.iaload, 1) := dAt wdX12_story_60 adX12_story_60.2.2.2.2.2.1 rfl
theorem dX12_story_72 : decode cX12_story 72 = .ok (.bipush 20, 2) := dAt wdX12_story_60 adX12_story_60.2.2.2.2.2.2.1 rfl
theorem dX12_story_74 : decode cX12_story 74 = .ok (.if_icmp .ne 8, 3) := dAt wdX12_story_60 adX12_story_60.2.2.2.2.2.2.2.1 rfl
theorem dX12_story_77 : decode cX12_story 77 = .ok (.aload_n 0, 1) := dAt wdX12_story_60 adX12_story_60.2.2.2.2.2.2.2.2.1 rfl
theorem dX12_story_78 : decode cX12_story 78 = .ok (.iconst 3, 1) := dAt wdX12_story_60 adX12_story_60.2.2.2.2.2.2.2.2.2.1 rfl
theorem dX12_story_79 : decode cX12_story 79 = .ok (.putfield 122, 3) := dAt wdX12_story_60 adX12_story_60.2.2.2.2.2.2.2.2.2.2.1 rfl
theorem dX12_story_82 : decode cX12_story 82 = .ok (.aload_n 0, 1) := dAt wdX12_story_60 adX12_story_60.2.2.2.2.2.2.2.2.2.2.2.1 rfl
theorem dX12_story_83 : decode cX12_story 83 = .ok (.getfield 122, 3) := dAt wdX12_story_60 adX12_story_60.2.2.2.2.2.2.2.2.2.2.2.2.1 rfl
theorem dX12_story_86 : decode cX12_story 86 = .ok (.ifCond .le 5, 3) := dAt wdX12_story_60 adX12_story_60.2.2.2.2.2.2.2.2.2.2.2.2.2.1 rfl
theorem dX12_story_89 : decode cX12_story 89 = .ok (.iconst 0, 1) := dAt wdX12_story_60 adX12_story_60.2.2.2.2.2.2.2.2.2.2.2.2.2.2.1 rfl
theorem dX12_story_90 : decode cX12_story 90 = .ok (.ireturn, 1) := dAt wdX12_story_60 adX12_story_60.2.2.2.2.2.2.2.2.2.2.2.2.2.2.2 rfl
def bdX12_story_91 : ByteArray := .mk #[42, 180, 0, 8, 4, 46, 62, 42, 180, 0, 8, 16, 70, 29, 96, 27, 79, 42, 180, 0, 8, 16, 90, 29]
theorem wdX12_story_91 : LocW cX12_story 91 bdX12_story_91 := loc_of (by decide +kernel)
theorem adX12_story_91 : De bdX12_story_91 0 (.aload_n 0) 1 ∧ De bdX12_story_91 1 (.getfield 8) 3 ∧ De bdX12_story_91 4 (.iconst 1) 1 ∧ De bdX12_story_91 5 (.iaload) 1 ∧ De bdX12_story_91 6 (.istore_n 3) 1 ∧ De bdX12_story_91 7 (.aload_n 0) 1 ∧ De bdX12_story_91 8 (.getfield 8) 3 ∧ De bdX12_story_91 11 (.bipush 70) 2 ∧ De bdX12_story_91 13 (.iload_n 3) 1 ∧ De bdX12_story_91 14 (.iadd) 1 ∧ De bdX12_story_91 15 (.iload_n 1) 1 ∧ De bdX12_story_91 16 (.iastore) 1 ∧ De bdX12_story_91 17 (.aload_n 0) 1 ∧ De bdX12_story_91 18 (.getfield 8) 3 ∧ De bdX12_story_91 21 (.bipush 90) 2 ∧ De bdX12_story_91 23 (.iload_n 3) 1 := by decide +kernel
theorem dX12_story_91 : decode cX12_story 91 = .ok (.aload_n 0, 1) := dAt wdX12_story_91 adX12_story_91.1 rfl
theorem dX12_story_92 : decode cX12_story 92 = .ok (.getfield 8, 3) := dAt wdX12_story_91 adX12_story_91.2.1 rfl
theorem dX12_story_95 : decode cX12_story 95 = .ok (.iconst 1, 1) := dAt wdX12_story_91 adX12_story_91.2.2.1 rfl
theorem dX12_story_96 : decode cX12_story 96 = .ok (.iaload, 1) := dAt wdX12_story_91 adX12_story_91.2.2.2.1 rfl
theorem dX12_story_97 : decode cX12_story 97 = .ok (.istore_n 3, 1) := dAt wdX12_story_91 adX12_story_91.2.2.2.2.1 rfl
theorem dX12_story_98 : decode cX12_story 98 = .ok (.aload_n 0, 1) := dAt wdX12_story_91 adX12_story_91.2.2.2.2.2.1 rfl
theorem dX12_story_99 : decode cX12_story 99 = .ok (.getfield 8, 3) := dAt wdX12_story_91 adX12_story_91.2.2.2.2.2.2.1 rfl
theorem dX12_story_102 : decode cX12_story 102 = .ok (.bipush 70, 2) := dAt wdX12_story_91 adX12_story_91.2.2.2.2.2.2.2.1 rfl
theorem dX12_story_104 : decode cX12_story 104 = .ok (.iload_n 3, 1) := dAt wdX12_story_91 adX12_story_91.2.2.2.2.2.2.2.2.1 rfl
theorem dX12_story_105 : decode cX12_story 105 = .ok (.iadd, 1) := dAt wdX12_story_91 adX12_story_91.2.2.2.2.2.2.2.2.2.1 rfl
theorem dX12_story_106 : decode cX12_story 106 = .ok (.iload_n 1, 1) := dAt wdX12_story_91 adX12_story_91.2.2.2.2.2.2.2.2.2.2.1 rfl
theorem dX12_story_107 : decode cX12_story 107 = .ok (.iastore, 1) := dAt wdX12_story_91 adX12_story_91.2.2.2.2.2.2.2.2.2.2.2.1 rfl
theorem dX12_story_108 : decode cX12_story 108 = .ok (.aload_n 0, 1) := dAt wdX12_story_91 adX12_story_91.2.2.2.2.2.2.2.2.2.2.2.2.1 rfl
theorem dX12_story_109 : decode cX12_story 109 = .ok (.getfield 8, 3) := dAt wdX12_story_91 adX12_story_91.2.2.2.2.2.2.2.2.2.2.2.2.2.1 rfl
theorem dX12_story_112 : decode cX12_story 112 = .ok (.bipush 90, 2) := dAt wdX12_story_91 adX12_story_91.2.2.2.2.2.2.2.2.2.2.2.2.2.2.1 rfl
theorem dX12_story_114 : decode cX12_story 114 = .ok (.iload_n 3, 1) := dAt wdX12_story_91 adX12_story_91.2.2.2.2.2.2.2.2.2.2.2.2.2.2.2 rfl
def bdX12_story_115 : ByteArray := .mk #[96, 28, 79, 42, 180, 0, 8, 16, 110, 29, 96, 42, 180, 0, 140, 4, 96, 79, 3, 54, 4, 21, 4]
theorem wdX12_story_115 : LocW cX12_story 115 bdX12_story_115 := loc_of (by decide +kernel)
theorem adX12_story_115 : De bdX12_story_115 0 (.iadd) 1 ∧ De bdX12_story_115 1 (.iload_n 2) 1 ∧ De bdX12_story_115 2 (.iastore) 1 ∧ De bdX12_story_115 3 (.aload_n 0) 1 ∧ De bdX12_story_115 4 (.getfield 8) 3 ∧ De bdX12_story_115 7 (.bipush 110) 2 ∧ De bdX12_story_115 9 (.iload_n 3) 1 ∧ De bdX12_story_115 10 (.iadd) 1 ∧ De bdX12_story_115 11 (.aload_n 0) 1 ∧ De bdX12_story_115 12 (.getfield 140) 3 ∧ De bdX12_story_115 15 (.iconst 1) 1 ∧ De bdX12_story_115 16 (.iadd) 1 ∧ De bdX12_story_115 17 (.iastore) 1 ∧ De bdX12_story_115 18 (.iconst 0) 1 ∧ De bdX12_story_115 19 (.istore 4) 2 ∧ De bdX12_story_115 21 (.iload 4) 2 := by decide +kernel
theorem dX12_story_115 : decode cX12_story 115 = .ok (.iadd, 1) := dAt wdX12_story_115 adX12_story_115.1 rfl
theorem dX12_story_116 : decode cX12_story 116 = .ok (.iload_n 2, 1) := dAt wdX12_story_115 adX12_story_115.2.1 rfl
theorem dX12_story_117 : decode cX12_story 117 = .ok (.iastore, 1) := dAt wdX12_story_115 adX12_story_115.2.2.1 rfl
theorem dX12_story_118 : decode cX12_story 118 = .ok (.aload_n 0, 1) := dAt wdX12_story_115 adX12_story_115.2.2.2.1 rfl
theorem dX12_story_119 : decode cX12_story 119 = .ok (.getfield 8, 3) := dAt wdX12_story_115 adX12_story_115.2.2.2.2.1 rfl
theorem dX12_story_122 : decode cX12_story 122 = .ok (.bipush 110, 2) := dAt wdX12_story_115 adX12_story_115.2.2.2.2.2.1 rfl
theorem dX12_story_124 : decode cX12_story 124 = .ok (.iload_n 3, 1) := dAt wdX12_story_115 adX12_story_115.2.2.2.2.2.2.1 rfl
theorem dX12_story_125 : decode cX12_story 125 = .ok (.iadd, 1) := dAt wdX12_story_115 adX12_story_115.2.2.2.2.2.2.2.1 rfl
theorem dX12_story_126 : decode cX12_story 126 = .ok (.aload_n 0, 1) := dAt wdX12_story_115 adX12_story_115.2.2.2.2.2.2.2.2.1 rfl
theorem dX12_story_127 : decode cX12_story 127 = .ok (.getfield 140, 3) := dAt wdX12_story_115 adX12_story_115.2.2.2.2.2.2.2.2.2.1 rfl
theorem dX12_story_130 : decode cX12_story 130 = .ok (.iconst 1, 1) := dAt wdX12_story_115 adX12_story_115.2.2.2.2.2.2.2.2.2.2.1 rfl
theorem dX12_story_131 : decode cX12_story 131 = .ok (.iadd, 1) := dAt wdX12_story_115 adX12_story_115.2.2.2.2.2.2.2.2.2.2.2.1 rfl
theorem dX12_story_132 : decode cX12_story 132 = .ok (.iastore, 1) := dAt wdX12_story_115 adX12_story_115.2.2.2.2.2.2.2.2.2.2.2.2.1 rfl
theorem dX12_story_133 : decode cX12_story 133 = .ok (.iconst 0, 1) := dAt wdX12_story_115 adX12_story_115.2.2.2.2.2.2.2.2.2.2.2.2.2.1 rfl
theorem dX12_story_134 : decode cX12_story 134 = .ok (.istore 4, 2) := dAt wdX12_story_115 adX12_story_115.2.2.2.2.2.2.2.2.2.2.2.2.2.2.1 rfl
theorem dX12_story_136 : decode cX12_story 136 = .ok (.iload 4, 2) := dAt wdX12_story_115 adX12_story_115.2.2.2.2.2.2.2.2.2.2.2.2.2.2.2 rfl
def bdX12_story_138 : ByteArray := .mk #[42, 180, 0, 140, 163, 0, 180, 8, 29, 104, 21, 4, 96, 184, 0, 164, 54, 5, 42, 180, 0, 8, 21, 5, 3, 96, 42]
theorem wdX12_story_138 : LocW cX12_story 138 bdX12_story_138 := loc_of (by decide +kernel)
theorem adX12_story_138 : De bdX12_story_138 0 (.aload_n 0) 1 ∧ De bdX12_story_138 1 (.getfield 140) 3 ∧ De bdX12_story_138 4 (.if_icmp .gt 180) 3 ∧ De bdX12_story_138 7 (.iconst 5) 1 ∧ De bdX12_story_138 8 (.iload_n 3) 1 ∧ De bdX12_story_138 9 (.imul) 1 ∧ De bdX12_story_138 10 (.iload 4) 2 ∧ De bdX12_story_138 12 (.iadd) 1 ∧ De bdX12_story_138 13 (.invokestatic 164) 3 ∧ De bdX12_story_138 16 (.istore 5) 2 ∧ De bdX12_story_138 18 (.aload_n 0) 1 ∧ De bdX12_story_138 19 (.getfield 8) 3 ∧ De bdX12_story_138 22 (.iload 5) 2 ∧ De bdX12_story_138 24 (.iconst 0) 1 ∧ De bdX12_story_138 25 (.iadd) 1 ∧ De bdX12_story_138 26 (.aload_n 0) 1 := by decide +kernel
theorem dX12_story_138 : decode cX12_story 138 = .ok (.aload_n 0, 1) := dAt wdX12_story_138 adX12_story_138.1 rfl
theorem dX12_story_139 : decode cX12_story 139 = .ok (.getfield 140, 3) := dAt wdX12_story_138 adX12_story_138.2.1 rfl
theorem dX12_story_142 : decode cX12_story 142 = .ok (.if_icmp .gt 180, 3) := dAt wdX12_story_138 adX12_story_138.2.2.1 rfl
theorem dX12_story_145 : decode cX12_story 145 = .ok (.iconst 5, 1) := dAt wdX12_story_138 adX12_story_138.2.2.2.1 rfl
theorem dX12_story_146 : decode cX12_story 146 = .ok (.iload_n 3, 1) := dAt wdX12_story_138 adX12_story_138.2.2.2.2.1 rfl
theorem dX12_story_147 : decode cX12_story 147 = .ok (.imul, 1) := dAt wdX12_story_138 adX12_story_138.2.2.2.2.2.1 rfl
theorem dX12_story_148 : decode cX12_story 148 = .ok (.iload 4, 2) := dAt wdX12_story_138 adX12_story_138.2.2.2.2.2.2.1 rfl
theorem dX12_story_150 : decode cX12_story 150 = .ok (.iadd, 1) := dAt wdX12_story_138 adX12_story_138.2.2.2.2.2.2.2.1 rfl
theorem dX12_story_151 : decode cX12_story 151 = .ok (.invokestatic 164, 3) := dAt wdX12_story_138 adX12_story_138.2.2.2.2.2.2.2.2.1 rfl
theorem dX12_story_154 : decode cX12_story 154 = .ok (.istore 5, 2) := dAt wdX12_story_138 adX12_story_138.2.2.2.2.2.2.2.2.2.1 rfl
theorem dX12_story_156 : decode cX12_story 156 = .ok (.aload_n 0, 1) := dAt wdX12_story_138 adX12_story_138.2.2.2.2.2.2.2.2.2.2.1 rfl
theorem dX12_story_157 : decode cX12_story 157 = .ok (.getfield 8, 3) := dAt wdX12_story_138 adX12_story_138.2.2.2.2.2.2.2.2.2.2.2.1 rfl
theorem dX12_story_160 : decode cX12_story 160 = .ok (.iload 5, 2) := dAt wdX12_story_138 adX12_story_138.2.2.2.2.2.2.2.2.2.2.2.2.1 rfl
theorem dX12_story_162 : decode cX12_story 162 = .ok (.iconst 0, 1) := dAt wdX12_story_138 adX12_story_138.2.2.2.2.2.2.2.2.2.2.2.2.2.1 rfl
theorem dX12_story_163 : decode cX12_story 163 = .ok (.iadd, 1) := dAt wdX12_story_138 adX12_story_138.2.2.2.2.2.2.2.2.2.2.2.2.2.2.1 rfl
theorem dX12_story_164 : decode cX12_story 164 = .ok (.aload_n 0, 1) := dAt wdX12_story_138 adX12_story_138.2.2.2.2.2.2.2.2.2.2.2.2.2.2.2 rfl
def bdX12_story_165 : ByteArray := .mk #[180, 0, 39, 21, 4, 46, 79, 42, 180, 0, 8, 21, 5, 4, 96, 42, 180, 0, 36, 21, 4, 46, 79, 3, 54, 6]
theorem wdX12_story_165 : LocW cX12_story 165 bdX12_story_165 := loc_of (by decide +kernel)
theorem adX12_story_165 : De bdX12_story_165 0 (.getfield 39) 3 ∧ De bdX12_story_165 3 (.iload 4) 2 ∧ De bdX12_story_165 5 (.iaload) 1 ∧ De bdX12_story_165 6 (.iastore) 1 ∧ De bdX12_story_165 7 (.aload_n 0) 1 ∧ De bdX12_story_165 8 (.getfield 8) 3 ∧ De bdX12_story_165 11 (.iload 5) 2 ∧ De bdX12_story_165 13 (.iconst 1) 1 ∧ De bdX12_story_165 14 (.iadd) 1 ∧ De bdX12_story_165 15 (.aload_n 0) 1 ∧ De bdX12_story_165 16 (.getfield 36) 3 ∧ De bdX12_story_165 19 (.iload 4) 2 ∧ De bdX12_story_165 21 (.iaload) 1 ∧ De bdX12_story_165 22 (.iastore) 1 ∧ De bdX12_story_165 23 (.iconst 0) 1 ∧ De bdX12_story_165 24 (.istore 6) 2 := by decide +kernel
theorem dX12_story_165 : decode cX12_story 165 = .ok (.getfield 39, 3) := dAt wdX12_story_165 adX12_story_165.1 rfl
theorem dX12_story_168 : decode cX12_story 168 = .ok (.iload 4, 2) := dAt wdX12_story_165 adX12_story_165.2.1 rfl
theorem dX12_story_170 : decode cX12_story 170 = .ok (.iaload, 1) := dAt wdX12_story_165 adX12_story_165.2.2.1 rfl
theorem dX12_story_171 : decode cX12_story 171 = .ok (.iastore, 1) := dAt wdX12_story_165 adX12_story_165.2.2.2.1 rfl
theorem dX12_story_172 : decode cX12_story 172 = .ok (.aload_n 0, 1) := dAt wdX12_story_165 adX12_story_165.2.2.2.2.1 rfl
theorem dX12_story_173 : decode cX12_story 173 = .ok (.getfield 8, 3) := dAt wdX12_story_165 adX12_story_165.2.2.2.2.2.1 rfl
theorem dX12_story_176 : decode cX12_story 176 = .ok (.iload 5, 2) := dAt wdX12_story_165 adX12_story_165.2.2.2.2.2.2.1 rfl
theorem dX12_story_178 : decode cX12_story 178 = .ok (.iconst 1, 1) := dAt wdX12_story_165 adX12_story_165.2.2.2.2.2.2.2.1 rfl
theorem dX12_story_179 : decode cX12_story 179 = .ok (.iadd, 1) := dAt wdX12_story_165 adX12_story_165.2.2.2.2.2.2.2.2.1 rfl
theorem dX12_story_180 : decode cX12_story 180 = .ok (.aload_n 0, 1) := dAt wdX12_story_165 adX12_story_165.2.2.2.2.2.2.2.2.2.1 rfl
theorem dX12_story_181 : decode cX12_story 181 = .ok (.getfield 36, 3) := dAt wdX12_story_165 adX12_story_165.2.2.2.2.2.2.2.2.2.2.1 rfl
theorem dX12_story_184 : decode cX12_story 184 = .ok (.iload 4, 2) := dAt wdX12_story_165 adX12_story_165.2.2.2.2.2.2.2.2.2.2.2.1 rfl
theorem dX12_story_186 : decode cX12_story 186 = .ok (.iaload, 1) := dAt wdX12_story_165 adX12_story_165.2.2.2.2.2.2.2.2.2.2.2.2.1 rfl
theorem dX12_story_187 : decode cX12_story 187 = .ok (.iastore, 1) := dAt wdX12_story_165 adX12_story_165.2.2.2.2.2.2.2.2.2.2.2.2.2.1 rfl
theorem dX12_story_188 : decode cX12_story 188 = .ok (.iconst 0, 1) := dAt wdX12_story_165 adX12_story_165.2.2.2.2.2.2.2.2.2.2.2.2.2.2.1 rfl
theorem dX12_story_189 : decode cX12_story 189 = .ok (.istore 6, 2) := dAt wdX12_story_165 adX12_story_165.2.2.2.2.2.2.2.2.2.2.2.2.2.2.2 rfl
def bdX12_story_191 : ByteArray := .mk #[21, 6, 42, 180, 0, 36, 21, 4, 46, 162, 0, 116, 42, 180, 0, 8, 21, 5, 16, 85, 96, 21, 6, 96, 42, 180, 0, 27, 16, 40]
theorem wdX12_story_191 : LocW cX12_story 191 bdX12_story_191 := loc_of (by decide +kernel)
theorem adX12_story_191 : De bdX12_story_191 0 (.iload 6) 2 ∧ De bdX12_story_191 2 (.aload_n 0) 1 ∧ De bdX12_story_191 3 (.getfield 36) 3 ∧ De bdX12_story_191 6 (.iload 4) 2 ∧ De bdX12_story_191 8 (.iaload) 1 ∧ De bdX12_story_191 9 (.if_icmp .ge 116) 3 ∧ De bdX12_story_191 12 (.aload_n 0) 1 ∧ De bdX12_story_191 13 (.getfield 8) 3 ∧ De bdX12_story_191 16 (.iload 5) 2 ∧ De bdX12_story_191 18 (.bipush 85) 2 ∧ De bdX12_story_191 20 (.iadd) 1 ∧ De bdX12_story_191 21 (.iload 6) 2 ∧ De bdX12_story_191 23 (.iadd) 1 ∧ De bdX12_story_191 24 (.aload_n 0) 1 ∧ De bdX12_story_191 25 (.getfield 27) 3 ∧ De bdX12_story_191 28 (.bipush 40) 2 := by decide +kernel
theorem dX12_story_191 : decode cX12_story 191 = .ok (.iload 6, 2) := dAt wdX12_story_191 adX12_story_191.1 rfl
theorem dX12_story_193 : decode cX12_story 193 = .ok (.aload_n 0, 1) := dAt wdX12_story_191 adX12_story_191.2.1 rfl
theorem dX12_story_194 : decode cX12_story 194 = .ok (.getfield 36, 3) := dAt wdX12_story_191 adX12_story_191.2.2.1 rfl
theorem dX12_story_197 : decode cX12_story 197 = .ok (.iload 4, 2) := dAt wdX12_story_191 adX12_story_191.2.2.2.1 rfl
theorem dX12_story_199 : decode cX12_story 199 = .ok (.iaload, 1) := dAt wdX12_story_191 adX12_story_191.2.2.2.2.1 rfl
theorem dX12_story_200 : decode cX12_story 200 = .ok (.if_icmp .ge 116, 3) := dAt wdX12_story_191 adX12_story_191.2.2.2.2.2.1 rfl
theorem dX12_story_203 : decode cX12_story 203 = .ok (.aload_n 0, 1) := dAt wdX12_story_191 adX12_story_191.2.2.2.2.2.2.1 rfl
theorem dX12_story_204 : decode cX12_story 204 = .ok (.getfield 8, 3) := dAt wdX12_story_191 adX12_story_191.2.2.2.2.2.2.2.1 rfl
theorem dX12_story_207 : decode cX12_story 207 = .ok (.iload 5, 2) := dAt wdX12_story_191 adX12_story_191.2.2.2.2.2.2.2.2.1 rfl
theorem dX12_story_209 : decode cX12_story 209 = .ok (.bipush 85, 2) := dAt wdX12_story_191 adX12_story_191.2.2.2.2.2.2.2.2.2.1 rfl
theorem dX12_story_211 : decode cX12_story 211 = .ok (.iadd, 1) := dAt wdX12_story_191 adX12_story_191.2.2.2.2.2.2.2.2.2.2.1 rfl
theorem dX12_story_212 : decode cX12_story 212 = .ok (.iload 6, 2) := dAt wdX12_story_191 adX12_story_191.2.2.2.2.2.2.2.2.2.2.2.1 rfl
theorem dX12_story_214 : decode cX12_story 214 = .ok (.iadd, 1) := dAt wdX12_story_191 adX12_story_191.2.2.2.2.2.2.2.2.2.2.2.2.1 rfl
theorem dX12_story_215 : decode cX12_story 215 = .ok (.aload_n 0, 1) := dAt wdX12_story_191 adX12_story_191.2.2.2.2.2.2.2.2.2.2.2.2.2.1 rfl
theorem dX12_story_216 : decode cX12_story 216 = .ok (.getfield 27, 3) := dAt wdX12_story_191 adX12_story_191.2.2.2.2.2.2.2.2.2.2.2.2.2.2.1 rfl
theorem dX12_story_219 : decode cX12_story 219 = .ok (.bipush 40, 2) := dAt wdX12_story_191 adX12_story_191.2.2.2.2.2.2.2.2.2.2.2.2.2.2.2 rfl
def bdX12_story_221 : ByteArray := .mk #[21, 4, 104, 21, 6, 96, 46, 79, 42, 180, 0, 8, 21, 5, 16, 125, 96, 21, 6, 96, 42, 180, 0, 30, 16, 40]
theorem wdX12_story_221 : LocW cX12_story 221 bdX12_story_221 := loc_of (by decide +kernel)
theorem adX12_story_221 : De bdX12_story_221 0 (.iload 4) 2 ∧ De bdX12_story_221 2 (.imul) 1 ∧ De bdX12_story_221 3 (.iload 6) 2 ∧ De bdX12_story_221 5 (.iadd) 1 ∧ De bdX12_story_221 6 (.iaload) 1 ∧ De bdX12_story_221 7 (.iastore) 1 ∧ De bdX12_story_221 8 (.aload_n 0) 1 ∧ De bdX12_story_221 9 (.getfield 8) 3 ∧ De bdX12_story_221 12 (.iload 5) 2 ∧ De bdX12_story_221 14 (.bipush 125) 2 ∧ De bdX12_story_221 16 (.iadd) 1 ∧ De bdX12_story_221 17 (.iload 6) 2 ∧ De bdX12_story_221 19 (.iadd) 1 ∧ De bdX12_story_221 20 (.aload_n 0) 1 ∧ De bdX12_story_221 21 (.getfield 30) 3 ∧ De bdX12_story_221 24 (.bipush 40) 2 := by decide +kernel
theorem dX12_story_221 : decode cX12_story 221 = .ok (.iload 4, 2) := dAt wdX12_story_221 adX12_story_221.1 rfl
theorem dX12_story_223 : decode cX12_story 223 = .ok (.imul, 1) := dAt wdX12_story_221 adX12_story_221.2.1 rfl
theorem dX12_story_224 : decode cX12_story 224 = .ok (.iload 6, 2) := dAt wdX12_story_221 adX12_story_221.2.2.1 rfl
theorem dX12_story_226 : decode cX12_story 226 = .ok (.iadd, 1) := dAt wdX12_story_221 adX12_story_221.2.2.2.1 rfl
theorem dX12_story_227 : decode cX12_story 227 = .ok (.iaload, 1) := dAt wdX12_story_221 adX12_story_221.2.2.2.2.1 rfl
theorem dX12_story_228 : decode cX12_story 228 = .ok (.iastore, 1) := dAt wdX12_story_221 adX12_story_221.2.2.2.2.2.1 rfl
theorem dX12_story_229 : decode cX12_story 229 = .ok (.aload_n 0, 1) := dAt wdX12_story_221 adX12_story_221.2.2.2.2.2.2.1 rfl
theorem dX12_story_230 : decode cX12_story 230 = .ok (.getfield 8, 3) := dAt wdX12_story_221 adX12_story_221.2.2.2.2.2.2.2.1 rfl
theorem dX12_story_233 : decode cX12_story 233 = .ok (.iload 5, 2) := dAt wdX12_story_221 adX12_story_221.2.2.2.2.2.2.2.2.1 rfl
theorem dX12_story_235 : decode cX12_story 235 = .ok (.bipush 125, 2) := dAt wdX12_story_221 adX12_story_221.2.2.2.2.2.2.2.2.2.1 rfl
theorem dX12_story_237 : decode cX12_story 237 = .ok (.iadd, 1) := dAt wdX12_story_221 adX12_story_221.2.2.2.2.2.2.2.2.2.2.1 rfl
theorem dX12_story_238 : decode cX12_story 238 = .ok (.iload 6, 2) := dAt wdX12_story_221 adX12_story_221.2.2.2.2.2.2.2.2.2.2.2.1 rfl
theorem dX12_story_240 : decode cX12_story 240 = .ok (.iadd, 1) := dAt wdX12_story_221 adX12_story_221.2.2.2.2.2.2.2.2.2.2.2.2.1 rfl
theorem dX12_story_241 : decode cX12_story 241 = .ok (.aload_n 0, 1) := dAt wdX12_story_221 adX12_story_221.2.2.2.2.2.2.2.2.2.2.2.2.2.1 rfl
theorem dX12_story_242 : decode cX12_story 242 = .ok (.getfield 30, 3) := dAt wdX12_story_221 adX12_story_221.2.2.2.2.2.2.2.2.2.2.2.2.2.2.1 rfl
theorem dX12_story_245 : decode cX12_story 245 = .ok (.bipush 40, 2) := dAt wdX12_story_221 adX12_story_221.2.2.2.2.2.2.2.2.2.2.2.2.2.2.2 rfl
def bdX12_story_247 : ByteArray := .mk #[21, 4, 104, 21, 6, 96, 46, 79, 3, 54, 7, 21, 7, 16, 12, 162, 0, 48, 42, 180, 0, 8, 21, 5, 17, 0, 165, 96]
theorem wdX12_story_247 : LocW cX12_story 247 bdX12_story_247 := loc_of (by decide +kernel)
theorem adX12_story_247 : De bdX12_story_247 0 (.iload 4) 2 ∧ De bdX12_story_247 2 (.imul) 1 ∧ De bdX12_story_247 3 (.iload 6) 2 ∧ De bdX12_story_247 5 (.iadd) 1 ∧ De bdX12_story_247 6 (.iaload) 1 ∧ De bdX12_story_247 7 (.iastore) 1 ∧ De bdX12_story_247 8 (.iconst 0) 1 ∧ De bdX12_story_247 9 (.istore 7) 2 ∧ De bdX12_story_247 11 (.iload 7) 2 ∧ De bdX12_story_247 13 (.bipush 12) 2 ∧ De bdX12_story_247 15 (.if_icmp .ge 48) 3 ∧ De bdX12_story_247 18 (.aload_n 0) 1 ∧ De bdX12_story_247 19 (.getfield 8) 3 ∧ De bdX12_story_247 22 (.iload 5) 2 ∧ De bdX12_story_247 24 (.sipush 165) 3 ∧ De bdX12_story_247 27 (.iadd) 1 := by decide +kernel
theorem dX12_story_247 : decode cX12_story 247 = .ok (.iload 4, 2) := dAt wdX12_story_247 adX12_story_247.1 rfl
theorem dX12_story_249 : decode cX12_story 249 = .ok (.imul, 1) := dAt wdX12_story_247 adX12_story_247.2.1 rfl
theorem dX12_story_250 : decode cX12_story 250 = .ok (.iload 6, 2) := dAt wdX12_story_247 adX12_story_247.2.2.1 rfl
theorem dX12_story_252 : decode cX12_story 252 = .ok (.iadd, 1) := dAt wdX12_story_247 adX12_story_247.2.2.2.1 rfl
theorem dX12_story_253 : decode cX12_story 253 = .ok (.iaload, 1) := dAt wdX12_story_247 adX12_story_247.2.2.2.2.1 rfl
theorem dX12_story_254 : decode cX12_story 254 = .ok (.iastore, 1) := dAt wdX12_story_247 adX12_story_247.2.2.2.2.2.1 rfl
theorem dX12_story_255 : decode cX12_story 255 = .ok (.iconst 0, 1) := dAt wdX12_story_247 adX12_story_247.2.2.2.2.2.2.1 rfl
theorem dX12_story_256 : decode cX12_story 256 = .ok (.istore 7, 2) := dAt wdX12_story_247 adX12_story_247.2.2.2.2.2.2.2.1 rfl
theorem dX12_story_258 : decode cX12_story 258 = .ok (.iload 7, 2) := dAt wdX12_story_247 adX12_story_247.2.2.2.2.2.2.2.2.1 rfl
theorem dX12_story_260 : decode cX12_story 260 = .ok (.bipush 12, 2) := dAt wdX12_story_247 adX12_story_247.2.2.2.2.2.2.2.2.2.1 rfl
theorem dX12_story_262 : decode cX12_story 262 = .ok (.if_icmp .ge 48, 3) := dAt wdX12_story_247 adX12_story_247.2.2.2.2.2.2.2.2.2.2.1 rfl
theorem dX12_story_265 : decode cX12_story 265 = .ok (.aload_n 0, 1) := dAt wdX12_story_247 adX12_story_247.2.2.2.2.2.2.2.2.2.2.2.1 rfl
theorem dX12_story_266 : decode cX12_story 266 = .ok (.getfield 8, 3) := dAt wdX12_story_247 adX12_story_247.2.2.2.2.2.2.2.2.2.2.2.2.1 rfl
theorem dX12_story_269 : decode cX12_story 269 = .ok (.iload 5, 2) := dAt wdX12_story_247 adX12_story_247.2.2.2.2.2.2.2.2.2.2.2.2.2.1 rfl
theorem dX12_story_271 : decode cX12_story 271 = .ok (.sipush 165, 3) := dAt wdX12_story_247 adX12_story_247.2.2.2.2.2.2.2.2.2.2.2.2.2.2.1 rfl
theorem dX12_story_274 : decode cX12_story 274 = .ok (.iadd, 1) := dAt wdX12_story_247 adX12_story_247.2.2.2.2.2.2.2.2.2.2.2.2.2.2.2 rfl
def bdX12_story_275 : ByteArray := .mk #[16, 12, 21, 6, 104, 96, 21, 7, 96, 42, 180, 0, 33, 16, 12, 16, 40, 21, 4, 104, 21, 6, 96, 104, 21, 7]
theorem wdX12_story_275 : LocW cX12_story 275 bdX12_story_275 := loc_of (by decide +kernel)
theorem adX12_story_275 : De bdX12_story_275 0 (.bipush 12) 2 ∧ De bdX12_story_275 2 (.iload 6) 2 ∧ De bdX12_story_275 4 (.imul) 1 ∧ De bdX12_story_275 5 (.iadd) 1 ∧ De bdX12_story_275 6 (.iload 7) 2 ∧ De bdX12_story_275 8 (.iadd) 1 ∧ De bdX12_story_275 9 (.aload_n 0) 1 ∧ De bdX12_story_275 10 (.getfield 33) 3 ∧ De bdX12_story_275 13 (.bipush 12) 2 ∧ De bdX12_story_275 15 (.bipush 40) 2 ∧ De bdX12_story_275 17 (.iload 4) 2 ∧ De bdX12_story_275 19 (.imul) 1 ∧ De bdX12_story_275 20 (.iload 6) 2 ∧ De bdX12_story_275 22 (.iadd) 1 ∧ De bdX12_story_275 23 (.imul) 1 ∧ De bdX12_story_275 24 (.iload 7) 2 := by decide +kernel
theorem dX12_story_275 : decode cX12_story 275 = .ok (.bipush 12, 2) := dAt wdX12_story_275 adX12_story_275.1 rfl
theorem dX12_story_277 : decode cX12_story 277 = .ok (.iload 6, 2) := dAt wdX12_story_275 adX12_story_275.2.1 rfl
theorem dX12_story_279 : decode cX12_story 279 = .ok (.imul, 1) := dAt wdX12_story_275 adX12_story_275.2.2.1 rfl
theorem dX12_story_280 : decode cX12_story 280 = .ok (.iadd, 1) := dAt wdX12_story_275 adX12_story_275.2.2.2.1 rfl
theorem dX12_story_281 : decode cX12_story 281 = .ok (.iload 7, 2) := dAt wdX12_story_275 adX12_story_275.2.2.2.2.1 rfl
theorem dX12_story_283 : decode cX12_story 283 = .ok (.iadd, 1) := dAt wdX12_story_275 adX12_story_275.2.2.2.2.2.1 rfl
theorem dX12_story_284 : decode cX12_story 284 = .ok (.aload_n 0, 1) := dAt wdX12_story_275 adX12_story_275.2.2.2.2.2.2.1 rfl
theorem dX12_story_285 : decode cX12_story 285 = .ok (.getfield 33, 3) := dAt wdX12_story_275 adX12_story_275.2.2.2.2.2.2.2.1 rfl
theorem dX12_story_288 : decode cX12_story 288 = .ok (.bipush 12, 2) := dAt wdX12_story_275 adX12_story_275.2.2.2.2.2.2.2.2.1 rfl
theorem dX12_story_290 : decode cX12_story 290 = .ok (.bipush 40, 2) := dAt wdX12_story_275 adX12_story_275.2.2.2.2.2.2.2.2.2.1 rfl
theorem dX12_story_292 : decode cX12_story 292 = .ok (.iload 4, 2) := dAt wdX12_story_275 adX12_story_275.2.2.2.2.2.2.2.2.2.2.1 rfl
theorem dX12_story_294 : decode cX12_story 294 = .ok (.imul, 1) := dAt wdX12_story_275 adX12_story_275.2.2.2.2.2.2.2.2.2.2.2.1 rfl
theorem dX12_story_295 : decode cX12_story 295 = .ok (.iload 6, 2) := dAt wdX12_story_275 adX12_story_275.2.2.2.2.2.2.2.2.2.2.2.2.1 rfl
theorem dX12_story_297 : decode cX12_story 297 = .ok (.iadd, 1) := dAt wdX12_story_275 adX12_story_275.2.2.2.2.2.2.2.2.2.2.2.2.2.1 rfl
theorem dX12_story_298 : decode cX12_story 298 = .ok (.imul, 1) := dAt wdX12_story_275 adX12_story_275.2.2.2.2.2.2.2.2.2.2.2.2.2.2.1 rfl
theorem dX12_story_299 : decode cX12_story 299 = .ok (.iload 7, 2) := dAt wdX12_story_275 adX12_story_275.2.2.2.2.2.2.2.2.2.2.2.2.2.2.2 rfl
def bdX12_story_301 : ByteArray := .mk #[96, 46, 79, 132, 7, 1, 167, 255, 207, 132, 6, 1, 167, 255, 134, 132, 4, 1, 167, 255, 73, 42, 180, 0, 8, 4, 92, 46, 4, 96]
theorem wdX12_story_301 : LocW cX12_story 301 bdX12_story_301 := loc_of (by decide +kernel)
theorem adX12_story_301 : De bdX12_story_301 0 (.iadd) 1 ∧ De bdX12_story_301 1 (.iaload) 1 ∧ De bdX12_story_301 2 (.iastore) 1 ∧ De bdX12_story_301 3 (.iinc 7 1) 3 ∧ De bdX12_story_301 6 (.goto (-49)) 3 ∧ De bdX12_story_301 9 (.iinc 6 1) 3 ∧ De bdX12_story_301 12 (.goto (-122)) 3 ∧ De bdX12_story_301 15 (.iinc 4 1) 3 ∧ De bdX12_story_301 18 (.goto (-183)) 3 ∧ De bdX12_story_301 21 (.aload_n 0) 1 ∧ De bdX12_story_301 22 (.getfield 8) 3 ∧ De bdX12_story_301 25 (.iconst 1) 1 ∧ De bdX12_story_301 26 (.dup2) 1 ∧ De bdX12_story_301 27 (.iaload) 1 ∧ De bdX12_story_301 28 (.iconst 1) 1 ∧ De bdX12_story_301 29 (.iadd) 1 := by decide +kernel
theorem dX12_story_301 : decode cX12_story 301 = .ok (.iadd, 1) := dAt wdX12_story_301 adX12_story_301.1 rfl
theorem dX12_story_302 : decode cX12_story 302 = .ok (.iaload, 1) := dAt wdX12_story_301 adX12_story_301.2.1 rfl
theorem dX12_story_303 : decode cX12_story 303 = .ok (.iastore, 1) := dAt wdX12_story_301 adX12_story_301.2.2.1 rfl
theorem dX12_story_304 : decode cX12_story 304 = .ok (.iinc 7 1, 3) := dAt wdX12_story_301 adX12_story_301.2.2.2.1 rfl
theorem dX12_story_307 : decode cX12_story 307 = .ok (.goto (-49), 3) := dAt wdX12_story_301 adX12_story_301.2.2.2.2.1 rfl
theorem dX12_story_310 : decode cX12_story 310 = .ok (.iinc 6 1, 3) := dAt wdX12_story_301 adX12_story_301.2.2.2.2.2.1 rfl
theorem dX12_story_313 : decode cX12_story 313 = .ok (.goto (-122), 3) := dAt wdX12_story_301 adX12_story_301.2.2.2.2.2.2.1 rfl
theorem dX12_story_316 : decode cX12_story 316 = .ok (.iinc 4 1, 3) := dAt wdX12_story_301 adX12_story_301.2.2.2.2.2.2.2.1 rfl
theorem dX12_story_319 : decode cX12_story 319 = .ok (.goto (-183), 3) := dAt wdX12_story_301 adX12_story_301.2.2.2.2.2.2.2.2.1 rfl
theorem dX12_story_322 : decode cX12_story 322 = .ok (.aload_n 0, 1) := dAt wdX12_story_301 adX12_story_301.2.2.2.2.2.2.2.2.2.1 rfl
theorem dX12_story_323 : decode cX12_story 323 = .ok (.getfield 8, 3) := dAt wdX12_story_301 adX12_story_301.2.2.2.2.2.2.2.2.2.2.1 rfl
theorem dX12_story_326 : decode cX12_story 326 = .ok (.iconst 1, 1) := dAt wdX12_story_301 adX12_story_301.2.2.2.2.2.2.2.2.2.2.2.1 rfl
theorem dX12_story_327 : decode cX12_story 327 = .ok (.dup2, 1) := dAt wdX12_story_301 adX12_story_301.2.2.2.2.2.2.2.2.2.2.2.2.1 rfl
theorem dX12_story_328 : decode cX12_story 328 = .ok (.iaload, 1) := dAt wdX12_story_301 adX12_story_301.2.2.2.2.2.2.2.2.2.2.2.2.2.1 rfl
theorem dX12_story_329 : decode cX12_story 329 = .ok (.iconst 1, 1) := dAt wdX12_story_301 adX12_story_301.2.2.2.2.2.2.2.2.2.2.2.2.2.2.1 rfl
theorem dX12_story_330 : decode cX12_story 330 = .ok (.iadd, 1) := dAt wdX12_story_301 adX12_story_301.2.2.2.2.2.2.2.2.2.2.2.2.2.2.2 rfl
def bdX12_story_331 : ByteArray := .mk #[79, 29, 172]
theorem wdX12_story_331 : LocW cX12_story 331 bdX12_story_331 := loc_of (by decide +kernel)
theorem adX12_story_331 : De bdX12_story_331 0 (.iastore) 1 ∧ De bdX12_story_331 1 (.iload_n 3) 1 ∧ De bdX12_story_331 2 (.ireturn) 1 := by decide +kernel
theorem dX12_story_331 : decode cX12_story 331 = .ok (.iastore, 1) := dAt wdX12_story_331 adX12_story_331.1 rfl
theorem dX12_story_332 : decode cX12_story 332 = .ok (.iload_n 3, 1) := dAt wdX12_story_331 adX12_story_331.2.1 rfl
theorem dX12_story_333 : decode cX12_story 333 = .ok (.ireturn, 1) := dAt wdX12_story_331 adX12_story_331.2.2 rfl
def bdX12_width_0 : ByteArray := .mk #[42, 27, 3, 4, 184, 0, 157, 153, 0, 13, 28, 3, 16, 26, 184, 0, 157, 154, 0, 7, 4, 167, 0, 18, 29, 4, 16, 20]
theorem wdX12_width_0 : LocW cX12_width 0 bdX12_width_0 := loc_of (by decide +kernel)
theorem adX12_width_0 : De bdX12_width_0 0 (.aload_n 0) 1 ∧ De bdX12_width_0 1 (.iload_n 1) 1 ∧ De bdX12_width_0 2 (.iconst 0) 1 ∧ De bdX12_width_0 3 (.iconst 1) 1 ∧ De bdX12_width_0 4 (.invokestatic 157) 3 ∧ De bdX12_width_0 7 (.ifCond .eq 13) 3 ∧ De bdX12_width_0 10 (.iload_n 2) 1 ∧ De bdX12_width_0 11 (.iconst 0) 1 ∧ De bdX12_width_0 12 (.bipush 26) 2 ∧ De bdX12_width_0 14 (.invokestatic 157) 3 ∧ De bdX12_width_0 17 (.ifCond .ne 7) 3 ∧ De bdX12_width_0 20 (.iconst 1) 1 ∧ De bdX12_width_0 21 (.goto 18) 3 ∧ De bdX12_width_0 24 (.iload_n 3) 1 ∧ De bdX12_width_0 25 (.iconst 1) 1 ∧ De bdX12_width_0 26 (.bipush 20) 2 := by decide +kernel
theorem dX12_width_0 : decode cX12_width 0 = .ok (.aload_n 0, 1) := dAt wdX12_width_0 adX12_width_0.1 rfl
theorem dX12_width_1 : decode cX12_width 1 = .ok (.iload_n 1, 1) := dAt wdX12_width_0 adX12_width_0.2.1 rfl
theorem dX12_width_2 : decode cX12_width 2 = .ok (.iconst 0, 1) := dAt wdX12_width_0 adX12_width_0.2.2.1 rfl
theorem dX12_width_3 : decode cX12_width 3 = .ok (.iconst 1, 1) := dAt wdX12_width_0 adX12_width_0.2.2.2.1 rfl
theorem dX12_width_4 : decode cX12_width 4 = .ok (.invokestatic 157, 3) := dAt wdX12_width_0 adX12_width_0.2.2.2.2.1 rfl
theorem dX12_width_7 : decode cX12_width 7 = .ok (.ifCond .eq 13, 3) := dAt wdX12_width_0 adX12_width_0.2.2.2.2.2.1 rfl
theorem dX12_width_10 : decode cX12_width 10 = .ok (.iload_n 2, 1) := dAt wdX12_width_0 adX12_width_0.2.2.2.2.2.2.1 rfl
theorem dX12_width_11 : decode cX12_width 11 = .ok (.iconst 0, 1) := dAt wdX12_width_0 adX12_width_0.2.2.2.2.2.2.2.1 rfl
theorem dX12_width_12 : decode cX12_width 12 = .ok (.bipush 26, 2) := dAt wdX12_width_0 adX12_width_0.2.2.2.2.2.2.2.2.1 rfl
theorem dX12_width_14 : decode cX12_width 14 = .ok (.invokestatic 157, 3) := dAt wdX12_width_0 adX12_width_0.2.2.2.2.2.2.2.2.2.1 rfl
theorem dX12_width_17 : decode cX12_width 17 = .ok (.ifCond .ne 7, 3) := dAt wdX12_width_0 adX12_width_0.2.2.2.2.2.2.2.2.2.2.1 rfl
theorem dX12_width_20 : decode cX12_width 20 = .ok (.iconst 1, 1) := dAt wdX12_width_0 adX12_width_0.2.2.2.2.2.2.2.2.2.2.2.1 rfl
theorem dX12_width_21 : decode cX12_width 21 = .ok (.goto 18, 3) := dAt wdX12_width_0 adX12_width_0.2.2.2.2.2.2.2.2.2.2.2.2.1 rfl
theorem dX12_width_24 : decode cX12_width 24 = .ok (.iload_n 3, 1) := dAt wdX12_width_0 adX12_width_0.2.2.2.2.2.2.2.2.2.2.2.2.2.1 rfl
theorem dX12_width_25 : decode cX12_width 25 = .ok (.iconst 1, 1) := dAt wdX12_width_0 adX12_width_0.2.2.2.2.2.2.2.2.2.2.2.2.2.2.1 rfl
theorem dX12_width_26 : decode cX12_width 26 = .ok (.bipush 20, 2) := dAt wdX12_width_0 adX12_width_0.2.2.2.2.2.2.2.2.2.2.2.2.2.2.2 rfl
def bdX12_width_28 : ByteArray := .mk #[184, 0, 157, 154, 0, 7, 5, 167, 0, 4, 3, 181, 0, 122, 42, 180, 0, 122, 154, 0, 18, 42, 180, 0, 8, 16, 16, 16, 27, 27, 104, 96]
theorem wdX12_width_28 : LocW cX12_width 28 bdX12_width_28 := loc_of (by decide +kernel)
theorem adX12_width_28 : De bdX12_width_28 0 (.invokestatic 157) 3 ∧ De bdX12_width_28 3 (.ifCond .ne 7) 3 ∧ De bdX12_width_28 6 (.iconst 2) 1 ∧ De bdX12_width_28 7 (.goto 4) 3 ∧ De bdX12_width_28 10 (.iconst 0) 1 ∧ De bdX12_width_28 11 (.putfield 122) 3 ∧ De bdX12_width_28 14 (.aload_n 0) 1 ∧ De bdX12_width_28 15 (.getfield 122) 3 ∧ De bdX12_width_28 18 (.ifCond .ne 18) 3 ∧ De bdX12_width_28 21 (.aload_n 0) 1 ∧ De bdX12_width_28 22 (.getfield 8) 3 ∧ De bdX12_width_28 25 (.bipush 16) 2 ∧ De bdX12_width_28 27 (.bipush 27) 2 ∧ De bdX12_width_28 29 (.iload_n 1) 1 ∧ De bdX12_width_28 30 (.imul) 1 ∧ De bdX12_width_28 31 (.iadd) 1 := by decide +kernel
theorem dX12_width_28 : decode cX12_width 28 = .ok (.invokestatic 157, 3) := dAt wdX12_width_28 adX12_width_28.1 rfl
theorem dX12_width_31 : decode cX12_width 31 = .ok (.ifCond .ne 7, 3) := dAt wdX12_width_28 adX12_width_28.2.1 rfl
theorem dX12_width_34 : decode cX12_width 34 = .ok (.iconst 2, 1) := dAt wdX12_width_28 adX12_width_28.2.2.1 rfl
theorem dX12_width_35 : decode cX12_width 35 = .ok (.goto 4, 3) := dAt wdX12_width_28 adX12_width_28.2.2.2.1 rfl
theorem dX12_width_38 : decode cX12_width 38 = .ok (.iconst 0, 1) := dAt wdX12_width_28 adX12_width_28.2.2.2.2.1 rfl
theorem dX12_width_39 : decode cX12_width 39 = .ok (.putfield 122, 3) := dAt wdX12_width_28 adX12_width_28.2.2.2.2.2.1 rfl
theorem dX12_width_42 : decode cX12_width 42 = .ok (.aload_n 0, 1) := dAt wdX12_width_28 adX12_width_28.2.2.2.2.2.2.1 rfl
theorem dX12_width_43 : decode cX12_width 43 = .ok (.getfield 122, 3) := dAt wdX12_width_28 adX12_width_28.2.2.2.2.2.2.2.1 rfl
theorem dX12_width_46 : decode cX12_width 46 = .ok (.ifCond .ne 18, 3) := dAt wdX12_width_28 adX12_width_28.2.2.2.2.2.2.2.2.1 rfl
theorem dX12_width_49 : decode cX12_width 49 = .ok (.aload_n 0, 1) := dAt wdX12_width_28 adX12_width_28.2.2.2.2.2.2.2.2.2.1 rfl
theorem dX12_width_50 : decode cX12_width 50 = .ok (.getfield 8, 3) := dAt wdX12_width_28 adX12_width_28.2.2.2.2.2.2.2.2.2.2.1 rfl
theorem dX12_width_53 : decode cX12_width 53 = .ok (.bipush 16, 2) := dAt wdX12_width_28 adX12_width_28.2.2.2.2.2.2.2.2.2.2.2.1 rfl
theorem dX12_width_55 : decode cX12_width 55 = .ok (.bipush 27, 2) := dAt wdX12_width_28 adX12_width_28.2.2.2.2.2.2.2.2.2.2.2.2.1 rfl
theorem dX12_width_57 : decode cX12_width 57 = .ok (.iload_n 1, 1) := dAt wdX12_width_28 adX12_width_28.2.2.2.2.2.2.2.2.2.2.2.2.2.1 rfl
theorem dX12_width_58 : decode cX12_width 58 = .ok (.imul, 1) := dAt wdX12_width_28 adX12_width_28.2.2.2.2.2.2.2.2.2.2.2.2.2.2.1 rfl
theorem dX12_width_59 : decode cX12_width 59 = .ok (.iadd, 1) := dAt wdX12_width_28 adX12_width_28.2.2.2.2.2.2.2.2.2.2.2.2.2.2.2 rfl
def bdX12_width_60 : ByteArray := .mk #[28, 96, 29, 79, 177]
theorem wdX12_width_60 : LocW cX12_width 60 bdX12_width_60 := loc_of (by decide +kernel)
theorem adX12_width_60 : De bdX12_width_60 0 (.iload_n 2) 1 ∧ De bdX12_width_60 1 (.iadd) 1 ∧ De bdX12_width_60 2 (.iload_n 3) 1 ∧ De bdX12_width_60 3 (.iastore) 1 ∧ De bdX12_width_60 4 (.return_) 1 := by decide +kernel
theorem dX12_width_60 : decode cX12_width 60 = .ok (.iload_n 2, 1) := dAt wdX12_width_60 adX12_width_60.1 rfl
theorem dX12_width_61 : decode cX12_width 61 = .ok (.iadd, 1) := dAt wdX12_width_60 adX12_width_60.2.1 rfl
theorem dX12_width_62 : decode cX12_width 62 = .ok (.iload_n 3, 1) := dAt wdX12_width_60 adX12_width_60.2.2.1 rfl
theorem dX12_width_63 : decode cX12_width 63 = .ok (.iastore, 1) := dAt wdX12_width_60 adX12_width_60.2.2.2.1 rfl
theorem dX12_width_64 : decode cX12_width 64 = .ok (.return_, 1) := dAt wdX12_width_60 adX12_width_60.2.2.2.2 rfl
def bdX12_wordEnd_0 : ByteArray := .mk #[42, 180, 0, 137, 60, 27, 42, 180, 0, 134, 162, 0, 21, 42, 180, 0, 20, 27, 46, 184, 0, 143, 153, 0, 9, 132, 1, 1, 167, 255, 233, 27]
theorem wdX12_wordEnd_0 : LocW cX12_wordEnd 0 bdX12_wordEnd_0 := loc_of (by decide +kernel)
theorem adX12_wordEnd_0 : De bdX12_wordEnd_0 0 (.aload_n 0) 1 ∧ De bdX12_wordEnd_0 1 (.getfield 137) 3 ∧ De bdX12_wordEnd_0 4 (.istore_n 1) 1 ∧ De bdX12_wordEnd_0 5 (.iload_n 1) 1 ∧ De bdX12_wordEnd_0 6 (.aload_n 0) 1 ∧ De bdX12_wordEnd_0 7 (.getfield 134) 3 ∧ De bdX12_wordEnd_0 10 (.if_icmp .ge 21) 3 ∧ De bdX12_wordEnd_0 13 (.aload_n 0) 1 ∧ De bdX12_wordEnd_0 14 (.getfield 20) 3 ∧ De bdX12_wordEnd_0 17 (.iload_n 1) 1 ∧ De bdX12_wordEnd_0 18 (.iaload) 1 ∧ De bdX12_wordEnd_0 19 (.invokestatic 143) 3 ∧ De bdX12_wordEnd_0 22 (.ifCond .eq 9) 3 ∧ De bdX12_wordEnd_0 25 (.iinc 1 1) 3 ∧ De bdX12_wordEnd_0 28 (.goto (-23)) 3 ∧ De bdX12_wordEnd_0 31 (.iload_n 1) 1 := by decide +kernel
theorem dX12_wordEnd_0 : decode cX12_wordEnd 0 = .ok (.aload_n 0, 1) := dAt wdX12_wordEnd_0 adX12_wordEnd_0.1 rfl
theorem dX12_wordEnd_1 : decode cX12_wordEnd 1 = .ok (.getfield 137, 3) := dAt wdX12_wordEnd_0 adX12_wordEnd_0.2.1 rfl
theorem dX12_wordEnd_4 : decode cX12_wordEnd 4 = .ok (.istore_n 1, 1) := dAt wdX12_wordEnd_0 adX12_wordEnd_0.2.2.1 rfl
theorem dX12_wordEnd_5 : decode cX12_wordEnd 5 = .ok (.iload_n 1, 1) := dAt wdX12_wordEnd_0 adX12_wordEnd_0.2.2.2.1 rfl
theorem dX12_wordEnd_6 : decode cX12_wordEnd 6 = .ok (.aload_n 0, 1) := dAt wdX12_wordEnd_0 adX12_wordEnd_0.2.2.2.2.1 rfl
theorem dX12_wordEnd_7 : decode cX12_wordEnd 7 = .ok (.getfield 134, 3) := dAt wdX12_wordEnd_0 adX12_wordEnd_0.2.2.2.2.2.1 rfl
theorem dX12_wordEnd_10 : decode cX12_wordEnd 10 = .ok (.if_icmp .ge 21, 3) := dAt wdX12_wordEnd_0 adX12_wordEnd_0.2.2.2.2.2.2.1 rfl
theorem dX12_wordEnd_13 : decode cX12_wordEnd 13 = .ok (.aload_n 0, 1) := dAt wdX12_wordEnd_0 adX12_wordEnd_0.2.2.2.2.2.2.2.1 rfl
theorem dX12_wordEnd_14 : decode cX12_wordEnd 14 = .ok (.getfield 20, 3) := dAt wdX12_wordEnd_0 adX12_wordEnd_0.2.2.2.2.2.2.2.2.1 rfl
theorem dX12_wordEnd_17 : decode cX12_wordEnd 17 = .ok (.iload_n 1, 1) := dAt wdX12_wordEnd_0 adX12_wordEnd_0.2.2.2.2.2.2.2.2.2.1 rfl
theorem dX12_wordEnd_18 : decode cX12_wordEnd 18 = .ok (.iaload, 1) := dAt wdX12_wordEnd_0 adX12_wordEnd_0.2.2.2.2.2.2.2.2.2.2.1 rfl
theorem dX12_wordEnd_19 : decode cX12_wordEnd 19 = .ok (.invokestatic 143, 3) := dAt wdX12_wordEnd_0 adX12_wordEnd_0.2.2.2.2.2.2.2.2.2.2.2.1 rfl
theorem dX12_wordEnd_22 : decode cX12_wordEnd 22 = .ok (.ifCond .eq 9, 3) := dAt wdX12_wordEnd_0 adX12_wordEnd_0.2.2.2.2.2.2.2.2.2.2.2.2.1 rfl
theorem dX12_wordEnd_25 : decode cX12_wordEnd 25 = .ok (.iinc 1 1, 3) := dAt wdX12_wordEnd_0 adX12_wordEnd_0.2.2.2.2.2.2.2.2.2.2.2.2.2.1 rfl
theorem dX12_wordEnd_28 : decode cX12_wordEnd 28 = .ok (.goto (-23), 3) := dAt wdX12_wordEnd_0 adX12_wordEnd_0.2.2.2.2.2.2.2.2.2.2.2.2.2.2.1 rfl
theorem dX12_wordEnd_31 : decode cX12_wordEnd 31 = .ok (.iload_n 1, 1) := dAt wdX12_wordEnd_0 adX12_wordEnd_0.2.2.2.2.2.2.2.2.2.2.2.2.2.2.2 rfl
def bdX12_wordEnd_32 : ByteArray := .mk #[172]
theorem wdX12_wordEnd_32 : LocW cX12_wordEnd 32 bdX12_wordEnd_32 := loc_of (by decide +kernel)
theorem adX12_wordEnd_32 : De bdX12_wordEnd_32 0 (.ireturn) 1 := by decide +kernel
theorem dX12_wordEnd_32 : decode cX12_wordEnd 32 = .ok (.ireturn, 1) := dAt wdX12_wordEnd_32 adX12_wordEnd_32 rfl
def bdX12_takes_0 : ByteArray := .mk #[42, 182, 0, 147, 42, 182, 0, 168, 42, 180, 0, 137, 100, 43, 182, 0, 172, 160, 0, 7, 4, 167, 0, 4, 3, 61, 3, 62]
theorem wdX12_takes_0 : LocW cX12_takes 0 bdX12_takes_0 := loc_of (by decide +kernel)
theorem adX12_takes_0 : De bdX12_takes_0 0 (.aload_n 0) 1 ∧ De bdX12_takes_0 1 (.invokevirtual 147) 3 ∧ De bdX12_takes_0 4 (.aload_n 0) 1 ∧ De bdX12_takes_0 5 (.invokevirtual 168) 3 ∧ De bdX12_takes_0 8 (.aload_n 0) 1 ∧ De bdX12_takes_0 9 (.getfield 137) 3 ∧ De bdX12_takes_0 12 (.isub) 1 ∧ De bdX12_takes_0 13 (.aload_n 1) 1 ∧ De bdX12_takes_0 14 (.invokevirtual 172) 3 ∧ De bdX12_takes_0 17 (.if_icmp .ne 7) 3 ∧ De bdX12_takes_0 20 (.iconst 1) 1 ∧ De bdX12_takes_0 21 (.goto 4) 3 ∧ De bdX12_takes_0 24 (.iconst 0) 1 ∧ De bdX12_takes_0 25 (.istore_n 2) 1 ∧ De bdX12_takes_0 26 (.iconst 0) 1 ∧ De bdX12_takes_0 27 (.istore_n 3) 1 := by decide +kernel
theorem dX12_takes_0 : decode cX12_takes 0 = .ok (.aload_n 0, 1) := dAt wdX12_takes_0 adX12_takes_0.1 rfl
theorem dX12_takes_1 : decode cX12_takes 1 = .ok (.invokevirtual 147, 3) := dAt wdX12_takes_0 adX12_takes_0.2.1 rfl
theorem dX12_takes_4 : decode cX12_takes 4 = .ok (.aload_n 0, 1) := dAt wdX12_takes_0 adX12_takes_0.2.2.1 rfl
theorem dX12_takes_5 : decode cX12_takes 5 = .ok (.invokevirtual 168, 3) := dAt wdX12_takes_0 adX12_takes_0.2.2.2.1 rfl
theorem dX12_takes_8 : decode cX12_takes 8 = .ok (.aload_n 0, 1) := dAt wdX12_takes_0 adX12_takes_0.2.2.2.2.1 rfl
theorem dX12_takes_9 : decode cX12_takes 9 = .ok (.getfield 137, 3) := dAt wdX12_takes_0 adX12_takes_0.2.2.2.2.2.1 rfl
theorem dX12_takes_12 : decode cX12_takes 12 = .ok (.isub, 1) := dAt wdX12_takes_0 adX12_takes_0.2.2.2.2.2.2.1 rfl
theorem dX12_takes_13 : decode cX12_takes 13 = .ok (.aload_n 1, 1) := dAt wdX12_takes_0 adX12_takes_0.2.2.2.2.2.2.2.1 rfl
theorem dX12_takes_14 : decode cX12_takes 14 = .ok (.invokevirtual 172, 3) := dAt wdX12_takes_0 adX12_takes_0.2.2.2.2.2.2.2.2.1 rfl
theorem dX12_takes_17 : decode cX12_takes 17 = .ok (.if_icmp .ne 7, 3) := dAt wdX12_takes_0 adX12_takes_0.2.2.2.2.2.2.2.2.2.1 rfl
theorem dX12_takes_20 : decode cX12_takes 20 = .ok (.iconst 1, 1) := dAt wdX12_takes_0 adX12_takes_0.2.2.2.2.2.2.2.2.2.2.1 rfl
theorem dX12_takes_21 : decode cX12_takes 21 = .ok (.goto 4, 3) := dAt wdX12_takes_0 adX12_takes_0.2.2.2.2.2.2.2.2.2.2.2.1 rfl
theorem dX12_takes_24 : decode cX12_takes 24 = .ok (.iconst 0, 1) := dAt wdX12_takes_0 adX12_takes_0.2.2.2.2.2.2.2.2.2.2.2.2.1 rfl
theorem dX12_takes_25 : decode cX12_takes 25 = .ok (.istore_n 2, 1) := dAt wdX12_takes_0 adX12_takes_0.2.2.2.2.2.2.2.2.2.2.2.2.2.1 rfl
theorem dX12_takes_26 : decode cX12_takes 26 = .ok (.iconst 0, 1) := dAt wdX12_takes_0 adX12_takes_0.2.2.2.2.2.2.2.2.2.2.2.2.2.2.1 rfl
theorem dX12_takes_27 : decode cX12_takes 27 = .ok (.istore_n 3, 1) := dAt wdX12_takes_0 adX12_takes_0.2.2.2.2.2.2.2.2.2.2.2.2.2.2.2 rfl
def bdX12_takes_28 : ByteArray := .mk #[29, 43, 182, 0, 172, 162, 0, 38, 28, 153, 0, 34, 42, 180, 0, 20, 42, 180, 0, 137, 29, 96, 46, 43, 29, 182, 0, 177]
theorem wdX12_takes_28 : LocW cX12_takes 28 bdX12_takes_28 := loc_of (by decide +kernel)
theorem adX12_takes_28 : De bdX12_takes_28 0 (.iload_n 3) 1 ∧ De bdX12_takes_28 1 (.aload_n 1) 1 ∧ De bdX12_takes_28 2 (.invokevirtual 172) 3 ∧ De bdX12_takes_28 5 (.if_icmp .ge 38) 3 ∧ De bdX12_takes_28 8 (.iload_n 2) 1 ∧ De bdX12_takes_28 9 (.ifCond .eq 34) 3 ∧ De bdX12_takes_28 12 (.aload_n 0) 1 ∧ De bdX12_takes_28 13 (.getfield 20) 3 ∧ De bdX12_takes_28 16 (.aload_n 0) 1 ∧ De bdX12_takes_28 17 (.getfield 137) 3 ∧ De bdX12_takes_28 20 (.iload_n 3) 1 ∧ De bdX12_takes_28 21 (.iadd) 1 ∧ De bdX12_takes_28 22 (.iaload) 1 ∧ De bdX12_takes_28 23 (.aload_n 1) 1 ∧ De bdX12_takes_28 24 (.iload_n 3) 1 ∧ De bdX12_takes_28 25 (.invokevirtual 177) 3 := by decide +kernel
theorem dX12_takes_28 : decode cX12_takes 28 = .ok (.iload_n 3, 1) := dAt wdX12_takes_28 adX12_takes_28.1 rfl
theorem dX12_takes_29 : decode cX12_takes 29 = .ok (.aload_n 1, 1) := dAt wdX12_takes_28 adX12_takes_28.2.1 rfl
theorem dX12_takes_30 : decode cX12_takes 30 = .ok (.invokevirtual 172, 3) := dAt wdX12_takes_28 adX12_takes_28.2.2.1 rfl
theorem dX12_takes_33 : decode cX12_takes 33 = .ok (.if_icmp .ge 38, 3) := dAt wdX12_takes_28 adX12_takes_28.2.2.2.1 rfl
theorem dX12_takes_36 : decode cX12_takes 36 = .ok (.iload_n 2, 1) := dAt wdX12_takes_28 adX12_takes_28.2.2.2.2.1 rfl
theorem dX12_takes_37 : decode cX12_takes 37 = .ok (.ifCond .eq 34, 3) := dAt wdX12_takes_28 adX12_takes_28.2.2.2.2.2.1 rfl
theorem dX12_takes_40 : decode cX12_takes 40 = .ok (.aload_n 0, 1) := dAt wdX12_takes_28 adX12_takes_28.2.2.2.2.2.2.1 rfl
theorem dX12_takes_41 : decode cX12_takes 41 = .ok (.getfield 20, 3) := dAt wdX12_takes_28 adX12_takes_28.2.2.2.2.2.2.2.1 rfl
theorem dX12_takes_44 : decode cX12_takes 44 = .ok (.aload_n 0, 1) := dAt wdX12_takes_28 adX12_takes_28.2.2.2.2.2.2.2.2.1 rfl
theorem dX12_takes_45 : decode cX12_takes 45 = .ok (.getfield 137, 3) := dAt wdX12_takes_28 adX12_takes_28.2.2.2.2.2.2.2.2.2.1 rfl
theorem dX12_takes_48 : decode cX12_takes 48 = .ok (.iload_n 3, 1) := dAt wdX12_takes_28 adX12_takes_28.2.2.2.2.2.2.2.2.2.2.1 rfl
theorem dX12_takes_49 : decode cX12_takes 49 = .ok (.iadd, 1) := dAt wdX12_takes_28 adX12_takes_28.2.2.2.2.2.2.2.2.2.2.2.1 rfl
theorem dX12_takes_50 : decode cX12_takes 50 = .ok (.iaload, 1) := dAt wdX12_takes_28 adX12_takes_28.2.2.2.2.2.2.2.2.2.2.2.2.1 rfl
theorem dX12_takes_51 : decode cX12_takes 51 = .ok (.aload_n 1, 1) := dAt wdX12_takes_28 adX12_takes_28.2.2.2.2.2.2.2.2.2.2.2.2.2.1 rfl
theorem dX12_takes_52 : decode cX12_takes 52 = .ok (.iload_n 3, 1) := dAt wdX12_takes_28 adX12_takes_28.2.2.2.2.2.2.2.2.2.2.2.2.2.2.1 rfl
theorem dX12_takes_53 : decode cX12_takes 53 = .ok (.invokevirtual 177, 3) := dAt wdX12_takes_28 adX12_takes_28.2.2.2.2.2.2.2.2.2.2.2.2.2.2.2 rfl
def bdX12_takes_56 : ByteArray := .mk #[160, 0, 7, 4, 167, 0, 4, 3, 61, 132, 3, 1, 167, 255, 216, 28, 153, 0, 16, 42, 89, 180, 0, 137, 43, 182, 0, 172, 96, 181, 0, 137]
theorem wdX12_takes_56 : LocW cX12_takes 56 bdX12_takes_56 := loc_of (by decide +kernel)
theorem adX12_takes_56 : De bdX12_takes_56 0 (.if_icmp .ne 7) 3 ∧ De bdX12_takes_56 3 (.iconst 1) 1 ∧ De bdX12_takes_56 4 (.goto 4) 3 ∧ De bdX12_takes_56 7 (.iconst 0) 1 ∧ De bdX12_takes_56 8 (.istore_n 2) 1 ∧ De bdX12_takes_56 9 (.iinc 3 1) 3 ∧ De bdX12_takes_56 12 (.goto (-40)) 3 ∧ De bdX12_takes_56 15 (.iload_n 2) 1 ∧ De bdX12_takes_56 16 (.ifCond .eq 16) 3 ∧ De bdX12_takes_56 19 (.aload_n 0) 1 ∧ De bdX12_takes_56 20 (.dup) 1 ∧ De bdX12_takes_56 21 (.getfield 137) 3 ∧ De bdX12_takes_56 24 (.aload_n 1) 1 ∧ De bdX12_takes_56 25 (.invokevirtual 172) 3 ∧ De bdX12_takes_56 28 (.iadd) 1 ∧ De bdX12_takes_56 29 (.putfield 137) 3 := by decide +kernel
theorem dX12_takes_56 : decode cX12_takes 56 = .ok (.if_icmp .ne 7, 3) := dAt wdX12_takes_56 adX12_takes_56.1 rfl
theorem dX12_takes_59 : decode cX12_takes 59 = .ok (.iconst 1, 1) := dAt wdX12_takes_56 adX12_takes_56.2.1 rfl
theorem dX12_takes_60 : decode cX12_takes 60 = .ok (.goto 4, 3) := dAt wdX12_takes_56 adX12_takes_56.2.2.1 rfl
theorem dX12_takes_63 : decode cX12_takes 63 = .ok (.iconst 0, 1) := dAt wdX12_takes_56 adX12_takes_56.2.2.2.1 rfl
theorem dX12_takes_64 : decode cX12_takes 64 = .ok (.istore_n 2, 1) := dAt wdX12_takes_56 adX12_takes_56.2.2.2.2.1 rfl
theorem dX12_takes_65 : decode cX12_takes 65 = .ok (.iinc 3 1, 3) := dAt wdX12_takes_56 adX12_takes_56.2.2.2.2.2.1 rfl
theorem dX12_takes_68 : decode cX12_takes 68 = .ok (.goto (-40), 3) := dAt wdX12_takes_56 adX12_takes_56.2.2.2.2.2.2.1 rfl
theorem dX12_takes_71 : decode cX12_takes 71 = .ok (.iload_n 2, 1) := dAt wdX12_takes_56 adX12_takes_56.2.2.2.2.2.2.2.1 rfl
theorem dX12_takes_72 : decode cX12_takes 72 = .ok (.ifCond .eq 16, 3) := dAt wdX12_takes_56 adX12_takes_56.2.2.2.2.2.2.2.2.1 rfl
theorem dX12_takes_75 : decode cX12_takes 75 = .ok (.aload_n 0, 1) := dAt wdX12_takes_56 adX12_takes_56.2.2.2.2.2.2.2.2.2.1 rfl
theorem dX12_takes_76 : decode cX12_takes 76 = .ok (.dup, 1) := dAt wdX12_takes_56 adX12_takes_56.2.2.2.2.2.2.2.2.2.2.1 rfl
theorem dX12_takes_77 : decode cX12_takes 77 = .ok (.getfield 137, 3) := dAt wdX12_takes_56 adX12_takes_56.2.2.2.2.2.2.2.2.2.2.2.1 rfl
theorem dX12_takes_80 : decode cX12_takes 80 = .ok (.aload_n 1, 1) := dAt wdX12_takes_56 adX12_takes_56.2.2.2.2.2.2.2.2.2.2.2.2.1 rfl
theorem dX12_takes_81 : decode cX12_takes 81 = .ok (.invokevirtual 172, 3) := dAt wdX12_takes_56 adX12_takes_56.2.2.2.2.2.2.2.2.2.2.2.2.2.1 rfl
theorem dX12_takes_84 : decode cX12_takes 84 = .ok (.iadd, 1) := dAt wdX12_takes_56 adX12_takes_56.2.2.2.2.2.2.2.2.2.2.2.2.2.2.1 rfl
theorem dX12_takes_85 : decode cX12_takes 85 = .ok (.putfield 137, 3) := dAt wdX12_takes_56 adX12_takes_56.2.2.2.2.2.2.2.2.2.2.2.2.2.2.2 rfl
def bdX12_takes_88 : ByteArray := .mk #[28, 172]
theorem wdX12_takes_88 : LocW cX12_takes 88 bdX12_takes_88 := loc_of (by decide +kernel)
theorem adX12_takes_88 : De bdX12_takes_88 0 (.iload_n 2) 1 ∧ De bdX12_takes_88 1 (.ireturn) 1 := by decide +kernel
theorem dX12_takes_88 : decode cX12_takes 88 = .ok (.iload_n 2, 1) := dAt wdX12_takes_88 adX12_takes_88.1 rfl
theorem dX12_takes_89 : decode cX12_takes 89 = .ok (.ireturn, 1) := dAt wdX12_takes_88 adX12_takes_88.2 rfl
def bdX12_fails_0 : ByteArray := .mk #[42, 42, 180, 0, 137, 181, 0, 23, 3, 172]
theorem wdX12_fails_0 : LocW cX12_fails 0 bdX12_fails_0 := loc_of (by decide +kernel)
theorem adX12_fails_0 : De bdX12_fails_0 0 (.aload_n 0) 1 ∧ De bdX12_fails_0 1 (.aload_n 0) 1 ∧ De bdX12_fails_0 2 (.getfield 137) 3 ∧ De bdX12_fails_0 5 (.putfield 23) 3 ∧ De bdX12_fails_0 8 (.iconst 0) 1 ∧ De bdX12_fails_0 9 (.ireturn) 1 := by decide +kernel
theorem dX12_fails_0 : decode cX12_fails 0 = .ok (.aload_n 0, 1) := dAt wdX12_fails_0 adX12_fails_0.1 rfl
theorem dX12_fails_1 : decode cX12_fails 1 = .ok (.aload_n 0, 1) := dAt wdX12_fails_0 adX12_fails_0.2.1 rfl
theorem dX12_fails_2 : decode cX12_fails 2 = .ok (.getfield 137, 3) := dAt wdX12_fails_0 adX12_fails_0.2.2.1 rfl
theorem dX12_fails_5 : decode cX12_fails 5 = .ok (.putfield 23, 3) := dAt wdX12_fails_0 adX12_fails_0.2.2.2.1 rfl
theorem dX12_fails_8 : decode cX12_fails 8 = .ok (.iconst 0, 1) := dAt wdX12_fails_0 adX12_fails_0.2.2.2.2.1 rfl
theorem dX12_fails_9 : decode cX12_fails 9 = .ok (.ireturn, 1) := dAt wdX12_fails_0 adX12_fails_0.2.2.2.2.2 rfl
def bdX12_readNumber_0 : ByteArray := .mk #[42, 182, 0, 147, 42, 180, 0, 137, 62, 42, 3, 181, 0, 181, 42, 180, 0, 137, 42, 180, 0, 134, 162, 0, 78, 42, 180, 0, 20, 42]
theorem wdX12_readNumber_0 : LocW cX12_readNumber 0 bdX12_readNumber_0 := loc_of (by decide +kernel)
theorem adX12_readNumber_0 : De bdX12_readNumber_0 0 (.aload_n 0) 1 ∧ De bdX12_readNumber_0 1 (.invokevirtual 147) 3 ∧ De bdX12_readNumber_0 4 (.aload_n 0) 1 ∧ De bdX12_readNumber_0 5 (.getfield 137) 3 ∧ De bdX12_readNumber_0 8 (.istore_n 3) 1 ∧ De bdX12_readNumber_0 9 (.aload_n 0) 1 ∧ De bdX12_readNumber_0 10 (.iconst 0) 1 ∧ De bdX12_readNumber_0 11 (.putfield 181) 3 ∧ De bdX12_readNumber_0 14 (.aload_n 0) 1 ∧ De bdX12_readNumber_0 15 (.getfield 137) 3 ∧ De bdX12_readNumber_0 18 (.aload_n 0) 1 ∧ De bdX12_readNumber_0 19 (.getfield 134) 3 ∧ De bdX12_readNumber_0 22 (.if_icmp .ge 78) 3 ∧ De bdX12_readNumber_0 25 (.aload_n 0) 1 ∧ De bdX12_readNumber_0 26 (.getfield 20) 3 ∧ De bdX12_readNumber_0 29 (.aload_n 0) 1 := by decide +kernel
theorem dX12_readNumber_0 : decode cX12_readNumber 0 = .ok (.aload_n 0, 1) := dAt wdX12_readNumber_0 adX12_readNumber_0.1 rfl
theorem dX12_readNumber_1 : decode cX12_readNumber 1 = .ok (.invokevirtual 147, 3) := dAt wdX12_readNumber_0 adX12_readNumber_0.2.1 rfl
theorem dX12_readNumber_4 : decode cX12_readNumber 4 = .ok (.aload_n 0, 1) := dAt wdX12_readNumber_0 adX12_readNumber_0.2.2.1 rfl
theorem dX12_readNumber_5 : decode cX12_readNumber 5 = .ok (.getfield 137, 3) := dAt wdX12_readNumber_0 adX12_readNumber_0.2.2.2.1 rfl
theorem dX12_readNumber_8 : decode cX12_readNumber 8 = .ok (.istore_n 3, 1) := dAt wdX12_readNumber_0 adX12_readNumber_0.2.2.2.2.1 rfl
theorem dX12_readNumber_9 : decode cX12_readNumber 9 = .ok (.aload_n 0, 1) := dAt wdX12_readNumber_0 adX12_readNumber_0.2.2.2.2.2.1 rfl
theorem dX12_readNumber_10 : decode cX12_readNumber 10 = .ok (.iconst 0, 1) := dAt wdX12_readNumber_0 adX12_readNumber_0.2.2.2.2.2.2.1 rfl
theorem dX12_readNumber_11 : decode cX12_readNumber 11 = .ok (.putfield 181, 3) := dAt wdX12_readNumber_0 adX12_readNumber_0.2.2.2.2.2.2.2.1 rfl
theorem dX12_readNumber_14 : decode cX12_readNumber 14 = .ok (.aload_n 0, 1) := dAt wdX12_readNumber_0 adX12_readNumber_0.2.2.2.2.2.2.2.2.1 rfl
theorem dX12_readNumber_15 : decode cX12_readNumber 15 = .ok (.getfield 137, 3) := dAt wdX12_readNumber_0 adX12_readNumber_0.2.2.2.2.2.2.2.2.2.1 rfl
theorem dX12_readNumber_18 : decode cX12_readNumber 18 = .ok (.aload_n 0, 1) := dAt wdX12_readNumber_0 adX12_readNumber_0.2.2.2.2.2.2.2.2.2.2.1 rfl
theorem dX12_readNumber_19 : decode cX12_readNumber 19 = .ok (.getfield 134, 3) := dAt wdX12_readNumber_0 adX12_readNumber_0.2.2.2.2.2.2.2.2.2.2.2.1 rfl
theorem dX12_readNumber_22 : decode cX12_readNumber 22 = .ok (.if_icmp .ge 78, 3) := dAt wdX12_readNumber_0 adX12_readNumber_0.2.2.2.2.2.2.2.2.2.2.2.2.1 rfl
theorem dX12_readNumber_25 : decode cX12_readNumber 25 = .ok (.aload_n 0, 1) := dAt wdX12_readNumber_0 adX12_readNumber_0.2.2.2.2.2.2.2.2.2.2.2.2.2.1 rfl
theorem dX12_readNumber_26 : decode cX12_readNumber 26 = .ok (.getfield 20, 3) := dAt wdX12_readNumber_0 adX12_readNumber_0.2.2.2.2.2.2.2.2.2.2.2.2.2.2.1 rfl
theorem dX12_readNumber_29 : decode cX12_readNumber 29 = .ok (.aload_n 0, 1) := dAt wdX12_readNumber_0 adX12_readNumber_0.2.2.2.2.2.2.2.2.2.2.2.2.2.2.2 rfl
def bdX12_readNumber_30 : ByteArray := .mk #[180, 0, 137, 46, 16, 48, 161, 0, 64, 42, 180, 0, 20, 42, 180, 0, 137, 46, 16, 57, 163, 0, 50, 42, 180, 0, 137, 29, 100, 7]
theorem wdX12_readNumber_30 : LocW cX12_readNumber 30 bdX12_readNumber_30 := loc_of (by decide +kernel)
theorem adX12_readNumber_30 : De bdX12_readNumber_30 0 (.getfield 137) 3 ∧ De bdX12_readNumber_30 3 (.iaload) 1 ∧ De bdX12_readNumber_30 4 (.bipush 48) 2 ∧ De bdX12_readNumber_30 6 (.if_icmp .lt 64) 3 ∧ De bdX12_readNumber_30 9 (.aload_n 0) 1 ∧ De bdX12_readNumber_30 10 (.getfield 20) 3 ∧ De bdX12_readNumber_30 13 (.aload_n 0) 1 ∧ De bdX12_readNumber_30 14 (.getfield 137) 3 ∧ De bdX12_readNumber_30 17 (.iaload) 1 ∧ De bdX12_readNumber_30 18 (.bipush 57) 2 ∧ De bdX12_readNumber_30 20 (.if_icmp .gt 50) 3 ∧ De bdX12_readNumber_30 23 (.aload_n 0) 1 ∧ De bdX12_readNumber_30 24 (.getfield 137) 3 ∧ De bdX12_readNumber_30 27 (.iload_n 3) 1 ∧ De bdX12_readNumber_30 28 (.isub) 1 ∧ De bdX12_readNumber_30 29 (.iconst 4) 1 := by decide +kernel
theorem dX12_readNumber_30 : decode cX12_readNumber 30 = .ok (.getfield 137, 3) := dAt wdX12_readNumber_30 adX12_readNumber_30.1 rfl
theorem dX12_readNumber_33 : decode cX12_readNumber 33 = .ok (.iaload, 1) := dAt wdX12_readNumber_30 adX12_readNumber_30.2.1 rfl
theorem dX12_readNumber_34 : decode cX12_readNumber 34 = .ok (.bipush 48, 2) := dAt wdX12_readNumber_30 adX12_readNumber_30.2.2.1 rfl
theorem dX12_readNumber_36 : decode cX12_readNumber 36 = .ok (.if_icmp .lt 64, 3) := dAt wdX12_readNumber_30 adX12_readNumber_30.2.2.2.1 rfl
theorem dX12_readNumber_39 : decode cX12_readNumber 39 = .ok (.aload_n 0, 1) := dAt wdX12_readNumber_30 adX12_readNumber_30.2.2.2.2.1 rfl
theorem dX12_readNumber_40 : decode cX12_readNumber 40 = .ok (.getfield 20, 3) := dAt wdX12_readNumber_30 adX12_readNumber_30.2.2.2.2.2.1 rfl
theorem dX12_readNumber_43 : decode cX12_readNumber 43 = .ok (.aload_n 0, 1) := dAt wdX12_readNumber_30 adX12_readNumber_30.2.2.2.2.2.2.1 rfl
theorem dX12_readNumber_44 : decode cX12_readNumber 44 = .ok (.getfield 137, 3) := dAt wdX12_readNumber_30 adX12_readNumber_30.2.2.2.2.2.2.2.1 rfl
theorem dX12_readNumber_47 : decode cX12_readNumber 47 = .ok (.iaload, 1) := dAt wdX12_readNumber_30 adX12_readNumber_30.2.2.2.2.2.2.2.2.1 rfl
theorem dX12_readNumber_48 : decode cX12_readNumber 48 = .ok (.bipush 57, 2) := dAt wdX12_readNumber_30 adX12_readNumber_30.2.2.2.2.2.2.2.2.2.1 rfl
theorem dX12_readNumber_50 : decode cX12_readNumber 50 = .ok (.if_icmp .gt 50, 3) := dAt wdX12_readNumber_30 adX12_readNumber_30.2.2.2.2.2.2.2.2.2.2.1 rfl
theorem dX12_readNumber_53 : decode cX12_readNumber 53 = .ok (.aload_n 0, 1) := dAt wdX12_readNumber_30 adX12_readNumber_30.2.2.2.2.2.2.2.2.2.2.2.1 rfl
theorem dX12_readNumber_54 : decode cX12_readNumber 54 = .ok (.getfield 137, 3) := dAt wdX12_readNumber_30 adX12_readNumber_30.2.2.2.2.2.2.2.2.2.2.2.2.1 rfl
theorem dX12_readNumber_57 : decode cX12_readNumber 57 = .ok (.iload_n 3, 1) := dAt wdX12_readNumber_30 adX12_readNumber_30.2.2.2.2.2.2.2.2.2.2.2.2.2.1 rfl
theorem dX12_readNumber_58 : decode cX12_readNumber 58 = .ok (.isub, 1) := dAt wdX12_readNumber_30 adX12_readNumber_30.2.2.2.2.2.2.2.2.2.2.2.2.2.2.1 rfl
theorem dX12_readNumber_59 : decode cX12_readNumber 59 = .ok (.iconst 4, 1) := dAt wdX12_readNumber_30 adX12_readNumber_30.2.2.2.2.2.2.2.2.2.2.2.2.2.2.2 rfl
def bdX12_readNumber_60 : ByteArray := .mk #[162, 0, 27, 42, 16, 10, 42, 180, 0, 181, 104, 42, 180, 0, 20, 42, 180, 0, 137, 46, 96, 16, 48, 100, 181, 0, 181, 42]
theorem wdX12_readNumber_60 : LocW cX12_readNumber 60 bdX12_readNumber_60 := loc_of (by decide +kernel)
theorem adX12_readNumber_60 : De bdX12_readNumber_60 0 (.if_icmp .ge 27) 3 ∧ De bdX12_readNumber_60 3 (.aload_n 0) 1 ∧ De bdX12_readNumber_60 4 (.bipush 10) 2 ∧ De bdX12_readNumber_60 6 (.aload_n 0) 1 ∧ De bdX12_readNumber_60 7 (.getfield 181) 3 ∧ De bdX12_readNumber_60 10 (.imul) 1 ∧ De bdX12_readNumber_60 11 (.aload_n 0) 1 ∧ De bdX12_readNumber_60 12 (.getfield 20) 3 ∧ De bdX12_readNumber_60 15 (.aload_n 0) 1 ∧ De bdX12_readNumber_60 16 (.getfield 137) 3 ∧ De bdX12_readNumber_60 19 (.iaload) 1 ∧ De bdX12_readNumber_60 20 (.iadd) 1 ∧ De bdX12_readNumber_60 21 (.bipush 48) 2 ∧ De bdX12_readNumber_60 23 (.isub) 1 ∧ De bdX12_readNumber_60 24 (.putfield 181) 3 ∧ De bdX12_readNumber_60 27 (.aload_n 0) 1 := by decide +kernel
theorem dX12_readNumber_60 : decode cX12_readNumber 60 = .ok (.if_icmp .ge 27, 3) := dAt wdX12_readNumber_60 adX12_readNumber_60.1 rfl
theorem dX12_readNumber_63 : decode cX12_readNumber 63 = .ok (.aload_n 0, 1) := dAt wdX12_readNumber_60 adX12_readNumber_60.2.1 rfl
theorem dX12_readNumber_64 : decode cX12_readNumber 64 = .ok (.bipush 10, 2) := dAt wdX12_readNumber_60 adX12_readNumber_60.2.2.1 rfl
theorem dX12_readNumber_66 : decode cX12_readNumber 66 = .ok (.aload_n 0, 1) := dAt wdX12_readNumber_60 adX12_readNumber_60.2.2.2.1 rfl
theorem dX12_readNumber_67 : decode cX12_readNumber 67 = .ok (.getfield 181, 3) := dAt wdX12_readNumber_60 adX12_readNumber_60.2.2.2.2.1 rfl
theorem dX12_readNumber_70 : decode cX12_readNumber 70 = .ok (.imul, 1) := dAt wdX12_readNumber_60 adX12_readNumber_60.2.2.2.2.2.1 rfl
theorem dX12_readNumber_71 : decode cX12_readNumber 71 = .ok (.aload_n 0, 1) := dAt wdX12_readNumber_60 adX12_readNumber_60.2.2.2.2.2.2.1 rfl
theorem dX12_readNumber_72 : decode cX12_readNumber 72 = .ok (.getfield 20, 3) := dAt wdX12_readNumber_60 adX12_readNumber_60.2.2.2.2.2.2.2.1 rfl
theorem dX12_readNumber_75 : decode cX12_readNumber 75 = .ok (.aload_n 0, 1) := dAt wdX12_readNumber_60 adX12_readNumber_60.2.2.2.2.2.2.2.2.1 rfl
theorem dX12_readNumber_76 : decode cX12_readNumber 76 = .ok (.getfield 137, 3) := dAt wdX12_readNumber_60 adX12_readNumber_60.2.2.2.2.2.2.2.2.2.1 rfl
theorem dX12_readNumber_79 : decode cX12_readNumber 79 = .ok (.iaload, 1) := dAt wdX12_readNumber_60 adX12_readNumber_60.2.2.2.2.2.2.2.2.2.2.1 rfl
theorem dX12_readNumber_80 : decode cX12_readNumber 80 = .ok (.iadd, 1) := dAt wdX12_readNumber_60 adX12_readNumber_60.2.2.2.2.2.2.2.2.2.2.2.1 rfl
theorem dX12_readNumber_81 : decode cX12_readNumber 81 = .ok (.bipush 48, 2) := dAt wdX12_readNumber_60 adX12_readNumber_60.2.2.2.2.2.2.2.2.2.2.2.2.1 rfl
theorem dX12_readNumber_83 : decode cX12_readNumber 83 = .ok (.isub, 1) := dAt wdX12_readNumber_60 adX12_readNumber_60.2.2.2.2.2.2.2.2.2.2.2.2.2.1 rfl
theorem dX12_readNumber_84 : decode cX12_readNumber 84 = .ok (.putfield 181, 3) := dAt wdX12_readNumber_60 adX12_readNumber_60.2.2.2.2.2.2.2.2.2.2.2.2.2.2.1 rfl
theorem dX12_readNumber_87 : decode cX12_readNumber 87 = .ok (.aload_n 0, 1) := dAt wdX12_readNumber_60 adX12_readNumber_60.2.2.2.2.2.2.2.2.2.2.2.2.2.2.2 rfl
def bdX12_readNumber_88 : ByteArray := .mk #[89, 180, 0, 137, 4, 96, 181, 0, 137, 167, 255, 173, 42, 180, 0, 137, 29, 164, 0, 29, 42, 180, 0, 137, 29, 100, 7, 163, 0, 19]
theorem wdX12_readNumber_88 : LocW cX12_readNumber 88 bdX12_readNumber_88 := loc_of (by decide +kernel)
theorem adX12_readNumber_88 : De bdX12_readNumber_88 0 (.dup) 1 ∧ De bdX12_readNumber_88 1 (.getfield 137) 3 ∧ De bdX12_readNumber_88 4 (.iconst 1) 1 ∧ De bdX12_readNumber_88 5 (.iadd) 1 ∧ De bdX12_readNumber_88 6 (.putfield 137) 3 ∧ De bdX12_readNumber_88 9 (.goto (-83)) 3 ∧ De bdX12_readNumber_88 12 (.aload_n 0) 1 ∧ De bdX12_readNumber_88 13 (.getfield 137) 3 ∧ De bdX12_readNumber_88 16 (.iload_n 3) 1 ∧ De bdX12_readNumber_88 17 (.if_icmp .le 29) 3 ∧ De bdX12_readNumber_88 20 (.aload_n 0) 1 ∧ De bdX12_readNumber_88 21 (.getfield 137) 3 ∧ De bdX12_readNumber_88 24 (.iload_n 3) 1 ∧ De bdX12_readNumber_88 25 (.isub) 1 ∧ De bdX12_readNumber_88 26 (.iconst 4) 1 ∧ De bdX12_readNumber_88 27 (.if_icmp .gt 19) 3 := by decide +kernel
theorem dX12_readNumber_88 : decode cX12_readNumber 88 = .ok (.dup, 1) := dAt wdX12_readNumber_88 adX12_readNumber_88.1 rfl
theorem dX12_readNumber_89 : decode cX12_readNumber 89 = .ok (.getfield 137, 3) := dAt wdX12_readNumber_88 adX12_readNumber_88.2.1 rfl
theorem dX12_readNumber_92 : decode cX12_readNumber 92 = .ok (.iconst 1, 1) := dAt wdX12_readNumber_88 adX12_readNumber_88.2.2.1 rfl
theorem dX12_readNumber_93 : decode cX12_readNumber 93 = .ok (.iadd, 1) := dAt wdX12_readNumber_88 adX12_readNumber_88.2.2.2.1 rfl
theorem dX12_readNumber_94 : decode cX12_readNumber 94 = .ok (.putfield 137, 3) := dAt wdX12_readNumber_88 adX12_readNumber_88.2.2.2.2.1 rfl
theorem dX12_readNumber_97 : decode cX12_readNumber 97 = .ok (.goto (-83), 3) := dAt wdX12_readNumber_88 adX12_readNumber_88.2.2.2.2.2.1 rfl
theorem dX12_readNumber_100 : decode cX12_readNumber 100 = .ok (.aload_n 0, 1) := dAt wdX12_readNumber_88 adX12_readNumber_88.2.2.2.2.2.2.1 rfl
theorem dX12_readNumber_101 : decode cX12_readNumber 101 = .ok (.getfield 137, 3) := dAt wdX12_readNumber_88 adX12_readNumber_88.2.2.2.2.2.2.2.1 rfl
theorem dX12_readNumber_104 : decode cX12_readNumber 104 = .ok (.iload_n 3, 1) := dAt wdX12_readNumber_88 adX12_readNumber_88.2.2.2.2.2.2.2.2.1 rfl
theorem dX12_readNumber_105 : decode cX12_readNumber 105 = .ok (.if_icmp .le 29, 3) := dAt wdX12_readNumber_88 adX12_readNumber_88.2.2.2.2.2.2.2.2.2.1 rfl
theorem dX12_readNumber_108 : decode cX12_readNumber 108 = .ok (.aload_n 0, 1) := dAt wdX12_readNumber_88 adX12_readNumber_88.2.2.2.2.2.2.2.2.2.2.1 rfl
theorem dX12_readNumber_109 : decode cX12_readNumber 109 = .ok (.getfield 137, 3) := dAt wdX12_readNumber_88 adX12_readNumber_88.2.2.2.2.2.2.2.2.2.2.2.1 rfl
theorem dX12_readNumber_112 : decode cX12_readNumber 112 = .ok (.iload_n 3, 1) := dAt wdX12_readNumber_88 adX12_readNumber_88.2.2.2.2.2.2.2.2.2.2.2.2.1 rfl
theorem dX12_readNumber_113 : decode cX12_readNumber 113 = .ok (.isub, 1) := dAt wdX12_readNumber_88 adX12_readNumber_88.2.2.2.2.2.2.2.2.2.2.2.2.2.1 rfl
theorem dX12_readNumber_114 : decode cX12_readNumber 114 = .ok (.iconst 4, 1) := dAt wdX12_readNumber_88 adX12_readNumber_88.2.2.2.2.2.2.2.2.2.2.2.2.2.2.1 rfl
theorem dX12_readNumber_115 : decode cX12_readNumber 115 = .ok (.if_icmp .gt 19, 3) := dAt wdX12_readNumber_88 adX12_readNumber_88.2.2.2.2.2.2.2.2.2.2.2.2.2.2.2 rfl
def bdX12_readNumber_118 : ByteArray := .mk #[42, 180, 0, 181, 27, 28, 184, 0, 157, 153, 0, 7, 4, 167, 0, 4, 3, 54, 4, 21, 4, 154, 0, 8, 42, 29, 181, 0, 23, 21, 4]
theorem wdX12_readNumber_118 : LocW cX12_readNumber 118 bdX12_readNumber_118 := loc_of (by decide +kernel)
theorem adX12_readNumber_118 : De bdX12_readNumber_118 0 (.aload_n 0) 1 ∧ De bdX12_readNumber_118 1 (.getfield 181) 3 ∧ De bdX12_readNumber_118 4 (.iload_n 1) 1 ∧ De bdX12_readNumber_118 5 (.iload_n 2) 1 ∧ De bdX12_readNumber_118 6 (.invokestatic 157) 3 ∧ De bdX12_readNumber_118 9 (.ifCond .eq 7) 3 ∧ De bdX12_readNumber_118 12 (.iconst 1) 1 ∧ De bdX12_readNumber_118 13 (.goto 4) 3 ∧ De bdX12_readNumber_118 16 (.iconst 0) 1 ∧ De bdX12_readNumber_118 17 (.istore 4) 2 ∧ De bdX12_readNumber_118 19 (.iload 4) 2 ∧ De bdX12_readNumber_118 21 (.ifCond .ne 8) 3 ∧ De bdX12_readNumber_118 24 (.aload_n 0) 1 ∧ De bdX12_readNumber_118 25 (.iload_n 3) 1 ∧ De bdX12_readNumber_118 26 (.putfield 23) 3 ∧ De bdX12_readNumber_118 29 (.iload 4) 2 := by decide +kernel
theorem dX12_readNumber_118 : decode cX12_readNumber 118 = .ok (.aload_n 0, 1) := dAt wdX12_readNumber_118 adX12_readNumber_118.1 rfl
theorem dX12_readNumber_119 : decode cX12_readNumber 119 = .ok (.getfield 181, 3) := dAt wdX12_readNumber_118 adX12_readNumber_118.2.1 rfl
theorem dX12_readNumber_122 : decode cX12_readNumber 122 = .ok (.iload_n 1, 1) := dAt wdX12_readNumber_118 adX12_readNumber_118.2.2.1 rfl
theorem dX12_readNumber_123 : decode cX12_readNumber 123 = .ok (.iload_n 2, 1) := dAt wdX12_readNumber_118 adX12_readNumber_118.2.2.2.1 rfl
theorem dX12_readNumber_124 : decode cX12_readNumber 124 = .ok (.invokestatic 157, 3) := dAt wdX12_readNumber_118 adX12_readNumber_118.2.2.2.2.1 rfl
theorem dX12_readNumber_127 : decode cX12_readNumber 127 = .ok (.ifCond .eq 7, 3) := dAt wdX12_readNumber_118 adX12_readNumber_118.2.2.2.2.2.1 rfl
theorem dX12_readNumber_130 : decode cX12_readNumber 130 = .ok (.iconst 1, 1) := dAt wdX12_readNumber_118 adX12_readNumber_118.2.2.2.2.2.2.1 rfl
theorem dX12_readNumber_131 : decode cX12_readNumber 131 = .ok (.goto 4, 3) := dAt wdX12_readNumber_118 adX12_readNumber_118.2.2.2.2.2.2.2.1 rfl
theorem dX12_readNumber_134 : decode cX12_readNumber 134 = .ok (.iconst 0, 1) := dAt wdX12_readNumber_118 adX12_readNumber_118.2.2.2.2.2.2.2.2.1 rfl
theorem dX12_readNumber_135 : decode cX12_readNumber 135 = .ok (.istore 4, 2) := dAt wdX12_readNumber_118 adX12_readNumber_118.2.2.2.2.2.2.2.2.2.1 rfl
theorem dX12_readNumber_137 : decode cX12_readNumber 137 = .ok (.iload 4, 2) := dAt wdX12_readNumber_118 adX12_readNumber_118.2.2.2.2.2.2.2.2.2.2.1 rfl
theorem dX12_readNumber_139 : decode cX12_readNumber 139 = .ok (.ifCond .ne 8, 3) := dAt wdX12_readNumber_118 adX12_readNumber_118.2.2.2.2.2.2.2.2.2.2.2.1 rfl
theorem dX12_readNumber_142 : decode cX12_readNumber 142 = .ok (.aload_n 0, 1) := dAt wdX12_readNumber_118 adX12_readNumber_118.2.2.2.2.2.2.2.2.2.2.2.2.1 rfl
theorem dX12_readNumber_143 : decode cX12_readNumber 143 = .ok (.iload_n 3, 1) := dAt wdX12_readNumber_118 adX12_readNumber_118.2.2.2.2.2.2.2.2.2.2.2.2.2.1 rfl
theorem dX12_readNumber_144 : decode cX12_readNumber 144 = .ok (.putfield 23, 3) := dAt wdX12_readNumber_118 adX12_readNumber_118.2.2.2.2.2.2.2.2.2.2.2.2.2.2.1 rfl
theorem dX12_readNumber_147 : decode cX12_readNumber 147 = .ok (.iload 4, 2) := dAt wdX12_readNumber_118 adX12_readNumber_118.2.2.2.2.2.2.2.2.2.2.2.2.2.2.2 rfl
def bdX12_readNumber_149 : ByteArray := .mk #[172]
theorem wdX12_readNumber_149 : LocW cX12_readNumber 149 bdX12_readNumber_149 := loc_of (by decide +kernel)
theorem adX12_readNumber_149 : De bdX12_readNumber_149 0 (.ireturn) 1 := by decide +kernel
theorem dX12_readNumber_149 : decode cX12_readNumber 149 = .ok (.ireturn, 1) := dAt wdX12_readNumber_149 adX12_readNumber_149 rfl
def bdX12_act_0 : ByteArray := .mk #[42, 180, 0, 42, 42, 180, 0, 184, 27, 79, 42, 89, 180, 0, 184, 4, 96, 181, 0, 184, 177]
theorem wdX12_act_0 : LocW cX12_act 0 bdX12_act_0 := loc_of (by decide +kernel)
theorem adX12_act_0 : De bdX12_act_0 0 (.aload_n 0) 1 ∧ De bdX12_act_0 1 (.getfield 42) 3 ∧ De bdX12_act_0 4 (.aload_n 0) 1 ∧ De bdX12_act_0 5 (.getfield 184) 3 ∧ De bdX12_act_0 8 (.iload_n 1) 1 ∧ De bdX12_act_0 9 (.iastore) 1 ∧ De bdX12_act_0 10 (.aload_n 0) 1 ∧ De bdX12_act_0 11 (.dup) 1 ∧ De bdX12_act_0 12 (.getfield 184) 3 ∧ De bdX12_act_0 15 (.iconst 1) 1 ∧ De bdX12_act_0 16 (.iadd) 1 ∧ De bdX12_act_0 17 (.putfield 184) 3 ∧ De bdX12_act_0 20 (.return_) 1 := by decide +kernel
theorem dX12_act_0 : decode cX12_act 0 = .ok (.aload_n 0, 1) := dAt wdX12_act_0 adX12_act_0.1 rfl
theorem dX12_act_1 : decode cX12_act 1 = .ok (.getfield 42, 3) := dAt wdX12_act_0 adX12_act_0.2.1 rfl
theorem dX12_act_4 : decode cX12_act 4 = .ok (.aload_n 0, 1) := dAt wdX12_act_0 adX12_act_0.2.2.1 rfl
theorem dX12_act_5 : decode cX12_act 5 = .ok (.getfield 184, 3) := dAt wdX12_act_0 adX12_act_0.2.2.2.1 rfl
theorem dX12_act_8 : decode cX12_act 8 = .ok (.iload_n 1, 1) := dAt wdX12_act_0 adX12_act_0.2.2.2.2.1 rfl
theorem dX12_act_9 : decode cX12_act 9 = .ok (.iastore, 1) := dAt wdX12_act_0 adX12_act_0.2.2.2.2.2.1 rfl
theorem dX12_act_10 : decode cX12_act 10 = .ok (.aload_n 0, 1) := dAt wdX12_act_0 adX12_act_0.2.2.2.2.2.2.1 rfl
theorem dX12_act_11 : decode cX12_act 11 = .ok (.dup, 1) := dAt wdX12_act_0 adX12_act_0.2.2.2.2.2.2.2.1 rfl
theorem dX12_act_12 : decode cX12_act 12 = .ok (.getfield 184, 3) := dAt wdX12_act_0 adX12_act_0.2.2.2.2.2.2.2.2.1 rfl
theorem dX12_act_15 : decode cX12_act 15 = .ok (.iconst 1, 1) := dAt wdX12_act_0 adX12_act_0.2.2.2.2.2.2.2.2.2.1 rfl
theorem dX12_act_16 : decode cX12_act 16 = .ok (.iadd, 1) := dAt wdX12_act_0 adX12_act_0.2.2.2.2.2.2.2.2.2.2.1 rfl
theorem dX12_act_17 : decode cX12_act 17 = .ok (.putfield 184, 3) := dAt wdX12_act_0 adX12_act_0.2.2.2.2.2.2.2.2.2.2.2.1 rfl
theorem dX12_act_20 : decode cX12_act 20 = .ok (.return_, 1) := dAt wdX12_act_0 adX12_act_0.2.2.2.2.2.2.2.2.2.2.2.2 rfl
def bdX12_tagHere_0 : ByteArray := .mk #[42, 18, 187, 182, 0, 189, 153, 0, 7, 3, 167, 0, 30, 42, 18, 193, 182, 0, 189, 153, 0, 7, 4, 167, 0, 17, 42, 18, 195, 182, 0, 189, 153, 0, 7]
theorem wdX12_tagHere_0 : LocW cX12_tagHere 0 bdX12_tagHere_0 := loc_of (by decide +kernel)
theorem adX12_tagHere_0 : De bdX12_tagHere_0 0 (.aload_n 0) 1 ∧ De bdX12_tagHere_0 1 (.ldc 187) 2 ∧ De bdX12_tagHere_0 3 (.invokevirtual 189) 3 ∧ De bdX12_tagHere_0 6 (.ifCond .eq 7) 3 ∧ De bdX12_tagHere_0 9 (.iconst 0) 1 ∧ De bdX12_tagHere_0 10 (.goto 30) 3 ∧ De bdX12_tagHere_0 13 (.aload_n 0) 1 ∧ De bdX12_tagHere_0 14 (.ldc 193) 2 ∧ De bdX12_tagHere_0 16 (.invokevirtual 189) 3 ∧ De bdX12_tagHere_0 19 (.ifCond .eq 7) 3 ∧ De bdX12_tagHere_0 22 (.iconst 1) 1 ∧ De bdX12_tagHere_0 23 (.goto 17) 3 ∧ De bdX12_tagHere_0 26 (.aload_n 0) 1 ∧ De bdX12_tagHere_0 27 (.ldc 195) 2 ∧ De bdX12_tagHere_0 29 (.invokevirtual 189) 3 ∧ De bdX12_tagHere_0 32 (.ifCond .eq 7) 3 := by decide +kernel
theorem dX12_tagHere_0 : decode cX12_tagHere 0 = .ok (.aload_n 0, 1) := dAt wdX12_tagHere_0 adX12_tagHere_0.1 rfl
theorem dX12_tagHere_1 : decode cX12_tagHere 1 = .ok (.ldc 187, 2) := dAt wdX12_tagHere_0 adX12_tagHere_0.2.1 rfl
theorem dX12_tagHere_3 : decode cX12_tagHere 3 = .ok (.invokevirtual 189, 3) := dAt wdX12_tagHere_0 adX12_tagHere_0.2.2.1 rfl
theorem dX12_tagHere_6 : decode cX12_tagHere 6 = .ok (.ifCond .eq 7, 3) := dAt wdX12_tagHere_0 adX12_tagHere_0.2.2.2.1 rfl
theorem dX12_tagHere_9 : decode cX12_tagHere 9 = .ok (.iconst 0, 1) := dAt wdX12_tagHere_0 adX12_tagHere_0.2.2.2.2.1 rfl
theorem dX12_tagHere_10 : decode cX12_tagHere 10 = .ok (.goto 30, 3) := dAt wdX12_tagHere_0 adX12_tagHere_0.2.2.2.2.2.1 rfl
theorem dX12_tagHere_13 : decode cX12_tagHere 13 = .ok (.aload_n 0, 1) := dAt wdX12_tagHere_0 adX12_tagHere_0.2.2.2.2.2.2.1 rfl
theorem dX12_tagHere_14 : decode cX12_tagHere 14 = .ok (.ldc 193, 2) := dAt wdX12_tagHere_0 adX12_tagHere_0.2.2.2.2.2.2.2.1 rfl
theorem dX12_tagHere_16 : decode cX12_tagHere 16 = .ok (.invokevirtual 189, 3) := dAt wdX12_tagHere_0 adX12_tagHere_0.2.2.2.2.2.2.2.2.1 rfl
theorem dX12_tagHere_19 : decode cX12_tagHere 19 = .ok (.ifCond .eq 7, 3) := dAt wdX12_tagHere_0 adX12_tagHere_0.2.2.2.2.2.2.2.2.2.1 rfl
theorem dX12_tagHere_22 : decode cX12_tagHere 22 = .ok (.iconst 1, 1) := dAt wdX12_tagHere_0 adX12_tagHere_0.2.2.2.2.2.2.2.2.2.2.1 rfl
theorem dX12_tagHere_23 : decode cX12_tagHere 23 = .ok (.goto 17, 3) := dAt wdX12_tagHere_0 adX12_tagHere_0.2.2.2.2.2.2.2.2.2.2.2.1 rfl
theorem dX12_tagHere_26 : decode cX12_tagHere 26 = .ok (.aload_n 0, 1) := dAt wdX12_tagHere_0 adX12_tagHere_0.2.2.2.2.2.2.2.2.2.2.2.2.1 rfl
theorem dX12_tagHere_27 : decode cX12_tagHere 27 = .ok (.ldc 195, 2) := dAt wdX12_tagHere_0 adX12_tagHere_0.2.2.2.2.2.2.2.2.2.2.2.2.2.1 rfl
theorem dX12_tagHere_29 : decode cX12_tagHere 29 = .ok (.invokevirtual 189, 3) := dAt wdX12_tagHere_0 adX12_tagHere_0.2.2.2.2.2.2.2.2.2.2.2.2.2.2.1 rfl
theorem dX12_tagHere_32 : decode cX12_tagHere 32 = .ok (.ifCond .eq 7, 3) := dAt wdX12_tagHere_0 adX12_tagHere_0.2.2.2.2.2.2.2.2.2.2.2.2.2.2.2 rfl
def bdX12_tagHere_35 : ByteArray := .mk #[5, 167, 0, 4, 2, 172]
theorem wdX12_tagHere_35 : LocW cX12_tagHere 35 bdX12_tagHere_35 := loc_of (by decide +kernel)
theorem adX12_tagHere_35 : De bdX12_tagHere_35 0 (.iconst 2) 1 ∧ De bdX12_tagHere_35 1 (.goto 4) 3 ∧ De bdX12_tagHere_35 4 (.iconst (-1)) 1 ∧ De bdX12_tagHere_35 5 (.ireturn) 1 := by decide +kernel
theorem dX12_tagHere_35 : decode cX12_tagHere 35 = .ok (.iconst 2, 1) := dAt wdX12_tagHere_35 adX12_tagHere_35.1 rfl
theorem dX12_tagHere_36 : decode cX12_tagHere 36 = .ok (.goto 4, 3) := dAt wdX12_tagHere_35 adX12_tagHere_35.2.1 rfl
theorem dX12_tagHere_39 : decode cX12_tagHere 39 = .ok (.iconst (-1), 1) := dAt wdX12_tagHere_35 adX12_tagHere_35.2.2.1 rfl
theorem dX12_tagHere_40 : decode cX12_tagHere 40 = .ok (.ireturn, 1) := dAt wdX12_tagHere_35 adX12_tagHere_35.2.2.2 rfl
def bdX12_factHere_0 : ByteArray := .mk #[42, 18, 197, 182, 0, 189, 153, 0, 7, 3, 167, 0, 69, 42, 18, 199, 182, 0, 189, 153, 0, 7, 4, 167, 0, 56, 42, 18, 201, 182, 0, 189, 153, 0, 7]
theorem wdX12_factHere_0 : LocW cX12_factHere 0 bdX12_factHere_0 := loc_of (by decide +kernel)
theorem adX12_factHere_0 : De bdX12_factHere_0 0 (.aload_n 0) 1 ∧ De bdX12_factHere_0 1 (.ldc 197) 2 ∧ De bdX12_factHere_0 3 (.invokevirtual 189) 3 ∧ De bdX12_factHere_0 6 (.ifCond .eq 7) 3 ∧ De bdX12_factHere_0 9 (.iconst 0) 1 ∧ De bdX12_factHere_0 10 (.goto 69) 3 ∧ De bdX12_factHere_0 13 (.aload_n 0) 1 ∧ De bdX12_factHere_0 14 (.ldc 199) 2 ∧ De bdX12_factHere_0 16 (.invokevirtual 189) 3 ∧ De bdX12_factHere_0 19 (.ifCond .eq 7) 3 ∧ De bdX12_factHere_0 22 (.iconst 1) 1 ∧ De bdX12_factHere_0 23 (.goto 56) 3 ∧ De bdX12_factHere_0 26 (.aload_n 0) 1 ∧ De bdX12_factHere_0 27 (.ldc 201) 2 ∧ De bdX12_factHere_0 29 (.invokevirtual 189) 3 ∧ De bdX12_factHere_0 32 (.ifCond .eq 7) 3 := by decide +kernel
theorem dX12_factHere_0 : decode cX12_factHere 0 = .ok (.aload_n 0, 1) := dAt wdX12_factHere_0 adX12_factHere_0.1 rfl
theorem dX12_factHere_1 : decode cX12_factHere 1 = .ok (.ldc 197, 2) := dAt wdX12_factHere_0 adX12_factHere_0.2.1 rfl
theorem dX12_factHere_3 : decode cX12_factHere 3 = .ok (.invokevirtual 189, 3) := dAt wdX12_factHere_0 adX12_factHere_0.2.2.1 rfl
theorem dX12_factHere_6 : decode cX12_factHere 6 = .ok (.ifCond .eq 7, 3) := dAt wdX12_factHere_0 adX12_factHere_0.2.2.2.1 rfl
theorem dX12_factHere_9 : decode cX12_factHere 9 = .ok (.iconst 0, 1) := dAt wdX12_factHere_0 adX12_factHere_0.2.2.2.2.1 rfl
theorem dX12_factHere_10 : decode cX12_factHere 10 = .ok (.goto 69, 3) := dAt wdX12_factHere_0 adX12_factHere_0.2.2.2.2.2.1 rfl
theorem dX12_factHere_13 : decode cX12_factHere 13 = .ok (.aload_n 0, 1) := dAt wdX12_factHere_0 adX12_factHere_0.2.2.2.2.2.2.1 rfl
theorem dX12_factHere_14 : decode cX12_factHere 14 = .ok (.ldc 199, 2) := dAt wdX12_factHere_0 adX12_factHere_0.2.2.2.2.2.2.2.1 rfl
theorem dX12_factHere_16 : decode cX12_factHere 16 = .ok (.invokevirtual 189, 3) := dAt wdX12_factHere_0 adX12_factHere_0.2.2.2.2.2.2.2.2.1 rfl
theorem dX12_factHere_19 : decode cX12_factHere 19 = .ok (.ifCond .eq 7, 3) := dAt wdX12_factHere_0 adX12_factHere_0.2.2.2.2.2.2.2.2.2.1 rfl
theorem dX12_factHere_22 : decode cX12_factHere 22 = .ok (.iconst 1, 1) := dAt wdX12_factHere_0 adX12_factHere_0.2.2.2.2.2.2.2.2.2.2.1 rfl
theorem dX12_factHere_23 : decode cX12_factHere 23 = .ok (.goto 56, 3) := dAt wdX12_factHere_0 adX12_factHere_0.2.2.2.2.2.2.2.2.2.2.2.1 rfl
theorem dX12_factHere_26 : decode cX12_factHere 26 = .ok (.aload_n 0, 1) := dAt wdX12_factHere_0 adX12_factHere_0.2.2.2.2.2.2.2.2.2.2.2.2.1 rfl
theorem dX12_factHere_27 : decode cX12_factHere 27 = .ok (.ldc 201, 2) := dAt wdX12_factHere_0 adX12_factHere_0.2.2.2.2.2.2.2.2.2.2.2.2.2.1 rfl
theorem dX12_factHere_29 : decode cX12_factHere 29 = .ok (.invokevirtual 189, 3) := dAt wdX12_factHere_0 adX12_factHere_0.2.2.2.2.2.2.2.2.2.2.2.2.2.2.1 rfl
theorem dX12_factHere_32 : decode cX12_factHere 32 = .ok (.ifCond .eq 7, 3) := dAt wdX12_factHere_0 adX12_factHere_0.2.2.2.2.2.2.2.2.2.2.2.2.2.2.2 rfl
def bdX12_factHere_35 : ByteArray := .mk #[5, 167, 0, 43, 42, 18, 203, 182, 0, 189, 153, 0, 7, 6, 167, 0, 30, 42, 18, 205, 182, 0, 189, 153, 0, 7, 7, 167, 0, 17, 42, 18, 207]
theorem wdX12_factHere_35 : LocW cX12_factHere 35 bdX12_factHere_35 := loc_of (by decide +kernel)
theorem adX12_factHere_35 : De bdX12_factHere_35 0 (.iconst 2) 1 ∧ De bdX12_factHere_35 1 (.goto 43) 3 ∧ De bdX12_factHere_35 4 (.aload_n 0) 1 ∧ De bdX12_factHere_35 5 (.ldc 203) 2 ∧ De bdX12_factHere_35 7 (.invokevirtual 189) 3 ∧ De bdX12_factHere_35 10 (.ifCond .eq 7) 3 ∧ De bdX12_factHere_35 13 (.iconst 3) 1 ∧ De bdX12_factHere_35 14 (.goto 30) 3 ∧ De bdX12_factHere_35 17 (.aload_n 0) 1 ∧ De bdX12_factHere_35 18 (.ldc 205) 2 ∧ De bdX12_factHere_35 20 (.invokevirtual 189) 3 ∧ De bdX12_factHere_35 23 (.ifCond .eq 7) 3 ∧ De bdX12_factHere_35 26 (.iconst 4) 1 ∧ De bdX12_factHere_35 27 (.goto 17) 3 ∧ De bdX12_factHere_35 30 (.aload_n 0) 1 ∧ De bdX12_factHere_35 31 (.ldc 207) 2 := by decide +kernel
theorem dX12_factHere_35 : decode cX12_factHere 35 = .ok (.iconst 2, 1) := dAt wdX12_factHere_35 adX12_factHere_35.1 rfl
theorem dX12_factHere_36 : decode cX12_factHere 36 = .ok (.goto 43, 3) := dAt wdX12_factHere_35 adX12_factHere_35.2.1 rfl
theorem dX12_factHere_39 : decode cX12_factHere 39 = .ok (.aload_n 0, 1) := dAt wdX12_factHere_35 adX12_factHere_35.2.2.1 rfl
theorem dX12_factHere_40 : decode cX12_factHere 40 = .ok (.ldc 203, 2) := dAt wdX12_factHere_35 adX12_factHere_35.2.2.2.1 rfl
theorem dX12_factHere_42 : decode cX12_factHere 42 = .ok (.invokevirtual 189, 3) := dAt wdX12_factHere_35 adX12_factHere_35.2.2.2.2.1 rfl
theorem dX12_factHere_45 : decode cX12_factHere 45 = .ok (.ifCond .eq 7, 3) := dAt wdX12_factHere_35 adX12_factHere_35.2.2.2.2.2.1 rfl
theorem dX12_factHere_48 : decode cX12_factHere 48 = .ok (.iconst 3, 1) := dAt wdX12_factHere_35 adX12_factHere_35.2.2.2.2.2.2.1 rfl
theorem dX12_factHere_49 : decode cX12_factHere 49 = .ok (.goto 30, 3) := dAt wdX12_factHere_35 adX12_factHere_35.2.2.2.2.2.2.2.1 rfl
theorem dX12_factHere_52 : decode cX12_factHere 52 = .ok (.aload_n 0, 1) := dAt wdX12_factHere_35 adX12_factHere_35.2.2.2.2.2.2.2.2.1 rfl
theorem dX12_factHere_53 : decode cX12_factHere 53 = .ok (.ldc 205, 2) := dAt wdX12_factHere_35 adX12_factHere_35.2.2.2.2.2.2.2.2.2.1 rfl
theorem dX12_factHere_55 : decode cX12_factHere 55 = .ok (.invokevirtual 189, 3) := dAt wdX12_factHere_35 adX12_factHere_35.2.2.2.2.2.2.2.2.2.2.1 rfl
theorem dX12_factHere_58 : decode cX12_factHere 58 = .ok (.ifCond .eq 7, 3) := dAt wdX12_factHere_35 adX12_factHere_35.2.2.2.2.2.2.2.2.2.2.2.1 rfl
theorem dX12_factHere_61 : decode cX12_factHere 61 = .ok (.iconst 4, 1) := dAt wdX12_factHere_35 adX12_factHere_35.2.2.2.2.2.2.2.2.2.2.2.2.1 rfl
theorem dX12_factHere_62 : decode cX12_factHere 62 = .ok (.goto 17, 3) := dAt wdX12_factHere_35 adX12_factHere_35.2.2.2.2.2.2.2.2.2.2.2.2.2.1 rfl
theorem dX12_factHere_65 : decode cX12_factHere 65 = .ok (.aload_n 0, 1) := dAt wdX12_factHere_35 adX12_factHere_35.2.2.2.2.2.2.2.2.2.2.2.2.2.2.1 rfl
theorem dX12_factHere_66 : decode cX12_factHere 66 = .ok (.ldc 207, 2) := dAt wdX12_factHere_35 adX12_factHere_35.2.2.2.2.2.2.2.2.2.2.2.2.2.2.2 rfl
def bdX12_factHere_68 : ByteArray := .mk #[182, 0, 189, 153, 0, 7, 8, 167, 0, 4, 2, 172]
theorem wdX12_factHere_68 : LocW cX12_factHere 68 bdX12_factHere_68 := loc_of (by decide +kernel)
theorem adX12_factHere_68 : De bdX12_factHere_68 0 (.invokevirtual 189) 3 ∧ De bdX12_factHere_68 3 (.ifCond .eq 7) 3 ∧ De bdX12_factHere_68 6 (.iconst 5) 1 ∧ De bdX12_factHere_68 7 (.goto 4) 3 ∧ De bdX12_factHere_68 10 (.iconst (-1)) 1 ∧ De bdX12_factHere_68 11 (.ireturn) 1 := by decide +kernel
theorem dX12_factHere_68 : decode cX12_factHere 68 = .ok (.invokevirtual 189, 3) := dAt wdX12_factHere_68 adX12_factHere_68.1 rfl
theorem dX12_factHere_71 : decode cX12_factHere 71 = .ok (.ifCond .eq 7, 3) := dAt wdX12_factHere_68 adX12_factHere_68.2.1 rfl
theorem dX12_factHere_74 : decode cX12_factHere 74 = .ok (.iconst 5, 1) := dAt wdX12_factHere_68 adX12_factHere_68.2.2.1 rfl
theorem dX12_factHere_75 : decode cX12_factHere 75 = .ok (.goto 4, 3) := dAt wdX12_factHere_68 adX12_factHere_68.2.2.2.1 rfl
theorem dX12_factHere_78 : decode cX12_factHere 78 = .ok (.iconst (-1), 1) := dAt wdX12_factHere_68 adX12_factHere_68.2.2.2.2.1 rfl
theorem dX12_factHere_79 : decode cX12_factHere 79 = .ok (.ireturn, 1) := dAt wdX12_factHere_68 adX12_factHere_68.2.2.2.2.2 rfl
def bdX12_readAtom_0 : ByteArray := .mk #[42, 182, 0, 147, 42, 180, 0, 137, 60, 42, 18, 209, 182, 0, 189, 61, 28, 154, 0, 32, 42, 180, 0, 137, 42, 180, 0, 134, 162, 0, 21]
theorem wdX12_readAtom_0 : LocW cX12_readAtom 0 bdX12_readAtom_0 := loc_of (by decide +kernel)
theorem adX12_readAtom_0 : De bdX12_readAtom_0 0 (.aload_n 0) 1 ∧ De bdX12_readAtom_0 1 (.invokevirtual 147) 3 ∧ De bdX12_readAtom_0 4 (.aload_n 0) 1 ∧ De bdX12_readAtom_0 5 (.getfield 137) 3 ∧ De bdX12_readAtom_0 8 (.istore_n 1) 1 ∧ De bdX12_readAtom_0 9 (.aload_n 0) 1 ∧ De bdX12_readAtom_0 10 (.ldc 209) 2 ∧ De bdX12_readAtom_0 12 (.invokevirtual 189) 3 ∧ De bdX12_readAtom_0 15 (.istore_n 2) 1 ∧ De bdX12_readAtom_0 16 (.iload_n 2) 1 ∧ De bdX12_readAtom_0 17 (.ifCond .ne 32) 3 ∧ De bdX12_readAtom_0 20 (.aload_n 0) 1 ∧ De bdX12_readAtom_0 21 (.getfield 137) 3 ∧ De bdX12_readAtom_0 24 (.aload_n 0) 1 ∧ De bdX12_readAtom_0 25 (.getfield 134) 3 ∧ De bdX12_readAtom_0 28 (.if_icmp .ge 21) 3 := by decide +kernel
theorem dX12_readAtom_0 : decode cX12_readAtom 0 = .ok (.aload_n 0, 1) := dAt wdX12_readAtom_0 adX12_readAtom_0.1 rfl
theorem dX12_readAtom_1 : decode cX12_readAtom 1 = .ok (.invokevirtual 147, 3) := dAt wdX12_readAtom_0 adX12_readAtom_0.2.1 rfl
theorem dX12_readAtom_4 : decode cX12_readAtom 4 = .ok (.aload_n 0, 1) := dAt wdX12_readAtom_0 adX12_readAtom_0.2.2.1 rfl
theorem dX12_readAtom_5 : decode cX12_readAtom 5 = .ok (.getfield 137, 3) := dAt wdX12_readAtom_0 adX12_readAtom_0.2.2.2.1 rfl
theorem dX12_readAtom_8 : decode cX12_readAtom 8 = .ok (.istore_n 1, 1) := dAt wdX12_readAtom_0 adX12_readAtom_0.2.2.2.2.1 rfl
theorem dX12_readAtom_9 : decode cX12_readAtom 9 = .ok (.aload_n 0, 1) := dAt wdX12_readAtom_0 adX12_readAtom_0.2.2.2.2.2.1 rfl
theorem dX12_readAtom_10 : decode cX12_readAtom 10 = .ok (.ldc 209, 2) := dAt wdX12_readAtom_0 adX12_readAtom_0.2.2.2.2.2.2.1 rfl
theorem dX12_readAtom_12 : decode cX12_readAtom 12 = .ok (.invokevirtual 189, 3) := dAt wdX12_readAtom_0 adX12_readAtom_0.2.2.2.2.2.2.2.1 rfl
theorem dX12_readAtom_15 : decode cX12_readAtom 15 = .ok (.istore_n 2, 1) := dAt wdX12_readAtom_0 adX12_readAtom_0.2.2.2.2.2.2.2.2.1 rfl
theorem dX12_readAtom_16 : decode cX12_readAtom 16 = .ok (.iload_n 2, 1) := dAt wdX12_readAtom_0 adX12_readAtom_0.2.2.2.2.2.2.2.2.2.1 rfl
theorem dX12_readAtom_17 : decode cX12_readAtom 17 = .ok (.ifCond .ne 32, 3) := dAt wdX12_readAtom_0 adX12_readAtom_0.2.2.2.2.2.2.2.2.2.2.1 rfl
theorem dX12_readAtom_20 : decode cX12_readAtom 20 = .ok (.aload_n 0, 1) := dAt wdX12_readAtom_0 adX12_readAtom_0.2.2.2.2.2.2.2.2.2.2.2.1 rfl
theorem dX12_readAtom_21 : decode cX12_readAtom 21 = .ok (.getfield 137, 3) := dAt wdX12_readAtom_0 adX12_readAtom_0.2.2.2.2.2.2.2.2.2.2.2.2.1 rfl
theorem dX12_readAtom_24 : decode cX12_readAtom 24 = .ok (.aload_n 0, 1) := dAt wdX12_readAtom_0 adX12_readAtom_0.2.2.2.2.2.2.2.2.2.2.2.2.2.1 rfl
theorem dX12_readAtom_25 : decode cX12_readAtom 25 = .ok (.getfield 134, 3) := dAt wdX12_readAtom_0 adX12_readAtom_0.2.2.2.2.2.2.2.2.2.2.2.2.2.2.1 rfl
theorem dX12_readAtom_28 : decode cX12_readAtom 28 = .ok (.if_icmp .ge 21, 3) := dAt wdX12_readAtom_0 adX12_readAtom_0.2.2.2.2.2.2.2.2.2.2.2.2.2.2.2 rfl
def bdX12_readAtom_31 : ByteArray := .mk #[42, 180, 0, 20, 42, 180, 0, 137, 46, 16, 40, 160, 0, 7, 4, 167, 0, 4, 3, 62, 28, 154, 0, 7, 29, 153, 0, 133, 42]
theorem wdX12_readAtom_31 : LocW cX12_readAtom 31 bdX12_readAtom_31 := loc_of (by decide +kernel)
theorem adX12_readAtom_31 : De bdX12_readAtom_31 0 (.aload_n 0) 1 ∧ De bdX12_readAtom_31 1 (.getfield 20) 3 ∧ De bdX12_readAtom_31 4 (.aload_n 0) 1 ∧ De bdX12_readAtom_31 5 (.getfield 137) 3 ∧ De bdX12_readAtom_31 8 (.iaload) 1 ∧ De bdX12_readAtom_31 9 (.bipush 40) 2 ∧ De bdX12_readAtom_31 11 (.if_icmp .ne 7) 3 ∧ De bdX12_readAtom_31 14 (.iconst 1) 1 ∧ De bdX12_readAtom_31 15 (.goto 4) 3 ∧ De bdX12_readAtom_31 18 (.iconst 0) 1 ∧ De bdX12_readAtom_31 19 (.istore_n 3) 1 ∧ De bdX12_readAtom_31 20 (.iload_n 2) 1 ∧ De bdX12_readAtom_31 21 (.ifCond .ne 7) 3 ∧ De bdX12_readAtom_31 24 (.iload_n 3) 1 ∧ De bdX12_readAtom_31 25 (.ifCond .eq 133) 3 ∧ De bdX12_readAtom_31 28 (.aload_n 0) 1 := by decide +kernel
theorem dX12_readAtom_31 : decode cX12_readAtom 31 = .ok (.aload_n 0, 1) := dAt wdX12_readAtom_31 adX12_readAtom_31.1 rfl
theorem dX12_readAtom_32 : decode cX12_readAtom 32 = .ok (.getfield 20, 3) := dAt wdX12_readAtom_31 adX12_readAtom_31.2.1 rfl
theorem dX12_readAtom_35 : decode cX12_readAtom 35 = .ok (.aload_n 0, 1) := dAt wdX12_readAtom_31 adX12_readAtom_31.2.2.1 rfl
theorem dX12_readAtom_36 : decode cX12_readAtom 36 = .ok (.getfield 137, 3) := dAt wdX12_readAtom_31 adX12_readAtom_31.2.2.2.1 rfl
theorem dX12_readAtom_39 : decode cX12_readAtom 39 = .ok (.iaload, 1) := dAt wdX12_readAtom_31 adX12_readAtom_31.2.2.2.2.1 rfl
theorem dX12_readAtom_40 : decode cX12_readAtom 40 = .ok (.bipush 40, 2) := dAt wdX12_readAtom_31 adX12_readAtom_31.2.2.2.2.2.1 rfl
theorem dX12_readAtom_42 : decode cX12_readAtom 42 = .ok (.if_icmp .ne 7, 3) := dAt wdX12_readAtom_31 adX12_readAtom_31.2.2.2.2.2.2.1 rfl
theorem dX12_readAtom_45 : decode cX12_readAtom 45 = .ok (.iconst 1, 1) := dAt wdX12_readAtom_31 adX12_readAtom_31.2.2.2.2.2.2.2.1 rfl
theorem dX12_readAtom_46 : decode cX12_readAtom 46 = .ok (.goto 4, 3) := dAt wdX12_readAtom_31 adX12_readAtom_31.2.2.2.2.2.2.2.2.1 rfl
theorem dX12_readAtom_49 : decode cX12_readAtom 49 = .ok (.iconst 0, 1) := dAt wdX12_readAtom_31 adX12_readAtom_31.2.2.2.2.2.2.2.2.2.1 rfl
theorem dX12_readAtom_50 : decode cX12_readAtom 50 = .ok (.istore_n 3, 1) := dAt wdX12_readAtom_31 adX12_readAtom_31.2.2.2.2.2.2.2.2.2.2.1 rfl
theorem dX12_readAtom_51 : decode cX12_readAtom 51 = .ok (.iload_n 2, 1) := dAt wdX12_readAtom_31 adX12_readAtom_31.2.2.2.2.2.2.2.2.2.2.2.1 rfl
theorem dX12_readAtom_52 : decode cX12_readAtom 52 = .ok (.ifCond .ne 7, 3) := dAt wdX12_readAtom_31 adX12_readAtom_31.2.2.2.2.2.2.2.2.2.2.2.2.1 rfl
theorem dX12_readAtom_55 : decode cX12_readAtom 55 = .ok (.iload_n 3, 1) := dAt wdX12_readAtom_31 adX12_readAtom_31.2.2.2.2.2.2.2.2.2.2.2.2.2.1 rfl
theorem dX12_readAtom_56 : decode cX12_readAtom 56 = .ok (.ifCond .eq 133, 3) := dAt wdX12_readAtom_31 adX12_readAtom_31.2.2.2.2.2.2.2.2.2.2.2.2.2.2.1 rfl
theorem dX12_readAtom_59 : decode cX12_readAtom 59 = .ok (.aload_n 0, 1) := dAt wdX12_readAtom_31 adX12_readAtom_31.2.2.2.2.2.2.2.2.2.2.2.2.2.2.2 rfl
def bdX12_readAtom_60 : ByteArray := .mk #[180, 0, 211, 8, 160, 0, 10, 42, 27, 181, 0, 23, 3, 172, 42, 89, 180, 0, 211, 4, 96, 181, 0, 211, 29, 153, 0, 13]
theorem wdX12_readAtom_60 : LocW cX12_readAtom 60 bdX12_readAtom_60 := loc_of (by decide +kernel)
theorem adX12_readAtom_60 : De bdX12_readAtom_60 0 (.getfield 211) 3 ∧ De bdX12_readAtom_60 3 (.iconst 5) 1 ∧ De bdX12_readAtom_60 4 (.if_icmp .ne 10) 3 ∧ De bdX12_readAtom_60 7 (.aload_n 0) 1 ∧ De bdX12_readAtom_60 8 (.iload_n 1) 1 ∧ De bdX12_readAtom_60 9 (.putfield 23) 3 ∧ De bdX12_readAtom_60 12 (.iconst 0) 1 ∧ De bdX12_readAtom_60 13 (.ireturn) 1 ∧ De bdX12_readAtom_60 14 (.aload_n 0) 1 ∧ De bdX12_readAtom_60 15 (.dup) 1 ∧ De bdX12_readAtom_60 16 (.getfield 211) 3 ∧ De bdX12_readAtom_60 19 (.iconst 1) 1 ∧ De bdX12_readAtom_60 20 (.iadd) 1 ∧ De bdX12_readAtom_60 21 (.putfield 211) 3 ∧ De bdX12_readAtom_60 24 (.iload_n 3) 1 ∧ De bdX12_readAtom_60 25 (.ifCond .eq 13) 3 := by decide +kernel
theorem dX12_readAtom_60 : decode cX12_readAtom 60 = .ok (.getfield 211, 3) := dAt wdX12_readAtom_60 adX12_readAtom_60.1 rfl
theorem dX12_readAtom_63 : decode cX12_readAtom 63 = .ok (.iconst 5, 1) := dAt wdX12_readAtom_60 adX12_readAtom_60.2.1 rfl
theorem dX12_readAtom_64 : decode cX12_readAtom 64 = .ok (.if_icmp .ne 10, 3) := dAt wdX12_readAtom_60 adX12_readAtom_60.2.2.1 rfl
theorem dX12_readAtom_67 : decode cX12_readAtom 67 = .ok (.aload_n 0, 1) := dAt wdX12_readAtom_60 adX12_readAtom_60.2.2.2.1 rfl
theorem dX12_readAtom_68 : decode cX12_readAtom 68 = .ok (.iload_n 1, 1) := dAt wdX12_readAtom_60 adX12_readAtom_60.2.2.2.2.1 rfl
theorem dX12_readAtom_69 : decode cX12_readAtom 69 = .ok (.putfield 23, 3) := dAt wdX12_readAtom_60 adX12_readAtom_60.2.2.2.2.2.1 rfl
theorem dX12_readAtom_72 : decode cX12_readAtom 72 = .ok (.iconst 0, 1) := dAt wdX12_readAtom_60 adX12_readAtom_60.2.2.2.2.2.2.1 rfl
theorem dX12_readAtom_73 : decode cX12_readAtom 73 = .ok (.ireturn, 1) := dAt wdX12_readAtom_60 adX12_readAtom_60.2.2.2.2.2.2.2.1 rfl
theorem dX12_readAtom_74 : decode cX12_readAtom 74 = .ok (.aload_n 0, 1) := dAt wdX12_readAtom_60 adX12_readAtom_60.2.2.2.2.2.2.2.2.1 rfl
theorem dX12_readAtom_75 : decode cX12_readAtom 75 = .ok (.dup, 1) := dAt wdX12_readAtom_60 adX12_readAtom_60.2.2.2.2.2.2.2.2.2.1 rfl
theorem dX12_readAtom_76 : decode cX12_readAtom 76 = .ok (.getfield 211, 3) := dAt wdX12_readAtom_60 adX12_readAtom_60.2.2.2.2.2.2.2.2.2.2.1 rfl
theorem dX12_readAtom_79 : decode cX12_readAtom 79 = .ok (.iconst 1, 1) := dAt wdX12_readAtom_60 adX12_readAtom_60.2.2.2.2.2.2.2.2.2.2.2.1 rfl
theorem dX12_readAtom_80 : decode cX12_readAtom 80 = .ok (.iadd, 1) := dAt wdX12_readAtom_60 adX12_readAtom_60.2.2.2.2.2.2.2.2.2.2.2.2.1 rfl
theorem dX12_readAtom_81 : decode cX12_readAtom 81 = .ok (.putfield 211, 3) := dAt wdX12_readAtom_60 adX12_readAtom_60.2.2.2.2.2.2.2.2.2.2.2.2.2.1 rfl
theorem dX12_readAtom_84 : decode cX12_readAtom 84 = .ok (.iload_n 3, 1) := dAt wdX12_readAtom_60 adX12_readAtom_60.2.2.2.2.2.2.2.2.2.2.2.2.2.2.1 rfl
theorem dX12_readAtom_85 : decode cX12_readAtom 85 = .ok (.ifCond .eq 13, 3) := dAt wdX12_readAtom_60 adX12_readAtom_60.2.2.2.2.2.2.2.2.2.2.2.2.2.2.2 rfl
def bdX12_readAtom_88 : ByteArray := .mk #[42, 89, 180, 0, 137, 4, 96, 181, 0, 137, 28, 153, 0, 13, 42, 182, 0, 214, 154, 0, 15, 167, 0, 10, 42, 182, 0, 217, 154, 0, 5, 3]
theorem wdX12_readAtom_88 : LocW cX12_readAtom 88 bdX12_readAtom_88 := loc_of (by decide +kernel)
theorem adX12_readAtom_88 : De bdX12_readAtom_88 0 (.aload_n 0) 1 ∧ De bdX12_readAtom_88 1 (.dup) 1 ∧ De bdX12_readAtom_88 2 (.getfield 137) 3 ∧ De bdX12_readAtom_88 5 (.iconst 1) 1 ∧ De bdX12_readAtom_88 6 (.iadd) 1 ∧ De bdX12_readAtom_88 7 (.putfield 137) 3 ∧ De bdX12_readAtom_88 10 (.iload_n 2) 1 ∧ De bdX12_readAtom_88 11 (.ifCond .eq 13) 3 ∧ De bdX12_readAtom_88 14 (.aload_n 0) 1 ∧ De bdX12_readAtom_88 15 (.invokevirtual 214) 3 ∧ De bdX12_readAtom_88 18 (.ifCond .ne 15) 3 ∧ De bdX12_readAtom_88 21 (.goto 10) 3 ∧ De bdX12_readAtom_88 24 (.aload_n 0) 1 ∧ De bdX12_readAtom_88 25 (.invokevirtual 217) 3 ∧ De bdX12_readAtom_88 28 (.ifCond .ne 5) 3 ∧ De bdX12_readAtom_88 31 (.iconst 0) 1 := by decide +kernel
theorem dX12_readAtom_88 : decode cX12_readAtom 88 = .ok (.aload_n 0, 1) := dAt wdX12_readAtom_88 adX12_readAtom_88.1 rfl
theorem dX12_readAtom_89 : decode cX12_readAtom 89 = .ok (.dup, 1) := dAt wdX12_readAtom_88 adX12_readAtom_88.2.1 rfl
theorem dX12_readAtom_90 : decode cX12_readAtom 90 = .ok (.getfield 137, 3) := dAt wdX12_readAtom_88 adX12_readAtom_88.2.2.1 rfl
theorem dX12_readAtom_93 : decode cX12_readAtom 93 = .ok (.iconst 1, 1) := dAt wdX12_readAtom_88 adX12_readAtom_88.2.2.2.1 rfl
theorem dX12_readAtom_94 : decode cX12_readAtom 94 = .ok (.iadd, 1) := dAt wdX12_readAtom_88 adX12_readAtom_88.2.2.2.2.1 rfl
theorem dX12_readAtom_95 : decode cX12_readAtom 95 = .ok (.putfield 137, 3) := dAt wdX12_readAtom_88 adX12_readAtom_88.2.2.2.2.2.1 rfl
theorem dX12_readAtom_98 : decode cX12_readAtom 98 = .ok (.iload_n 2, 1) := dAt wdX12_readAtom_88 adX12_readAtom_88.2.2.2.2.2.2.1 rfl
theorem dX12_readAtom_99 : decode cX12_readAtom 99 = .ok (.ifCond .eq 13, 3) := dAt wdX12_readAtom_88 adX12_readAtom_88.2.2.2.2.2.2.2.1 rfl
theorem dX12_readAtom_102 : decode cX12_readAtom 102 = .ok (.aload_n 0, 1) := dAt wdX12_readAtom_88 adX12_readAtom_88.2.2.2.2.2.2.2.2.1 rfl
theorem dX12_readAtom_103 : decode cX12_readAtom 103 = .ok (.invokevirtual 214, 3) := dAt wdX12_readAtom_88 adX12_readAtom_88.2.2.2.2.2.2.2.2.2.1 rfl
theorem dX12_readAtom_106 : decode cX12_readAtom 106 = .ok (.ifCond .ne 15, 3) := dAt wdX12_readAtom_88 adX12_readAtom_88.2.2.2.2.2.2.2.2.2.2.1 rfl
theorem dX12_readAtom_109 : decode cX12_readAtom 109 = .ok (.goto 10, 3) := dAt wdX12_readAtom_88 adX12_readAtom_88.2.2.2.2.2.2.2.2.2.2.2.1 rfl
theorem dX12_readAtom_112 : decode cX12_readAtom 112 = .ok (.aload_n 0, 1) := dAt wdX12_readAtom_88 adX12_readAtom_88.2.2.2.2.2.2.2.2.2.2.2.2.1 rfl
theorem dX12_readAtom_113 : decode cX12_readAtom 113 = .ok (.invokevirtual 217, 3) := dAt wdX12_readAtom_88 adX12_readAtom_88.2.2.2.2.2.2.2.2.2.2.2.2.2.1 rfl
theorem dX12_readAtom_116 : decode cX12_readAtom 116 = .ok (.ifCond .ne 5, 3) := dAt wdX12_readAtom_88 adX12_readAtom_88.2.2.2.2.2.2.2.2.2.2.2.2.2.2.1 rfl
theorem dX12_readAtom_119 : decode cX12_readAtom 119 = .ok (.iconst 0, 1) := dAt wdX12_readAtom_88 adX12_readAtom_88.2.2.2.2.2.2.2.2.2.2.2.2.2.2.2 rfl
def bdX12_readAtom_120 : ByteArray := .mk #[172, 28, 153, 0, 11, 42, 7, 182, 0, 220, 167, 0, 47, 42, 182, 0, 147, 42, 180, 0, 137, 42, 180, 0, 134, 162, 0, 17, 42, 180, 0, 20]
theorem wdX12_readAtom_120 : LocW cX12_readAtom 120 bdX12_readAtom_120 := loc_of (by decide +kernel)
theorem adX12_readAtom_120 : De bdX12_readAtom_120 0 (.ireturn) 1 ∧ De bdX12_readAtom_120 1 (.iload_n 2) 1 ∧ De bdX12_readAtom_120 2 (.ifCond .eq 11) 3 ∧ De bdX12_readAtom_120 5 (.aload_n 0) 1 ∧ De bdX12_readAtom_120 6 (.iconst 4) 1 ∧ De bdX12_readAtom_120 7 (.invokevirtual 220) 3 ∧ De bdX12_readAtom_120 10 (.goto 47) 3 ∧ De bdX12_readAtom_120 13 (.aload_n 0) 1 ∧ De bdX12_readAtom_120 14 (.invokevirtual 147) 3 ∧ De bdX12_readAtom_120 17 (.aload_n 0) 1 ∧ De bdX12_readAtom_120 18 (.getfield 137) 3 ∧ De bdX12_readAtom_120 21 (.aload_n 0) 1 ∧ De bdX12_readAtom_120 22 (.getfield 134) 3 ∧ De bdX12_readAtom_120 25 (.if_icmp .ge 17) 3 ∧ De bdX12_readAtom_120 28 (.aload_n 0) 1 ∧ De bdX12_readAtom_120 29 (.getfield 20) 3 := by decide +kernel
theorem dX12_readAtom_120 : decode cX12_readAtom 120 = .ok (.ireturn, 1) := dAt wdX12_readAtom_120 adX12_readAtom_120.1 rfl
theorem dX12_readAtom_121 : decode cX12_readAtom 121 = .ok (.iload_n 2, 1) := dAt wdX12_readAtom_120 adX12_readAtom_120.2.1 rfl
theorem dX12_readAtom_122 : decode cX12_readAtom 122 = .ok (.ifCond .eq 11, 3) := dAt wdX12_readAtom_120 adX12_readAtom_120.2.2.1 rfl
theorem dX12_readAtom_125 : decode cX12_readAtom 125 = .ok (.aload_n 0, 1) := dAt wdX12_readAtom_120 adX12_readAtom_120.2.2.2.1 rfl
theorem dX12_readAtom_126 : decode cX12_readAtom 126 = .ok (.iconst 4, 1) := dAt wdX12_readAtom_120 adX12_readAtom_120.2.2.2.2.1 rfl
theorem dX12_readAtom_127 : decode cX12_readAtom 127 = .ok (.invokevirtual 220, 3) := dAt wdX12_readAtom_120 adX12_readAtom_120.2.2.2.2.2.1 rfl
theorem dX12_readAtom_130 : decode cX12_readAtom 130 = .ok (.goto 47, 3) := dAt wdX12_readAtom_120 adX12_readAtom_120.2.2.2.2.2.2.1 rfl
theorem dX12_readAtom_133 : decode cX12_readAtom 133 = .ok (.aload_n 0, 1) := dAt wdX12_readAtom_120 adX12_readAtom_120.2.2.2.2.2.2.2.1 rfl
theorem dX12_readAtom_134 : decode cX12_readAtom 134 = .ok (.invokevirtual 147, 3) := dAt wdX12_readAtom_120 adX12_readAtom_120.2.2.2.2.2.2.2.2.1 rfl
theorem dX12_readAtom_137 : decode cX12_readAtom 137 = .ok (.aload_n 0, 1) := dAt wdX12_readAtom_120 adX12_readAtom_120.2.2.2.2.2.2.2.2.2.1 rfl
theorem dX12_readAtom_138 : decode cX12_readAtom 138 = .ok (.getfield 137, 3) := dAt wdX12_readAtom_120 adX12_readAtom_120.2.2.2.2.2.2.2.2.2.2.1 rfl
theorem dX12_readAtom_141 : decode cX12_readAtom 141 = .ok (.aload_n 0, 1) := dAt wdX12_readAtom_120 adX12_readAtom_120.2.2.2.2.2.2.2.2.2.2.2.1 rfl
theorem dX12_readAtom_142 : decode cX12_readAtom 142 = .ok (.getfield 134, 3) := dAt wdX12_readAtom_120 adX12_readAtom_120.2.2.2.2.2.2.2.2.2.2.2.2.1 rfl
theorem dX12_readAtom_145 : decode cX12_readAtom 145 = .ok (.if_icmp .ge 17, 3) := dAt wdX12_readAtom_120 adX12_readAtom_120.2.2.2.2.2.2.2.2.2.2.2.2.2.1 rfl
theorem dX12_readAtom_148 : decode cX12_readAtom 148 = .ok (.aload_n 0, 1) := dAt wdX12_readAtom_120 adX12_readAtom_120.2.2.2.2.2.2.2.2.2.2.2.2.2.2.1 rfl
theorem dX12_readAtom_149 : decode cX12_readAtom 149 = .ok (.getfield 20, 3) := dAt wdX12_readAtom_120 adX12_readAtom_120.2.2.2.2.2.2.2.2.2.2.2.2.2.2.2 rfl
def bdX12_readAtom_152 : ByteArray := .mk #[42, 180, 0, 137, 46, 16, 41, 159, 0, 8, 42, 182, 0, 223, 172, 42, 89, 180, 0, 137, 4, 96, 181, 0, 137, 42, 89]
theorem wdX12_readAtom_152 : LocW cX12_readAtom 152 bdX12_readAtom_152 := loc_of (by decide +kernel)
theorem adX12_readAtom_152 : De bdX12_readAtom_152 0 (.aload_n 0) 1 ∧ De bdX12_readAtom_152 1 (.getfield 137) 3 ∧ De bdX12_readAtom_152 4 (.iaload) 1 ∧ De bdX12_readAtom_152 5 (.bipush 41) 2 ∧ De bdX12_readAtom_152 7 (.if_icmp .eq 8) 3 ∧ De bdX12_readAtom_152 10 (.aload_n 0) 1 ∧ De bdX12_readAtom_152 11 (.invokevirtual 223) 3 ∧ De bdX12_readAtom_152 14 (.ireturn) 1 ∧ De bdX12_readAtom_152 15 (.aload_n 0) 1 ∧ De bdX12_readAtom_152 16 (.dup) 1 ∧ De bdX12_readAtom_152 17 (.getfield 137) 3 ∧ De bdX12_readAtom_152 20 (.iconst 1) 1 ∧ De bdX12_readAtom_152 21 (.iadd) 1 ∧ De bdX12_readAtom_152 22 (.putfield 137) 3 ∧ De bdX12_readAtom_152 25 (.aload_n 0) 1 ∧ De bdX12_readAtom_152 26 (.dup) 1 := by decide +kernel
theorem dX12_readAtom_152 : decode cX12_readAtom 152 = .ok (.aload_n 0, 1) := dAt wdX12_readAtom_152 adX12_readAtom_152.1 rfl
theorem dX12_readAtom_153 : decode cX12_readAtom 153 = .ok (.getfield 137, 3) := dAt wdX12_readAtom_152 adX12_readAtom_152.2.1 rfl
theorem dX12_readAtom_156 : decode cX12_readAtom 156 = .ok (.iaload, 1) := dAt wdX12_readAtom_152 adX12_readAtom_152.2.2.1 rfl
theorem dX12_readAtom_157 : decode cX12_readAtom 157 = .ok (.bipush 41, 2) := dAt wdX12_readAtom_152 adX12_readAtom_152.2.2.2.1 rfl
theorem dX12_readAtom_159 : decode cX12_readAtom 159 = .ok (.if_icmp .eq 8, 3) := dAt wdX12_readAtom_152 adX12_readAtom_152.2.2.2.2.1 rfl
theorem dX12_readAtom_162 : decode cX12_readAtom 162 = .ok (.aload_n 0, 1) := dAt wdX12_readAtom_152 adX12_readAtom_152.2.2.2.2.2.1 rfl
theorem dX12_readAtom_163 : decode cX12_readAtom 163 = .ok (.invokevirtual 223, 3) := dAt wdX12_readAtom_152 adX12_readAtom_152.2.2.2.2.2.2.1 rfl
theorem dX12_readAtom_166 : decode cX12_readAtom 166 = .ok (.ireturn, 1) := dAt wdX12_readAtom_152 adX12_readAtom_152.2.2.2.2.2.2.2.1 rfl
theorem dX12_readAtom_167 : decode cX12_readAtom 167 = .ok (.aload_n 0, 1) := dAt wdX12_readAtom_152 adX12_readAtom_152.2.2.2.2.2.2.2.2.1 rfl
theorem dX12_readAtom_168 : decode cX12_readAtom 168 = .ok (.dup, 1) := dAt wdX12_readAtom_152 adX12_readAtom_152.2.2.2.2.2.2.2.2.2.1 rfl
theorem dX12_readAtom_169 : decode cX12_readAtom 169 = .ok (.getfield 137, 3) := dAt wdX12_readAtom_152 adX12_readAtom_152.2.2.2.2.2.2.2.2.2.2.1 rfl
theorem dX12_readAtom_172 : decode cX12_readAtom 172 = .ok (.iconst 1, 1) := dAt wdX12_readAtom_152 adX12_readAtom_152.2.2.2.2.2.2.2.2.2.2.2.1 rfl
theorem dX12_readAtom_173 : decode cX12_readAtom 173 = .ok (.iadd, 1) := dAt wdX12_readAtom_152 adX12_readAtom_152.2.2.2.2.2.2.2.2.2.2.2.2.1 rfl
theorem dX12_readAtom_174 : decode cX12_readAtom 174 = .ok (.putfield 137, 3) := dAt wdX12_readAtom_152 adX12_readAtom_152.2.2.2.2.2.2.2.2.2.2.2.2.2.1 rfl
theorem dX12_readAtom_177 : decode cX12_readAtom 177 = .ok (.aload_n 0, 1) := dAt wdX12_readAtom_152 adX12_readAtom_152.2.2.2.2.2.2.2.2.2.2.2.2.2.2.1 rfl
theorem dX12_readAtom_178 : decode cX12_readAtom 178 = .ok (.dup, 1) := dAt wdX12_readAtom_152 adX12_readAtom_152.2.2.2.2.2.2.2.2.2.2.2.2.2.2.2 rfl
def bdX12_readAtom_179 : ByteArray := .mk #[180, 0, 211, 4, 100, 181, 0, 211, 4, 172, 42, 182, 0, 226, 54, 4, 21, 4, 2, 159, 0, 16, 42, 4, 182, 0, 220, 42]
theorem wdX12_readAtom_179 : LocW cX12_readAtom 179 bdX12_readAtom_179 := loc_of (by decide +kernel)
theorem adX12_readAtom_179 : De bdX12_readAtom_179 0 (.getfield 211) 3 ∧ De bdX12_readAtom_179 3 (.iconst 1) 1 ∧ De bdX12_readAtom_179 4 (.isub) 1 ∧ De bdX12_readAtom_179 5 (.putfield 211) 3 ∧ De bdX12_readAtom_179 8 (.iconst 1) 1 ∧ De bdX12_readAtom_179 9 (.ireturn) 1 ∧ De bdX12_readAtom_179 10 (.aload_n 0) 1 ∧ De bdX12_readAtom_179 11 (.invokevirtual 226) 3 ∧ De bdX12_readAtom_179 14 (.istore 4) 2 ∧ De bdX12_readAtom_179 16 (.iload 4) 2 ∧ De bdX12_readAtom_179 18 (.iconst (-1)) 1 ∧ De bdX12_readAtom_179 19 (.if_icmp .eq 16) 3 ∧ De bdX12_readAtom_179 22 (.aload_n 0) 1 ∧ De bdX12_readAtom_179 23 (.iconst 1) 1 ∧ De bdX12_readAtom_179 24 (.invokevirtual 220) 3 ∧ De bdX12_readAtom_179 27 (.aload_n 0) 1 := by decide +kernel
theorem dX12_readAtom_179 : decode cX12_readAtom 179 = .ok (.getfield 211, 3) := dAt wdX12_readAtom_179 adX12_readAtom_179.1 rfl
theorem dX12_readAtom_182 : decode cX12_readAtom 182 = .ok (.iconst 1, 1) := dAt wdX12_readAtom_179 adX12_readAtom_179.2.1 rfl
theorem dX12_readAtom_183 : decode cX12_readAtom 183 = .ok (.isub, 1) := dAt wdX12_readAtom_179 adX12_readAtom_179.2.2.1 rfl
theorem dX12_readAtom_184 : decode cX12_readAtom 184 = .ok (.putfield 211, 3) := dAt wdX12_readAtom_179 adX12_readAtom_179.2.2.2.1 rfl
theorem dX12_readAtom_187 : decode cX12_readAtom 187 = .ok (.iconst 1, 1) := dAt wdX12_readAtom_179 adX12_readAtom_179.2.2.2.2.1 rfl
theorem dX12_readAtom_188 : decode cX12_readAtom 188 = .ok (.ireturn, 1) := dAt wdX12_readAtom_179 adX12_readAtom_179.2.2.2.2.2.1 rfl
theorem dX12_readAtom_189 : decode cX12_readAtom 189 = .ok (.aload_n 0, 1) := dAt wdX12_readAtom_179 adX12_readAtom_179.2.2.2.2.2.2.1 rfl
theorem dX12_readAtom_190 : decode cX12_readAtom 190 = .ok (.invokevirtual 226, 3) := dAt wdX12_readAtom_179 adX12_readAtom_179.2.2.2.2.2.2.2.1 rfl
theorem dX12_readAtom_193 : decode cX12_readAtom 193 = .ok (.istore 4, 2) := dAt wdX12_readAtom_179 adX12_readAtom_179.2.2.2.2.2.2.2.2.1 rfl
theorem dX12_readAtom_195 : decode cX12_readAtom 195 = .ok (.iload 4, 2) := dAt wdX12_readAtom_179 adX12_readAtom_179.2.2.2.2.2.2.2.2.2.1 rfl
theorem dX12_readAtom_197 : decode cX12_readAtom 197 = .ok (.iconst (-1), 1) := dAt wdX12_readAtom_179 adX12_readAtom_179.2.2.2.2.2.2.2.2.2.2.1 rfl
theorem dX12_readAtom_198 : decode cX12_readAtom 198 = .ok (.if_icmp .eq 16, 3) := dAt wdX12_readAtom_179 adX12_readAtom_179.2.2.2.2.2.2.2.2.2.2.2.1 rfl
theorem dX12_readAtom_201 : decode cX12_readAtom 201 = .ok (.aload_n 0, 1) := dAt wdX12_readAtom_179 adX12_readAtom_179.2.2.2.2.2.2.2.2.2.2.2.2.1 rfl
theorem dX12_readAtom_202 : decode cX12_readAtom 202 = .ok (.iconst 1, 1) := dAt wdX12_readAtom_179 adX12_readAtom_179.2.2.2.2.2.2.2.2.2.2.2.2.2.1 rfl
theorem dX12_readAtom_203 : decode cX12_readAtom 203 = .ok (.invokevirtual 220, 3) := dAt wdX12_readAtom_179 adX12_readAtom_179.2.2.2.2.2.2.2.2.2.2.2.2.2.2.1 rfl
theorem dX12_readAtom_206 : decode cX12_readAtom 206 = .ok (.aload_n 0, 1) := dAt wdX12_readAtom_179 adX12_readAtom_179.2.2.2.2.2.2.2.2.2.2.2.2.2.2.2 rfl
def bdX12_readAtom_207 : ByteArray := .mk #[21, 4, 182, 0, 220, 4, 172, 42, 182, 0, 229, 54, 5, 21, 5, 2, 160, 0, 8, 42, 182, 0, 223, 172, 42, 182, 0, 147, 42]
theorem wdX12_readAtom_207 : LocW cX12_readAtom 207 bdX12_readAtom_207 := loc_of (by decide +kernel)
theorem adX12_readAtom_207 : De bdX12_readAtom_207 0 (.iload 4) 2 ∧ De bdX12_readAtom_207 2 (.invokevirtual 220) 3 ∧ De bdX12_readAtom_207 5 (.iconst 1) 1 ∧ De bdX12_readAtom_207 6 (.ireturn) 1 ∧ De bdX12_readAtom_207 7 (.aload_n 0) 1 ∧ De bdX12_readAtom_207 8 (.invokevirtual 229) 3 ∧ De bdX12_readAtom_207 11 (.istore 5) 2 ∧ De bdX12_readAtom_207 13 (.iload 5) 2 ∧ De bdX12_readAtom_207 15 (.iconst (-1)) 1 ∧ De bdX12_readAtom_207 16 (.if_icmp .ne 8) 3 ∧ De bdX12_readAtom_207 19 (.aload_n 0) 1 ∧ De bdX12_readAtom_207 20 (.invokevirtual 223) 3 ∧ De bdX12_readAtom_207 23 (.ireturn) 1 ∧ De bdX12_readAtom_207 24 (.aload_n 0) 1 ∧ De bdX12_readAtom_207 25 (.invokevirtual 147) 3 ∧ De bdX12_readAtom_207 28 (.aload_n 0) 1 := by decide +kernel
theorem dX12_readAtom_207 : decode cX12_readAtom 207 = .ok (.iload 4, 2) := dAt wdX12_readAtom_207 adX12_readAtom_207.1 rfl
theorem dX12_readAtom_209 : decode cX12_readAtom 209 = .ok (.invokevirtual 220, 3) := dAt wdX12_readAtom_207 adX12_readAtom_207.2.1 rfl
theorem dX12_readAtom_212 : decode cX12_readAtom 212 = .ok (.iconst 1, 1) := dAt wdX12_readAtom_207 adX12_readAtom_207.2.2.1 rfl
theorem dX12_readAtom_213 : decode cX12_readAtom 213 = .ok (.ireturn, 1) := dAt wdX12_readAtom_207 adX12_readAtom_207.2.2.2.1 rfl
theorem dX12_readAtom_214 : decode cX12_readAtom 214 = .ok (.aload_n 0, 1) := dAt wdX12_readAtom_207 adX12_readAtom_207.2.2.2.2.1 rfl
theorem dX12_readAtom_215 : decode cX12_readAtom 215 = .ok (.invokevirtual 229, 3) := dAt wdX12_readAtom_207 adX12_readAtom_207.2.2.2.2.2.1 rfl
theorem dX12_readAtom_218 : decode cX12_readAtom 218 = .ok (.istore 5, 2) := dAt wdX12_readAtom_207 adX12_readAtom_207.2.2.2.2.2.2.1 rfl
theorem dX12_readAtom_220 : decode cX12_readAtom 220 = .ok (.iload 5, 2) := dAt wdX12_readAtom_207 adX12_readAtom_207.2.2.2.2.2.2.2.1 rfl
theorem dX12_readAtom_222 : decode cX12_readAtom 222 = .ok (.iconst (-1), 1) := dAt wdX12_readAtom_207 adX12_readAtom_207.2.2.2.2.2.2.2.2.1 rfl
theorem dX12_readAtom_223 : decode cX12_readAtom 223 = .ok (.if_icmp .ne 8, 3) := dAt wdX12_readAtom_207 adX12_readAtom_207.2.2.2.2.2.2.2.2.2.1 rfl
theorem dX12_readAtom_226 : decode cX12_readAtom 226 = .ok (.aload_n 0, 1) := dAt wdX12_readAtom_207 adX12_readAtom_207.2.2.2.2.2.2.2.2.2.2.1 rfl
theorem dX12_readAtom_227 : decode cX12_readAtom 227 = .ok (.invokevirtual 223, 3) := dAt wdX12_readAtom_207 adX12_readAtom_207.2.2.2.2.2.2.2.2.2.2.2.1 rfl
theorem dX12_readAtom_230 : decode cX12_readAtom 230 = .ok (.ireturn, 1) := dAt wdX12_readAtom_207 adX12_readAtom_207.2.2.2.2.2.2.2.2.2.2.2.2.1 rfl
theorem dX12_readAtom_231 : decode cX12_readAtom 231 = .ok (.aload_n 0, 1) := dAt wdX12_readAtom_207 adX12_readAtom_207.2.2.2.2.2.2.2.2.2.2.2.2.2.1 rfl
theorem dX12_readAtom_232 : decode cX12_readAtom 232 = .ok (.invokevirtual 147, 3) := dAt wdX12_readAtom_207 adX12_readAtom_207.2.2.2.2.2.2.2.2.2.2.2.2.2.2.1 rfl
theorem dX12_readAtom_235 : decode cX12_readAtom 235 = .ok (.aload_n 0, 1) := dAt wdX12_readAtom_207 adX12_readAtom_207.2.2.2.2.2.2.2.2.2.2.2.2.2.2.2 rfl
def bdX12_readAtom_236 : ByteArray := .mk #[180, 0, 137, 42, 180, 0, 134, 162, 0, 31, 42, 180, 0, 20, 42, 180, 0, 137, 46, 16, 60, 159, 0, 22, 42, 180, 0, 20, 42, 180, 0, 137, 46]
theorem wdX12_readAtom_236 : LocW cX12_readAtom 236 bdX12_readAtom_236 := loc_of (by decide +kernel)
theorem adX12_readAtom_236 : De bdX12_readAtom_236 0 (.getfield 137) 3 ∧ De bdX12_readAtom_236 3 (.aload_n 0) 1 ∧ De bdX12_readAtom_236 4 (.getfield 134) 3 ∧ De bdX12_readAtom_236 7 (.if_icmp .ge 31) 3 ∧ De bdX12_readAtom_236 10 (.aload_n 0) 1 ∧ De bdX12_readAtom_236 11 (.getfield 20) 3 ∧ De bdX12_readAtom_236 14 (.aload_n 0) 1 ∧ De bdX12_readAtom_236 15 (.getfield 137) 3 ∧ De bdX12_readAtom_236 18 (.iaload) 1 ∧ De bdX12_readAtom_236 19 (.bipush 60) 2 ∧ De bdX12_readAtom_236 21 (.if_icmp .eq 22) 3 ∧ De bdX12_readAtom_236 24 (.aload_n 0) 1 ∧ De bdX12_readAtom_236 25 (.getfield 20) 3 ∧ De bdX12_readAtom_236 28 (.aload_n 0) 1 ∧ De bdX12_readAtom_236 29 (.getfield 137) 3 ∧ De bdX12_readAtom_236 32 (.iaload) 1 := by decide +kernel
theorem dX12_readAtom_236 : decode cX12_readAtom 236 = .ok (.getfield 137, 3) := dAt wdX12_readAtom_236 adX12_readAtom_236.1 rfl
theorem dX12_readAtom_239 : decode cX12_readAtom 239 = .ok (.aload_n 0, 1) := dAt wdX12_readAtom_236 adX12_readAtom_236.2.1 rfl
theorem dX12_readAtom_240 : decode cX12_readAtom 240 = .ok (.getfield 134, 3) := dAt wdX12_readAtom_236 adX12_readAtom_236.2.2.1 rfl
theorem dX12_readAtom_243 : decode cX12_readAtom 243 = .ok (.if_icmp .ge 31, 3) := dAt wdX12_readAtom_236 adX12_readAtom_236.2.2.2.1 rfl
theorem dX12_readAtom_246 : decode cX12_readAtom 246 = .ok (.aload_n 0, 1) := dAt wdX12_readAtom_236 adX12_readAtom_236.2.2.2.2.1 rfl
theorem dX12_readAtom_247 : decode cX12_readAtom 247 = .ok (.getfield 20, 3) := dAt wdX12_readAtom_236 adX12_readAtom_236.2.2.2.2.2.1 rfl
theorem dX12_readAtom_250 : decode cX12_readAtom 250 = .ok (.aload_n 0, 1) := dAt wdX12_readAtom_236 adX12_readAtom_236.2.2.2.2.2.2.1 rfl
theorem dX12_readAtom_251 : decode cX12_readAtom 251 = .ok (.getfield 137, 3) := dAt wdX12_readAtom_236 adX12_readAtom_236.2.2.2.2.2.2.2.1 rfl
theorem dX12_readAtom_254 : decode cX12_readAtom 254 = .ok (.iaload, 1) := dAt wdX12_readAtom_236 adX12_readAtom_236.2.2.2.2.2.2.2.2.1 rfl
theorem dX12_readAtom_255 : decode cX12_readAtom 255 = .ok (.bipush 60, 2) := dAt wdX12_readAtom_236 adX12_readAtom_236.2.2.2.2.2.2.2.2.2.1 rfl
theorem dX12_readAtom_257 : decode cX12_readAtom 257 = .ok (.if_icmp .eq 22, 3) := dAt wdX12_readAtom_236 adX12_readAtom_236.2.2.2.2.2.2.2.2.2.2.1 rfl
theorem dX12_readAtom_260 : decode cX12_readAtom 260 = .ok (.aload_n 0, 1) := dAt wdX12_readAtom_236 adX12_readAtom_236.2.2.2.2.2.2.2.2.2.2.2.1 rfl
theorem dX12_readAtom_261 : decode cX12_readAtom 261 = .ok (.getfield 20, 3) := dAt wdX12_readAtom_236 adX12_readAtom_236.2.2.2.2.2.2.2.2.2.2.2.2.1 rfl
theorem dX12_readAtom_264 : decode cX12_readAtom 264 = .ok (.aload_n 0, 1) := dAt wdX12_readAtom_236 adX12_readAtom_236.2.2.2.2.2.2.2.2.2.2.2.2.2.1 rfl
theorem dX12_readAtom_265 : decode cX12_readAtom 265 = .ok (.getfield 137, 3) := dAt wdX12_readAtom_236 adX12_readAtom_236.2.2.2.2.2.2.2.2.2.2.2.2.2.2.1 rfl
theorem dX12_readAtom_268 : decode cX12_readAtom 268 = .ok (.iaload, 1) := dAt wdX12_readAtom_236 adX12_readAtom_236.2.2.2.2.2.2.2.2.2.2.2.2.2.2.2 rfl
def bdX12_readAtom_269 : ByteArray := .mk #[16, 62, 159, 0, 8, 42, 182, 0, 223, 172, 42, 180, 0, 20, 42, 180, 0, 137, 46, 16, 60, 160, 0, 7, 5, 167, 0, 4, 6, 54, 6]
theorem wdX12_readAtom_269 : LocW cX12_readAtom 269 bdX12_readAtom_269 := loc_of (by decide +kernel)
theorem adX12_readAtom_269 : De bdX12_readAtom_269 0 (.bipush 62) 2 ∧ De bdX12_readAtom_269 2 (.if_icmp .eq 8) 3 ∧ De bdX12_readAtom_269 5 (.aload_n 0) 1 ∧ De bdX12_readAtom_269 6 (.invokevirtual 223) 3 ∧ De bdX12_readAtom_269 9 (.ireturn) 1 ∧ De bdX12_readAtom_269 10 (.aload_n 0) 1 ∧ De bdX12_readAtom_269 11 (.getfield 20) 3 ∧ De bdX12_readAtom_269 14 (.aload_n 0) 1 ∧ De bdX12_readAtom_269 15 (.getfield 137) 3 ∧ De bdX12_readAtom_269 18 (.iaload) 1 ∧ De bdX12_readAtom_269 19 (.bipush 60) 2 ∧ De bdX12_readAtom_269 21 (.if_icmp .ne 7) 3 ∧ De bdX12_readAtom_269 24 (.iconst 2) 1 ∧ De bdX12_readAtom_269 25 (.goto 4) 3 ∧ De bdX12_readAtom_269 28 (.iconst 3) 1 ∧ De bdX12_readAtom_269 29 (.istore 6) 2 := by decide +kernel
theorem dX12_readAtom_269 : decode cX12_readAtom 269 = .ok (.bipush 62, 2) := dAt wdX12_readAtom_269 adX12_readAtom_269.1 rfl
theorem dX12_readAtom_271 : decode cX12_readAtom 271 = .ok (.if_icmp .eq 8, 3) := dAt wdX12_readAtom_269 adX12_readAtom_269.2.1 rfl
theorem dX12_readAtom_274 : decode cX12_readAtom 274 = .ok (.aload_n 0, 1) := dAt wdX12_readAtom_269 adX12_readAtom_269.2.2.1 rfl
theorem dX12_readAtom_275 : decode cX12_readAtom 275 = .ok (.invokevirtual 223, 3) := dAt wdX12_readAtom_269 adX12_readAtom_269.2.2.2.1 rfl
theorem dX12_readAtom_278 : decode cX12_readAtom 278 = .ok (.ireturn, 1) := dAt wdX12_readAtom_269 adX12_readAtom_269.2.2.2.2.1 rfl
theorem dX12_readAtom_279 : decode cX12_readAtom 279 = .ok (.aload_n 0, 1) := dAt wdX12_readAtom_269 adX12_readAtom_269.2.2.2.2.2.1 rfl
theorem dX12_readAtom_280 : decode cX12_readAtom 280 = .ok (.getfield 20, 3) := dAt wdX12_readAtom_269 adX12_readAtom_269.2.2.2.2.2.2.1 rfl
theorem dX12_readAtom_283 : decode cX12_readAtom 283 = .ok (.aload_n 0, 1) := dAt wdX12_readAtom_269 adX12_readAtom_269.2.2.2.2.2.2.2.1 rfl
theorem dX12_readAtom_284 : decode cX12_readAtom 284 = .ok (.getfield 137, 3) := dAt wdX12_readAtom_269 adX12_readAtom_269.2.2.2.2.2.2.2.2.1 rfl
theorem dX12_readAtom_287 : decode cX12_readAtom 287 = .ok (.iaload, 1) := dAt wdX12_readAtom_269 adX12_readAtom_269.2.2.2.2.2.2.2.2.2.1 rfl
theorem dX12_readAtom_288 : decode cX12_readAtom 288 = .ok (.bipush 60, 2) := dAt wdX12_readAtom_269 adX12_readAtom_269.2.2.2.2.2.2.2.2.2.2.1 rfl
theorem dX12_readAtom_290 : decode cX12_readAtom 290 = .ok (.if_icmp .ne 7, 3) := dAt wdX12_readAtom_269 adX12_readAtom_269.2.2.2.2.2.2.2.2.2.2.2.1 rfl
theorem dX12_readAtom_293 : decode cX12_readAtom 293 = .ok (.iconst 2, 1) := dAt wdX12_readAtom_269 adX12_readAtom_269.2.2.2.2.2.2.2.2.2.2.2.2.1 rfl
theorem dX12_readAtom_294 : decode cX12_readAtom 294 = .ok (.goto 4, 3) := dAt wdX12_readAtom_269 adX12_readAtom_269.2.2.2.2.2.2.2.2.2.2.2.2.2.1 rfl
theorem dX12_readAtom_297 : decode cX12_readAtom 297 = .ok (.iconst 3, 1) := dAt wdX12_readAtom_269 adX12_readAtom_269.2.2.2.2.2.2.2.2.2.2.2.2.2.2.1 rfl
theorem dX12_readAtom_298 : decode cX12_readAtom 298 = .ok (.istore 6, 2) := dAt wdX12_readAtom_269 adX12_readAtom_269.2.2.2.2.2.2.2.2.2.2.2.2.2.2.2 rfl
def bdX12_readAtom_300 : ByteArray := .mk #[42, 89, 180, 0, 137, 4, 96, 181, 0, 137, 42, 3, 17, 39, 15, 182, 0, 232, 154, 0, 5, 3, 172, 42, 21, 6, 182, 0, 220]
theorem wdX12_readAtom_300 : LocW cX12_readAtom 300 bdX12_readAtom_300 := loc_of (by decide +kernel)
theorem adX12_readAtom_300 : De bdX12_readAtom_300 0 (.aload_n 0) 1 ∧ De bdX12_readAtom_300 1 (.dup) 1 ∧ De bdX12_readAtom_300 2 (.getfield 137) 3 ∧ De bdX12_readAtom_300 5 (.iconst 1) 1 ∧ De bdX12_readAtom_300 6 (.iadd) 1 ∧ De bdX12_readAtom_300 7 (.putfield 137) 3 ∧ De bdX12_readAtom_300 10 (.aload_n 0) 1 ∧ De bdX12_readAtom_300 11 (.iconst 0) 1 ∧ De bdX12_readAtom_300 12 (.sipush 9999) 3 ∧ De bdX12_readAtom_300 15 (.invokevirtual 232) 3 ∧ De bdX12_readAtom_300 18 (.ifCond .ne 5) 3 ∧ De bdX12_readAtom_300 21 (.iconst 0) 1 ∧ De bdX12_readAtom_300 22 (.ireturn) 1 ∧ De bdX12_readAtom_300 23 (.aload_n 0) 1 ∧ De bdX12_readAtom_300 24 (.iload 6) 2 ∧ De bdX12_readAtom_300 26 (.invokevirtual 220) 3 := by decide +kernel
theorem dX12_readAtom_300 : decode cX12_readAtom 300 = .ok (.aload_n 0, 1) := dAt wdX12_readAtom_300 adX12_readAtom_300.1 rfl
theorem dX12_readAtom_301 : decode cX12_readAtom 301 = .ok (.dup, 1) := dAt wdX12_readAtom_300 adX12_readAtom_300.2.1 rfl
theorem dX12_readAtom_302 : decode cX12_readAtom 302 = .ok (.getfield 137, 3) := dAt wdX12_readAtom_300 adX12_readAtom_300.2.2.1 rfl
theorem dX12_readAtom_305 : decode cX12_readAtom 305 = .ok (.iconst 1, 1) := dAt wdX12_readAtom_300 adX12_readAtom_300.2.2.2.1 rfl
theorem dX12_readAtom_306 : decode cX12_readAtom 306 = .ok (.iadd, 1) := dAt wdX12_readAtom_300 adX12_readAtom_300.2.2.2.2.1 rfl
theorem dX12_readAtom_307 : decode cX12_readAtom 307 = .ok (.putfield 137, 3) := dAt wdX12_readAtom_300 adX12_readAtom_300.2.2.2.2.2.1 rfl
theorem dX12_readAtom_310 : decode cX12_readAtom 310 = .ok (.aload_n 0, 1) := dAt wdX12_readAtom_300 adX12_readAtom_300.2.2.2.2.2.2.1 rfl
theorem dX12_readAtom_311 : decode cX12_readAtom 311 = .ok (.iconst 0, 1) := dAt wdX12_readAtom_300 adX12_readAtom_300.2.2.2.2.2.2.2.1 rfl
theorem dX12_readAtom_312 : decode cX12_readAtom 312 = .ok (.sipush 9999, 3) := dAt wdX12_readAtom_300 adX12_readAtom_300.2.2.2.2.2.2.2.2.1 rfl
theorem dX12_readAtom_315 : decode cX12_readAtom 315 = .ok (.invokevirtual 232, 3) := dAt wdX12_readAtom_300 adX12_readAtom_300.2.2.2.2.2.2.2.2.2.1 rfl
theorem dX12_readAtom_318 : decode cX12_readAtom 318 = .ok (.ifCond .ne 5, 3) := dAt wdX12_readAtom_300 adX12_readAtom_300.2.2.2.2.2.2.2.2.2.2.1 rfl
theorem dX12_readAtom_321 : decode cX12_readAtom 321 = .ok (.iconst 0, 1) := dAt wdX12_readAtom_300 adX12_readAtom_300.2.2.2.2.2.2.2.2.2.2.2.1 rfl
theorem dX12_readAtom_322 : decode cX12_readAtom 322 = .ok (.ireturn, 1) := dAt wdX12_readAtom_300 adX12_readAtom_300.2.2.2.2.2.2.2.2.2.2.2.2.1 rfl
theorem dX12_readAtom_323 : decode cX12_readAtom 323 = .ok (.aload_n 0, 1) := dAt wdX12_readAtom_300 adX12_readAtom_300.2.2.2.2.2.2.2.2.2.2.2.2.2.1 rfl
theorem dX12_readAtom_324 : decode cX12_readAtom 324 = .ok (.iload 6, 2) := dAt wdX12_readAtom_300 adX12_readAtom_300.2.2.2.2.2.2.2.2.2.2.2.2.2.2.1 rfl
theorem dX12_readAtom_326 : decode cX12_readAtom 326 = .ok (.invokevirtual 220, 3) := dAt wdX12_readAtom_300 adX12_readAtom_300.2.2.2.2.2.2.2.2.2.2.2.2.2.2.2 rfl
def bdX12_readAtom_329 : ByteArray := .mk #[42, 21, 5, 182, 0, 220, 42, 42, 180, 0, 181, 182, 0, 220, 4, 172]
theorem wdX12_readAtom_329 : LocW cX12_readAtom 329 bdX12_readAtom_329 := loc_of (by decide +kernel)
theorem adX12_readAtom_329 : De bdX12_readAtom_329 0 (.aload_n 0) 1 ∧ De bdX12_readAtom_329 1 (.iload 5) 2 ∧ De bdX12_readAtom_329 3 (.invokevirtual 220) 3 ∧ De bdX12_readAtom_329 6 (.aload_n 0) 1 ∧ De bdX12_readAtom_329 7 (.aload_n 0) 1 ∧ De bdX12_readAtom_329 8 (.getfield 181) 3 ∧ De bdX12_readAtom_329 11 (.invokevirtual 220) 3 ∧ De bdX12_readAtom_329 14 (.iconst 1) 1 ∧ De bdX12_readAtom_329 15 (.ireturn) 1 := by decide +kernel
theorem dX12_readAtom_329 : decode cX12_readAtom 329 = .ok (.aload_n 0, 1) := dAt wdX12_readAtom_329 adX12_readAtom_329.1 rfl
theorem dX12_readAtom_330 : decode cX12_readAtom 330 = .ok (.iload 5, 2) := dAt wdX12_readAtom_329 adX12_readAtom_329.2.1 rfl
theorem dX12_readAtom_332 : decode cX12_readAtom 332 = .ok (.invokevirtual 220, 3) := dAt wdX12_readAtom_329 adX12_readAtom_329.2.2.1 rfl
theorem dX12_readAtom_335 : decode cX12_readAtom 335 = .ok (.aload_n 0, 1) := dAt wdX12_readAtom_329 adX12_readAtom_329.2.2.2.1 rfl
theorem dX12_readAtom_336 : decode cX12_readAtom 336 = .ok (.aload_n 0, 1) := dAt wdX12_readAtom_329 adX12_readAtom_329.2.2.2.2.1 rfl
theorem dX12_readAtom_337 : decode cX12_readAtom 337 = .ok (.getfield 181, 3) := dAt wdX12_readAtom_329 adX12_readAtom_329.2.2.2.2.2.1 rfl
theorem dX12_readAtom_340 : decode cX12_readAtom 340 = .ok (.invokevirtual 220, 3) := dAt wdX12_readAtom_329 adX12_readAtom_329.2.2.2.2.2.2.1 rfl
theorem dX12_readAtom_343 : decode cX12_readAtom 343 = .ok (.iconst 1, 1) := dAt wdX12_readAtom_329 adX12_readAtom_329.2.2.2.2.2.2.2.1 rfl
theorem dX12_readAtom_344 : decode cX12_readAtom 344 = .ok (.ireturn, 1) := dAt wdX12_readAtom_329 adX12_readAtom_329.2.2.2.2.2.2.2.2 rfl
def bdX12_readAll_0 : ByteArray := .mk #[42, 182, 0, 214, 154, 0, 5, 3, 172, 42, 18, 236, 182, 0, 189, 153, 0, 20, 42, 182, 0, 214, 154, 0, 5, 3, 172, 42, 8]
theorem wdX12_readAll_0 : LocW cX12_readAll 0 bdX12_readAll_0 := loc_of (by decide +kernel)
theorem adX12_readAll_0 : De bdX12_readAll_0 0 (.aload_n 0) 1 ∧ De bdX12_readAll_0 1 (.invokevirtual 214) 3 ∧ De bdX12_readAll_0 4 (.ifCond .ne 5) 3 ∧ De bdX12_readAll_0 7 (.iconst 0) 1 ∧ De bdX12_readAll_0 8 (.ireturn) 1 ∧ De bdX12_readAll_0 9 (.aload_n 0) 1 ∧ De bdX12_readAll_0 10 (.ldc 236) 2 ∧ De bdX12_readAll_0 12 (.invokevirtual 189) 3 ∧ De bdX12_readAll_0 15 (.ifCond .eq 20) 3 ∧ De bdX12_readAll_0 18 (.aload_n 0) 1 ∧ De bdX12_readAll_0 19 (.invokevirtual 214) 3 ∧ De bdX12_readAll_0 22 (.ifCond .ne 5) 3 ∧ De bdX12_readAll_0 25 (.iconst 0) 1 ∧ De bdX12_readAll_0 26 (.ireturn) 1 ∧ De bdX12_readAll_0 27 (.aload_n 0) 1 ∧ De bdX12_readAll_0 28 (.iconst 5) 1 := by decide +kernel
theorem dX12_readAll_0 : decode cX12_readAll 0 = .ok (.aload_n 0, 1) := dAt wdX12_readAll_0 adX12_readAll_0.1 rfl
theorem dX12_readAll_1 : decode cX12_readAll 1 = .ok (.invokevirtual 214, 3) := dAt wdX12_readAll_0 adX12_readAll_0.2.1 rfl
theorem dX12_readAll_4 : decode cX12_readAll 4 = .ok (.ifCond .ne 5, 3) := dAt wdX12_readAll_0 adX12_readAll_0.2.2.1 rfl
theorem dX12_readAll_7 : decode cX12_readAll 7 = .ok (.iconst 0, 1) := dAt wdX12_readAll_0 adX12_readAll_0.2.2.2.1 rfl
theorem dX12_readAll_8 : decode cX12_readAll 8 = .ok (.ireturn, 1) := dAt wdX12_readAll_0 adX12_readAll_0.2.2.2.2.1 rfl
theorem dX12_readAll_9 : decode cX12_readAll 9 = .ok (.aload_n 0, 1) := dAt wdX12_readAll_0 adX12_readAll_0.2.2.2.2.2.1 rfl
theorem dX12_readAll_10 : decode cX12_readAll 10 = .ok (.ldc 236, 2) := dAt wdX12_readAll_0 adX12_readAll_0.2.2.2.2.2.2.1 rfl
theorem dX12_readAll_12 : decode cX12_readAll 12 = .ok (.invokevirtual 189, 3) := dAt wdX12_readAll_0 adX12_readAll_0.2.2.2.2.2.2.2.1 rfl
theorem dX12_readAll_15 : decode cX12_readAll 15 = .ok (.ifCond .eq 20, 3) := dAt wdX12_readAll_0 adX12_readAll_0.2.2.2.2.2.2.2.2.1 rfl
theorem dX12_readAll_18 : decode cX12_readAll 18 = .ok (.aload_n 0, 1) := dAt wdX12_readAll_0 adX12_readAll_0.2.2.2.2.2.2.2.2.2.1 rfl
theorem dX12_readAll_19 : decode cX12_readAll 19 = .ok (.invokevirtual 214, 3) := dAt wdX12_readAll_0 adX12_readAll_0.2.2.2.2.2.2.2.2.2.2.1 rfl
theorem dX12_readAll_22 : decode cX12_readAll 22 = .ok (.ifCond .ne 5, 3) := dAt wdX12_readAll_0 adX12_readAll_0.2.2.2.2.2.2.2.2.2.2.2.1 rfl
theorem dX12_readAll_25 : decode cX12_readAll 25 = .ok (.iconst 0, 1) := dAt wdX12_readAll_0 adX12_readAll_0.2.2.2.2.2.2.2.2.2.2.2.2.1 rfl
theorem dX12_readAll_26 : decode cX12_readAll 26 = .ok (.ireturn, 1) := dAt wdX12_readAll_0 adX12_readAll_0.2.2.2.2.2.2.2.2.2.2.2.2.2.1 rfl
theorem dX12_readAll_27 : decode cX12_readAll 27 = .ok (.aload_n 0, 1) := dAt wdX12_readAll_0 adX12_readAll_0.2.2.2.2.2.2.2.2.2.2.2.2.2.2.1 rfl
theorem dX12_readAll_28 : decode cX12_readAll 28 = .ok (.iconst 5, 1) := dAt wdX12_readAll_0 adX12_readAll_0.2.2.2.2.2.2.2.2.2.2.2.2.2.2.2 rfl
def bdX12_readAll_29 : ByteArray := .mk #[182, 0, 220, 167, 255, 233, 4, 172]
theorem wdX12_readAll_29 : LocW cX12_readAll 29 bdX12_readAll_29 := loc_of (by decide +kernel)
theorem adX12_readAll_29 : De bdX12_readAll_29 0 (.invokevirtual 220) 3 ∧ De bdX12_readAll_29 3 (.goto (-23)) 3 ∧ De bdX12_readAll_29 6 (.iconst 1) 1 ∧ De bdX12_readAll_29 7 (.ireturn) 1 := by decide +kernel
theorem dX12_readAll_29 : decode cX12_readAll 29 = .ok (.invokevirtual 220, 3) := dAt wdX12_readAll_29 adX12_readAll_29.1 rfl
theorem dX12_readAll_32 : decode cX12_readAll 32 = .ok (.goto (-23), 3) := dAt wdX12_readAll_29 adX12_readAll_29.2.1 rfl
theorem dX12_readAll_35 : decode cX12_readAll 35 = .ok (.iconst 1, 1) := dAt wdX12_readAll_29 adX12_readAll_29.2.2.1 rfl
theorem dX12_readAll_36 : decode cX12_readAll 36 = .ok (.ireturn, 1) := dAt wdX12_readAll_29 adX12_readAll_29.2.2.2 rfl
def bdX12_readAny_0 : ByteArray := .mk #[42, 182, 0, 238, 154, 0, 5, 3, 172, 42, 18, 241, 182, 0, 189, 153, 0, 21, 42, 182, 0, 238, 154, 0, 5, 3, 172, 42, 16, 6]
theorem wdX12_readAny_0 : LocW cX12_readAny 0 bdX12_readAny_0 := loc_of (by decide +kernel)
theorem adX12_readAny_0 : De bdX12_readAny_0 0 (.aload_n 0) 1 ∧ De bdX12_readAny_0 1 (.invokevirtual 238) 3 ∧ De bdX12_readAny_0 4 (.ifCond .ne 5) 3 ∧ De bdX12_readAny_0 7 (.iconst 0) 1 ∧ De bdX12_readAny_0 8 (.ireturn) 1 ∧ De bdX12_readAny_0 9 (.aload_n 0) 1 ∧ De bdX12_readAny_0 10 (.ldc 241) 2 ∧ De bdX12_readAny_0 12 (.invokevirtual 189) 3 ∧ De bdX12_readAny_0 15 (.ifCond .eq 21) 3 ∧ De bdX12_readAny_0 18 (.aload_n 0) 1 ∧ De bdX12_readAny_0 19 (.invokevirtual 238) 3 ∧ De bdX12_readAny_0 22 (.ifCond .ne 5) 3 ∧ De bdX12_readAny_0 25 (.iconst 0) 1 ∧ De bdX12_readAny_0 26 (.ireturn) 1 ∧ De bdX12_readAny_0 27 (.aload_n 0) 1 ∧ De bdX12_readAny_0 28 (.bipush 6) 2 := by decide +kernel
theorem dX12_readAny_0 : decode cX12_readAny 0 = .ok (.aload_n 0, 1) := dAt wdX12_readAny_0 adX12_readAny_0.1 rfl
theorem dX12_readAny_1 : decode cX12_readAny 1 = .ok (.invokevirtual 238, 3) := dAt wdX12_readAny_0 adX12_readAny_0.2.1 rfl
theorem dX12_readAny_4 : decode cX12_readAny 4 = .ok (.ifCond .ne 5, 3) := dAt wdX12_readAny_0 adX12_readAny_0.2.2.1 rfl
theorem dX12_readAny_7 : decode cX12_readAny 7 = .ok (.iconst 0, 1) := dAt wdX12_readAny_0 adX12_readAny_0.2.2.2.1 rfl
theorem dX12_readAny_8 : decode cX12_readAny 8 = .ok (.ireturn, 1) := dAt wdX12_readAny_0 adX12_readAny_0.2.2.2.2.1 rfl
theorem dX12_readAny_9 : decode cX12_readAny 9 = .ok (.aload_n 0, 1) := dAt wdX12_readAny_0 adX12_readAny_0.2.2.2.2.2.1 rfl
theorem dX12_readAny_10 : decode cX12_readAny 10 = .ok (.ldc 241, 2) := dAt wdX12_readAny_0 adX12_readAny_0.2.2.2.2.2.2.1 rfl
theorem dX12_readAny_12 : decode cX12_readAny 12 = .ok (.invokevirtual 189, 3) := dAt wdX12_readAny_0 adX12_readAny_0.2.2.2.2.2.2.2.1 rfl
theorem dX12_readAny_15 : decode cX12_readAny 15 = .ok (.ifCond .eq 21, 3) := dAt wdX12_readAny_0 adX12_readAny_0.2.2.2.2.2.2.2.2.1 rfl
theorem dX12_readAny_18 : decode cX12_readAny 18 = .ok (.aload_n 0, 1) := dAt wdX12_readAny_0 adX12_readAny_0.2.2.2.2.2.2.2.2.2.1 rfl
theorem dX12_readAny_19 : decode cX12_readAny 19 = .ok (.invokevirtual 238, 3) := dAt wdX12_readAny_0 adX12_readAny_0.2.2.2.2.2.2.2.2.2.2.1 rfl
theorem dX12_readAny_22 : decode cX12_readAny 22 = .ok (.ifCond .ne 5, 3) := dAt wdX12_readAny_0 adX12_readAny_0.2.2.2.2.2.2.2.2.2.2.2.1 rfl
theorem dX12_readAny_25 : decode cX12_readAny 25 = .ok (.iconst 0, 1) := dAt wdX12_readAny_0 adX12_readAny_0.2.2.2.2.2.2.2.2.2.2.2.2.1 rfl
theorem dX12_readAny_26 : decode cX12_readAny 26 = .ok (.ireturn, 1) := dAt wdX12_readAny_0 adX12_readAny_0.2.2.2.2.2.2.2.2.2.2.2.2.2.1 rfl
theorem dX12_readAny_27 : decode cX12_readAny 27 = .ok (.aload_n 0, 1) := dAt wdX12_readAny_0 adX12_readAny_0.2.2.2.2.2.2.2.2.2.2.2.2.2.2.1 rfl
theorem dX12_readAny_28 : decode cX12_readAny 28 = .ok (.bipush 6, 2) := dAt wdX12_readAny_0 adX12_readAny_0.2.2.2.2.2.2.2.2.2.2.2.2.2.2.2 rfl
def bdX12_readAny_30 : ByteArray := .mk #[182, 0, 220, 167, 255, 232, 4, 172]
theorem wdX12_readAny_30 : LocW cX12_readAny 30 bdX12_readAny_30 := loc_of (by decide +kernel)
theorem adX12_readAny_30 : De bdX12_readAny_30 0 (.invokevirtual 220) 3 ∧ De bdX12_readAny_30 3 (.goto (-24)) 3 ∧ De bdX12_readAny_30 6 (.iconst 1) 1 ∧ De bdX12_readAny_30 7 (.ireturn) 1 := by decide +kernel
theorem dX12_readAny_30 : decode cX12_readAny 30 = .ok (.invokevirtual 220, 3) := dAt wdX12_readAny_30 adX12_readAny_30.1 rfl
theorem dX12_readAny_33 : decode cX12_readAny 33 = .ok (.goto (-24), 3) := dAt wdX12_readAny_30 adX12_readAny_30.2.1 rfl
theorem dX12_readAny_36 : decode cX12_readAny 36 = .ok (.iconst 1, 1) := dAt wdX12_readAny_30 adX12_readAny_30.2.2.1 rfl
theorem dX12_readAny_37 : decode cX12_readAny 37 = .ok (.ireturn, 1) := dAt wdX12_readAny_30 adX12_readAny_30.2.2.2 rfl
def bdX12_readIf_0 : ByteArray := .mk #[42, 18, 243, 182, 0, 189, 154, 0, 20, 27, 153, 0, 10, 42, 182, 0, 223, 153, 0, 7, 4, 167, 0, 4, 3, 172, 5, 8, 42]
theorem wdX12_readIf_0 : LocW cX12_readIf 0 bdX12_readIf_0 := loc_of (by decide +kernel)
theorem adX12_readIf_0 : De bdX12_readIf_0 0 (.aload_n 0) 1 ∧ De bdX12_readIf_0 1 (.ldc 243) 2 ∧ De bdX12_readIf_0 3 (.invokevirtual 189) 3 ∧ De bdX12_readIf_0 6 (.ifCond .ne 20) 3 ∧ De bdX12_readIf_0 9 (.iload_n 1) 1 ∧ De bdX12_readIf_0 10 (.ifCond .eq 10) 3 ∧ De bdX12_readIf_0 13 (.aload_n 0) 1 ∧ De bdX12_readIf_0 14 (.invokevirtual 223) 3 ∧ De bdX12_readIf_0 17 (.ifCond .eq 7) 3 ∧ De bdX12_readIf_0 20 (.iconst 1) 1 ∧ De bdX12_readIf_0 21 (.goto 4) 3 ∧ De bdX12_readIf_0 24 (.iconst 0) 1 ∧ De bdX12_readIf_0 25 (.ireturn) 1 ∧ De bdX12_readIf_0 26 (.iconst 2) 1 ∧ De bdX12_readIf_0 27 (.iconst 5) 1 ∧ De bdX12_readIf_0 28 (.aload_n 0) 1 := by decide +kernel
theorem dX12_readIf_0 : decode cX12_readIf 0 = .ok (.aload_n 0, 1) := dAt wdX12_readIf_0 adX12_readIf_0.1 rfl
theorem dX12_readIf_1 : decode cX12_readIf 1 = .ok (.ldc 243, 2) := dAt wdX12_readIf_0 adX12_readIf_0.2.1 rfl
theorem dX12_readIf_3 : decode cX12_readIf 3 = .ok (.invokevirtual 189, 3) := dAt wdX12_readIf_0 adX12_readIf_0.2.2.1 rfl
theorem dX12_readIf_6 : decode cX12_readIf 6 = .ok (.ifCond .ne 20, 3) := dAt wdX12_readIf_0 adX12_readIf_0.2.2.2.1 rfl
theorem dX12_readIf_9 : decode cX12_readIf 9 = .ok (.iload_n 1, 1) := dAt wdX12_readIf_0 adX12_readIf_0.2.2.2.2.1 rfl
theorem dX12_readIf_10 : decode cX12_readIf 10 = .ok (.ifCond .eq 10, 3) := dAt wdX12_readIf_0 adX12_readIf_0.2.2.2.2.2.1 rfl
theorem dX12_readIf_13 : decode cX12_readIf 13 = .ok (.aload_n 0, 1) := dAt wdX12_readIf_0 adX12_readIf_0.2.2.2.2.2.2.1 rfl
theorem dX12_readIf_14 : decode cX12_readIf 14 = .ok (.invokevirtual 223, 3) := dAt wdX12_readIf_0 adX12_readIf_0.2.2.2.2.2.2.2.1 rfl
theorem dX12_readIf_17 : decode cX12_readIf 17 = .ok (.ifCond .eq 7, 3) := dAt wdX12_readIf_0 adX12_readIf_0.2.2.2.2.2.2.2.2.1 rfl
theorem dX12_readIf_20 : decode cX12_readIf 20 = .ok (.iconst 1, 1) := dAt wdX12_readIf_0 adX12_readIf_0.2.2.2.2.2.2.2.2.2.1 rfl
theorem dX12_readIf_21 : decode cX12_readIf 21 = .ok (.goto 4, 3) := dAt wdX12_readIf_0 adX12_readIf_0.2.2.2.2.2.2.2.2.2.2.1 rfl
theorem dX12_readIf_24 : decode cX12_readIf 24 = .ok (.iconst 0, 1) := dAt wdX12_readIf_0 adX12_readIf_0.2.2.2.2.2.2.2.2.2.2.2.1 rfl
theorem dX12_readIf_25 : decode cX12_readIf 25 = .ok (.ireturn, 1) := dAt wdX12_readIf_0 adX12_readIf_0.2.2.2.2.2.2.2.2.2.2.2.2.1 rfl
theorem dX12_readIf_26 : decode cX12_readIf 26 = .ok (.iconst 2, 1) := dAt wdX12_readIf_0 adX12_readIf_0.2.2.2.2.2.2.2.2.2.2.2.2.2.1 rfl
theorem dX12_readIf_27 : decode cX12_readIf 27 = .ok (.iconst 5, 1) := dAt wdX12_readIf_0 adX12_readIf_0.2.2.2.2.2.2.2.2.2.2.2.2.2.2.1 rfl
theorem dX12_readIf_28 : decode cX12_readIf 28 = .ok (.aload_n 0, 1) := dAt wdX12_readIf_0 adX12_readIf_0.2.2.2.2.2.2.2.2.2.2.2.2.2.2.2 rfl
def bdX12_readIf_29 : ByteArray := .mk #[180, 0, 245, 104, 96, 61, 42, 180, 0, 42, 28, 6, 96, 42, 180, 0, 184, 79, 42, 182, 0, 217, 154, 0, 5, 3]
theorem wdX12_readIf_29 : LocW cX12_readIf 29 bdX12_readIf_29 := loc_of (by decide +kernel)
theorem adX12_readIf_29 : De bdX12_readIf_29 0 (.getfield 245) 3 ∧ De bdX12_readIf_29 3 (.imul) 1 ∧ De bdX12_readIf_29 4 (.iadd) 1 ∧ De bdX12_readIf_29 5 (.istore_n 2) 1 ∧ De bdX12_readIf_29 6 (.aload_n 0) 1 ∧ De bdX12_readIf_29 7 (.getfield 42) 3 ∧ De bdX12_readIf_29 10 (.iload_n 2) 1 ∧ De bdX12_readIf_29 11 (.iconst 3) 1 ∧ De bdX12_readIf_29 12 (.iadd) 1 ∧ De bdX12_readIf_29 13 (.aload_n 0) 1 ∧ De bdX12_readIf_29 14 (.getfield 184) 3 ∧ De bdX12_readIf_29 17 (.iastore) 1 ∧ De bdX12_readIf_29 18 (.aload_n 0) 1 ∧ De bdX12_readIf_29 19 (.invokevirtual 217) 3 ∧ De bdX12_readIf_29 22 (.ifCond .ne 5) 3 ∧ De bdX12_readIf_29 25 (.iconst 0) 1 := by decide +kernel
theorem dX12_readIf_29 : decode cX12_readIf 29 = .ok (.getfield 245, 3) := dAt wdX12_readIf_29 adX12_readIf_29.1 rfl
theorem dX12_readIf_32 : decode cX12_readIf 32 = .ok (.imul, 1) := dAt wdX12_readIf_29 adX12_readIf_29.2.1 rfl
theorem dX12_readIf_33 : decode cX12_readIf 33 = .ok (.iadd, 1) := dAt wdX12_readIf_29 adX12_readIf_29.2.2.1 rfl
theorem dX12_readIf_34 : decode cX12_readIf 34 = .ok (.istore_n 2, 1) := dAt wdX12_readIf_29 adX12_readIf_29.2.2.2.1 rfl
theorem dX12_readIf_35 : decode cX12_readIf 35 = .ok (.aload_n 0, 1) := dAt wdX12_readIf_29 adX12_readIf_29.2.2.2.2.1 rfl
theorem dX12_readIf_36 : decode cX12_readIf 36 = .ok (.getfield 42, 3) := dAt wdX12_readIf_29 adX12_readIf_29.2.2.2.2.2.1 rfl
theorem dX12_readIf_39 : decode cX12_readIf 39 = .ok (.iload_n 2, 1) := dAt wdX12_readIf_29 adX12_readIf_29.2.2.2.2.2.2.1 rfl
theorem dX12_readIf_40 : decode cX12_readIf 40 = .ok (.iconst 3, 1) := dAt wdX12_readIf_29 adX12_readIf_29.2.2.2.2.2.2.2.1 rfl
theorem dX12_readIf_41 : decode cX12_readIf 41 = .ok (.iadd, 1) := dAt wdX12_readIf_29 adX12_readIf_29.2.2.2.2.2.2.2.2.1 rfl
theorem dX12_readIf_42 : decode cX12_readIf 42 = .ok (.aload_n 0, 1) := dAt wdX12_readIf_29 adX12_readIf_29.2.2.2.2.2.2.2.2.2.1 rfl
theorem dX12_readIf_43 : decode cX12_readIf 43 = .ok (.getfield 184, 3) := dAt wdX12_readIf_29 adX12_readIf_29.2.2.2.2.2.2.2.2.2.2.1 rfl
theorem dX12_readIf_46 : decode cX12_readIf 46 = .ok (.iastore, 1) := dAt wdX12_readIf_29 adX12_readIf_29.2.2.2.2.2.2.2.2.2.2.2.1 rfl
theorem dX12_readIf_47 : decode cX12_readIf 47 = .ok (.aload_n 0, 1) := dAt wdX12_readIf_29 adX12_readIf_29.2.2.2.2.2.2.2.2.2.2.2.2.1 rfl
theorem dX12_readIf_48 : decode cX12_readIf 48 = .ok (.invokevirtual 217, 3) := dAt wdX12_readIf_29 adX12_readIf_29.2.2.2.2.2.2.2.2.2.2.2.2.2.1 rfl
theorem dX12_readIf_51 : decode cX12_readIf 51 = .ok (.ifCond .ne 5, 3) := dAt wdX12_readIf_29 adX12_readIf_29.2.2.2.2.2.2.2.2.2.2.2.2.2.2.1 rfl
theorem dX12_readIf_54 : decode cX12_readIf 54 = .ok (.iconst 0, 1) := dAt wdX12_readIf_29 adX12_readIf_29.2.2.2.2.2.2.2.2.2.2.2.2.2.2.2 rfl
def bdX12_readIf_55 : ByteArray := .mk #[172, 42, 180, 0, 42, 28, 7, 96, 42, 180, 0, 184, 42, 180, 0, 42, 28, 6, 96, 46, 100, 79]
theorem wdX12_readIf_55 : LocW cX12_readIf 55 bdX12_readIf_55 := loc_of (by decide +kernel)
theorem adX12_readIf_55 : De bdX12_readIf_55 0 (.ireturn) 1 ∧ De bdX12_readIf_55 1 (.aload_n 0) 1 ∧ De bdX12_readIf_55 2 (.getfield 42) 3 ∧ De bdX12_readIf_55 5 (.iload_n 2) 1 ∧ De bdX12_readIf_55 6 (.iconst 4) 1 ∧ De bdX12_readIf_55 7 (.iadd) 1 ∧ De bdX12_readIf_55 8 (.aload_n 0) 1 ∧ De bdX12_readIf_55 9 (.getfield 184) 3 ∧ De bdX12_readIf_55 12 (.aload_n 0) 1 ∧ De bdX12_readIf_55 13 (.getfield 42) 3 ∧ De bdX12_readIf_55 16 (.iload_n 2) 1 ∧ De bdX12_readIf_55 17 (.iconst 3) 1 ∧ De bdX12_readIf_55 18 (.iadd) 1 ∧ De bdX12_readIf_55 19 (.iaload) 1 ∧ De bdX12_readIf_55 20 (.isub) 1 ∧ De bdX12_readIf_55 21 (.iastore) 1 := by decide +kernel
theorem dX12_readIf_55 : decode cX12_readIf 55 = .ok (.ireturn, 1) := dAt wdX12_readIf_55 adX12_readIf_55.1 rfl
theorem dX12_readIf_56 : decode cX12_readIf 56 = .ok (.aload_n 0, 1) := dAt wdX12_readIf_55 adX12_readIf_55.2.1 rfl
theorem dX12_readIf_57 : decode cX12_readIf 57 = .ok (.getfield 42, 3) := dAt wdX12_readIf_55 adX12_readIf_55.2.2.1 rfl
theorem dX12_readIf_60 : decode cX12_readIf 60 = .ok (.iload_n 2, 1) := dAt wdX12_readIf_55 adX12_readIf_55.2.2.2.1 rfl
theorem dX12_readIf_61 : decode cX12_readIf 61 = .ok (.iconst 4, 1) := dAt wdX12_readIf_55 adX12_readIf_55.2.2.2.2.1 rfl
theorem dX12_readIf_62 : decode cX12_readIf 62 = .ok (.iadd, 1) := dAt wdX12_readIf_55 adX12_readIf_55.2.2.2.2.2.1 rfl
theorem dX12_readIf_63 : decode cX12_readIf 63 = .ok (.aload_n 0, 1) := dAt wdX12_readIf_55 adX12_readIf_55.2.2.2.2.2.2.1 rfl
theorem dX12_readIf_64 : decode cX12_readIf 64 = .ok (.getfield 184, 3) := dAt wdX12_readIf_55 adX12_readIf_55.2.2.2.2.2.2.2.1 rfl
theorem dX12_readIf_67 : decode cX12_readIf 67 = .ok (.aload_n 0, 1) := dAt wdX12_readIf_55 adX12_readIf_55.2.2.2.2.2.2.2.2.1 rfl
theorem dX12_readIf_68 : decode cX12_readIf 68 = .ok (.getfield 42, 3) := dAt wdX12_readIf_55 adX12_readIf_55.2.2.2.2.2.2.2.2.2.1 rfl
theorem dX12_readIf_71 : decode cX12_readIf 71 = .ok (.iload_n 2, 1) := dAt wdX12_readIf_55 adX12_readIf_55.2.2.2.2.2.2.2.2.2.2.1 rfl
theorem dX12_readIf_72 : decode cX12_readIf 72 = .ok (.iconst 3, 1) := dAt wdX12_readIf_55 adX12_readIf_55.2.2.2.2.2.2.2.2.2.2.2.1 rfl
theorem dX12_readIf_73 : decode cX12_readIf 73 = .ok (.iadd, 1) := dAt wdX12_readIf_55 adX12_readIf_55.2.2.2.2.2.2.2.2.2.2.2.2.1 rfl
theorem dX12_readIf_74 : decode cX12_readIf 74 = .ok (.iaload, 1) := dAt wdX12_readIf_55 adX12_readIf_55.2.2.2.2.2.2.2.2.2.2.2.2.2.1 rfl
theorem dX12_readIf_75 : decode cX12_readIf 75 = .ok (.isub, 1) := dAt wdX12_readIf_55 adX12_readIf_55.2.2.2.2.2.2.2.2.2.2.2.2.2.2.1 rfl
theorem dX12_readIf_76 : decode cX12_readIf 76 = .ok (.iastore, 1) := dAt wdX12_readIf_55 adX12_readIf_55.2.2.2.2.2.2.2.2.2.2.2.2.2.2.2 rfl
def bdX12_readIf_77 : ByteArray := .mk #[4, 172]
theorem wdX12_readIf_77 : LocW cX12_readIf 77 bdX12_readIf_77 := loc_of (by decide +kernel)
theorem adX12_readIf_77 : De bdX12_readIf_77 0 (.iconst 1) 1 ∧ De bdX12_readIf_77 1 (.ireturn) 1 := by decide +kernel
theorem dX12_readIf_77 : decode cX12_readIf 77 = .ok (.iconst 1, 1) := dAt wdX12_readIf_77 adX12_readIf_77.1 rfl
theorem dX12_readIf_78 : decode cX12_readIf 78 = .ok (.ireturn, 1) := dAt wdX12_readIf_77 adX12_readIf_77.2 rfl
def bdX12_readRule_0 : ByteArray := .mk #[5, 8, 42, 180, 0, 245, 104, 96, 60, 3, 61, 28, 8, 162, 0, 18, 42, 180, 0, 42, 27, 28]
theorem wdX12_readRule_0 : LocW cX12_readRule 0 bdX12_readRule_0 := loc_of (by decide +kernel)
theorem adX12_readRule_0 : De bdX12_readRule_0 0 (.iconst 2) 1 ∧ De bdX12_readRule_0 1 (.iconst 5) 1 ∧ De bdX12_readRule_0 2 (.aload_n 0) 1 ∧ De bdX12_readRule_0 3 (.getfield 245) 3 ∧ De bdX12_readRule_0 6 (.imul) 1 ∧ De bdX12_readRule_0 7 (.iadd) 1 ∧ De bdX12_readRule_0 8 (.istore_n 1) 1 ∧ De bdX12_readRule_0 9 (.iconst 0) 1 ∧ De bdX12_readRule_0 10 (.istore_n 2) 1 ∧ De bdX12_readRule_0 11 (.iload_n 2) 1 ∧ De bdX12_readRule_0 12 (.iconst 5) 1 ∧ De bdX12_readRule_0 13 (.if_icmp .ge 18) 3 ∧ De bdX12_readRule_0 16 (.aload_n 0) 1 ∧ De bdX12_readRule_0 17 (.getfield 42) 3 ∧ De bdX12_readRule_0 20 (.iload_n 1) 1 ∧ De bdX12_readRule_0 21 (.iload_n 2) 1 := by decide +kernel
theorem dX12_readRule_0 : decode cX12_readRule 0 = .ok (.iconst 2, 1) := dAt wdX12_readRule_0 adX12_readRule_0.1 rfl
theorem dX12_readRule_1 : decode cX12_readRule 1 = .ok (.iconst 5, 1) := dAt wdX12_readRule_0 adX12_readRule_0.2.1 rfl
theorem dX12_readRule_2 : decode cX12_readRule 2 = .ok (.aload_n 0, 1) := dAt wdX12_readRule_0 adX12_readRule_0.2.2.1 rfl
theorem dX12_readRule_3 : decode cX12_readRule 3 = .ok (.getfield 245, 3) := dAt wdX12_readRule_0 adX12_readRule_0.2.2.2.1 rfl
theorem dX12_readRule_6 : decode cX12_readRule 6 = .ok (.imul, 1) := dAt wdX12_readRule_0 adX12_readRule_0.2.2.2.2.1 rfl
theorem dX12_readRule_7 : decode cX12_readRule 7 = .ok (.iadd, 1) := dAt wdX12_readRule_0 adX12_readRule_0.2.2.2.2.2.1 rfl
theorem dX12_readRule_8 : decode cX12_readRule 8 = .ok (.istore_n 1, 1) := dAt wdX12_readRule_0 adX12_readRule_0.2.2.2.2.2.2.1 rfl
theorem dX12_readRule_9 : decode cX12_readRule 9 = .ok (.iconst 0, 1) := dAt wdX12_readRule_0 adX12_readRule_0.2.2.2.2.2.2.2.1 rfl
theorem dX12_readRule_10 : decode cX12_readRule 10 = .ok (.istore_n 2, 1) := dAt wdX12_readRule_0 adX12_readRule_0.2.2.2.2.2.2.2.2.1 rfl
theorem dX12_readRule_11 : decode cX12_readRule 11 = .ok (.iload_n 2, 1) := dAt wdX12_readRule_0 adX12_readRule_0.2.2.2.2.2.2.2.2.2.1 rfl
theorem dX12_readRule_12 : decode cX12_readRule 12 = .ok (.iconst 5, 1) := dAt wdX12_readRule_0 adX12_readRule_0.2.2.2.2.2.2.2.2.2.2.1 rfl
theorem dX12_readRule_13 : decode cX12_readRule 13 = .ok (.if_icmp .ge 18, 3) := dAt wdX12_readRule_0 adX12_readRule_0.2.2.2.2.2.2.2.2.2.2.2.1 rfl
theorem dX12_readRule_16 : decode cX12_readRule 16 = .ok (.aload_n 0, 1) := dAt wdX12_readRule_0 adX12_readRule_0.2.2.2.2.2.2.2.2.2.2.2.2.1 rfl
theorem dX12_readRule_17 : decode cX12_readRule 17 = .ok (.getfield 42, 3) := dAt wdX12_readRule_0 adX12_readRule_0.2.2.2.2.2.2.2.2.2.2.2.2.2.1 rfl
theorem dX12_readRule_20 : decode cX12_readRule 20 = .ok (.iload_n 1, 1) := dAt wdX12_readRule_0 adX12_readRule_0.2.2.2.2.2.2.2.2.2.2.2.2.2.2.1 rfl
theorem dX12_readRule_21 : decode cX12_readRule 21 = .ok (.iload_n 2, 1) := dAt wdX12_readRule_0 adX12_readRule_0.2.2.2.2.2.2.2.2.2.2.2.2.2.2.2 rfl
def bdX12_readRule_22 : ByteArray := .mk #[96, 3, 79, 132, 2, 1, 167, 255, 239, 42, 18, 248, 182, 0, 189, 153, 0, 7, 3, 167, 0, 86, 42, 18, 250, 182, 0, 189, 153, 0, 7, 4]
theorem wdX12_readRule_22 : LocW cX12_readRule 22 bdX12_readRule_22 := loc_of (by decide +kernel)
theorem adX12_readRule_22 : De bdX12_readRule_22 0 (.iadd) 1 ∧ De bdX12_readRule_22 1 (.iconst 0) 1 ∧ De bdX12_readRule_22 2 (.iastore) 1 ∧ De bdX12_readRule_22 3 (.iinc 2 1) 3 ∧ De bdX12_readRule_22 6 (.goto (-17)) 3 ∧ De bdX12_readRule_22 9 (.aload_n 0) 1 ∧ De bdX12_readRule_22 10 (.ldc 248) 2 ∧ De bdX12_readRule_22 12 (.invokevirtual 189) 3 ∧ De bdX12_readRule_22 15 (.ifCond .eq 7) 3 ∧ De bdX12_readRule_22 18 (.iconst 0) 1 ∧ De bdX12_readRule_22 19 (.goto 86) 3 ∧ De bdX12_readRule_22 22 (.aload_n 0) 1 ∧ De bdX12_readRule_22 23 (.ldc 250) 2 ∧ De bdX12_readRule_22 25 (.invokevirtual 189) 3 ∧ De bdX12_readRule_22 28 (.ifCond .eq 7) 3 ∧ De bdX12_readRule_22 31 (.iconst 1) 1 := by decide +kernel
theorem dX12_readRule_22 : decode cX12_readRule 22 = .ok (.iadd, 1) := dAt wdX12_readRule_22 adX12_readRule_22.1 rfl
theorem dX12_readRule_23 : decode cX12_readRule 23 = .ok (.iconst 0, 1) := dAt wdX12_readRule_22 adX12_readRule_22.2.1 rfl
theorem dX12_readRule_24 : decode cX12_readRule 24 = .ok (.iastore, 1) := dAt wdX12_readRule_22 adX12_readRule_22.2.2.1 rfl
theorem dX12_readRule_25 : decode cX12_readRule 25 = .ok (.iinc 2 1, 3) := dAt wdX12_readRule_22 adX12_readRule_22.2.2.2.1 rfl
theorem dX12_readRule_28 : decode cX12_readRule 28 = .ok (.goto (-17), 3) := dAt wdX12_readRule_22 adX12_readRule_22.2.2.2.2.1 rfl
theorem dX12_readRule_31 : decode cX12_readRule 31 = .ok (.aload_n 0, 1) := dAt wdX12_readRule_22 adX12_readRule_22.2.2.2.2.2.1 rfl
theorem dX12_readRule_32 : decode cX12_readRule 32 = .ok (.ldc 248, 2) := dAt wdX12_readRule_22 adX12_readRule_22.2.2.2.2.2.2.1 rfl
theorem dX12_readRule_34 : decode cX12_readRule 34 = .ok (.invokevirtual 189, 3) := dAt wdX12_readRule_22 adX12_readRule_22.2.2.2.2.2.2.2.1 rfl
theorem dX12_readRule_37 : decode cX12_readRule 37 = .ok (.ifCond .eq 7, 3) := dAt wdX12_readRule_22 adX12_readRule_22.2.2.2.2.2.2.2.2.1 rfl
theorem dX12_readRule_40 : decode cX12_readRule 40 = .ok (.iconst 0, 1) := dAt wdX12_readRule_22 adX12_readRule_22.2.2.2.2.2.2.2.2.2.1 rfl
theorem dX12_readRule_41 : decode cX12_readRule 41 = .ok (.goto 86, 3) := dAt wdX12_readRule_22 adX12_readRule_22.2.2.2.2.2.2.2.2.2.2.1 rfl
theorem dX12_readRule_44 : decode cX12_readRule 44 = .ok (.aload_n 0, 1) := dAt wdX12_readRule_22 adX12_readRule_22.2.2.2.2.2.2.2.2.2.2.2.1 rfl
theorem dX12_readRule_45 : decode cX12_readRule 45 = .ok (.ldc 250, 2) := dAt wdX12_readRule_22 adX12_readRule_22.2.2.2.2.2.2.2.2.2.2.2.2.1 rfl
theorem dX12_readRule_47 : decode cX12_readRule 47 = .ok (.invokevirtual 189, 3) := dAt wdX12_readRule_22 adX12_readRule_22.2.2.2.2.2.2.2.2.2.2.2.2.2.1 rfl
theorem dX12_readRule_50 : decode cX12_readRule 50 = .ok (.ifCond .eq 7, 3) := dAt wdX12_readRule_22 adX12_readRule_22.2.2.2.2.2.2.2.2.2.2.2.2.2.2.1 rfl
theorem dX12_readRule_53 : decode cX12_readRule 53 = .ok (.iconst 1, 1) := dAt wdX12_readRule_22 adX12_readRule_22.2.2.2.2.2.2.2.2.2.2.2.2.2.2.2 rfl
def bdX12_readRule_54 : ByteArray := .mk #[167, 0, 73, 42, 18, 252, 182, 0, 189, 153, 0, 7, 5, 167, 0, 60, 42, 18, 254, 182, 0, 189, 153, 0, 7, 6, 167, 0, 47, 42, 19, 1, 0, 182, 0, 189]
theorem wdX12_readRule_54 : LocW cX12_readRule 54 bdX12_readRule_54 := loc_of (by decide +kernel)
theorem adX12_readRule_54 : De bdX12_readRule_54 0 (.goto 73) 3 ∧ De bdX12_readRule_54 3 (.aload_n 0) 1 ∧ De bdX12_readRule_54 4 (.ldc 252) 2 ∧ De bdX12_readRule_54 6 (.invokevirtual 189) 3 ∧ De bdX12_readRule_54 9 (.ifCond .eq 7) 3 ∧ De bdX12_readRule_54 12 (.iconst 2) 1 ∧ De bdX12_readRule_54 13 (.goto 60) 3 ∧ De bdX12_readRule_54 16 (.aload_n 0) 1 ∧ De bdX12_readRule_54 17 (.ldc 254) 2 ∧ De bdX12_readRule_54 19 (.invokevirtual 189) 3 ∧ De bdX12_readRule_54 22 (.ifCond .eq 7) 3 ∧ De bdX12_readRule_54 25 (.iconst 3) 1 ∧ De bdX12_readRule_54 26 (.goto 47) 3 ∧ De bdX12_readRule_54 29 (.aload_n 0) 1 ∧ De bdX12_readRule_54 30 (.ldc_w 256) 3 ∧ De bdX12_readRule_54 33 (.invokevirtual 189) 3 := by decide +kernel
theorem dX12_readRule_54 : decode cX12_readRule 54 = .ok (.goto 73, 3) := dAt wdX12_readRule_54 adX12_readRule_54.1 rfl
theorem dX12_readRule_57 : decode cX12_readRule 57 = .ok (.aload_n 0, 1) := dAt wdX12_readRule_54 adX12_readRule_54.2.1 rfl
theorem dX12_readRule_58 : decode cX12_readRule 58 = .ok (.ldc 252, 2) := dAt wdX12_readRule_54 adX12_readRule_54.2.2.1 rfl
theorem dX12_readRule_60 : decode cX12_readRule 60 = .ok (.invokevirtual 189, 3) := dAt wdX12_readRule_54 adX12_readRule_54.2.2.2.1 rfl
theorem dX12_readRule_63 : decode cX12_readRule 63 = .ok (.ifCond .eq 7, 3) := dAt wdX12_readRule_54 adX12_readRule_54.2.2.2.2.1 rfl
theorem dX12_readRule_66 : decode cX12_readRule 66 = .ok (.iconst 2, 1) := dAt wdX12_readRule_54 adX12_readRule_54.2.2.2.2.2.1 rfl
theorem dX12_readRule_67 : decode cX12_readRule 67 = .ok (.goto 60, 3) := dAt wdX12_readRule_54 adX12_readRule_54.2.2.2.2.2.2.1 rfl
theorem dX12_readRule_70 : decode cX12_readRule 70 = .ok (.aload_n 0, 1) := dAt wdX12_readRule_54 adX12_readRule_54.2.2.2.2.2.2.2.1 rfl
theorem dX12_readRule_71 : decode cX12_readRule 71 = .ok (.ldc 254, 2) := dAt wdX12_readRule_54 adX12_readRule_54.2.2.2.2.2.2.2.2.1 rfl
theorem dX12_readRule_73 : decode cX12_readRule 73 = .ok (.invokevirtual 189, 3) := dAt wdX12_readRule_54 adX12_readRule_54.2.2.2.2.2.2.2.2.2.1 rfl
theorem dX12_readRule_76 : decode cX12_readRule 76 = .ok (.ifCond .eq 7, 3) := dAt wdX12_readRule_54 adX12_readRule_54.2.2.2.2.2.2.2.2.2.2.1 rfl
theorem dX12_readRule_79 : decode cX12_readRule 79 = .ok (.iconst 3, 1) := dAt wdX12_readRule_54 adX12_readRule_54.2.2.2.2.2.2.2.2.2.2.2.1 rfl
theorem dX12_readRule_80 : decode cX12_readRule 80 = .ok (.goto 47, 3) := dAt wdX12_readRule_54 adX12_readRule_54.2.2.2.2.2.2.2.2.2.2.2.2.1 rfl
theorem dX12_readRule_83 : decode cX12_readRule 83 = .ok (.aload_n 0, 1) := dAt wdX12_readRule_54 adX12_readRule_54.2.2.2.2.2.2.2.2.2.2.2.2.2.1 rfl
theorem dX12_readRule_84 : decode cX12_readRule 84 = .ok (.ldc_w 256, 3) := dAt wdX12_readRule_54 adX12_readRule_54.2.2.2.2.2.2.2.2.2.2.2.2.2.2.1 rfl
theorem dX12_readRule_87 : decode cX12_readRule 87 = .ok (.invokevirtual 189, 3) := dAt wdX12_readRule_54 adX12_readRule_54.2.2.2.2.2.2.2.2.2.2.2.2.2.2.2 rfl
def bdX12_readRule_90 : ByteArray := .mk #[153, 0, 7, 7, 167, 0, 33, 42, 19, 1, 2, 182, 0, 189, 153, 0, 7, 8, 167, 0, 19, 42, 19, 1, 4, 182, 0, 189, 153, 0, 8, 16, 6, 167, 0, 4, 2]
theorem wdX12_readRule_90 : LocW cX12_readRule 90 bdX12_readRule_90 := loc_of (by decide +kernel)
theorem adX12_readRule_90 : De bdX12_readRule_90 0 (.ifCond .eq 7) 3 ∧ De bdX12_readRule_90 3 (.iconst 4) 1 ∧ De bdX12_readRule_90 4 (.goto 33) 3 ∧ De bdX12_readRule_90 7 (.aload_n 0) 1 ∧ De bdX12_readRule_90 8 (.ldc_w 258) 3 ∧ De bdX12_readRule_90 11 (.invokevirtual 189) 3 ∧ De bdX12_readRule_90 14 (.ifCond .eq 7) 3 ∧ De bdX12_readRule_90 17 (.iconst 5) 1 ∧ De bdX12_readRule_90 18 (.goto 19) 3 ∧ De bdX12_readRule_90 21 (.aload_n 0) 1 ∧ De bdX12_readRule_90 22 (.ldc_w 260) 3 ∧ De bdX12_readRule_90 25 (.invokevirtual 189) 3 ∧ De bdX12_readRule_90 28 (.ifCond .eq 8) 3 ∧ De bdX12_readRule_90 31 (.bipush 6) 2 ∧ De bdX12_readRule_90 33 (.goto 4) 3 ∧ De bdX12_readRule_90 36 (.iconst (-1)) 1 := by decide +kernel
theorem dX12_readRule_90 : decode cX12_readRule 90 = .ok (.ifCond .eq 7, 3) := dAt wdX12_readRule_90 adX12_readRule_90.1 rfl
theorem dX12_readRule_93 : decode cX12_readRule 93 = .ok (.iconst 4, 1) := dAt wdX12_readRule_90 adX12_readRule_90.2.1 rfl
theorem dX12_readRule_94 : decode cX12_readRule 94 = .ok (.goto 33, 3) := dAt wdX12_readRule_90 adX12_readRule_90.2.2.1 rfl
theorem dX12_readRule_97 : decode cX12_readRule 97 = .ok (.aload_n 0, 1) := dAt wdX12_readRule_90 adX12_readRule_90.2.2.2.1 rfl
theorem dX12_readRule_98 : decode cX12_readRule 98 = .ok (.ldc_w 258, 3) := dAt wdX12_readRule_90 adX12_readRule_90.2.2.2.2.1 rfl
theorem dX12_readRule_101 : decode cX12_readRule 101 = .ok (.invokevirtual 189, 3) := dAt wdX12_readRule_90 adX12_readRule_90.2.2.2.2.2.1 rfl
theorem dX12_readRule_104 : decode cX12_readRule 104 = .ok (.ifCond .eq 7, 3) := dAt wdX12_readRule_90 adX12_readRule_90.2.2.2.2.2.2.1 rfl
theorem dX12_readRule_107 : decode cX12_readRule 107 = .ok (.iconst 5, 1) := dAt wdX12_readRule_90 adX12_readRule_90.2.2.2.2.2.2.2.1 rfl
theorem dX12_readRule_108 : decode cX12_readRule 108 = .ok (.goto 19, 3) := dAt wdX12_readRule_90 adX12_readRule_90.2.2.2.2.2.2.2.2.1 rfl
theorem dX12_readRule_111 : decode cX12_readRule 111 = .ok (.aload_n 0, 1) := dAt wdX12_readRule_90 adX12_readRule_90.2.2.2.2.2.2.2.2.2.1 rfl
theorem dX12_readRule_112 : decode cX12_readRule 112 = .ok (.ldc_w 260, 3) := dAt wdX12_readRule_90 adX12_readRule_90.2.2.2.2.2.2.2.2.2.2.1 rfl
theorem dX12_readRule_115 : decode cX12_readRule 115 = .ok (.invokevirtual 189, 3) := dAt wdX12_readRule_90 adX12_readRule_90.2.2.2.2.2.2.2.2.2.2.2.1 rfl
theorem dX12_readRule_118 : decode cX12_readRule 118 = .ok (.ifCond .eq 8, 3) := dAt wdX12_readRule_90 adX12_readRule_90.2.2.2.2.2.2.2.2.2.2.2.2.1 rfl
theorem dX12_readRule_121 : decode cX12_readRule 121 = .ok (.bipush 6, 2) := dAt wdX12_readRule_90 adX12_readRule_90.2.2.2.2.2.2.2.2.2.2.2.2.2.1 rfl
theorem dX12_readRule_123 : decode cX12_readRule 123 = .ok (.goto 4, 3) := dAt wdX12_readRule_90 adX12_readRule_90.2.2.2.2.2.2.2.2.2.2.2.2.2.2.1 rfl
theorem dX12_readRule_126 : decode cX12_readRule 126 = .ok (.iconst (-1), 1) := dAt wdX12_readRule_90 adX12_readRule_90.2.2.2.2.2.2.2.2.2.2.2.2.2.2.2 rfl
def bdX12_readRule_127 : ByteArray := .mk #[61, 28, 2, 160, 0, 8, 42, 182, 0, 223, 172, 42, 180, 0, 42, 27, 28, 79, 28, 8, 160, 0, 9, 42]
theorem wdX12_readRule_127 : LocW cX12_readRule 127 bdX12_readRule_127 := loc_of (by decide +kernel)
theorem adX12_readRule_127 : De bdX12_readRule_127 0 (.istore_n 2) 1 ∧ De bdX12_readRule_127 1 (.iload_n 2) 1 ∧ De bdX12_readRule_127 2 (.iconst (-1)) 1 ∧ De bdX12_readRule_127 3 (.if_icmp .ne 8) 3 ∧ De bdX12_readRule_127 6 (.aload_n 0) 1 ∧ De bdX12_readRule_127 7 (.invokevirtual 223) 3 ∧ De bdX12_readRule_127 10 (.ireturn) 1 ∧ De bdX12_readRule_127 11 (.aload_n 0) 1 ∧ De bdX12_readRule_127 12 (.getfield 42) 3 ∧ De bdX12_readRule_127 15 (.iload_n 1) 1 ∧ De bdX12_readRule_127 16 (.iload_n 2) 1 ∧ De bdX12_readRule_127 17 (.iastore) 1 ∧ De bdX12_readRule_127 18 (.iload_n 2) 1 ∧ De bdX12_readRule_127 19 (.iconst 5) 1 ∧ De bdX12_readRule_127 20 (.if_icmp .ne 9) 3 ∧ De bdX12_readRule_127 23 (.aload_n 0) 1 := by decide +kernel
theorem dX12_readRule_127 : decode cX12_readRule 127 = .ok (.istore_n 2, 1) := dAt wdX12_readRule_127 adX12_readRule_127.1 rfl
theorem dX12_readRule_128 : decode cX12_readRule 128 = .ok (.iload_n 2, 1) := dAt wdX12_readRule_127 adX12_readRule_127.2.1 rfl
theorem dX12_readRule_129 : decode cX12_readRule 129 = .ok (.iconst (-1), 1) := dAt wdX12_readRule_127 adX12_readRule_127.2.2.1 rfl
theorem dX12_readRule_130 : decode cX12_readRule 130 = .ok (.if_icmp .ne 8, 3) := dAt wdX12_readRule_127 adX12_readRule_127.2.2.2.1 rfl
theorem dX12_readRule_133 : decode cX12_readRule 133 = .ok (.aload_n 0, 1) := dAt wdX12_readRule_127 adX12_readRule_127.2.2.2.2.1 rfl
theorem dX12_readRule_134 : decode cX12_readRule 134 = .ok (.invokevirtual 223, 3) := dAt wdX12_readRule_127 adX12_readRule_127.2.2.2.2.2.1 rfl
theorem dX12_readRule_137 : decode cX12_readRule 137 = .ok (.ireturn, 1) := dAt wdX12_readRule_127 adX12_readRule_127.2.2.2.2.2.2.1 rfl
theorem dX12_readRule_138 : decode cX12_readRule 138 = .ok (.aload_n 0, 1) := dAt wdX12_readRule_127 adX12_readRule_127.2.2.2.2.2.2.2.1 rfl
theorem dX12_readRule_139 : decode cX12_readRule 139 = .ok (.getfield 42, 3) := dAt wdX12_readRule_127 adX12_readRule_127.2.2.2.2.2.2.2.2.1 rfl
theorem dX12_readRule_142 : decode cX12_readRule 142 = .ok (.iload_n 1, 1) := dAt wdX12_readRule_127 adX12_readRule_127.2.2.2.2.2.2.2.2.2.1 rfl
theorem dX12_readRule_143 : decode cX12_readRule 143 = .ok (.iload_n 2, 1) := dAt wdX12_readRule_127 adX12_readRule_127.2.2.2.2.2.2.2.2.2.2.1 rfl
theorem dX12_readRule_144 : decode cX12_readRule 144 = .ok (.iastore, 1) := dAt wdX12_readRule_127 adX12_readRule_127.2.2.2.2.2.2.2.2.2.2.2.1 rfl
theorem dX12_readRule_145 : decode cX12_readRule 145 = .ok (.iload_n 2, 1) := dAt wdX12_readRule_127 adX12_readRule_127.2.2.2.2.2.2.2.2.2.2.2.2.1 rfl
theorem dX12_readRule_146 : decode cX12_readRule 146 = .ok (.iconst 5, 1) := dAt wdX12_readRule_127 adX12_readRule_127.2.2.2.2.2.2.2.2.2.2.2.2.2.1 rfl
theorem dX12_readRule_147 : decode cX12_readRule 147 = .ok (.if_icmp .ne 9, 3) := dAt wdX12_readRule_127 adX12_readRule_127.2.2.2.2.2.2.2.2.2.2.2.2.2.2.1 rfl
theorem dX12_readRule_150 : decode cX12_readRule 150 = .ok (.aload_n 0, 1) := dAt wdX12_readRule_127 adX12_readRule_127.2.2.2.2.2.2.2.2.2.2.2.2.2.2.2 rfl
def bdX12_readRule_151 : ByteArray := .mk #[4, 182, 1, 6, 172, 28, 154, 0, 8, 16, 10, 167, 0, 13, 28, 4, 160, 0, 7, 4, 167, 0, 4, 3, 62, 28, 154, 0, 9]
theorem wdX12_readRule_151 : LocW cX12_readRule 151 bdX12_readRule_151 := loc_of (by decide +kernel)
theorem adX12_readRule_151 : De bdX12_readRule_151 0 (.iconst 1) 1 ∧ De bdX12_readRule_151 1 (.invokevirtual 262) 3 ∧ De bdX12_readRule_151 4 (.ireturn) 1 ∧ De bdX12_readRule_151 5 (.iload_n 2) 1 ∧ De bdX12_readRule_151 6 (.ifCond .ne 8) 3 ∧ De bdX12_readRule_151 9 (.bipush 10) 2 ∧ De bdX12_readRule_151 11 (.goto 13) 3 ∧ De bdX12_readRule_151 14 (.iload_n 2) 1 ∧ De bdX12_readRule_151 15 (.iconst 1) 1 ∧ De bdX12_readRule_151 16 (.if_icmp .ne 7) 3 ∧ De bdX12_readRule_151 19 (.iconst 1) 1 ∧ De bdX12_readRule_151 20 (.goto 4) 3 ∧ De bdX12_readRule_151 23 (.iconst 0) 1 ∧ De bdX12_readRule_151 24 (.istore_n 3) 1 ∧ De bdX12_readRule_151 25 (.iload_n 2) 1 ∧ De bdX12_readRule_151 26 (.ifCond .ne 9) 3 := by decide +kernel
theorem dX12_readRule_151 : decode cX12_readRule 151 = .ok (.iconst 1, 1) := dAt wdX12_readRule_151 adX12_readRule_151.1 rfl
theorem dX12_readRule_152 : decode cX12_readRule 152 = .ok (.invokevirtual 262, 3) := dAt wdX12_readRule_151 adX12_readRule_151.2.1 rfl
theorem dX12_readRule_155 : decode cX12_readRule 155 = .ok (.ireturn, 1) := dAt wdX12_readRule_151 adX12_readRule_151.2.2.1 rfl
theorem dX12_readRule_156 : decode cX12_readRule 156 = .ok (.iload_n 2, 1) := dAt wdX12_readRule_151 adX12_readRule_151.2.2.2.1 rfl
theorem dX12_readRule_157 : decode cX12_readRule 157 = .ok (.ifCond .ne 8, 3) := dAt wdX12_readRule_151 adX12_readRule_151.2.2.2.2.1 rfl
theorem dX12_readRule_160 : decode cX12_readRule 160 = .ok (.bipush 10, 2) := dAt wdX12_readRule_151 adX12_readRule_151.2.2.2.2.2.1 rfl
theorem dX12_readRule_162 : decode cX12_readRule 162 = .ok (.goto 13, 3) := dAt wdX12_readRule_151 adX12_readRule_151.2.2.2.2.2.2.1 rfl
theorem dX12_readRule_165 : decode cX12_readRule 165 = .ok (.iload_n 2, 1) := dAt wdX12_readRule_151 adX12_readRule_151.2.2.2.2.2.2.2.1 rfl
theorem dX12_readRule_166 : decode cX12_readRule 166 = .ok (.iconst 1, 1) := dAt wdX12_readRule_151 adX12_readRule_151.2.2.2.2.2.2.2.2.1 rfl
theorem dX12_readRule_167 : decode cX12_readRule 167 = .ok (.if_icmp .ne 7, 3) := dAt wdX12_readRule_151 adX12_readRule_151.2.2.2.2.2.2.2.2.2.1 rfl
theorem dX12_readRule_170 : decode cX12_readRule 170 = .ok (.iconst 1, 1) := dAt wdX12_readRule_151 adX12_readRule_151.2.2.2.2.2.2.2.2.2.2.1 rfl
theorem dX12_readRule_171 : decode cX12_readRule 171 = .ok (.goto 4, 3) := dAt wdX12_readRule_151 adX12_readRule_151.2.2.2.2.2.2.2.2.2.2.2.1 rfl
theorem dX12_readRule_174 : decode cX12_readRule 174 = .ok (.iconst 0, 1) := dAt wdX12_readRule_151 adX12_readRule_151.2.2.2.2.2.2.2.2.2.2.2.2.1 rfl
theorem dX12_readRule_175 : decode cX12_readRule 175 = .ok (.istore_n 3, 1) := dAt wdX12_readRule_151 adX12_readRule_151.2.2.2.2.2.2.2.2.2.2.2.2.2.1 rfl
theorem dX12_readRule_176 : decode cX12_readRule 176 = .ok (.iload_n 2, 1) := dAt wdX12_readRule_151 adX12_readRule_151.2.2.2.2.2.2.2.2.2.2.2.2.2.2.1 rfl
theorem dX12_readRule_177 : decode cX12_readRule 177 = .ok (.ifCond .ne 9, 3) := dAt wdX12_readRule_151 adX12_readRule_151.2.2.2.2.2.2.2.2.2.2.2.2.2.2.2 rfl
def bdX12_readRule_180 : ByteArray := .mk #[17, 1, 144, 167, 0, 40, 28, 4, 160, 0, 8, 16, 40, 167, 0, 30, 28, 5, 159, 0, 8, 28, 7, 160, 0, 9, 17, 3, 231, 167, 0, 14, 28]
theorem wdX12_readRule_180 : LocW cX12_readRule 180 bdX12_readRule_180 := loc_of (by decide +kernel)
theorem adX12_readRule_180 : De bdX12_readRule_180 0 (.sipush 400) 3 ∧ De bdX12_readRule_180 3 (.goto 40) 3 ∧ De bdX12_readRule_180 6 (.iload_n 2) 1 ∧ De bdX12_readRule_180 7 (.iconst 1) 1 ∧ De bdX12_readRule_180 8 (.if_icmp .ne 8) 3 ∧ De bdX12_readRule_180 11 (.bipush 40) 2 ∧ De bdX12_readRule_180 13 (.goto 30) 3 ∧ De bdX12_readRule_180 16 (.iload_n 2) 1 ∧ De bdX12_readRule_180 17 (.iconst 2) 1 ∧ De bdX12_readRule_180 18 (.if_icmp .eq 8) 3 ∧ De bdX12_readRule_180 21 (.iload_n 2) 1 ∧ De bdX12_readRule_180 22 (.iconst 4) 1 ∧ De bdX12_readRule_180 23 (.if_icmp .ne 9) 3 ∧ De bdX12_readRule_180 26 (.sipush 999) 3 ∧ De bdX12_readRule_180 29 (.goto 14) 3 ∧ De bdX12_readRule_180 32 (.iload_n 2) 1 := by decide +kernel
theorem dX12_readRule_180 : decode cX12_readRule 180 = .ok (.sipush 400, 3) := dAt wdX12_readRule_180 adX12_readRule_180.1 rfl
theorem dX12_readRule_183 : decode cX12_readRule 183 = .ok (.goto 40, 3) := dAt wdX12_readRule_180 adX12_readRule_180.2.1 rfl
theorem dX12_readRule_186 : decode cX12_readRule 186 = .ok (.iload_n 2, 1) := dAt wdX12_readRule_180 adX12_readRule_180.2.2.1 rfl
theorem dX12_readRule_187 : decode cX12_readRule 187 = .ok (.iconst 1, 1) := dAt wdX12_readRule_180 adX12_readRule_180.2.2.2.1 rfl
theorem dX12_readRule_188 : decode cX12_readRule 188 = .ok (.if_icmp .ne 8, 3) := dAt wdX12_readRule_180 adX12_readRule_180.2.2.2.2.1 rfl
theorem dX12_readRule_191 : decode cX12_readRule 191 = .ok (.bipush 40, 2) := dAt wdX12_readRule_180 adX12_readRule_180.2.2.2.2.2.1 rfl
theorem dX12_readRule_193 : decode cX12_readRule 193 = .ok (.goto 30, 3) := dAt wdX12_readRule_180 adX12_readRule_180.2.2.2.2.2.2.1 rfl
theorem dX12_readRule_196 : decode cX12_readRule 196 = .ok (.iload_n 2, 1) := dAt wdX12_readRule_180 adX12_readRule_180.2.2.2.2.2.2.2.1 rfl
theorem dX12_readRule_197 : decode cX12_readRule 197 = .ok (.iconst 2, 1) := dAt wdX12_readRule_180 adX12_readRule_180.2.2.2.2.2.2.2.2.1 rfl
theorem dX12_readRule_198 : decode cX12_readRule 198 = .ok (.if_icmp .eq 8, 3) := dAt wdX12_readRule_180 adX12_readRule_180.2.2.2.2.2.2.2.2.2.1 rfl
theorem dX12_readRule_201 : decode cX12_readRule 201 = .ok (.iload_n 2, 1) := dAt wdX12_readRule_180 adX12_readRule_180.2.2.2.2.2.2.2.2.2.2.1 rfl
theorem dX12_readRule_202 : decode cX12_readRule 202 = .ok (.iconst 4, 1) := dAt wdX12_readRule_180 adX12_readRule_180.2.2.2.2.2.2.2.2.2.2.2.1 rfl
theorem dX12_readRule_203 : decode cX12_readRule 203 = .ok (.if_icmp .ne 9, 3) := dAt wdX12_readRule_180 adX12_readRule_180.2.2.2.2.2.2.2.2.2.2.2.2.1 rfl
theorem dX12_readRule_206 : decode cX12_readRule 206 = .ok (.sipush 999, 3) := dAt wdX12_readRule_180 adX12_readRule_180.2.2.2.2.2.2.2.2.2.2.2.2.2.1 rfl
theorem dX12_readRule_209 : decode cX12_readRule 209 = .ok (.goto 14, 3) := dAt wdX12_readRule_180 adX12_readRule_180.2.2.2.2.2.2.2.2.2.2.2.2.2.2.1 rfl
theorem dX12_readRule_212 : decode cX12_readRule 212 = .ok (.iload_n 2, 1) := dAt wdX12_readRule_180 adX12_readRule_180.2.2.2.2.2.2.2.2.2.2.2.2.2.2.2 rfl
def bdX12_readRule_213 : ByteArray := .mk #[6, 160, 0, 8, 16, 99, 167, 0, 4, 8, 54, 4, 42, 29, 21, 4, 182, 0, 232, 154, 0, 5, 3, 172, 42, 180, 0, 42, 27]
theorem wdX12_readRule_213 : LocW cX12_readRule 213 bdX12_readRule_213 := loc_of (by decide +kernel)
theorem adX12_readRule_213 : De bdX12_readRule_213 0 (.iconst 3) 1 ∧ De bdX12_readRule_213 1 (.if_icmp .ne 8) 3 ∧ De bdX12_readRule_213 4 (.bipush 99) 2 ∧ De bdX12_readRule_213 6 (.goto 4) 3 ∧ De bdX12_readRule_213 9 (.iconst 5) 1 ∧ De bdX12_readRule_213 10 (.istore 4) 2 ∧ De bdX12_readRule_213 12 (.aload_n 0) 1 ∧ De bdX12_readRule_213 13 (.iload_n 3) 1 ∧ De bdX12_readRule_213 14 (.iload 4) 2 ∧ De bdX12_readRule_213 16 (.invokevirtual 232) 3 ∧ De bdX12_readRule_213 19 (.ifCond .ne 5) 3 ∧ De bdX12_readRule_213 22 (.iconst 0) 1 ∧ De bdX12_readRule_213 23 (.ireturn) 1 ∧ De bdX12_readRule_213 24 (.aload_n 0) 1 ∧ De bdX12_readRule_213 25 (.getfield 42) 3 ∧ De bdX12_readRule_213 28 (.iload_n 1) 1 := by decide +kernel
theorem dX12_readRule_213 : decode cX12_readRule 213 = .ok (.iconst 3, 1) := dAt wdX12_readRule_213 adX12_readRule_213.1 rfl
theorem dX12_readRule_214 : decode cX12_readRule 214 = .ok (.if_icmp .ne 8, 3) := dAt wdX12_readRule_213 adX12_readRule_213.2.1 rfl
theorem dX12_readRule_217 : decode cX12_readRule 217 = .ok (.bipush 99, 2) := dAt wdX12_readRule_213 adX12_readRule_213.2.2.1 rfl
theorem dX12_readRule_219 : decode cX12_readRule 219 = .ok (.goto 4, 3) := dAt wdX12_readRule_213 adX12_readRule_213.2.2.2.1 rfl
theorem dX12_readRule_222 : decode cX12_readRule 222 = .ok (.iconst 5, 1) := dAt wdX12_readRule_213 adX12_readRule_213.2.2.2.2.1 rfl
theorem dX12_readRule_223 : decode cX12_readRule 223 = .ok (.istore 4, 2) := dAt wdX12_readRule_213 adX12_readRule_213.2.2.2.2.2.1 rfl
theorem dX12_readRule_225 : decode cX12_readRule 225 = .ok (.aload_n 0, 1) := dAt wdX12_readRule_213 adX12_readRule_213.2.2.2.2.2.2.1 rfl
theorem dX12_readRule_226 : decode cX12_readRule 226 = .ok (.iload_n 3, 1) := dAt wdX12_readRule_213 adX12_readRule_213.2.2.2.2.2.2.2.1 rfl
theorem dX12_readRule_227 : decode cX12_readRule 227 = .ok (.iload 4, 2) := dAt wdX12_readRule_213 adX12_readRule_213.2.2.2.2.2.2.2.2.1 rfl
theorem dX12_readRule_229 : decode cX12_readRule 229 = .ok (.invokevirtual 232, 3) := dAt wdX12_readRule_213 adX12_readRule_213.2.2.2.2.2.2.2.2.2.1 rfl
theorem dX12_readRule_232 : decode cX12_readRule 232 = .ok (.ifCond .ne 5, 3) := dAt wdX12_readRule_213 adX12_readRule_213.2.2.2.2.2.2.2.2.2.2.1 rfl
theorem dX12_readRule_235 : decode cX12_readRule 235 = .ok (.iconst 0, 1) := dAt wdX12_readRule_213 adX12_readRule_213.2.2.2.2.2.2.2.2.2.2.2.1 rfl
theorem dX12_readRule_236 : decode cX12_readRule 236 = .ok (.ireturn, 1) := dAt wdX12_readRule_213 adX12_readRule_213.2.2.2.2.2.2.2.2.2.2.2.2.1 rfl
theorem dX12_readRule_237 : decode cX12_readRule 237 = .ok (.aload_n 0, 1) := dAt wdX12_readRule_213 adX12_readRule_213.2.2.2.2.2.2.2.2.2.2.2.2.2.1 rfl
theorem dX12_readRule_238 : decode cX12_readRule 238 = .ok (.getfield 42, 3) := dAt wdX12_readRule_213 adX12_readRule_213.2.2.2.2.2.2.2.2.2.2.2.2.2.2.1 rfl
theorem dX12_readRule_241 : decode cX12_readRule 241 = .ok (.iload_n 1, 1) := dAt wdX12_readRule_213 adX12_readRule_213.2.2.2.2.2.2.2.2.2.2.2.2.2.2.2 rfl
def bdX12_readRule_242 : ByteArray := .mk #[4, 96, 42, 180, 0, 181, 79, 28, 153, 0, 8, 28, 7, 160, 0, 9, 42, 3, 182, 1, 6, 172, 28, 16, 6]
theorem wdX12_readRule_242 : LocW cX12_readRule 242 bdX12_readRule_242 := loc_of (by decide +kernel)
theorem adX12_readRule_242 : De bdX12_readRule_242 0 (.iconst 1) 1 ∧ De bdX12_readRule_242 1 (.iadd) 1 ∧ De bdX12_readRule_242 2 (.aload_n 0) 1 ∧ De bdX12_readRule_242 3 (.getfield 181) 3 ∧ De bdX12_readRule_242 6 (.iastore) 1 ∧ De bdX12_readRule_242 7 (.iload_n 2) 1 ∧ De bdX12_readRule_242 8 (.ifCond .eq 8) 3 ∧ De bdX12_readRule_242 11 (.iload_n 2) 1 ∧ De bdX12_readRule_242 12 (.iconst 4) 1 ∧ De bdX12_readRule_242 13 (.if_icmp .ne 9) 3 ∧ De bdX12_readRule_242 16 (.aload_n 0) 1 ∧ De bdX12_readRule_242 17 (.iconst 0) 1 ∧ De bdX12_readRule_242 18 (.invokevirtual 262) 3 ∧ De bdX12_readRule_242 21 (.ireturn) 1 ∧ De bdX12_readRule_242 22 (.iload_n 2) 1 ∧ De bdX12_readRule_242 23 (.bipush 6) 2 := by decide +kernel
theorem dX12_readRule_242 : decode cX12_readRule 242 = .ok (.iconst 1, 1) := dAt wdX12_readRule_242 adX12_readRule_242.1 rfl
theorem dX12_readRule_243 : decode cX12_readRule 243 = .ok (.iadd, 1) := dAt wdX12_readRule_242 adX12_readRule_242.2.1 rfl
theorem dX12_readRule_244 : decode cX12_readRule 244 = .ok (.aload_n 0, 1) := dAt wdX12_readRule_242 adX12_readRule_242.2.2.1 rfl
theorem dX12_readRule_245 : decode cX12_readRule 245 = .ok (.getfield 181, 3) := dAt wdX12_readRule_242 adX12_readRule_242.2.2.2.1 rfl
theorem dX12_readRule_248 : decode cX12_readRule 248 = .ok (.iastore, 1) := dAt wdX12_readRule_242 adX12_readRule_242.2.2.2.2.1 rfl
theorem dX12_readRule_249 : decode cX12_readRule 249 = .ok (.iload_n 2, 1) := dAt wdX12_readRule_242 adX12_readRule_242.2.2.2.2.2.1 rfl
theorem dX12_readRule_250 : decode cX12_readRule 250 = .ok (.ifCond .eq 8, 3) := dAt wdX12_readRule_242 adX12_readRule_242.2.2.2.2.2.2.1 rfl
theorem dX12_readRule_253 : decode cX12_readRule 253 = .ok (.iload_n 2, 1) := dAt wdX12_readRule_242 adX12_readRule_242.2.2.2.2.2.2.2.1 rfl
theorem dX12_readRule_254 : decode cX12_readRule 254 = .ok (.iconst 4, 1) := dAt wdX12_readRule_242 adX12_readRule_242.2.2.2.2.2.2.2.2.1 rfl
theorem dX12_readRule_255 : decode cX12_readRule 255 = .ok (.if_icmp .ne 9, 3) := dAt wdX12_readRule_242 adX12_readRule_242.2.2.2.2.2.2.2.2.2.1 rfl
theorem dX12_readRule_258 : decode cX12_readRule 258 = .ok (.aload_n 0, 1) := dAt wdX12_readRule_242 adX12_readRule_242.2.2.2.2.2.2.2.2.2.2.1 rfl
theorem dX12_readRule_259 : decode cX12_readRule 259 = .ok (.iconst 0, 1) := dAt wdX12_readRule_242 adX12_readRule_242.2.2.2.2.2.2.2.2.2.2.2.1 rfl
theorem dX12_readRule_260 : decode cX12_readRule 260 = .ok (.invokevirtual 262, 3) := dAt wdX12_readRule_242 adX12_readRule_242.2.2.2.2.2.2.2.2.2.2.2.2.1 rfl
theorem dX12_readRule_263 : decode cX12_readRule 263 = .ok (.ireturn, 1) := dAt wdX12_readRule_242 adX12_readRule_242.2.2.2.2.2.2.2.2.2.2.2.2.2.1 rfl
theorem dX12_readRule_264 : decode cX12_readRule 264 = .ok (.iload_n 2, 1) := dAt wdX12_readRule_242 adX12_readRule_242.2.2.2.2.2.2.2.2.2.2.2.2.2.2.1 rfl
theorem dX12_readRule_265 : decode cX12_readRule 265 = .ok (.bipush 6, 2) := dAt wdX12_readRule_242 adX12_readRule_242.2.2.2.2.2.2.2.2.2.2.2.2.2.2.2 rfl
def bdX12_readRule_267 : ByteArray := .mk #[160, 0, 18, 42, 19, 1, 10, 182, 0, 189, 154, 0, 8, 42, 182, 0, 223, 172, 28, 4, 159, 0, 11, 28, 16, 6, 159, 0, 5, 4, 172]
theorem wdX12_readRule_267 : LocW cX12_readRule 267 bdX12_readRule_267 := loc_of (by decide +kernel)
theorem adX12_readRule_267 : De bdX12_readRule_267 0 (.if_icmp .ne 18) 3 ∧ De bdX12_readRule_267 3 (.aload_n 0) 1 ∧ De bdX12_readRule_267 4 (.ldc_w 266) 3 ∧ De bdX12_readRule_267 7 (.invokevirtual 189) 3 ∧ De bdX12_readRule_267 10 (.ifCond .ne 8) 3 ∧ De bdX12_readRule_267 13 (.aload_n 0) 1 ∧ De bdX12_readRule_267 14 (.invokevirtual 223) 3 ∧ De bdX12_readRule_267 17 (.ireturn) 1 ∧ De bdX12_readRule_267 18 (.iload_n 2) 1 ∧ De bdX12_readRule_267 19 (.iconst 1) 1 ∧ De bdX12_readRule_267 20 (.if_icmp .eq 11) 3 ∧ De bdX12_readRule_267 23 (.iload_n 2) 1 ∧ De bdX12_readRule_267 24 (.bipush 6) 2 ∧ De bdX12_readRule_267 26 (.if_icmp .eq 5) 3 ∧ De bdX12_readRule_267 29 (.iconst 1) 1 ∧ De bdX12_readRule_267 30 (.ireturn) 1 := by decide +kernel
theorem dX12_readRule_267 : decode cX12_readRule 267 = .ok (.if_icmp .ne 18, 3) := dAt wdX12_readRule_267 adX12_readRule_267.1 rfl
theorem dX12_readRule_270 : decode cX12_readRule 270 = .ok (.aload_n 0, 1) := dAt wdX12_readRule_267 adX12_readRule_267.2.1 rfl
theorem dX12_readRule_271 : decode cX12_readRule 271 = .ok (.ldc_w 266, 3) := dAt wdX12_readRule_267 adX12_readRule_267.2.2.1 rfl
theorem dX12_readRule_274 : decode cX12_readRule 274 = .ok (.invokevirtual 189, 3) := dAt wdX12_readRule_267 adX12_readRule_267.2.2.2.1 rfl
theorem dX12_readRule_277 : decode cX12_readRule 277 = .ok (.ifCond .ne 8, 3) := dAt wdX12_readRule_267 adX12_readRule_267.2.2.2.2.1 rfl
theorem dX12_readRule_280 : decode cX12_readRule 280 = .ok (.aload_n 0, 1) := dAt wdX12_readRule_267 adX12_readRule_267.2.2.2.2.2.1 rfl
theorem dX12_readRule_281 : decode cX12_readRule 281 = .ok (.invokevirtual 223, 3) := dAt wdX12_readRule_267 adX12_readRule_267.2.2.2.2.2.2.1 rfl
theorem dX12_readRule_284 : decode cX12_readRule 284 = .ok (.ireturn, 1) := dAt wdX12_readRule_267 adX12_readRule_267.2.2.2.2.2.2.2.1 rfl
theorem dX12_readRule_285 : decode cX12_readRule 285 = .ok (.iload_n 2, 1) := dAt wdX12_readRule_267 adX12_readRule_267.2.2.2.2.2.2.2.2.1 rfl
theorem dX12_readRule_286 : decode cX12_readRule 286 = .ok (.iconst 1, 1) := dAt wdX12_readRule_267 adX12_readRule_267.2.2.2.2.2.2.2.2.2.1 rfl
theorem dX12_readRule_287 : decode cX12_readRule 287 = .ok (.if_icmp .eq 11, 3) := dAt wdX12_readRule_267 adX12_readRule_267.2.2.2.2.2.2.2.2.2.2.1 rfl
theorem dX12_readRule_290 : decode cX12_readRule 290 = .ok (.iload_n 2, 1) := dAt wdX12_readRule_267 adX12_readRule_267.2.2.2.2.2.2.2.2.2.2.2.1 rfl
theorem dX12_readRule_291 : decode cX12_readRule 291 = .ok (.bipush 6, 2) := dAt wdX12_readRule_267 adX12_readRule_267.2.2.2.2.2.2.2.2.2.2.2.2.1 rfl
theorem dX12_readRule_293 : decode cX12_readRule 293 = .ok (.if_icmp .eq 5, 3) := dAt wdX12_readRule_267 adX12_readRule_267.2.2.2.2.2.2.2.2.2.2.2.2.2.1 rfl
theorem dX12_readRule_296 : decode cX12_readRule 296 = .ok (.iconst 1, 1) := dAt wdX12_readRule_267 adX12_readRule_267.2.2.2.2.2.2.2.2.2.2.2.2.2.2.1 rfl
theorem dX12_readRule_297 : decode cX12_readRule 297 = .ok (.ireturn, 1) := dAt wdX12_readRule_267 adX12_readRule_267.2.2.2.2.2.2.2.2.2.2.2.2.2.2.2 rfl
def bdX12_readRule_298 : ByteArray := .mk #[42, 28, 4, 160, 0, 14, 42, 180, 0, 42, 27, 4, 96, 46, 167, 0, 4, 3, 28, 4, 160, 0, 8, 16, 40]
theorem wdX12_readRule_298 : LocW cX12_readRule 298 bdX12_readRule_298 := loc_of (by decide +kernel)
theorem adX12_readRule_298 : De bdX12_readRule_298 0 (.aload_n 0) 1 ∧ De bdX12_readRule_298 1 (.iload_n 2) 1 ∧ De bdX12_readRule_298 2 (.iconst 1) 1 ∧ De bdX12_readRule_298 3 (.if_icmp .ne 14) 3 ∧ De bdX12_readRule_298 6 (.aload_n 0) 1 ∧ De bdX12_readRule_298 7 (.getfield 42) 3 ∧ De bdX12_readRule_298 10 (.iload_n 1) 1 ∧ De bdX12_readRule_298 11 (.iconst 1) 1 ∧ De bdX12_readRule_298 12 (.iadd) 1 ∧ De bdX12_readRule_298 13 (.iaload) 1 ∧ De bdX12_readRule_298 14 (.goto 4) 3 ∧ De bdX12_readRule_298 17 (.iconst 0) 1 ∧ De bdX12_readRule_298 18 (.iload_n 2) 1 ∧ De bdX12_readRule_298 19 (.iconst 1) 1 ∧ De bdX12_readRule_298 20 (.if_icmp .ne 8) 3 ∧ De bdX12_readRule_298 23 (.bipush 40) 2 := by decide +kernel
theorem dX12_readRule_298 : decode cX12_readRule 298 = .ok (.aload_n 0, 1) := dAt wdX12_readRule_298 adX12_readRule_298.1 rfl
theorem dX12_readRule_299 : decode cX12_readRule 299 = .ok (.iload_n 2, 1) := dAt wdX12_readRule_298 adX12_readRule_298.2.1 rfl
theorem dX12_readRule_300 : decode cX12_readRule 300 = .ok (.iconst 1, 1) := dAt wdX12_readRule_298 adX12_readRule_298.2.2.1 rfl
theorem dX12_readRule_301 : decode cX12_readRule 301 = .ok (.if_icmp .ne 14, 3) := dAt wdX12_readRule_298 adX12_readRule_298.2.2.2.1 rfl
theorem dX12_readRule_304 : decode cX12_readRule 304 = .ok (.aload_n 0, 1) := dAt wdX12_readRule_298 adX12_readRule_298.2.2.2.2.1 rfl
theorem dX12_readRule_305 : decode cX12_readRule 305 = .ok (.getfield 42, 3) := dAt wdX12_readRule_298 adX12_readRule_298.2.2.2.2.2.1 rfl
theorem dX12_readRule_308 : decode cX12_readRule 308 = .ok (.iload_n 1, 1) := dAt wdX12_readRule_298 adX12_readRule_298.2.2.2.2.2.2.1 rfl
theorem dX12_readRule_309 : decode cX12_readRule 309 = .ok (.iconst 1, 1) := dAt wdX12_readRule_298 adX12_readRule_298.2.2.2.2.2.2.2.1 rfl
theorem dX12_readRule_310 : decode cX12_readRule 310 = .ok (.iadd, 1) := dAt wdX12_readRule_298 adX12_readRule_298.2.2.2.2.2.2.2.2.1 rfl
theorem dX12_readRule_311 : decode cX12_readRule 311 = .ok (.iaload, 1) := dAt wdX12_readRule_298 adX12_readRule_298.2.2.2.2.2.2.2.2.2.1 rfl
theorem dX12_readRule_312 : decode cX12_readRule 312 = .ok (.goto 4, 3) := dAt wdX12_readRule_298 adX12_readRule_298.2.2.2.2.2.2.2.2.2.2.1 rfl
theorem dX12_readRule_315 : decode cX12_readRule 315 = .ok (.iconst 0, 1) := dAt wdX12_readRule_298 adX12_readRule_298.2.2.2.2.2.2.2.2.2.2.2.1 rfl
theorem dX12_readRule_316 : decode cX12_readRule 316 = .ok (.iload_n 2, 1) := dAt wdX12_readRule_298 adX12_readRule_298.2.2.2.2.2.2.2.2.2.2.2.2.1 rfl
theorem dX12_readRule_317 : decode cX12_readRule 317 = .ok (.iconst 1, 1) := dAt wdX12_readRule_298 adX12_readRule_298.2.2.2.2.2.2.2.2.2.2.2.2.2.1 rfl
theorem dX12_readRule_318 : decode cX12_readRule 318 = .ok (.if_icmp .ne 8, 3) := dAt wdX12_readRule_298 adX12_readRule_298.2.2.2.2.2.2.2.2.2.2.2.2.2.2.1 rfl
theorem dX12_readRule_321 : decode cX12_readRule 321 = .ok (.bipush 40, 2) := dAt wdX12_readRule_298 adX12_readRule_298.2.2.2.2.2.2.2.2.2.2.2.2.2.2.2 rfl
def bdX12_readRule_323 : ByteArray := .mk #[167, 0, 6, 17, 2, 88, 182, 0, 232, 154, 0, 5, 3, 172, 42, 180, 0, 42, 27, 5, 96, 42, 180, 0, 181, 79, 4, 172]
theorem wdX12_readRule_323 : LocW cX12_readRule 323 bdX12_readRule_323 := loc_of (by decide +kernel)
theorem adX12_readRule_323 : De bdX12_readRule_323 0 (.goto 6) 3 ∧ De bdX12_readRule_323 3 (.sipush 600) 3 ∧ De bdX12_readRule_323 6 (.invokevirtual 232) 3 ∧ De bdX12_readRule_323 9 (.ifCond .ne 5) 3 ∧ De bdX12_readRule_323 12 (.iconst 0) 1 ∧ De bdX12_readRule_323 13 (.ireturn) 1 ∧ De bdX12_readRule_323 14 (.aload_n 0) 1 ∧ De bdX12_readRule_323 15 (.getfield 42) 3 ∧ De bdX12_readRule_323 18 (.iload_n 1) 1 ∧ De bdX12_readRule_323 19 (.iconst 2) 1 ∧ De bdX12_readRule_323 20 (.iadd) 1 ∧ De bdX12_readRule_323 21 (.aload_n 0) 1 ∧ De bdX12_readRule_323 22 (.getfield 181) 3 ∧ De bdX12_readRule_323 25 (.iastore) 1 ∧ De bdX12_readRule_323 26 (.iconst 1) 1 ∧ De bdX12_readRule_323 27 (.ireturn) 1 := by decide +kernel
theorem dX12_readRule_323 : decode cX12_readRule 323 = .ok (.goto 6, 3) := dAt wdX12_readRule_323 adX12_readRule_323.1 rfl
theorem dX12_readRule_326 : decode cX12_readRule 326 = .ok (.sipush 600, 3) := dAt wdX12_readRule_323 adX12_readRule_323.2.1 rfl
theorem dX12_readRule_329 : decode cX12_readRule 329 = .ok (.invokevirtual 232, 3) := dAt wdX12_readRule_323 adX12_readRule_323.2.2.1 rfl
theorem dX12_readRule_332 : decode cX12_readRule 332 = .ok (.ifCond .ne 5, 3) := dAt wdX12_readRule_323 adX12_readRule_323.2.2.2.1 rfl
theorem dX12_readRule_335 : decode cX12_readRule 335 = .ok (.iconst 0, 1) := dAt wdX12_readRule_323 adX12_readRule_323.2.2.2.2.1 rfl
theorem dX12_readRule_336 : decode cX12_readRule 336 = .ok (.ireturn, 1) := dAt wdX12_readRule_323 adX12_readRule_323.2.2.2.2.2.1 rfl
theorem dX12_readRule_337 : decode cX12_readRule 337 = .ok (.aload_n 0, 1) := dAt wdX12_readRule_323 adX12_readRule_323.2.2.2.2.2.2.1 rfl
theorem dX12_readRule_338 : decode cX12_readRule 338 = .ok (.getfield 42, 3) := dAt wdX12_readRule_323 adX12_readRule_323.2.2.2.2.2.2.2.1 rfl
theorem dX12_readRule_341 : decode cX12_readRule 341 = .ok (.iload_n 1, 1) := dAt wdX12_readRule_323 adX12_readRule_323.2.2.2.2.2.2.2.2.1 rfl
theorem dX12_readRule_342 : decode cX12_readRule 342 = .ok (.iconst 2, 1) := dAt wdX12_readRule_323 adX12_readRule_323.2.2.2.2.2.2.2.2.2.1 rfl
theorem dX12_readRule_343 : decode cX12_readRule 343 = .ok (.iadd, 1) := dAt wdX12_readRule_323 adX12_readRule_323.2.2.2.2.2.2.2.2.2.2.1 rfl
theorem dX12_readRule_344 : decode cX12_readRule 344 = .ok (.aload_n 0, 1) := dAt wdX12_readRule_323 adX12_readRule_323.2.2.2.2.2.2.2.2.2.2.2.1 rfl
theorem dX12_readRule_345 : decode cX12_readRule 345 = .ok (.getfield 181, 3) := dAt wdX12_readRule_323 adX12_readRule_323.2.2.2.2.2.2.2.2.2.2.2.2.1 rfl
theorem dX12_readRule_348 : decode cX12_readRule 348 = .ok (.iastore, 1) := dAt wdX12_readRule_323 adX12_readRule_323.2.2.2.2.2.2.2.2.2.2.2.2.2.1 rfl
theorem dX12_readRule_349 : decode cX12_readRule 349 = .ok (.iconst 1, 1) := dAt wdX12_readRule_323 adX12_readRule_323.2.2.2.2.2.2.2.2.2.2.2.2.2.2.1 rfl
theorem dX12_readRule_350 : decode cX12_readRule 350 = .ok (.ireturn, 1) := dAt wdX12_readRule_323 adX12_readRule_323.2.2.2.2.2.2.2.2.2.2.2.2.2.2.2 rfl
def bdX12_readStyle_0 : ByteArray := .mk #[42, 3, 181, 0, 245, 42, 16, 62, 181, 0, 184, 42, 3, 181, 0, 211, 42, 182, 0, 147, 42, 180, 0, 137, 42, 180, 0, 134, 162, 0, 7]
theorem wdX12_readStyle_0 : LocW cX12_readStyle 0 bdX12_readStyle_0 := loc_of (by decide +kernel)
theorem adX12_readStyle_0 : De bdX12_readStyle_0 0 (.aload_n 0) 1 ∧ De bdX12_readStyle_0 1 (.iconst 0) 1 ∧ De bdX12_readStyle_0 2 (.putfield 245) 3 ∧ De bdX12_readStyle_0 5 (.aload_n 0) 1 ∧ De bdX12_readStyle_0 6 (.bipush 62) 2 ∧ De bdX12_readStyle_0 8 (.putfield 184) 3 ∧ De bdX12_readStyle_0 11 (.aload_n 0) 1 ∧ De bdX12_readStyle_0 12 (.iconst 0) 1 ∧ De bdX12_readStyle_0 13 (.putfield 211) 3 ∧ De bdX12_readStyle_0 16 (.aload_n 0) 1 ∧ De bdX12_readStyle_0 17 (.invokevirtual 147) 3 ∧ De bdX12_readStyle_0 20 (.aload_n 0) 1 ∧ De bdX12_readStyle_0 21 (.getfield 137) 3 ∧ De bdX12_readStyle_0 24 (.aload_n 0) 1 ∧ De bdX12_readStyle_0 25 (.getfield 134) 3 ∧ De bdX12_readStyle_0 28 (.if_icmp .ge 7) 3 := by decide +kernel
theorem dX12_readStyle_0 : decode cX12_readStyle 0 = .ok (.aload_n 0, 1) := dAt wdX12_readStyle_0 adX12_readStyle_0.1 rfl
theorem dX12_readStyle_1 : decode cX12_readStyle 1 = .ok (.iconst 0, 1) := dAt wdX12_readStyle_0 adX12_readStyle_0.2.1 rfl
theorem dX12_readStyle_2 : decode cX12_readStyle 2 = .ok (.putfield 245, 3) := dAt wdX12_readStyle_0 adX12_readStyle_0.2.2.1 rfl
theorem dX12_readStyle_5 : decode cX12_readStyle 5 = .ok (.aload_n 0, 1) := dAt wdX12_readStyle_0 adX12_readStyle_0.2.2.2.1 rfl
theorem dX12_readStyle_6 : decode cX12_readStyle 6 = .ok (.bipush 62, 2) := dAt wdX12_readStyle_0 adX12_readStyle_0.2.2.2.2.1 rfl
theorem dX12_readStyle_8 : decode cX12_readStyle 8 = .ok (.putfield 184, 3) := dAt wdX12_readStyle_0 adX12_readStyle_0.2.2.2.2.2.1 rfl
theorem dX12_readStyle_11 : decode cX12_readStyle 11 = .ok (.aload_n 0, 1) := dAt wdX12_readStyle_0 adX12_readStyle_0.2.2.2.2.2.2.1 rfl
theorem dX12_readStyle_12 : decode cX12_readStyle 12 = .ok (.iconst 0, 1) := dAt wdX12_readStyle_0 adX12_readStyle_0.2.2.2.2.2.2.2.1 rfl
theorem dX12_readStyle_13 : decode cX12_readStyle 13 = .ok (.putfield 211, 3) := dAt wdX12_readStyle_0 adX12_readStyle_0.2.2.2.2.2.2.2.2.1 rfl
theorem dX12_readStyle_16 : decode cX12_readStyle 16 = .ok (.aload_n 0, 1) := dAt wdX12_readStyle_0 adX12_readStyle_0.2.2.2.2.2.2.2.2.2.1 rfl
theorem dX12_readStyle_17 : decode cX12_readStyle 17 = .ok (.invokevirtual 147, 3) := dAt wdX12_readStyle_0 adX12_readStyle_0.2.2.2.2.2.2.2.2.2.2.1 rfl
theorem dX12_readStyle_20 : decode cX12_readStyle 20 = .ok (.aload_n 0, 1) := dAt wdX12_readStyle_0 adX12_readStyle_0.2.2.2.2.2.2.2.2.2.2.2.1 rfl
theorem dX12_readStyle_21 : decode cX12_readStyle 21 = .ok (.getfield 137, 3) := dAt wdX12_readStyle_0 adX12_readStyle_0.2.2.2.2.2.2.2.2.2.2.2.2.1 rfl
theorem dX12_readStyle_24 : decode cX12_readStyle 24 = .ok (.aload_n 0, 1) := dAt wdX12_readStyle_0 adX12_readStyle_0.2.2.2.2.2.2.2.2.2.2.2.2.2.1 rfl
theorem dX12_readStyle_25 : decode cX12_readStyle 25 = .ok (.getfield 134, 3) := dAt wdX12_readStyle_0 adX12_readStyle_0.2.2.2.2.2.2.2.2.2.2.2.2.2.2.1 rfl
theorem dX12_readStyle_28 : decode cX12_readStyle 28 = .ok (.if_icmp .ge 7, 3) := dAt wdX12_readStyle_0 adX12_readStyle_0.2.2.2.2.2.2.2.2.2.2.2.2.2.2.2 rfl
def bdX12_readStyle_31 : ByteArray := .mk #[4, 167, 0, 4, 3, 60, 27, 153, 0, 108, 42, 182, 0, 147, 42, 180, 0, 245, 16, 12, 160, 0, 8, 42, 182, 0, 223, 172, 42]
theorem wdX12_readStyle_31 : LocW cX12_readStyle 31 bdX12_readStyle_31 := loc_of (by decide +kernel)
theorem adX12_readStyle_31 : De bdX12_readStyle_31 0 (.iconst 1) 1 ∧ De bdX12_readStyle_31 1 (.goto 4) 3 ∧ De bdX12_readStyle_31 4 (.iconst 0) 1 ∧ De bdX12_readStyle_31 5 (.istore_n 1) 1 ∧ De bdX12_readStyle_31 6 (.iload_n 1) 1 ∧ De bdX12_readStyle_31 7 (.ifCond .eq 108) 3 ∧ De bdX12_readStyle_31 10 (.aload_n 0) 1 ∧ De bdX12_readStyle_31 11 (.invokevirtual 147) 3 ∧ De bdX12_readStyle_31 14 (.aload_n 0) 1 ∧ De bdX12_readStyle_31 15 (.getfield 245) 3 ∧ De bdX12_readStyle_31 18 (.bipush 12) 2 ∧ De bdX12_readStyle_31 20 (.if_icmp .ne 8) 3 ∧ De bdX12_readStyle_31 23 (.aload_n 0) 1 ∧ De bdX12_readStyle_31 24 (.invokevirtual 223) 3 ∧ De bdX12_readStyle_31 27 (.ireturn) 1 ∧ De bdX12_readStyle_31 28 (.aload_n 0) 1 := by decide +kernel
theorem dX12_readStyle_31 : decode cX12_readStyle 31 = .ok (.iconst 1, 1) := dAt wdX12_readStyle_31 adX12_readStyle_31.1 rfl
theorem dX12_readStyle_32 : decode cX12_readStyle 32 = .ok (.goto 4, 3) := dAt wdX12_readStyle_31 adX12_readStyle_31.2.1 rfl
theorem dX12_readStyle_35 : decode cX12_readStyle 35 = .ok (.iconst 0, 1) := dAt wdX12_readStyle_31 adX12_readStyle_31.2.2.1 rfl
theorem dX12_readStyle_36 : decode cX12_readStyle 36 = .ok (.istore_n 1, 1) := dAt wdX12_readStyle_31 adX12_readStyle_31.2.2.2.1 rfl
theorem dX12_readStyle_37 : decode cX12_readStyle 37 = .ok (.iload_n 1, 1) := dAt wdX12_readStyle_31 adX12_readStyle_31.2.2.2.2.1 rfl
theorem dX12_readStyle_38 : decode cX12_readStyle 38 = .ok (.ifCond .eq 108, 3) := dAt wdX12_readStyle_31 adX12_readStyle_31.2.2.2.2.2.1 rfl
theorem dX12_readStyle_41 : decode cX12_readStyle 41 = .ok (.aload_n 0, 1) := dAt wdX12_readStyle_31 adX12_readStyle_31.2.2.2.2.2.2.1 rfl
theorem dX12_readStyle_42 : decode cX12_readStyle 42 = .ok (.invokevirtual 147, 3) := dAt wdX12_readStyle_31 adX12_readStyle_31.2.2.2.2.2.2.2.1 rfl
theorem dX12_readStyle_45 : decode cX12_readStyle 45 = .ok (.aload_n 0, 1) := dAt wdX12_readStyle_31 adX12_readStyle_31.2.2.2.2.2.2.2.2.1 rfl
theorem dX12_readStyle_46 : decode cX12_readStyle 46 = .ok (.getfield 245, 3) := dAt wdX12_readStyle_31 adX12_readStyle_31.2.2.2.2.2.2.2.2.2.1 rfl
theorem dX12_readStyle_49 : decode cX12_readStyle 49 = .ok (.bipush 12, 2) := dAt wdX12_readStyle_31 adX12_readStyle_31.2.2.2.2.2.2.2.2.2.2.1 rfl
theorem dX12_readStyle_51 : decode cX12_readStyle 51 = .ok (.if_icmp .ne 8, 3) := dAt wdX12_readStyle_31 adX12_readStyle_31.2.2.2.2.2.2.2.2.2.2.2.1 rfl
theorem dX12_readStyle_54 : decode cX12_readStyle 54 = .ok (.aload_n 0, 1) := dAt wdX12_readStyle_31 adX12_readStyle_31.2.2.2.2.2.2.2.2.2.2.2.2.1 rfl
theorem dX12_readStyle_55 : decode cX12_readStyle 55 = .ok (.invokevirtual 223, 3) := dAt wdX12_readStyle_31 adX12_readStyle_31.2.2.2.2.2.2.2.2.2.2.2.2.2.1 rfl
theorem dX12_readStyle_58 : decode cX12_readStyle 58 = .ok (.ireturn, 1) := dAt wdX12_readStyle_31 adX12_readStyle_31.2.2.2.2.2.2.2.2.2.2.2.2.2.2.1 rfl
theorem dX12_readStyle_59 : decode cX12_readStyle 59 = .ok (.aload_n 0, 1) := dAt wdX12_readStyle_31 adX12_readStyle_31.2.2.2.2.2.2.2.2.2.2.2.2.2.2.2 rfl
def bdX12_readStyle_60 : ByteArray := .mk #[182, 1, 11, 154, 0, 5, 3, 172, 42, 89, 180, 0, 245, 4, 96, 181, 0, 245, 42, 182, 0, 147, 42, 180, 0, 137, 42, 180, 0, 134]
theorem wdX12_readStyle_60 : LocW cX12_readStyle 60 bdX12_readStyle_60 := loc_of (by decide +kernel)
theorem adX12_readStyle_60 : De bdX12_readStyle_60 0 (.invokevirtual 267) 3 ∧ De bdX12_readStyle_60 3 (.ifCond .ne 5) 3 ∧ De bdX12_readStyle_60 6 (.iconst 0) 1 ∧ De bdX12_readStyle_60 7 (.ireturn) 1 ∧ De bdX12_readStyle_60 8 (.aload_n 0) 1 ∧ De bdX12_readStyle_60 9 (.dup) 1 ∧ De bdX12_readStyle_60 10 (.getfield 245) 3 ∧ De bdX12_readStyle_60 13 (.iconst 1) 1 ∧ De bdX12_readStyle_60 14 (.iadd) 1 ∧ De bdX12_readStyle_60 15 (.putfield 245) 3 ∧ De bdX12_readStyle_60 18 (.aload_n 0) 1 ∧ De bdX12_readStyle_60 19 (.invokevirtual 147) 3 ∧ De bdX12_readStyle_60 22 (.aload_n 0) 1 ∧ De bdX12_readStyle_60 23 (.getfield 137) 3 ∧ De bdX12_readStyle_60 26 (.aload_n 0) 1 ∧ De bdX12_readStyle_60 27 (.getfield 134) 3 := by decide +kernel
theorem dX12_readStyle_60 : decode cX12_readStyle 60 = .ok (.invokevirtual 267, 3) := dAt wdX12_readStyle_60 adX12_readStyle_60.1 rfl
theorem dX12_readStyle_63 : decode cX12_readStyle 63 = .ok (.ifCond .ne 5, 3) := dAt wdX12_readStyle_60 adX12_readStyle_60.2.1 rfl
theorem dX12_readStyle_66 : decode cX12_readStyle 66 = .ok (.iconst 0, 1) := dAt wdX12_readStyle_60 adX12_readStyle_60.2.2.1 rfl
theorem dX12_readStyle_67 : decode cX12_readStyle 67 = .ok (.ireturn, 1) := dAt wdX12_readStyle_60 adX12_readStyle_60.2.2.2.1 rfl
theorem dX12_readStyle_68 : decode cX12_readStyle 68 = .ok (.aload_n 0, 1) := dAt wdX12_readStyle_60 adX12_readStyle_60.2.2.2.2.1 rfl
theorem dX12_readStyle_69 : decode cX12_readStyle 69 = .ok (.dup, 1) := dAt wdX12_readStyle_60 adX12_readStyle_60.2.2.2.2.2.1 rfl
theorem dX12_readStyle_70 : decode cX12_readStyle 70 = .ok (.getfield 245, 3) := dAt wdX12_readStyle_60 adX12_readStyle_60.2.2.2.2.2.2.1 rfl
theorem dX12_readStyle_73 : decode cX12_readStyle 73 = .ok (.iconst 1, 1) := dAt wdX12_readStyle_60 adX12_readStyle_60.2.2.2.2.2.2.2.1 rfl
theorem dX12_readStyle_74 : decode cX12_readStyle 74 = .ok (.iadd, 1) := dAt wdX12_readStyle_60 adX12_readStyle_60.2.2.2.2.2.2.2.2.1 rfl
theorem dX12_readStyle_75 : decode cX12_readStyle 75 = .ok (.putfield 245, 3) := dAt wdX12_readStyle_60 adX12_readStyle_60.2.2.2.2.2.2.2.2.2.1 rfl
theorem dX12_readStyle_78 : decode cX12_readStyle 78 = .ok (.aload_n 0, 1) := dAt wdX12_readStyle_60 adX12_readStyle_60.2.2.2.2.2.2.2.2.2.2.1 rfl
theorem dX12_readStyle_79 : decode cX12_readStyle 79 = .ok (.invokevirtual 147, 3) := dAt wdX12_readStyle_60 adX12_readStyle_60.2.2.2.2.2.2.2.2.2.2.2.1 rfl
theorem dX12_readStyle_82 : decode cX12_readStyle 82 = .ok (.aload_n 0, 1) := dAt wdX12_readStyle_60 adX12_readStyle_60.2.2.2.2.2.2.2.2.2.2.2.2.1 rfl
theorem dX12_readStyle_83 : decode cX12_readStyle 83 = .ok (.getfield 137, 3) := dAt wdX12_readStyle_60 adX12_readStyle_60.2.2.2.2.2.2.2.2.2.2.2.2.2.1 rfl
theorem dX12_readStyle_86 : decode cX12_readStyle 86 = .ok (.aload_n 0, 1) := dAt wdX12_readStyle_60 adX12_readStyle_60.2.2.2.2.2.2.2.2.2.2.2.2.2.2.1 rfl
theorem dX12_readStyle_87 : decode cX12_readStyle 87 = .ok (.getfield 134, 3) := dAt wdX12_readStyle_60 adX12_readStyle_60.2.2.2.2.2.2.2.2.2.2.2.2.2.2.2 rfl
def bdX12_readStyle_90 : ByteArray := .mk #[162, 0, 21, 42, 180, 0, 20, 42, 180, 0, 137, 46, 16, 59, 160, 0, 7, 4, 167, 0, 4, 3, 60, 27, 153, 0, 16, 42, 89]
theorem wdX12_readStyle_90 : LocW cX12_readStyle 90 bdX12_readStyle_90 := loc_of (by decide +kernel)
theorem adX12_readStyle_90 : De bdX12_readStyle_90 0 (.if_icmp .ge 21) 3 ∧ De bdX12_readStyle_90 3 (.aload_n 0) 1 ∧ De bdX12_readStyle_90 4 (.getfield 20) 3 ∧ De bdX12_readStyle_90 7 (.aload_n 0) 1 ∧ De bdX12_readStyle_90 8 (.getfield 137) 3 ∧ De bdX12_readStyle_90 11 (.iaload) 1 ∧ De bdX12_readStyle_90 12 (.bipush 59) 2 ∧ De bdX12_readStyle_90 14 (.if_icmp .ne 7) 3 ∧ De bdX12_readStyle_90 17 (.iconst 1) 1 ∧ De bdX12_readStyle_90 18 (.goto 4) 3 ∧ De bdX12_readStyle_90 21 (.iconst 0) 1 ∧ De bdX12_readStyle_90 22 (.istore_n 1) 1 ∧ De bdX12_readStyle_90 23 (.iload_n 1) 1 ∧ De bdX12_readStyle_90 24 (.ifCond .eq 16) 3 ∧ De bdX12_readStyle_90 27 (.aload_n 0) 1 ∧ De bdX12_readStyle_90 28 (.dup) 1 := by decide +kernel
theorem dX12_readStyle_90 : decode cX12_readStyle 90 = .ok (.if_icmp .ge 21, 3) := dAt wdX12_readStyle_90 adX12_readStyle_90.1 rfl
theorem dX12_readStyle_93 : decode cX12_readStyle 93 = .ok (.aload_n 0, 1) := dAt wdX12_readStyle_90 adX12_readStyle_90.2.1 rfl
theorem dX12_readStyle_94 : decode cX12_readStyle 94 = .ok (.getfield 20, 3) := dAt wdX12_readStyle_90 adX12_readStyle_90.2.2.1 rfl
theorem dX12_readStyle_97 : decode cX12_readStyle 97 = .ok (.aload_n 0, 1) := dAt wdX12_readStyle_90 adX12_readStyle_90.2.2.2.1 rfl
theorem dX12_readStyle_98 : decode cX12_readStyle 98 = .ok (.getfield 137, 3) := dAt wdX12_readStyle_90 adX12_readStyle_90.2.2.2.2.1 rfl
theorem dX12_readStyle_101 : decode cX12_readStyle 101 = .ok (.iaload, 1) := dAt wdX12_readStyle_90 adX12_readStyle_90.2.2.2.2.2.1 rfl
theorem dX12_readStyle_102 : decode cX12_readStyle 102 = .ok (.bipush 59, 2) := dAt wdX12_readStyle_90 adX12_readStyle_90.2.2.2.2.2.2.1 rfl
theorem dX12_readStyle_104 : decode cX12_readStyle 104 = .ok (.if_icmp .ne 7, 3) := dAt wdX12_readStyle_90 adX12_readStyle_90.2.2.2.2.2.2.2.1 rfl
theorem dX12_readStyle_107 : decode cX12_readStyle 107 = .ok (.iconst 1, 1) := dAt wdX12_readStyle_90 adX12_readStyle_90.2.2.2.2.2.2.2.2.1 rfl
theorem dX12_readStyle_108 : decode cX12_readStyle 108 = .ok (.goto 4, 3) := dAt wdX12_readStyle_90 adX12_readStyle_90.2.2.2.2.2.2.2.2.2.1 rfl
theorem dX12_readStyle_111 : decode cX12_readStyle 111 = .ok (.iconst 0, 1) := dAt wdX12_readStyle_90 adX12_readStyle_90.2.2.2.2.2.2.2.2.2.2.1 rfl
theorem dX12_readStyle_112 : decode cX12_readStyle 112 = .ok (.istore_n 1, 1) := dAt wdX12_readStyle_90 adX12_readStyle_90.2.2.2.2.2.2.2.2.2.2.2.1 rfl
theorem dX12_readStyle_113 : decode cX12_readStyle 113 = .ok (.iload_n 1, 1) := dAt wdX12_readStyle_90 adX12_readStyle_90.2.2.2.2.2.2.2.2.2.2.2.2.1 rfl
theorem dX12_readStyle_114 : decode cX12_readStyle 114 = .ok (.ifCond .eq 16, 3) := dAt wdX12_readStyle_90 adX12_readStyle_90.2.2.2.2.2.2.2.2.2.2.2.2.2.1 rfl
theorem dX12_readStyle_117 : decode cX12_readStyle 117 = .ok (.aload_n 0, 1) := dAt wdX12_readStyle_90 adX12_readStyle_90.2.2.2.2.2.2.2.2.2.2.2.2.2.2.1 rfl
theorem dX12_readStyle_118 : decode cX12_readStyle 118 = .ok (.dup, 1) := dAt wdX12_readStyle_90 adX12_readStyle_90.2.2.2.2.2.2.2.2.2.2.2.2.2.2.2 rfl
def bdX12_readStyle_119 : ByteArray := .mk #[180, 0, 137, 4, 96, 181, 0, 137, 167, 255, 166, 42, 180, 0, 137, 42, 180, 0, 134, 162, 255, 155, 42, 182, 0, 223, 172, 4, 172]
theorem wdX12_readStyle_119 : LocW cX12_readStyle 119 bdX12_readStyle_119 := loc_of (by decide +kernel)
theorem adX12_readStyle_119 : De bdX12_readStyle_119 0 (.getfield 137) 3 ∧ De bdX12_readStyle_119 3 (.iconst 1) 1 ∧ De bdX12_readStyle_119 4 (.iadd) 1 ∧ De bdX12_readStyle_119 5 (.putfield 137) 3 ∧ De bdX12_readStyle_119 8 (.goto (-90)) 3 ∧ De bdX12_readStyle_119 11 (.aload_n 0) 1 ∧ De bdX12_readStyle_119 12 (.getfield 137) 3 ∧ De bdX12_readStyle_119 15 (.aload_n 0) 1 ∧ De bdX12_readStyle_119 16 (.getfield 134) 3 ∧ De bdX12_readStyle_119 19 (.if_icmp .ge (-101)) 3 ∧ De bdX12_readStyle_119 22 (.aload_n 0) 1 ∧ De bdX12_readStyle_119 23 (.invokevirtual 223) 3 ∧ De bdX12_readStyle_119 26 (.ireturn) 1 ∧ De bdX12_readStyle_119 27 (.iconst 1) 1 ∧ De bdX12_readStyle_119 28 (.ireturn) 1 := by decide +kernel
theorem dX12_readStyle_119 : decode cX12_readStyle 119 = .ok (.getfield 137, 3) := dAt wdX12_readStyle_119 adX12_readStyle_119.1 rfl
theorem dX12_readStyle_122 : decode cX12_readStyle 122 = .ok (.iconst 1, 1) := dAt wdX12_readStyle_119 adX12_readStyle_119.2.1 rfl
theorem dX12_readStyle_123 : decode cX12_readStyle 123 = .ok (.iadd, 1) := dAt wdX12_readStyle_119 adX12_readStyle_119.2.2.1 rfl
theorem dX12_readStyle_124 : decode cX12_readStyle 124 = .ok (.putfield 137, 3) := dAt wdX12_readStyle_119 adX12_readStyle_119.2.2.2.1 rfl
theorem dX12_readStyle_127 : decode cX12_readStyle 127 = .ok (.goto (-90), 3) := dAt wdX12_readStyle_119 adX12_readStyle_119.2.2.2.2.1 rfl
theorem dX12_readStyle_130 : decode cX12_readStyle 130 = .ok (.aload_n 0, 1) := dAt wdX12_readStyle_119 adX12_readStyle_119.2.2.2.2.2.1 rfl
theorem dX12_readStyle_131 : decode cX12_readStyle 131 = .ok (.getfield 137, 3) := dAt wdX12_readStyle_119 adX12_readStyle_119.2.2.2.2.2.2.1 rfl
theorem dX12_readStyle_134 : decode cX12_readStyle 134 = .ok (.aload_n 0, 1) := dAt wdX12_readStyle_119 adX12_readStyle_119.2.2.2.2.2.2.2.1 rfl
theorem dX12_readStyle_135 : decode cX12_readStyle 135 = .ok (.getfield 134, 3) := dAt wdX12_readStyle_119 adX12_readStyle_119.2.2.2.2.2.2.2.2.1 rfl
theorem dX12_readStyle_138 : decode cX12_readStyle 138 = .ok (.if_icmp .ge (-101), 3) := dAt wdX12_readStyle_119 adX12_readStyle_119.2.2.2.2.2.2.2.2.2.1 rfl
theorem dX12_readStyle_141 : decode cX12_readStyle 141 = .ok (.aload_n 0, 1) := dAt wdX12_readStyle_119 adX12_readStyle_119.2.2.2.2.2.2.2.2.2.2.1 rfl
theorem dX12_readStyle_142 : decode cX12_readStyle 142 = .ok (.invokevirtual 223, 3) := dAt wdX12_readStyle_119 adX12_readStyle_119.2.2.2.2.2.2.2.2.2.2.2.1 rfl
theorem dX12_readStyle_145 : decode cX12_readStyle 145 = .ok (.ireturn, 1) := dAt wdX12_readStyle_119 adX12_readStyle_119.2.2.2.2.2.2.2.2.2.2.2.2.1 rfl
theorem dX12_readStyle_146 : decode cX12_readStyle 146 = .ok (.iconst 1, 1) := dAt wdX12_readStyle_119 adX12_readStyle_119.2.2.2.2.2.2.2.2.2.2.2.2.2.1 rfl
theorem dX12_readStyle_147 : decode cX12_readStyle 147 = .ok (.ireturn, 1) := dAt wdX12_readStyle_119 adX12_readStyle_119.2.2.2.2.2.2.2.2.2.2.2.2.2.2 rfl
def bdX12_style_0 : ByteArray := .mk #[42, 182, 0, 154, 42, 27, 42, 180, 0, 8, 3, 46, 17, 2, 88, 184, 0, 157, 154, 0, 7, 4, 167, 0, 4, 3, 181, 0, 122, 42]
theorem wdX12_style_0 : LocW cX12_style 0 bdX12_style_0 := loc_of (by decide +kernel)
theorem adX12_style_0 : De bdX12_style_0 0 (.aload_n 0) 1 ∧ De bdX12_style_0 1 (.invokevirtual 154) 3 ∧ De bdX12_style_0 4 (.aload_n 0) 1 ∧ De bdX12_style_0 5 (.iload_n 1) 1 ∧ De bdX12_style_0 6 (.aload_n 0) 1 ∧ De bdX12_style_0 7 (.getfield 8) 3 ∧ De bdX12_style_0 10 (.iconst 0) 1 ∧ De bdX12_style_0 11 (.iaload) 1 ∧ De bdX12_style_0 12 (.sipush 600) 3 ∧ De bdX12_style_0 15 (.invokestatic 157) 3 ∧ De bdX12_style_0 18 (.ifCond .ne 7) 3 ∧ De bdX12_style_0 21 (.iconst 1) 1 ∧ De bdX12_style_0 22 (.goto 4) 3 ∧ De bdX12_style_0 25 (.iconst 0) 1 ∧ De bdX12_style_0 26 (.putfield 122) 3 ∧ De bdX12_style_0 29 (.aload_n 0) 1 := by decide +kernel
theorem dX12_style_0 : decode cX12_style 0 = .ok (.aload_n 0, 1) := dAt wdX12_style_0 adX12_style_0.1 rfl
theorem dX12_style_1 : decode cX12_style 1 = .ok (.invokevirtual 154, 3) := dAt wdX12_style_0 adX12_style_0.2.1 rfl
theorem dX12_style_4 : decode cX12_style 4 = .ok (.aload_n 0, 1) := dAt wdX12_style_0 adX12_style_0.2.2.1 rfl
theorem dX12_style_5 : decode cX12_style 5 = .ok (.iload_n 1, 1) := dAt wdX12_style_0 adX12_style_0.2.2.2.1 rfl
theorem dX12_style_6 : decode cX12_style 6 = .ok (.aload_n 0, 1) := dAt wdX12_style_0 adX12_style_0.2.2.2.2.1 rfl
theorem dX12_style_7 : decode cX12_style 7 = .ok (.getfield 8, 3) := dAt wdX12_style_0 adX12_style_0.2.2.2.2.2.1 rfl
theorem dX12_style_10 : decode cX12_style 10 = .ok (.iconst 0, 1) := dAt wdX12_style_0 adX12_style_0.2.2.2.2.2.2.1 rfl
theorem dX12_style_11 : decode cX12_style 11 = .ok (.iaload, 1) := dAt wdX12_style_0 adX12_style_0.2.2.2.2.2.2.2.1 rfl
theorem dX12_style_12 : decode cX12_style 12 = .ok (.sipush 600, 3) := dAt wdX12_style_0 adX12_style_0.2.2.2.2.2.2.2.2.1 rfl
theorem dX12_style_15 : decode cX12_style 15 = .ok (.invokestatic 157, 3) := dAt wdX12_style_0 adX12_style_0.2.2.2.2.2.2.2.2.2.1 rfl
theorem dX12_style_18 : decode cX12_style 18 = .ok (.ifCond .ne 7, 3) := dAt wdX12_style_0 adX12_style_0.2.2.2.2.2.2.2.2.2.2.1 rfl
theorem dX12_style_21 : decode cX12_style 21 = .ok (.iconst 1, 1) := dAt wdX12_style_0 adX12_style_0.2.2.2.2.2.2.2.2.2.2.2.1 rfl
theorem dX12_style_22 : decode cX12_style 22 = .ok (.goto 4, 3) := dAt wdX12_style_0 adX12_style_0.2.2.2.2.2.2.2.2.2.2.2.2.1 rfl
theorem dX12_style_25 : decode cX12_style 25 = .ok (.iconst 0, 1) := dAt wdX12_style_0 adX12_style_0.2.2.2.2.2.2.2.2.2.2.2.2.2.1 rfl
theorem dX12_style_26 : decode cX12_style 26 = .ok (.putfield 122, 3) := dAt wdX12_style_0 adX12_style_0.2.2.2.2.2.2.2.2.2.2.2.2.2.2.1 rfl
theorem dX12_style_29 : decode cX12_style 29 = .ok (.aload_n 0, 1) := dAt wdX12_style_0 adX12_style_0.2.2.2.2.2.2.2.2.2.2.2.2.2.2.2 rfl
def bdX12_style_30 : ByteArray := .mk #[180, 0, 122, 158, 0, 5, 3, 172, 42, 2, 181, 0, 23, 42, 182, 1, 14, 154, 0, 11, 42, 4, 181, 0, 122, 167, 0, 19, 42, 180, 0, 8]
theorem wdX12_style_30 : LocW cX12_style 30 bdX12_style_30 := loc_of (by decide +kernel)
theorem adX12_style_30 : De bdX12_style_30 0 (.getfield 122) 3 ∧ De bdX12_style_30 3 (.ifCond .le 5) 3 ∧ De bdX12_style_30 6 (.iconst 0) 1 ∧ De bdX12_style_30 7 (.ireturn) 1 ∧ De bdX12_style_30 8 (.aload_n 0) 1 ∧ De bdX12_style_30 9 (.iconst (-1)) 1 ∧ De bdX12_style_30 10 (.putfield 23) 3 ∧ De bdX12_style_30 13 (.aload_n 0) 1 ∧ De bdX12_style_30 14 (.invokevirtual 270) 3 ∧ De bdX12_style_30 17 (.ifCond .ne 11) 3 ∧ De bdX12_style_30 20 (.aload_n 0) 1 ∧ De bdX12_style_30 21 (.iconst 1) 1 ∧ De bdX12_style_30 22 (.putfield 122) 3 ∧ De bdX12_style_30 25 (.goto 19) 3 ∧ De bdX12_style_30 28 (.aload_n 0) 1 ∧ De bdX12_style_30 29 (.getfield 8) 3 := by decide +kernel
theorem dX12_style_30 : decode cX12_style 30 = .ok (.getfield 122, 3) := dAt wdX12_style_30 adX12_style_30.1 rfl
theorem dX12_style_33 : decode cX12_style 33 = .ok (.ifCond .le 5, 3) := dAt wdX12_style_30 adX12_style_30.2.1 rfl
theorem dX12_style_36 : decode cX12_style 36 = .ok (.iconst 0, 1) := dAt wdX12_style_30 adX12_style_30.2.2.1 rfl
theorem dX12_style_37 : decode cX12_style 37 = .ok (.ireturn, 1) := dAt wdX12_style_30 adX12_style_30.2.2.2.1 rfl
theorem dX12_style_38 : decode cX12_style 38 = .ok (.aload_n 0, 1) := dAt wdX12_style_30 adX12_style_30.2.2.2.2.1 rfl
theorem dX12_style_39 : decode cX12_style 39 = .ok (.iconst (-1), 1) := dAt wdX12_style_30 adX12_style_30.2.2.2.2.2.1 rfl
theorem dX12_style_40 : decode cX12_style 40 = .ok (.putfield 23, 3) := dAt wdX12_style_30 adX12_style_30.2.2.2.2.2.2.1 rfl
theorem dX12_style_43 : decode cX12_style 43 = .ok (.aload_n 0, 1) := dAt wdX12_style_30 adX12_style_30.2.2.2.2.2.2.2.1 rfl
theorem dX12_style_44 : decode cX12_style 44 = .ok (.invokevirtual 270, 3) := dAt wdX12_style_30 adX12_style_30.2.2.2.2.2.2.2.2.1 rfl
theorem dX12_style_47 : decode cX12_style 47 = .ok (.ifCond .ne 11, 3) := dAt wdX12_style_30 adX12_style_30.2.2.2.2.2.2.2.2.2.1 rfl
theorem dX12_style_50 : decode cX12_style 50 = .ok (.aload_n 0, 1) := dAt wdX12_style_30 adX12_style_30.2.2.2.2.2.2.2.2.2.2.1 rfl
theorem dX12_style_51 : decode cX12_style 51 = .ok (.iconst 1, 1) := dAt wdX12_style_30 adX12_style_30.2.2.2.2.2.2.2.2.2.2.2.1 rfl
theorem dX12_style_52 : decode cX12_style 52 = .ok (.putfield 122, 3) := dAt wdX12_style_30 adX12_style_30.2.2.2.2.2.2.2.2.2.2.2.2.1 rfl
theorem dX12_style_55 : decode cX12_style 55 = .ok (.goto 19, 3) := dAt wdX12_style_30 adX12_style_30.2.2.2.2.2.2.2.2.2.2.2.2.2.1 rfl
theorem dX12_style_58 : decode cX12_style 58 = .ok (.aload_n 0, 1) := dAt wdX12_style_30 adX12_style_30.2.2.2.2.2.2.2.2.2.2.2.2.2.2.1 rfl
theorem dX12_style_59 : decode cX12_style 59 = .ok (.getfield 8, 3) := dAt wdX12_style_30 adX12_style_30.2.2.2.2.2.2.2.2.2.2.2.2.2.2.2 rfl
def bdX12_style_62 : ByteArray := .mk #[5, 46, 16, 10, 160, 0, 8, 42, 5, 181, 0, 122, 42, 180, 0, 122, 158, 0, 5, 3, 172, 19, 1, 17, 17, 2, 50, 42, 180, 0, 8]
theorem wdX12_style_62 : LocW cX12_style 62 bdX12_style_62 := loc_of (by decide +kernel)
theorem adX12_style_62 : De bdX12_style_62 0 (.iconst 2) 1 ∧ De bdX12_style_62 1 (.iaload) 1 ∧ De bdX12_style_62 2 (.bipush 10) 2 ∧ De bdX12_style_62 4 (.if_icmp .ne 8) 3 ∧ De bdX12_style_62 7 (.aload_n 0) 1 ∧ De bdX12_style_62 8 (.iconst 2) 1 ∧ De bdX12_style_62 9 (.putfield 122) 3 ∧ De bdX12_style_62 12 (.aload_n 0) 1 ∧ De bdX12_style_62 13 (.getfield 122) 3 ∧ De bdX12_style_62 16 (.ifCond .le 5) 3 ∧ De bdX12_style_62 19 (.iconst 0) 1 ∧ De bdX12_style_62 20 (.ireturn) 1 ∧ De bdX12_style_62 21 (.ldc_w 273) 3 ∧ De bdX12_style_62 24 (.sipush 562) 3 ∧ De bdX12_style_62 27 (.aload_n 0) 1 ∧ De bdX12_style_62 28 (.getfield 8) 3 := by decide +kernel
theorem dX12_style_62 : decode cX12_style 62 = .ok (.iconst 2, 1) := dAt wdX12_style_62 adX12_style_62.1 rfl
theorem dX12_style_63 : decode cX12_style 63 = .ok (.iaload, 1) := dAt wdX12_style_62 adX12_style_62.2.1 rfl
theorem dX12_style_64 : decode cX12_style 64 = .ok (.bipush 10, 2) := dAt wdX12_style_62 adX12_style_62.2.2.1 rfl
theorem dX12_style_66 : decode cX12_style 66 = .ok (.if_icmp .ne 8, 3) := dAt wdX12_style_62 adX12_style_62.2.2.2.1 rfl
theorem dX12_style_69 : decode cX12_style 69 = .ok (.aload_n 0, 1) := dAt wdX12_style_62 adX12_style_62.2.2.2.2.1 rfl
theorem dX12_style_70 : decode cX12_style 70 = .ok (.iconst 2, 1) := dAt wdX12_style_62 adX12_style_62.2.2.2.2.2.1 rfl
theorem dX12_style_71 : decode cX12_style 71 = .ok (.putfield 122, 3) := dAt wdX12_style_62 adX12_style_62.2.2.2.2.2.2.1 rfl
theorem dX12_style_74 : decode cX12_style 74 = .ok (.aload_n 0, 1) := dAt wdX12_style_62 adX12_style_62.2.2.2.2.2.2.2.1 rfl
theorem dX12_style_75 : decode cX12_style 75 = .ok (.getfield 122, 3) := dAt wdX12_style_62 adX12_style_62.2.2.2.2.2.2.2.2.1 rfl
theorem dX12_style_78 : decode cX12_style 78 = .ok (.ifCond .le 5, 3) := dAt wdX12_style_62 adX12_style_62.2.2.2.2.2.2.2.2.2.1 rfl
theorem dX12_style_81 : decode cX12_style 81 = .ok (.iconst 0, 1) := dAt wdX12_style_62 adX12_style_62.2.2.2.2.2.2.2.2.2.2.1 rfl
theorem dX12_style_82 : decode cX12_style 82 = .ok (.ireturn, 1) := dAt wdX12_style_62 adX12_style_62.2.2.2.2.2.2.2.2.2.2.2.1 rfl
theorem dX12_style_83 : decode cX12_style 83 = .ok (.ldc_w 273, 3) := dAt wdX12_style_62 adX12_style_62.2.2.2.2.2.2.2.2.2.2.2.2.1 rfl
theorem dX12_style_86 : decode cX12_style 86 = .ok (.sipush 562, 3) := dAt wdX12_style_62 adX12_style_62.2.2.2.2.2.2.2.2.2.2.2.2.2.1 rfl
theorem dX12_style_89 : decode cX12_style 89 = .ok (.aload_n 0, 1) := dAt wdX12_style_62 adX12_style_62.2.2.2.2.2.2.2.2.2.2.2.2.2.2.1 rfl
theorem dX12_style_90 : decode cX12_style 90 = .ok (.getfield 8, 3) := dAt wdX12_style_62 adX12_style_62.2.2.2.2.2.2.2.2.2.2.2.2.2.2.2 rfl
def bdX12_style_93 : ByteArray := .mk #[5, 46, 104, 96, 61, 5, 62, 29, 42, 180, 0, 184, 162, 0, 23, 42, 180, 0, 8, 28, 29, 96]
theorem wdX12_style_93 : LocW cX12_style 93 bdX12_style_93 := loc_of (by decide +kernel)
theorem adX12_style_93 : De bdX12_style_93 0 (.iconst 2) 1 ∧ De bdX12_style_93 1 (.iaload) 1 ∧ De bdX12_style_93 2 (.imul) 1 ∧ De bdX12_style_93 3 (.iadd) 1 ∧ De bdX12_style_93 4 (.istore_n 2) 1 ∧ De bdX12_style_93 5 (.iconst 2) 1 ∧ De bdX12_style_93 6 (.istore_n 3) 1 ∧ De bdX12_style_93 7 (.iload_n 3) 1 ∧ De bdX12_style_93 8 (.aload_n 0) 1 ∧ De bdX12_style_93 9 (.getfield 184) 3 ∧ De bdX12_style_93 12 (.if_icmp .ge 23) 3 ∧ De bdX12_style_93 15 (.aload_n 0) 1 ∧ De bdX12_style_93 16 (.getfield 8) 3 ∧ De bdX12_style_93 19 (.iload_n 2) 1 ∧ De bdX12_style_93 20 (.iload_n 3) 1 ∧ De bdX12_style_93 21 (.iadd) 1 := by decide +kernel
theorem dX12_style_93 : decode cX12_style 93 = .ok (.iconst 2, 1) := dAt wdX12_style_93 adX12_style_93.1 rfl
theorem dX12_style_94 : decode cX12_style 94 = .ok (.iaload, 1) := dAt wdX12_style_93 adX12_style_93.2.1 rfl
theorem dX12_style_95 : decode cX12_style 95 = .ok (.imul, 1) := dAt wdX12_style_93 adX12_style_93.2.2.1 rfl
theorem dX12_style_96 : decode cX12_style 96 = .ok (.iadd, 1) := dAt wdX12_style_93 adX12_style_93.2.2.2.1 rfl
theorem dX12_style_97 : decode cX12_style 97 = .ok (.istore_n 2, 1) := dAt wdX12_style_93 adX12_style_93.2.2.2.2.1 rfl
theorem dX12_style_98 : decode cX12_style 98 = .ok (.iconst 2, 1) := dAt wdX12_style_93 adX12_style_93.2.2.2.2.2.1 rfl
theorem dX12_style_99 : decode cX12_style 99 = .ok (.istore_n 3, 1) := dAt wdX12_style_93 adX12_style_93.2.2.2.2.2.2.1 rfl
theorem dX12_style_100 : decode cX12_style 100 = .ok (.iload_n 3, 1) := dAt wdX12_style_93 adX12_style_93.2.2.2.2.2.2.2.1 rfl
theorem dX12_style_101 : decode cX12_style 101 = .ok (.aload_n 0, 1) := dAt wdX12_style_93 adX12_style_93.2.2.2.2.2.2.2.2.1 rfl
theorem dX12_style_102 : decode cX12_style 102 = .ok (.getfield 184, 3) := dAt wdX12_style_93 adX12_style_93.2.2.2.2.2.2.2.2.2.1 rfl
theorem dX12_style_105 : decode cX12_style 105 = .ok (.if_icmp .ge 23, 3) := dAt wdX12_style_93 adX12_style_93.2.2.2.2.2.2.2.2.2.2.1 rfl
theorem dX12_style_108 : decode cX12_style 108 = .ok (.aload_n 0, 1) := dAt wdX12_style_93 adX12_style_93.2.2.2.2.2.2.2.2.2.2.2.1 rfl
theorem dX12_style_109 : decode cX12_style 109 = .ok (.getfield 8, 3) := dAt wdX12_style_93 adX12_style_93.2.2.2.2.2.2.2.2.2.2.2.2.1 rfl
theorem dX12_style_112 : decode cX12_style 112 = .ok (.iload_n 2, 1) := dAt wdX12_style_93 adX12_style_93.2.2.2.2.2.2.2.2.2.2.2.2.2.1 rfl
theorem dX12_style_113 : decode cX12_style 113 = .ok (.iload_n 3, 1) := dAt wdX12_style_93 adX12_style_93.2.2.2.2.2.2.2.2.2.2.2.2.2.2.1 rfl
theorem dX12_style_114 : decode cX12_style 114 = .ok (.iadd, 1) := dAt wdX12_style_93 adX12_style_93.2.2.2.2.2.2.2.2.2.2.2.2.2.2.2 rfl
def bdX12_style_115 : ByteArray := .mk #[42, 180, 0, 42, 29, 46, 79, 132, 3, 1, 167, 255, 231, 42, 180, 0, 8, 28, 27, 79, 42, 180, 0, 8, 28, 4]
theorem wdX12_style_115 : LocW cX12_style 115 bdX12_style_115 := loc_of (by decide +kernel)
theorem adX12_style_115 : De bdX12_style_115 0 (.aload_n 0) 1 ∧ De bdX12_style_115 1 (.getfield 42) 3 ∧ De bdX12_style_115 4 (.iload_n 3) 1 ∧ De bdX12_style_115 5 (.iaload) 1 ∧ De bdX12_style_115 6 (.iastore) 1 ∧ De bdX12_style_115 7 (.iinc 3 1) 3 ∧ De bdX12_style_115 10 (.goto (-25)) 3 ∧ De bdX12_style_115 13 (.aload_n 0) 1 ∧ De bdX12_style_115 14 (.getfield 8) 3 ∧ De bdX12_style_115 17 (.iload_n 2) 1 ∧ De bdX12_style_115 18 (.iload_n 1) 1 ∧ De bdX12_style_115 19 (.iastore) 1 ∧ De bdX12_style_115 20 (.aload_n 0) 1 ∧ De bdX12_style_115 21 (.getfield 8) 3 ∧ De bdX12_style_115 24 (.iload_n 2) 1 ∧ De bdX12_style_115 25 (.iconst 1) 1 := by decide +kernel
theorem dX12_style_115 : decode cX12_style 115 = .ok (.aload_n 0, 1) := dAt wdX12_style_115 adX12_style_115.1 rfl
theorem dX12_style_116 : decode cX12_style 116 = .ok (.getfield 42, 3) := dAt wdX12_style_115 adX12_style_115.2.1 rfl
theorem dX12_style_119 : decode cX12_style 119 = .ok (.iload_n 3, 1) := dAt wdX12_style_115 adX12_style_115.2.2.1 rfl
theorem dX12_style_120 : decode cX12_style 120 = .ok (.iaload, 1) := dAt wdX12_style_115 adX12_style_115.2.2.2.1 rfl
theorem dX12_style_121 : decode cX12_style 121 = .ok (.iastore, 1) := dAt wdX12_style_115 adX12_style_115.2.2.2.2.1 rfl
theorem dX12_style_122 : decode cX12_style 122 = .ok (.iinc 3 1, 3) := dAt wdX12_style_115 adX12_style_115.2.2.2.2.2.1 rfl
theorem dX12_style_125 : decode cX12_style 125 = .ok (.goto (-25), 3) := dAt wdX12_style_115 adX12_style_115.2.2.2.2.2.2.1 rfl
theorem dX12_style_128 : decode cX12_style 128 = .ok (.aload_n 0, 1) := dAt wdX12_style_115 adX12_style_115.2.2.2.2.2.2.2.1 rfl
theorem dX12_style_129 : decode cX12_style 129 = .ok (.getfield 8, 3) := dAt wdX12_style_115 adX12_style_115.2.2.2.2.2.2.2.2.1 rfl
theorem dX12_style_132 : decode cX12_style 132 = .ok (.iload_n 2, 1) := dAt wdX12_style_115 adX12_style_115.2.2.2.2.2.2.2.2.2.1 rfl
theorem dX12_style_133 : decode cX12_style 133 = .ok (.iload_n 1, 1) := dAt wdX12_style_115 adX12_style_115.2.2.2.2.2.2.2.2.2.2.1 rfl
theorem dX12_style_134 : decode cX12_style 134 = .ok (.iastore, 1) := dAt wdX12_style_115 adX12_style_115.2.2.2.2.2.2.2.2.2.2.2.1 rfl
theorem dX12_style_135 : decode cX12_style 135 = .ok (.aload_n 0, 1) := dAt wdX12_style_115 adX12_style_115.2.2.2.2.2.2.2.2.2.2.2.2.1 rfl
theorem dX12_style_136 : decode cX12_style 136 = .ok (.getfield 8, 3) := dAt wdX12_style_115 adX12_style_115.2.2.2.2.2.2.2.2.2.2.2.2.2.1 rfl
theorem dX12_style_139 : decode cX12_style 139 = .ok (.iload_n 2, 1) := dAt wdX12_style_115 adX12_style_115.2.2.2.2.2.2.2.2.2.2.2.2.2.2.1 rfl
theorem dX12_style_140 : decode cX12_style 140 = .ok (.iconst 1, 1) := dAt wdX12_style_115 adX12_style_115.2.2.2.2.2.2.2.2.2.2.2.2.2.2.2 rfl
def bdX12_style_141 : ByteArray := .mk #[96, 42, 180, 0, 245, 79, 42, 180, 0, 8, 5, 92, 46, 4, 96, 79, 42, 180, 0, 245, 172]
theorem wdX12_style_141 : LocW cX12_style 141 bdX12_style_141 := loc_of (by decide +kernel)
theorem adX12_style_141 : De bdX12_style_141 0 (.iadd) 1 ∧ De bdX12_style_141 1 (.aload_n 0) 1 ∧ De bdX12_style_141 2 (.getfield 245) 3 ∧ De bdX12_style_141 5 (.iastore) 1 ∧ De bdX12_style_141 6 (.aload_n 0) 1 ∧ De bdX12_style_141 7 (.getfield 8) 3 ∧ De bdX12_style_141 10 (.iconst 2) 1 ∧ De bdX12_style_141 11 (.dup2) 1 ∧ De bdX12_style_141 12 (.iaload) 1 ∧ De bdX12_style_141 13 (.iconst 1) 1 ∧ De bdX12_style_141 14 (.iadd) 1 ∧ De bdX12_style_141 15 (.iastore) 1 ∧ De bdX12_style_141 16 (.aload_n 0) 1 ∧ De bdX12_style_141 17 (.getfield 245) 3 ∧ De bdX12_style_141 20 (.ireturn) 1 := by decide +kernel
theorem dX12_style_141 : decode cX12_style 141 = .ok (.iadd, 1) := dAt wdX12_style_141 adX12_style_141.1 rfl
theorem dX12_style_142 : decode cX12_style 142 = .ok (.aload_n 0, 1) := dAt wdX12_style_141 adX12_style_141.2.1 rfl
theorem dX12_style_143 : decode cX12_style 143 = .ok (.getfield 245, 3) := dAt wdX12_style_141 adX12_style_141.2.2.1 rfl
theorem dX12_style_146 : decode cX12_style 146 = .ok (.iastore, 1) := dAt wdX12_style_141 adX12_style_141.2.2.2.1 rfl
theorem dX12_style_147 : decode cX12_style 147 = .ok (.aload_n 0, 1) := dAt wdX12_style_141 adX12_style_141.2.2.2.2.1 rfl
theorem dX12_style_148 : decode cX12_style 148 = .ok (.getfield 8, 3) := dAt wdX12_style_141 adX12_style_141.2.2.2.2.2.1 rfl
theorem dX12_style_151 : decode cX12_style 151 = .ok (.iconst 2, 1) := dAt wdX12_style_141 adX12_style_141.2.2.2.2.2.2.1 rfl
theorem dX12_style_152 : decode cX12_style 152 = .ok (.dup2, 1) := dAt wdX12_style_141 adX12_style_141.2.2.2.2.2.2.2.1 rfl
theorem dX12_style_153 : decode cX12_style 153 = .ok (.iaload, 1) := dAt wdX12_style_141 adX12_style_141.2.2.2.2.2.2.2.2.1 rfl
theorem dX12_style_154 : decode cX12_style 154 = .ok (.iconst 1, 1) := dAt wdX12_style_141 adX12_style_141.2.2.2.2.2.2.2.2.2.1 rfl
theorem dX12_style_155 : decode cX12_style 155 = .ok (.iadd, 1) := dAt wdX12_style_141 adX12_style_141.2.2.2.2.2.2.2.2.2.2.1 rfl
theorem dX12_style_156 : decode cX12_style 156 = .ok (.iastore, 1) := dAt wdX12_style_141 adX12_style_141.2.2.2.2.2.2.2.2.2.2.2.1 rfl
theorem dX12_style_157 : decode cX12_style 157 = .ok (.aload_n 0, 1) := dAt wdX12_style_141 adX12_style_141.2.2.2.2.2.2.2.2.2.2.2.2.1 rfl
theorem dX12_style_158 : decode cX12_style 158 = .ok (.getfield 245, 3) := dAt wdX12_style_141 adX12_style_141.2.2.2.2.2.2.2.2.2.2.2.2.2.1 rfl
theorem dX12_style_161 : decode cX12_style 161 = .ok (.ireturn, 1) := dAt wdX12_style_141 adX12_style_141.2.2.2.2.2.2.2.2.2.2.2.2.2.2 rfl
def bdX12_styleOf_0 : ByteArray := .mk #[2, 61, 3, 62, 29, 42, 180, 0, 8, 5, 46, 162, 0, 55, 19, 1, 17, 17, 2, 50, 29, 104, 96, 54, 4]
theorem wdX12_styleOf_0 : LocW cX12_styleOf 0 bdX12_styleOf_0 := loc_of (by decide +kernel)
theorem adX12_styleOf_0 : De bdX12_styleOf_0 0 (.iconst (-1)) 1 ∧ De bdX12_styleOf_0 1 (.istore_n 2) 1 ∧ De bdX12_styleOf_0 2 (.iconst 0) 1 ∧ De bdX12_styleOf_0 3 (.istore_n 3) 1 ∧ De bdX12_styleOf_0 4 (.iload_n 3) 1 ∧ De bdX12_styleOf_0 5 (.aload_n 0) 1 ∧ De bdX12_styleOf_0 6 (.getfield 8) 3 ∧ De bdX12_styleOf_0 9 (.iconst 2) 1 ∧ De bdX12_styleOf_0 10 (.iaload) 1 ∧ De bdX12_styleOf_0 11 (.if_icmp .ge 55) 3 ∧ De bdX12_styleOf_0 14 (.ldc_w 273) 3 ∧ De bdX12_styleOf_0 17 (.sipush 562) 3 ∧ De bdX12_styleOf_0 20 (.iload_n 3) 1 ∧ De bdX12_styleOf_0 21 (.imul) 1 ∧ De bdX12_styleOf_0 22 (.iadd) 1 ∧ De bdX12_styleOf_0 23 (.istore 4) 2 := by decide +kernel
theorem dX12_styleOf_0 : decode cX12_styleOf 0 = .ok (.iconst (-1), 1) := dAt wdX12_styleOf_0 adX12_styleOf_0.1 rfl
theorem dX12_styleOf_1 : decode cX12_styleOf 1 = .ok (.istore_n 2, 1) := dAt wdX12_styleOf_0 adX12_styleOf_0.2.1 rfl
theorem dX12_styleOf_2 : decode cX12_styleOf 2 = .ok (.iconst 0, 1) := dAt wdX12_styleOf_0 adX12_styleOf_0.2.2.1 rfl
theorem dX12_styleOf_3 : decode cX12_styleOf 3 = .ok (.istore_n 3, 1) := dAt wdX12_styleOf_0 adX12_styleOf_0.2.2.2.1 rfl
theorem dX12_styleOf_4 : decode cX12_styleOf 4 = .ok (.iload_n 3, 1) := dAt wdX12_styleOf_0 adX12_styleOf_0.2.2.2.2.1 rfl
theorem dX12_styleOf_5 : decode cX12_styleOf 5 = .ok (.aload_n 0, 1) := dAt wdX12_styleOf_0 adX12_styleOf_0.2.2.2.2.2.1 rfl
theorem dX12_styleOf_6 : decode cX12_styleOf 6 = .ok (.getfield 8, 3) := dAt wdX12_styleOf_0 adX12_styleOf_0.2.2.2.2.2.2.1 rfl
theorem dX12_styleOf_9 : decode cX12_styleOf 9 = .ok (.iconst 2, 1) := dAt wdX12_styleOf_0 adX12_styleOf_0.2.2.2.2.2.2.2.1 rfl
theorem dX12_styleOf_10 : decode cX12_styleOf 10 = .ok (.iaload, 1) := dAt wdX12_styleOf_0 adX12_styleOf_0.2.2.2.2.2.2.2.2.1 rfl
theorem dX12_styleOf_11 : decode cX12_styleOf 11 = .ok (.if_icmp .ge 55, 3) := dAt wdX12_styleOf_0 adX12_styleOf_0.2.2.2.2.2.2.2.2.2.1 rfl
theorem dX12_styleOf_14 : decode cX12_styleOf 14 = .ok (.ldc_w 273, 3) := dAt wdX12_styleOf_0 adX12_styleOf_0.2.2.2.2.2.2.2.2.2.2.1 rfl
theorem dX12_styleOf_17 : decode cX12_styleOf 17 = .ok (.sipush 562, 3) := dAt wdX12_styleOf_0 adX12_styleOf_0.2.2.2.2.2.2.2.2.2.2.2.1 rfl
theorem dX12_styleOf_20 : decode cX12_styleOf 20 = .ok (.iload_n 3, 1) := dAt wdX12_styleOf_0 adX12_styleOf_0.2.2.2.2.2.2.2.2.2.2.2.2.1 rfl
theorem dX12_styleOf_21 : decode cX12_styleOf 21 = .ok (.imul, 1) := dAt wdX12_styleOf_0 adX12_styleOf_0.2.2.2.2.2.2.2.2.2.2.2.2.2.1 rfl
theorem dX12_styleOf_22 : decode cX12_styleOf 22 = .ok (.iadd, 1) := dAt wdX12_styleOf_0 adX12_styleOf_0.2.2.2.2.2.2.2.2.2.2.2.2.2.2.1 rfl
theorem dX12_styleOf_23 : decode cX12_styleOf 23 = .ok (.istore 4, 2) := dAt wdX12_styleOf_0 adX12_styleOf_0.2.2.2.2.2.2.2.2.2.2.2.2.2.2.2 rfl
def bdX12_styleOf_25 : ByteArray := .mk #[42, 180, 0, 8, 21, 4, 46, 27, 163, 0, 27, 28, 2, 159, 0, 19, 42, 180, 0, 8, 21, 4, 46, 42, 180, 0, 8, 28]
theorem wdX12_styleOf_25 : LocW cX12_styleOf 25 bdX12_styleOf_25 := loc_of (by decide +kernel)
theorem adX12_styleOf_25 : De bdX12_styleOf_25 0 (.aload_n 0) 1 ∧ De bdX12_styleOf_25 1 (.getfield 8) 3 ∧ De bdX12_styleOf_25 4 (.iload 4) 2 ∧ De bdX12_styleOf_25 6 (.iaload) 1 ∧ De bdX12_styleOf_25 7 (.iload_n 1) 1 ∧ De bdX12_styleOf_25 8 (.if_icmp .gt 27) 3 ∧ De bdX12_styleOf_25 11 (.iload_n 2) 1 ∧ De bdX12_styleOf_25 12 (.iconst (-1)) 1 ∧ De bdX12_styleOf_25 13 (.if_icmp .eq 19) 3 ∧ De bdX12_styleOf_25 16 (.aload_n 0) 1 ∧ De bdX12_styleOf_25 17 (.getfield 8) 3 ∧ De bdX12_styleOf_25 20 (.iload 4) 2 ∧ De bdX12_styleOf_25 22 (.iaload) 1 ∧ De bdX12_styleOf_25 23 (.aload_n 0) 1 ∧ De bdX12_styleOf_25 24 (.getfield 8) 3 ∧ De bdX12_styleOf_25 27 (.iload_n 2) 1 := by decide +kernel
theorem dX12_styleOf_25 : decode cX12_styleOf 25 = .ok (.aload_n 0, 1) := dAt wdX12_styleOf_25 adX12_styleOf_25.1 rfl
theorem dX12_styleOf_26 : decode cX12_styleOf 26 = .ok (.getfield 8, 3) := dAt wdX12_styleOf_25 adX12_styleOf_25.2.1 rfl
theorem dX12_styleOf_29 : decode cX12_styleOf 29 = .ok (.iload 4, 2) := dAt wdX12_styleOf_25 adX12_styleOf_25.2.2.1 rfl
theorem dX12_styleOf_31 : decode cX12_styleOf 31 = .ok (.iaload, 1) := dAt wdX12_styleOf_25 adX12_styleOf_25.2.2.2.1 rfl
theorem dX12_styleOf_32 : decode cX12_styleOf 32 = .ok (.iload_n 1, 1) := dAt wdX12_styleOf_25 adX12_styleOf_25.2.2.2.2.1 rfl
theorem dX12_styleOf_33 : decode cX12_styleOf 33 = .ok (.if_icmp .gt 27, 3) := dAt wdX12_styleOf_25 adX12_styleOf_25.2.2.2.2.2.1 rfl
theorem dX12_styleOf_36 : decode cX12_styleOf 36 = .ok (.iload_n 2, 1) := dAt wdX12_styleOf_25 adX12_styleOf_25.2.2.2.2.2.2.1 rfl
theorem dX12_styleOf_37 : decode cX12_styleOf 37 = .ok (.iconst (-1), 1) := dAt wdX12_styleOf_25 adX12_styleOf_25.2.2.2.2.2.2.2.1 rfl
theorem dX12_styleOf_38 : decode cX12_styleOf 38 = .ok (.if_icmp .eq 19, 3) := dAt wdX12_styleOf_25 adX12_styleOf_25.2.2.2.2.2.2.2.2.1 rfl
theorem dX12_styleOf_41 : decode cX12_styleOf 41 = .ok (.aload_n 0, 1) := dAt wdX12_styleOf_25 adX12_styleOf_25.2.2.2.2.2.2.2.2.2.1 rfl
theorem dX12_styleOf_42 : decode cX12_styleOf 42 = .ok (.getfield 8, 3) := dAt wdX12_styleOf_25 adX12_styleOf_25.2.2.2.2.2.2.2.2.2.2.1 rfl
theorem dX12_styleOf_45 : decode cX12_styleOf 45 = .ok (.iload 4, 2) := dAt wdX12_styleOf_25 adX12_styleOf_25.2.2.2.2.2.2.2.2.2.2.2.1 rfl
theorem dX12_styleOf_47 : decode cX12_styleOf 47 = .ok (.iaload, 1) := dAt wdX12_styleOf_25 adX12_styleOf_25.2.2.2.2.2.2.2.2.2.2.2.2.1 rfl
theorem dX12_styleOf_48 : decode cX12_styleOf 48 = .ok (.aload_n 0, 1) := dAt wdX12_styleOf_25 adX12_styleOf_25.2.2.2.2.2.2.2.2.2.2.2.2.2.1 rfl
theorem dX12_styleOf_49 : decode cX12_styleOf 49 = .ok (.getfield 8, 3) := dAt wdX12_styleOf_25 adX12_styleOf_25.2.2.2.2.2.2.2.2.2.2.2.2.2.2.1 rfl
theorem dX12_styleOf_52 : decode cX12_styleOf 52 = .ok (.iload_n 2, 1) := dAt wdX12_styleOf_25 adX12_styleOf_25.2.2.2.2.2.2.2.2.2.2.2.2.2.2.2 rfl
def bdX12_styleOf_53 : ByteArray := .mk #[46, 161, 0, 6, 21, 4, 61, 132, 3, 1, 167, 255, 197, 28, 172]
theorem wdX12_styleOf_53 : LocW cX12_styleOf 53 bdX12_styleOf_53 := loc_of (by decide +kernel)
theorem adX12_styleOf_53 : De bdX12_styleOf_53 0 (.iaload) 1 ∧ De bdX12_styleOf_53 1 (.if_icmp .lt 6) 3 ∧ De bdX12_styleOf_53 4 (.iload 4) 2 ∧ De bdX12_styleOf_53 6 (.istore_n 2) 1 ∧ De bdX12_styleOf_53 7 (.iinc 3 1) 3 ∧ De bdX12_styleOf_53 10 (.goto (-59)) 3 ∧ De bdX12_styleOf_53 13 (.iload_n 2) 1 ∧ De bdX12_styleOf_53 14 (.ireturn) 1 := by decide +kernel
theorem dX12_styleOf_53 : decode cX12_styleOf 53 = .ok (.iaload, 1) := dAt wdX12_styleOf_53 adX12_styleOf_53.1 rfl
theorem dX12_styleOf_54 : decode cX12_styleOf 54 = .ok (.if_icmp .lt 6, 3) := dAt wdX12_styleOf_53 adX12_styleOf_53.2.1 rfl
theorem dX12_styleOf_57 : decode cX12_styleOf 57 = .ok (.iload 4, 2) := dAt wdX12_styleOf_53 adX12_styleOf_53.2.2.1 rfl
theorem dX12_styleOf_59 : decode cX12_styleOf 59 = .ok (.istore_n 2, 1) := dAt wdX12_styleOf_53 adX12_styleOf_53.2.2.2.1 rfl
theorem dX12_styleOf_60 : decode cX12_styleOf 60 = .ok (.iinc 3 1, 3) := dAt wdX12_styleOf_53 adX12_styleOf_53.2.2.2.2.1 rfl
theorem dX12_styleOf_63 : decode cX12_styleOf 63 = .ok (.goto (-59), 3) := dAt wdX12_styleOf_53 adX12_styleOf_53.2.2.2.2.2.1 rfl
theorem dX12_styleOf_66 : decode cX12_styleOf 66 = .ok (.iload_n 2, 1) := dAt wdX12_styleOf_53 adX12_styleOf_53.2.2.2.2.2.2.1 rfl
theorem dX12_styleOf_67 : decode cX12_styleOf 67 = .ok (.ireturn, 1) := dAt wdX12_styleOf_53 adX12_styleOf_53.2.2.2.2.2.2.2 rfl
def bdX12_holds_0 : ByteArray := .mk #[42, 180, 0, 8, 27, 5, 96, 8, 28, 104, 96, 6, 96, 46, 62, 42, 180, 0, 8, 27]
theorem wdX12_holds_0 : LocW cX12_holds 0 bdX12_holds_0 := loc_of (by decide +kernel)
theorem adX12_holds_0 : De bdX12_holds_0 0 (.aload_n 0) 1 ∧ De bdX12_holds_0 1 (.getfield 8) 3 ∧ De bdX12_holds_0 4 (.iload_n 1) 1 ∧ De bdX12_holds_0 5 (.iconst 2) 1 ∧ De bdX12_holds_0 6 (.iadd) 1 ∧ De bdX12_holds_0 7 (.iconst 5) 1 ∧ De bdX12_holds_0 8 (.iload_n 2) 1 ∧ De bdX12_holds_0 9 (.imul) 1 ∧ De bdX12_holds_0 10 (.iadd) 1 ∧ De bdX12_holds_0 11 (.iconst 3) 1 ∧ De bdX12_holds_0 12 (.iadd) 1 ∧ De bdX12_holds_0 13 (.iaload) 1 ∧ De bdX12_holds_0 14 (.istore_n 3) 1 ∧ De bdX12_holds_0 15 (.aload_n 0) 1 ∧ De bdX12_holds_0 16 (.getfield 8) 3 ∧ De bdX12_holds_0 19 (.iload_n 1) 1 := by decide +kernel
theorem dX12_holds_0 : decode cX12_holds 0 = .ok (.aload_n 0, 1) := dAt wdX12_holds_0 adX12_holds_0.1 rfl
theorem dX12_holds_1 : decode cX12_holds 1 = .ok (.getfield 8, 3) := dAt wdX12_holds_0 adX12_holds_0.2.1 rfl
theorem dX12_holds_4 : decode cX12_holds 4 = .ok (.iload_n 1, 1) := dAt wdX12_holds_0 adX12_holds_0.2.2.1 rfl
theorem dX12_holds_5 : decode cX12_holds 5 = .ok (.iconst 2, 1) := dAt wdX12_holds_0 adX12_holds_0.2.2.2.1 rfl
theorem dX12_holds_6 : decode cX12_holds 6 = .ok (.iadd, 1) := dAt wdX12_holds_0 adX12_holds_0.2.2.2.2.1 rfl
theorem dX12_holds_7 : decode cX12_holds 7 = .ok (.iconst 5, 1) := dAt wdX12_holds_0 adX12_holds_0.2.2.2.2.2.1 rfl
theorem dX12_holds_8 : decode cX12_holds 8 = .ok (.iload_n 2, 1) := dAt wdX12_holds_0 adX12_holds_0.2.2.2.2.2.2.1 rfl
theorem dX12_holds_9 : decode cX12_holds 9 = .ok (.imul, 1) := dAt wdX12_holds_0 adX12_holds_0.2.2.2.2.2.2.2.1 rfl
theorem dX12_holds_10 : decode cX12_holds 10 = .ok (.iadd, 1) := dAt wdX12_holds_0 adX12_holds_0.2.2.2.2.2.2.2.2.1 rfl
theorem dX12_holds_11 : decode cX12_holds 11 = .ok (.iconst 3, 1) := dAt wdX12_holds_0 adX12_holds_0.2.2.2.2.2.2.2.2.2.1 rfl
theorem dX12_holds_12 : decode cX12_holds 12 = .ok (.iadd, 1) := dAt wdX12_holds_0 adX12_holds_0.2.2.2.2.2.2.2.2.2.2.1 rfl
theorem dX12_holds_13 : decode cX12_holds 13 = .ok (.iaload, 1) := dAt wdX12_holds_0 adX12_holds_0.2.2.2.2.2.2.2.2.2.2.2.1 rfl
theorem dX12_holds_14 : decode cX12_holds 14 = .ok (.istore_n 3, 1) := dAt wdX12_holds_0 adX12_holds_0.2.2.2.2.2.2.2.2.2.2.2.2.1 rfl
theorem dX12_holds_15 : decode cX12_holds 15 = .ok (.aload_n 0, 1) := dAt wdX12_holds_0 adX12_holds_0.2.2.2.2.2.2.2.2.2.2.2.2.2.1 rfl
theorem dX12_holds_16 : decode cX12_holds 16 = .ok (.getfield 8, 3) := dAt wdX12_holds_0 adX12_holds_0.2.2.2.2.2.2.2.2.2.2.2.2.2.2.1 rfl
theorem dX12_holds_19 : decode cX12_holds 19 = .ok (.iload_n 1, 1) := dAt wdX12_holds_0 adX12_holds_0.2.2.2.2.2.2.2.2.2.2.2.2.2.2.2 rfl
def bdX12_holds_20 : ByteArray := .mk #[5, 96, 8, 28, 104, 96, 7, 96, 46, 54, 4, 21, 4, 154, 0, 5, 4, 172, 42, 3]
theorem wdX12_holds_20 : LocW cX12_holds 20 bdX12_holds_20 := loc_of (by decide +kernel)
theorem adX12_holds_20 : De bdX12_holds_20 0 (.iconst 2) 1 ∧ De bdX12_holds_20 1 (.iadd) 1 ∧ De bdX12_holds_20 2 (.iconst 5) 1 ∧ De bdX12_holds_20 3 (.iload_n 2) 1 ∧ De bdX12_holds_20 4 (.imul) 1 ∧ De bdX12_holds_20 5 (.iadd) 1 ∧ De bdX12_holds_20 6 (.iconst 4) 1 ∧ De bdX12_holds_20 7 (.iadd) 1 ∧ De bdX12_holds_20 8 (.iaload) 1 ∧ De bdX12_holds_20 9 (.istore 4) 2 ∧ De bdX12_holds_20 11 (.iload 4) 2 ∧ De bdX12_holds_20 13 (.ifCond .ne 5) 3 ∧ De bdX12_holds_20 16 (.iconst 1) 1 ∧ De bdX12_holds_20 17 (.ireturn) 1 ∧ De bdX12_holds_20 18 (.aload_n 0) 1 ∧ De bdX12_holds_20 19 (.iconst 0) 1 := by decide +kernel
theorem dX12_holds_20 : decode cX12_holds 20 = .ok (.iconst 2, 1) := dAt wdX12_holds_20 adX12_holds_20.1 rfl
theorem dX12_holds_21 : decode cX12_holds 21 = .ok (.iadd, 1) := dAt wdX12_holds_20 adX12_holds_20.2.1 rfl
theorem dX12_holds_22 : decode cX12_holds 22 = .ok (.iconst 5, 1) := dAt wdX12_holds_20 adX12_holds_20.2.2.1 rfl
theorem dX12_holds_23 : decode cX12_holds 23 = .ok (.iload_n 2, 1) := dAt wdX12_holds_20 adX12_holds_20.2.2.2.1 rfl
theorem dX12_holds_24 : decode cX12_holds 24 = .ok (.imul, 1) := dAt wdX12_holds_20 adX12_holds_20.2.2.2.2.1 rfl
theorem dX12_holds_25 : decode cX12_holds 25 = .ok (.iadd, 1) := dAt wdX12_holds_20 adX12_holds_20.2.2.2.2.2.1 rfl
theorem dX12_holds_26 : decode cX12_holds 26 = .ok (.iconst 4, 1) := dAt wdX12_holds_20 adX12_holds_20.2.2.2.2.2.2.1 rfl
theorem dX12_holds_27 : decode cX12_holds 27 = .ok (.iadd, 1) := dAt wdX12_holds_20 adX12_holds_20.2.2.2.2.2.2.2.1 rfl
theorem dX12_holds_28 : decode cX12_holds 28 = .ok (.iaload, 1) := dAt wdX12_holds_20 adX12_holds_20.2.2.2.2.2.2.2.2.1 rfl
theorem dX12_holds_29 : decode cX12_holds 29 = .ok (.istore 4, 2) := dAt wdX12_holds_20 adX12_holds_20.2.2.2.2.2.2.2.2.2.1 rfl
theorem dX12_holds_31 : decode cX12_holds 31 = .ok (.iload 4, 2) := dAt wdX12_holds_20 adX12_holds_20.2.2.2.2.2.2.2.2.2.2.1 rfl
theorem dX12_holds_33 : decode cX12_holds 33 = .ok (.ifCond .ne 5, 3) := dAt wdX12_holds_20 adX12_holds_20.2.2.2.2.2.2.2.2.2.2.2.1 rfl
theorem dX12_holds_36 : decode cX12_holds 36 = .ok (.iconst 1, 1) := dAt wdX12_holds_20 adX12_holds_20.2.2.2.2.2.2.2.2.2.2.2.2.1 rfl
theorem dX12_holds_37 : decode cX12_holds 37 = .ok (.ireturn, 1) := dAt wdX12_holds_20 adX12_holds_20.2.2.2.2.2.2.2.2.2.2.2.2.2.1 rfl
theorem dX12_holds_38 : decode cX12_holds 38 = .ok (.aload_n 0, 1) := dAt wdX12_holds_20 adX12_holds_20.2.2.2.2.2.2.2.2.2.2.2.2.2.2.1 rfl
theorem dX12_holds_39 : decode cX12_holds 39 = .ok (.iconst 0, 1) := dAt wdX12_holds_20 adX12_holds_20.2.2.2.2.2.2.2.2.2.2.2.2.2.2.2 rfl
def bdX12_holds_40 : ByteArray := .mk #[181, 1, 18, 3, 54, 5, 21, 5, 21, 4, 162, 1, 54, 42, 180, 0, 8, 27, 29, 96, 21, 5, 96, 46, 54, 6, 21, 6]
theorem wdX12_holds_40 : LocW cX12_holds 40 bdX12_holds_40 := loc_of (by decide +kernel)
theorem adX12_holds_40 : De bdX12_holds_40 0 (.putfield 274) 3 ∧ De bdX12_holds_40 3 (.iconst 0) 1 ∧ De bdX12_holds_40 4 (.istore 5) 2 ∧ De bdX12_holds_40 6 (.iload 5) 2 ∧ De bdX12_holds_40 8 (.iload 4) 2 ∧ De bdX12_holds_40 10 (.if_icmp .ge 310) 3 ∧ De bdX12_holds_40 13 (.aload_n 0) 1 ∧ De bdX12_holds_40 14 (.getfield 8) 3 ∧ De bdX12_holds_40 17 (.iload_n 1) 1 ∧ De bdX12_holds_40 18 (.iload_n 3) 1 ∧ De bdX12_holds_40 19 (.iadd) 1 ∧ De bdX12_holds_40 20 (.iload 5) 2 ∧ De bdX12_holds_40 22 (.iadd) 1 ∧ De bdX12_holds_40 23 (.iaload) 1 ∧ De bdX12_holds_40 24 (.istore 6) 2 ∧ De bdX12_holds_40 26 (.iload 6) 2 := by decide +kernel
theorem dX12_holds_40 : decode cX12_holds 40 = .ok (.putfield 274, 3) := dAt wdX12_holds_40 adX12_holds_40.1 rfl
theorem dX12_holds_43 : decode cX12_holds 43 = .ok (.iconst 0, 1) := dAt wdX12_holds_40 adX12_holds_40.2.1 rfl
theorem dX12_holds_44 : decode cX12_holds 44 = .ok (.istore 5, 2) := dAt wdX12_holds_40 adX12_holds_40.2.2.1 rfl
theorem dX12_holds_46 : decode cX12_holds 46 = .ok (.iload 5, 2) := dAt wdX12_holds_40 adX12_holds_40.2.2.2.1 rfl
theorem dX12_holds_48 : decode cX12_holds 48 = .ok (.iload 4, 2) := dAt wdX12_holds_40 adX12_holds_40.2.2.2.2.1 rfl
theorem dX12_holds_50 : decode cX12_holds 50 = .ok (.if_icmp .ge 310, 3) := dAt wdX12_holds_40 adX12_holds_40.2.2.2.2.2.1 rfl
theorem dX12_holds_53 : decode cX12_holds 53 = .ok (.aload_n 0, 1) := dAt wdX12_holds_40 adX12_holds_40.2.2.2.2.2.2.1 rfl
theorem dX12_holds_54 : decode cX12_holds 54 = .ok (.getfield 8, 3) := dAt wdX12_holds_40 adX12_holds_40.2.2.2.2.2.2.2.1 rfl
theorem dX12_holds_57 : decode cX12_holds 57 = .ok (.iload_n 1, 1) := dAt wdX12_holds_40 adX12_holds_40.2.2.2.2.2.2.2.2.1 rfl
theorem dX12_holds_58 : decode cX12_holds 58 = .ok (.iload_n 3, 1) := dAt wdX12_holds_40 adX12_holds_40.2.2.2.2.2.2.2.2.2.1 rfl
theorem dX12_holds_59 : decode cX12_holds 59 = .ok (.iadd, 1) := dAt wdX12_holds_40 adX12_holds_40.2.2.2.2.2.2.2.2.2.2.1 rfl
theorem dX12_holds_60 : decode cX12_holds 60 = .ok (.iload 5, 2) := dAt wdX12_holds_40 adX12_holds_40.2.2.2.2.2.2.2.2.2.2.2.1 rfl
theorem dX12_holds_62 : decode cX12_holds 62 = .ok (.iadd, 1) := dAt wdX12_holds_40 adX12_holds_40.2.2.2.2.2.2.2.2.2.2.2.2.1 rfl
theorem dX12_holds_63 : decode cX12_holds 63 = .ok (.iaload, 1) := dAt wdX12_holds_40 adX12_holds_40.2.2.2.2.2.2.2.2.2.2.2.2.2.1 rfl
theorem dX12_holds_64 : decode cX12_holds 64 = .ok (.istore 6, 2) := dAt wdX12_holds_40 adX12_holds_40.2.2.2.2.2.2.2.2.2.2.2.2.2.2.1 rfl
theorem dX12_holds_66 : decode cX12_holds 66 = .ok (.iload 6, 2) := dAt wdX12_holds_40 adX12_holds_40.2.2.2.2.2.2.2.2.2.2.2.2.2.2.2 rfl
def bdX12_holds_68 : ByteArray := .mk #[4, 160, 0, 46, 42, 180, 0, 52, 42, 180, 1, 18, 42, 180, 0, 45, 42, 180, 0, 8, 27, 29, 96, 21, 5, 96, 4]
theorem wdX12_holds_68 : LocW cX12_holds 68 bdX12_holds_68 := loc_of (by decide +kernel)
theorem adX12_holds_68 : De bdX12_holds_68 0 (.iconst 1) 1 ∧ De bdX12_holds_68 1 (.if_icmp .ne 46) 3 ∧ De bdX12_holds_68 4 (.aload_n 0) 1 ∧ De bdX12_holds_68 5 (.getfield 52) 3 ∧ De bdX12_holds_68 8 (.aload_n 0) 1 ∧ De bdX12_holds_68 9 (.getfield 274) 3 ∧ De bdX12_holds_68 12 (.aload_n 0) 1 ∧ De bdX12_holds_68 13 (.getfield 45) 3 ∧ De bdX12_holds_68 16 (.aload_n 0) 1 ∧ De bdX12_holds_68 17 (.getfield 8) 3 ∧ De bdX12_holds_68 20 (.iload_n 1) 1 ∧ De bdX12_holds_68 21 (.iload_n 3) 1 ∧ De bdX12_holds_68 22 (.iadd) 1 ∧ De bdX12_holds_68 23 (.iload 5) 2 ∧ De bdX12_holds_68 25 (.iadd) 1 ∧ De bdX12_holds_68 26 (.iconst 1) 1 := by decide +kernel
theorem dX12_holds_68 : decode cX12_holds 68 = .ok (.iconst 1, 1) := dAt wdX12_holds_68 adX12_holds_68.1 rfl
theorem dX12_holds_69 : decode cX12_holds 69 = .ok (.if_icmp .ne 46, 3) := dAt wdX12_holds_68 adX12_holds_68.2.1 rfl
theorem dX12_holds_72 : decode cX12_holds 72 = .ok (.aload_n 0, 1) := dAt wdX12_holds_68 adX12_holds_68.2.2.1 rfl
theorem dX12_holds_73 : decode cX12_holds 73 = .ok (.getfield 52, 3) := dAt wdX12_holds_68 adX12_holds_68.2.2.2.1 rfl
theorem dX12_holds_76 : decode cX12_holds 76 = .ok (.aload_n 0, 1) := dAt wdX12_holds_68 adX12_holds_68.2.2.2.2.1 rfl
theorem dX12_holds_77 : decode cX12_holds 77 = .ok (.getfield 274, 3) := dAt wdX12_holds_68 adX12_holds_68.2.2.2.2.2.1 rfl
theorem dX12_holds_80 : decode cX12_holds 80 = .ok (.aload_n 0, 1) := dAt wdX12_holds_68 adX12_holds_68.2.2.2.2.2.2.1 rfl
theorem dX12_holds_81 : decode cX12_holds 81 = .ok (.getfield 45, 3) := dAt wdX12_holds_68 adX12_holds_68.2.2.2.2.2.2.2.1 rfl
theorem dX12_holds_84 : decode cX12_holds 84 = .ok (.aload_n 0, 1) := dAt wdX12_holds_68 adX12_holds_68.2.2.2.2.2.2.2.2.1 rfl
theorem dX12_holds_85 : decode cX12_holds 85 = .ok (.getfield 8, 3) := dAt wdX12_holds_68 adX12_holds_68.2.2.2.2.2.2.2.2.2.1 rfl
theorem dX12_holds_88 : decode cX12_holds 88 = .ok (.iload_n 1, 1) := dAt wdX12_holds_68 adX12_holds_68.2.2.2.2.2.2.2.2.2.2.1 rfl
theorem dX12_holds_89 : decode cX12_holds 89 = .ok (.iload_n 3, 1) := dAt wdX12_holds_68 adX12_holds_68.2.2.2.2.2.2.2.2.2.2.2.1 rfl
theorem dX12_holds_90 : decode cX12_holds 90 = .ok (.iadd, 1) := dAt wdX12_holds_68 adX12_holds_68.2.2.2.2.2.2.2.2.2.2.2.2.1 rfl
theorem dX12_holds_91 : decode cX12_holds 91 = .ok (.iload 5, 2) := dAt wdX12_holds_68 adX12_holds_68.2.2.2.2.2.2.2.2.2.2.2.2.2.1 rfl
theorem dX12_holds_93 : decode cX12_holds 93 = .ok (.iadd, 1) := dAt wdX12_holds_68 adX12_holds_68.2.2.2.2.2.2.2.2.2.2.2.2.2.2.1 rfl
theorem dX12_holds_94 : decode cX12_holds 94 = .ok (.iconst 1, 1) := dAt wdX12_holds_68 adX12_holds_68.2.2.2.2.2.2.2.2.2.2.2.2.2.2.2 rfl
def bdX12_holds_95 : ByteArray := .mk #[96, 46, 51, 84, 42, 89, 180, 1, 18, 4, 96, 181, 1, 18, 132, 5, 2, 167, 0, 245, 21, 6, 5, 159, 0, 9, 21, 6]
theorem wdX12_holds_95 : LocW cX12_holds 95 bdX12_holds_95 := loc_of (by decide +kernel)
theorem adX12_holds_95 : De bdX12_holds_95 0 (.iadd) 1 ∧ De bdX12_holds_95 1 (.iaload) 1 ∧ De bdX12_holds_95 2 (.baload) 1 ∧ De bdX12_holds_95 3 (.bastore) 1 ∧ De bdX12_holds_95 4 (.aload_n 0) 1 ∧ De bdX12_holds_95 5 (.dup) 1 ∧ De bdX12_holds_95 6 (.getfield 274) 3 ∧ De bdX12_holds_95 9 (.iconst 1) 1 ∧ De bdX12_holds_95 10 (.iadd) 1 ∧ De bdX12_holds_95 11 (.putfield 274) 3 ∧ De bdX12_holds_95 14 (.iinc 5 2) 3 ∧ De bdX12_holds_95 17 (.goto 245) 3 ∧ De bdX12_holds_95 20 (.iload 6) 2 ∧ De bdX12_holds_95 22 (.iconst 2) 1 ∧ De bdX12_holds_95 23 (.if_icmp .eq 9) 3 ∧ De bdX12_holds_95 26 (.iload 6) 2 := by decide +kernel
theorem dX12_holds_95 : decode cX12_holds 95 = .ok (.iadd, 1) := dAt wdX12_holds_95 adX12_holds_95.1 rfl
theorem dX12_holds_96 : decode cX12_holds 96 = .ok (.iaload, 1) := dAt wdX12_holds_95 adX12_holds_95.2.1 rfl
theorem dX12_holds_97 : decode cX12_holds 97 = .ok (.baload, 1) := dAt wdX12_holds_95 adX12_holds_95.2.2.1 rfl
theorem dX12_holds_98 : decode cX12_holds 98 = .ok (.bastore, 1) := dAt wdX12_holds_95 adX12_holds_95.2.2.2.1 rfl
theorem dX12_holds_99 : decode cX12_holds 99 = .ok (.aload_n 0, 1) := dAt wdX12_holds_95 adX12_holds_95.2.2.2.2.1 rfl
theorem dX12_holds_100 : decode cX12_holds 100 = .ok (.dup, 1) := dAt wdX12_holds_95 adX12_holds_95.2.2.2.2.2.1 rfl
theorem dX12_holds_101 : decode cX12_holds 101 = .ok (.getfield 274, 3) := dAt wdX12_holds_95 adX12_holds_95.2.2.2.2.2.2.1 rfl
theorem dX12_holds_104 : decode cX12_holds 104 = .ok (.iconst 1, 1) := dAt wdX12_holds_95 adX12_holds_95.2.2.2.2.2.2.2.1 rfl
theorem dX12_holds_105 : decode cX12_holds 105 = .ok (.iadd, 1) := dAt wdX12_holds_95 adX12_holds_95.2.2.2.2.2.2.2.2.1 rfl
theorem dX12_holds_106 : decode cX12_holds 106 = .ok (.putfield 274, 3) := dAt wdX12_holds_95 adX12_holds_95.2.2.2.2.2.2.2.2.2.1 rfl
theorem dX12_holds_109 : decode cX12_holds 109 = .ok (.iinc 5 2, 3) := dAt wdX12_holds_95 adX12_holds_95.2.2.2.2.2.2.2.2.2.2.1 rfl
theorem dX12_holds_112 : decode cX12_holds 112 = .ok (.goto 245, 3) := dAt wdX12_holds_95 adX12_holds_95.2.2.2.2.2.2.2.2.2.2.2.1 rfl
theorem dX12_holds_115 : decode cX12_holds 115 = .ok (.iload 6, 2) := dAt wdX12_holds_95 adX12_holds_95.2.2.2.2.2.2.2.2.2.2.2.2.1 rfl
theorem dX12_holds_117 : decode cX12_holds 117 = .ok (.iconst 2, 1) := dAt wdX12_holds_95 adX12_holds_95.2.2.2.2.2.2.2.2.2.2.2.2.2.1 rfl
theorem dX12_holds_118 : decode cX12_holds 118 = .ok (.if_icmp .eq 9, 3) := dAt wdX12_holds_95 adX12_holds_95.2.2.2.2.2.2.2.2.2.2.2.2.2.2.1 rfl
theorem dX12_holds_121 : decode cX12_holds 121 = .ok (.iload 6, 2) := dAt wdX12_holds_95 adX12_holds_95.2.2.2.2.2.2.2.2.2.2.2.2.2.2.2 rfl
def bdX12_holds_123 : ByteArray := .mk #[6, 160, 0, 96, 42, 180, 0, 49, 42, 180, 0, 8, 27, 29, 96, 21, 5, 96, 4, 96, 46, 46, 54, 7]
theorem wdX12_holds_123 : LocW cX12_holds 123 bdX12_holds_123 := loc_of (by decide +kernel)
theorem adX12_holds_123 : De bdX12_holds_123 0 (.iconst 3) 1 ∧ De bdX12_holds_123 1 (.if_icmp .ne 96) 3 ∧ De bdX12_holds_123 4 (.aload_n 0) 1 ∧ De bdX12_holds_123 5 (.getfield 49) 3 ∧ De bdX12_holds_123 8 (.aload_n 0) 1 ∧ De bdX12_holds_123 9 (.getfield 8) 3 ∧ De bdX12_holds_123 12 (.iload_n 1) 1 ∧ De bdX12_holds_123 13 (.iload_n 3) 1 ∧ De bdX12_holds_123 14 (.iadd) 1 ∧ De bdX12_holds_123 15 (.iload 5) 2 ∧ De bdX12_holds_123 17 (.iadd) 1 ∧ De bdX12_holds_123 18 (.iconst 1) 1 ∧ De bdX12_holds_123 19 (.iadd) 1 ∧ De bdX12_holds_123 20 (.iaload) 1 ∧ De bdX12_holds_123 21 (.iaload) 1 ∧ De bdX12_holds_123 22 (.istore 7) 2 := by decide +kernel
theorem dX12_holds_123 : decode cX12_holds 123 = .ok (.iconst 3, 1) := dAt wdX12_holds_123 adX12_holds_123.1 rfl
theorem dX12_holds_124 : decode cX12_holds 124 = .ok (.if_icmp .ne 96, 3) := dAt wdX12_holds_123 adX12_holds_123.2.1 rfl
theorem dX12_holds_127 : decode cX12_holds 127 = .ok (.aload_n 0, 1) := dAt wdX12_holds_123 adX12_holds_123.2.2.1 rfl
theorem dX12_holds_128 : decode cX12_holds 128 = .ok (.getfield 49, 3) := dAt wdX12_holds_123 adX12_holds_123.2.2.2.1 rfl
theorem dX12_holds_131 : decode cX12_holds 131 = .ok (.aload_n 0, 1) := dAt wdX12_holds_123 adX12_holds_123.2.2.2.2.1 rfl
theorem dX12_holds_132 : decode cX12_holds 132 = .ok (.getfield 8, 3) := dAt wdX12_holds_123 adX12_holds_123.2.2.2.2.2.1 rfl
theorem dX12_holds_135 : decode cX12_holds 135 = .ok (.iload_n 1, 1) := dAt wdX12_holds_123 adX12_holds_123.2.2.2.2.2.2.1 rfl
theorem dX12_holds_136 : decode cX12_holds 136 = .ok (.iload_n 3, 1) := dAt wdX12_holds_123 adX12_holds_123.2.2.2.2.2.2.2.1 rfl
theorem dX12_holds_137 : decode cX12_holds 137 = .ok (.iadd, 1) := dAt wdX12_holds_123 adX12_holds_123.2.2.2.2.2.2.2.2.1 rfl
theorem dX12_holds_138 : decode cX12_holds 138 = .ok (.iload 5, 2) := dAt wdX12_holds_123 adX12_holds_123.2.2.2.2.2.2.2.2.2.1 rfl
theorem dX12_holds_140 : decode cX12_holds 140 = .ok (.iadd, 1) := dAt wdX12_holds_123 adX12_holds_123.2.2.2.2.2.2.2.2.2.2.1 rfl
theorem dX12_holds_141 : decode cX12_holds 141 = .ok (.iconst 1, 1) := dAt wdX12_holds_123 adX12_holds_123.2.2.2.2.2.2.2.2.2.2.2.1 rfl
theorem dX12_holds_142 : decode cX12_holds 142 = .ok (.iadd, 1) := dAt wdX12_holds_123 adX12_holds_123.2.2.2.2.2.2.2.2.2.2.2.2.1 rfl
theorem dX12_holds_143 : decode cX12_holds 143 = .ok (.iaload, 1) := dAt wdX12_holds_123 adX12_holds_123.2.2.2.2.2.2.2.2.2.2.2.2.2.1 rfl
theorem dX12_holds_144 : decode cX12_holds 144 = .ok (.iaload, 1) := dAt wdX12_holds_123 adX12_holds_123.2.2.2.2.2.2.2.2.2.2.2.2.2.2.1 rfl
theorem dX12_holds_145 : decode cX12_holds 145 = .ok (.istore 7, 2) := dAt wdX12_holds_123 adX12_holds_123.2.2.2.2.2.2.2.2.2.2.2.2.2.2.2 rfl
def bdX12_holds_147 : ByteArray := .mk #[42, 180, 0, 8, 27, 29, 96, 21, 5, 96, 5, 96, 46, 54, 8, 42, 180, 0, 52, 42, 180, 1, 18, 21, 6]
theorem wdX12_holds_147 : LocW cX12_holds 147 bdX12_holds_147 := loc_of (by decide +kernel)
theorem adX12_holds_147 : De bdX12_holds_147 0 (.aload_n 0) 1 ∧ De bdX12_holds_147 1 (.getfield 8) 3 ∧ De bdX12_holds_147 4 (.iload_n 1) 1 ∧ De bdX12_holds_147 5 (.iload_n 3) 1 ∧ De bdX12_holds_147 6 (.iadd) 1 ∧ De bdX12_holds_147 7 (.iload 5) 2 ∧ De bdX12_holds_147 9 (.iadd) 1 ∧ De bdX12_holds_147 10 (.iconst 2) 1 ∧ De bdX12_holds_147 11 (.iadd) 1 ∧ De bdX12_holds_147 12 (.iaload) 1 ∧ De bdX12_holds_147 13 (.istore 8) 2 ∧ De bdX12_holds_147 15 (.aload_n 0) 1 ∧ De bdX12_holds_147 16 (.getfield 52) 3 ∧ De bdX12_holds_147 19 (.aload_n 0) 1 ∧ De bdX12_holds_147 20 (.getfield 274) 3 ∧ De bdX12_holds_147 23 (.iload 6) 2 := by decide +kernel
theorem dX12_holds_147 : decode cX12_holds 147 = .ok (.aload_n 0, 1) := dAt wdX12_holds_147 adX12_holds_147.1 rfl
theorem dX12_holds_148 : decode cX12_holds 148 = .ok (.getfield 8, 3) := dAt wdX12_holds_147 adX12_holds_147.2.1 rfl
theorem dX12_holds_151 : decode cX12_holds 151 = .ok (.iload_n 1, 1) := dAt wdX12_holds_147 adX12_holds_147.2.2.1 rfl
theorem dX12_holds_152 : decode cX12_holds 152 = .ok (.iload_n 3, 1) := dAt wdX12_holds_147 adX12_holds_147.2.2.2.1 rfl
theorem dX12_holds_153 : decode cX12_holds 153 = .ok (.iadd, 1) := dAt wdX12_holds_147 adX12_holds_147.2.2.2.2.1 rfl
theorem dX12_holds_154 : decode cX12_holds 154 = .ok (.iload 5, 2) := dAt wdX12_holds_147 adX12_holds_147.2.2.2.2.2.1 rfl
theorem dX12_holds_156 : decode cX12_holds 156 = .ok (.iadd, 1) := dAt wdX12_holds_147 adX12_holds_147.2.2.2.2.2.2.1 rfl
theorem dX12_holds_157 : decode cX12_holds 157 = .ok (.iconst 2, 1) := dAt wdX12_holds_147 adX12_holds_147.2.2.2.2.2.2.2.1 rfl
theorem dX12_holds_158 : decode cX12_holds 158 = .ok (.iadd, 1) := dAt wdX12_holds_147 adX12_holds_147.2.2.2.2.2.2.2.2.1 rfl
theorem dX12_holds_159 : decode cX12_holds 159 = .ok (.iaload, 1) := dAt wdX12_holds_147 adX12_holds_147.2.2.2.2.2.2.2.2.2.1 rfl
theorem dX12_holds_160 : decode cX12_holds 160 = .ok (.istore 8, 2) := dAt wdX12_holds_147 adX12_holds_147.2.2.2.2.2.2.2.2.2.2.1 rfl
theorem dX12_holds_162 : decode cX12_holds 162 = .ok (.aload_n 0, 1) := dAt wdX12_holds_147 adX12_holds_147.2.2.2.2.2.2.2.2.2.2.2.1 rfl
theorem dX12_holds_163 : decode cX12_holds 163 = .ok (.getfield 52, 3) := dAt wdX12_holds_147 adX12_holds_147.2.2.2.2.2.2.2.2.2.2.2.2.1 rfl
theorem dX12_holds_166 : decode cX12_holds 166 = .ok (.aload_n 0, 1) := dAt wdX12_holds_147 adX12_holds_147.2.2.2.2.2.2.2.2.2.2.2.2.2.1 rfl
theorem dX12_holds_167 : decode cX12_holds 167 = .ok (.getfield 274, 3) := dAt wdX12_holds_147 adX12_holds_147.2.2.2.2.2.2.2.2.2.2.2.2.2.2.1 rfl
theorem dX12_holds_170 : decode cX12_holds 170 = .ok (.iload 6, 2) := dAt wdX12_holds_147 adX12_holds_147.2.2.2.2.2.2.2.2.2.2.2.2.2.2.2 rfl
def bdX12_holds_172 : ByteArray := .mk #[5, 160, 0, 18, 21, 7, 21, 8, 162, 0, 7, 4, 167, 0, 19, 3, 167, 0, 15, 21, 7, 21, 8, 164, 0, 7, 4, 167, 0, 4, 3, 84]
theorem wdX12_holds_172 : LocW cX12_holds 172 bdX12_holds_172 := loc_of (by decide +kernel)
theorem adX12_holds_172 : De bdX12_holds_172 0 (.iconst 2) 1 ∧ De bdX12_holds_172 1 (.if_icmp .ne 18) 3 ∧ De bdX12_holds_172 4 (.iload 7) 2 ∧ De bdX12_holds_172 6 (.iload 8) 2 ∧ De bdX12_holds_172 8 (.if_icmp .ge 7) 3 ∧ De bdX12_holds_172 11 (.iconst 1) 1 ∧ De bdX12_holds_172 12 (.goto 19) 3 ∧ De bdX12_holds_172 15 (.iconst 0) 1 ∧ De bdX12_holds_172 16 (.goto 15) 3 ∧ De bdX12_holds_172 19 (.iload 7) 2 ∧ De bdX12_holds_172 21 (.iload 8) 2 ∧ De bdX12_holds_172 23 (.if_icmp .le 7) 3 ∧ De bdX12_holds_172 26 (.iconst 1) 1 ∧ De bdX12_holds_172 27 (.goto 4) 3 ∧ De bdX12_holds_172 30 (.iconst 0) 1 ∧ De bdX12_holds_172 31 (.bastore) 1 := by decide +kernel
theorem dX12_holds_172 : decode cX12_holds 172 = .ok (.iconst 2, 1) := dAt wdX12_holds_172 adX12_holds_172.1 rfl
theorem dX12_holds_173 : decode cX12_holds 173 = .ok (.if_icmp .ne 18, 3) := dAt wdX12_holds_172 adX12_holds_172.2.1 rfl
theorem dX12_holds_176 : decode cX12_holds 176 = .ok (.iload 7, 2) := dAt wdX12_holds_172 adX12_holds_172.2.2.1 rfl
theorem dX12_holds_178 : decode cX12_holds 178 = .ok (.iload 8, 2) := dAt wdX12_holds_172 adX12_holds_172.2.2.2.1 rfl
theorem dX12_holds_180 : decode cX12_holds 180 = .ok (.if_icmp .ge 7, 3) := dAt wdX12_holds_172 adX12_holds_172.2.2.2.2.1 rfl
theorem dX12_holds_183 : decode cX12_holds 183 = .ok (.iconst 1, 1) := dAt wdX12_holds_172 adX12_holds_172.2.2.2.2.2.1 rfl
theorem dX12_holds_184 : decode cX12_holds 184 = .ok (.goto 19, 3) := dAt wdX12_holds_172 adX12_holds_172.2.2.2.2.2.2.1 rfl
theorem dX12_holds_187 : decode cX12_holds 187 = .ok (.iconst 0, 1) := dAt wdX12_holds_172 adX12_holds_172.2.2.2.2.2.2.2.1 rfl
theorem dX12_holds_188 : decode cX12_holds 188 = .ok (.goto 15, 3) := dAt wdX12_holds_172 adX12_holds_172.2.2.2.2.2.2.2.2.1 rfl
theorem dX12_holds_191 : decode cX12_holds 191 = .ok (.iload 7, 2) := dAt wdX12_holds_172 adX12_holds_172.2.2.2.2.2.2.2.2.2.1 rfl
theorem dX12_holds_193 : decode cX12_holds 193 = .ok (.iload 8, 2) := dAt wdX12_holds_172 adX12_holds_172.2.2.2.2.2.2.2.2.2.2.1 rfl
theorem dX12_holds_195 : decode cX12_holds 195 = .ok (.if_icmp .le 7, 3) := dAt wdX12_holds_172 adX12_holds_172.2.2.2.2.2.2.2.2.2.2.2.1 rfl
theorem dX12_holds_198 : decode cX12_holds 198 = .ok (.iconst 1, 1) := dAt wdX12_holds_172 adX12_holds_172.2.2.2.2.2.2.2.2.2.2.2.2.1 rfl
theorem dX12_holds_199 : decode cX12_holds 199 = .ok (.goto 4, 3) := dAt wdX12_holds_172 adX12_holds_172.2.2.2.2.2.2.2.2.2.2.2.2.2.1 rfl
theorem dX12_holds_202 : decode cX12_holds 202 = .ok (.iconst 0, 1) := dAt wdX12_holds_172 adX12_holds_172.2.2.2.2.2.2.2.2.2.2.2.2.2.2.1 rfl
theorem dX12_holds_203 : decode cX12_holds 203 = .ok (.bastore, 1) := dAt wdX12_holds_172 adX12_holds_172.2.2.2.2.2.2.2.2.2.2.2.2.2.2.2 rfl
