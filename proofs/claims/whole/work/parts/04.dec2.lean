theorem dX9_addCode_8 : decode cX9_addCode 8 = .ok (.getfield 28, 3) := by decide +kernel
theorem dX9_addCode_11 : decode cX9_addCode 11 = .ok (.aload_n 0, 1) := by decide +kernel
theorem dX9_addCode_12 : decode cX9_addCode 12 = .ok (.getfield 15, 3) := by decide +kernel
theorem dX9_addCode_15 : decode cX9_addCode 15 = .ok (.iconst 1, 1) := by decide +kernel
theorem dX9_addCode_16 : decode cX9_addCode 16 = .ok (.isub, 1) := by decide +kernel
theorem dX9_addCode_17 : decode cX9_addCode 17 = .ok (.iaload, 1) := by decide +kernel
theorem dX9_addCode_18 : decode cX9_addCode 18 = .ok (.aload_n 0, 1) := by decide +kernel
theorem dX9_addCode_19 : decode cX9_addCode 19 = .ok (.getfield 31, 3) := by decide +kernel
theorem dX9_addCode_22 : decode cX9_addCode 22 = .ok (.arraylength, 1) := by decide +kernel
theorem dX9_addCode_23 : decode cX9_addCode 23 = .ok (.if_icmp .lt 4, 3) := by decide +kernel
theorem dX9_addCode_26 : decode cX9_addCode 26 = .ok (.return_, 1) := by decide +kernel
theorem dX9_addCode_27 : decode cX9_addCode 27 = .ok (.aload_n 0, 1) := by decide +kernel
theorem dX9_addCode_28 : decode cX9_addCode 28 = .ok (.getfield 31, 3) := by decide +kernel
theorem dX9_addCode_31 : decode cX9_addCode 31 = .ok (.aload_n 0, 1) := by decide +kernel
theorem dX9_addCode_32 : decode cX9_addCode 32 = .ok (.getfield 28, 3) := by decide +kernel
theorem dX9_addCode_35 : decode cX9_addCode 35 = .ok (.aload_n 0, 1) := by decide +kernel
theorem dX9_addCode_36 : decode cX9_addCode 36 = .ok (.getfield 15, 3) := by decide +kernel
theorem dX9_addCode_39 : decode cX9_addCode 39 = .ok (.iconst 1, 1) := by decide +kernel
theorem dX9_addCode_40 : decode cX9_addCode 40 = .ok (.isub, 1) := by decide +kernel
theorem dX9_addCode_41 : decode cX9_addCode 41 = .ok (.iaload, 1) := by decide +kernel
theorem dX9_addCode_42 : decode cX9_addCode 42 = .ok (.bipush 32, 2) := by decide +kernel
theorem dX9_addCode_44 : decode cX9_addCode 44 = .ok (.iload_n 2, 1) := by decide +kernel
theorem dX9_addCode_45 : decode cX9_addCode 45 = .ok (.imul, 1) := by decide +kernel
theorem dX9_addCode_46 : decode cX9_addCode 46 = .ok (.iload_n 1, 1) := by decide +kernel
theorem dX9_addCode_47 : decode cX9_addCode 47 = .ok (.iadd, 1) := by decide +kernel
theorem dX9_addCode_48 : decode cX9_addCode 48 = .ok (.iastore, 1) := by decide +kernel
theorem dX9_addCode_49 : decode cX9_addCode 49 = .ok (.aload_n 0, 1) := by decide +kernel
theorem dX9_addCode_50 : decode cX9_addCode 50 = .ok (.getfield 28, 3) := by decide +kernel
theorem dX9_addCode_53 : decode cX9_addCode 53 = .ok (.aload_n 0, 1) := by decide +kernel
theorem dX9_addCode_54 : decode cX9_addCode 54 = .ok (.getfield 15, 3) := by decide +kernel
theorem dX9_addCode_57 : decode cX9_addCode 57 = .ok (.iconst 1, 1) := by decide +kernel
theorem dX9_addCode_58 : decode cX9_addCode 58 = .ok (.isub, 1) := by decide +kernel
theorem dX9_addCode_59 : decode cX9_addCode 59 = .ok (.dup2, 1) := by decide +kernel
theorem dX9_addCode_60 : decode cX9_addCode 60 = .ok (.iaload, 1) := by decide +kernel
theorem dX9_addCode_61 : decode cX9_addCode 61 = .ok (.iconst 1, 1) := by decide +kernel
theorem dX9_addCode_62 : decode cX9_addCode 62 = .ok (.iadd, 1) := by decide +kernel
theorem dX9_addCode_63 : decode cX9_addCode 63 = .ok (.iastore, 1) := by decide +kernel
theorem dX9_addCode_64 : decode cX9_addCode 64 = .ok (.return_, 1) := by decide +kernel
theorem dX9_weigh_0 : decode cX9_weigh 0 = .ok (.iconst 0, 1) := by decide +kernel
theorem dX9_weigh_1 : decode cX9_weigh 1 = .ok (.istore_n 2, 1) := by decide +kernel
theorem dX9_weigh_2 : decode cX9_weigh 2 = .ok (.iconst 0, 1) := by decide +kernel
theorem dX9_weigh_3 : decode cX9_weigh 3 = .ok (.istore_n 3, 1) := by decide +kernel
theorem dX9_weigh_4 : decode cX9_weigh 4 = .ok (.iload_n 3, 1) := by decide +kernel
theorem dX9_weigh_5 : decode cX9_weigh 5 = .ok (.aload_n 0, 1) := by decide +kernel
theorem dX9_weigh_6 : decode cX9_weigh 6 = .ok (.getfield 15, 3) := by decide +kernel
theorem dX9_weigh_9 : decode cX9_weigh 9 = .ok (.if_icmp .ge 90, 3) := by decide +kernel
theorem dX9_weigh_12 : decode cX9_weigh 12 = .ok (.iconst 0, 1) := by decide +kernel
theorem dX9_weigh_13 : decode cX9_weigh 13 = .ok (.istore 4, 2) := by decide +kernel
theorem dX9_weigh_15 : decode cX9_weigh 15 = .ok (.iload_n 2, 1) := by decide +kernel
theorem dX9_weigh_16 : decode cX9_weigh 16 = .ok (.istore 5, 2) := by decide +kernel
theorem dX9_weigh_18 : decode cX9_weigh 18 = .ok (.iload 5, 2) := by decide +kernel
theorem dX9_weigh_20 : decode cX9_weigh 20 = .ok (.aload_n 0, 1) := by decide +kernel
theorem dX9_weigh_21 : decode cX9_weigh 21 = .ok (.getfield 28, 3) := by decide +kernel
theorem dX9_weigh_24 : decode cX9_weigh 24 = .ok (.iload_n 3, 1) := by decide +kernel
theorem dX9_weigh_25 : decode cX9_weigh 25 = .ok (.iaload, 1) := by decide +kernel
theorem dX9_weigh_26 : decode cX9_weigh 26 = .ok (.if_icmp .ge 35, 3) := by decide +kernel
theorem dX9_weigh_29 : decode cX9_weigh 29 = .ok (.iload 5, 2) := by decide +kernel
theorem dX9_weigh_31 : decode cX9_weigh 31 = .ok (.aload_n 0, 1) := by decide +kernel
theorem dX9_weigh_32 : decode cX9_weigh 32 = .ok (.getfield 31, 3) := by decide +kernel
theorem dX9_weigh_35 : decode cX9_weigh 35 = .ok (.arraylength, 1) := by decide +kernel
theorem dX9_weigh_36 : decode cX9_weigh 36 = .ok (.if_icmp .ge 25, 3) := by decide +kernel
theorem dX9_weigh_39 : decode cX9_weigh 39 = .ok (.aload_n 0, 1) := by decide +kernel
theorem dX9_weigh_40 : decode cX9_weigh 40 = .ok (.aload_n 0, 1) := by decide +kernel
theorem dX9_weigh_41 : decode cX9_weigh 41 = .ok (.getfield 31, 3) := by decide +kernel
theorem dX9_weigh_44 : decode cX9_weigh 44 = .ok (.iload 5, 2) := by decide +kernel
theorem dX9_weigh_46 : decode cX9_weigh 46 = .ok (.iaload, 1) := by decide +kernel
theorem dX9_weigh_47 : decode cX9_weigh 47 = .ok (.aload_n 1, 1) := by decide +kernel
theorem dX9_weigh_48 : decode cX9_weigh 48 = .ok (.iload 4, 2) := by decide +kernel
theorem dX9_weigh_50 : decode cX9_weigh 50 = .ok (.invokevirtual 47, 3) := by decide +kernel
theorem dX9_weigh_53 : decode cX9_weigh 53 = .ok (.istore 4, 2) := by decide +kernel
theorem dX9_weigh_55 : decode cX9_weigh 55 = .ok (.iinc 5 1, 3) := by decide +kernel
theorem dX9_weigh_58 : decode cX9_weigh 58 = .ok (.goto (-40), 3) := by decide +kernel
theorem dX9_weigh_61 : decode cX9_weigh 61 = .ok (.aload_n 0, 1) := by decide +kernel
theorem dX9_weigh_62 : decode cX9_weigh 62 = .ok (.getfield 34, 3) := by decide +kernel
theorem dX9_weigh_65 : decode cX9_weigh 65 = .ok (.iload_n 3, 1) := by decide +kernel
theorem dX9_weigh_66 : decode cX9_weigh 66 = .ok (.iload 4, 2) := by decide +kernel
theorem dX9_weigh_68 : decode cX9_weigh 68 = .ok (.ifCond .eq 12, 3) := by decide +kernel
theorem dX9_weigh_71 : decode cX9_weigh 71 = .ok (.aload_n 0, 1) := by decide +kernel
theorem dX9_weigh_72 : decode cX9_weigh 72 = .ok (.getfield 38, 3) := by decide +kernel
theorem dX9_weigh_75 : decode cX9_weigh 75 = .ok (.iconst 0, 1) := by decide +kernel
theorem dX9_weigh_76 : decode cX9_weigh 76 = .ok (.baload, 1) := by decide +kernel
theorem dX9_weigh_77 : decode cX9_weigh 77 = .ok (.ifCond .eq 7, 3) := by decide +kernel
theorem dX9_weigh_80 : decode cX9_weigh 80 = .ok (.iconst 1, 1) := by decide +kernel
theorem dX9_weigh_81 : decode cX9_weigh 81 = .ok (.goto 4, 3) := by decide +kernel
theorem dX9_weigh_84 : decode cX9_weigh 84 = .ok (.iconst 0, 1) := by decide +kernel
theorem dX9_weigh_85 : decode cX9_weigh 85 = .ok (.bastore, 1) := by decide +kernel
theorem dX9_weigh_86 : decode cX9_weigh 86 = .ok (.aload_n 0, 1) := by decide +kernel
theorem dX9_weigh_87 : decode cX9_weigh 87 = .ok (.getfield 28, 3) := by decide +kernel
theorem dX9_weigh_90 : decode cX9_weigh 90 = .ok (.iload_n 3, 1) := by decide +kernel
theorem dX9_weigh_91 : decode cX9_weigh 91 = .ok (.iaload, 1) := by decide +kernel
theorem dX9_weigh_92 : decode cX9_weigh 92 = .ok (.istore_n 2, 1) := by decide +kernel
theorem dX9_weigh_93 : decode cX9_weigh 93 = .ok (.iinc 3 1, 3) := by decide +kernel
theorem dX9_weigh_96 : decode cX9_weigh 96 = .ok (.goto (-92), 3) := by decide +kernel
theorem dX9_weigh_99 : decode cX9_weigh 99 = .ok (.return_, 1) := by decide +kernel
theorem dX9_lastThatHolds_0 : decode cX9_lastThatHolds 0 = .ok (.aload_n 0, 1) := by decide +kernel
theorem dX9_lastThatHolds_1 : decode cX9_lastThatHolds 1 = .ok (.getfield 15, 3) := by decide +kernel
theorem dX9_lastThatHolds_4 : decode cX9_lastThatHolds 4 = .ok (.iconst 1, 1) := by decide +kernel
theorem dX9_lastThatHolds_5 : decode cX9_lastThatHolds 5 = .ok (.isub, 1) := by decide +kernel
theorem dX9_lastThatHolds_6 : decode cX9_lastThatHolds 6 = .ok (.istore_n 2, 1) := by decide +kernel
theorem dX9_lastThatHolds_7 : decode cX9_lastThatHolds 7 = .ok (.iload_n 2, 1) := by decide +kernel
theorem dX9_lastThatHolds_8 : decode cX9_lastThatHolds 8 = .ok (.ifCond .lt 30, 3) := by decide +kernel
theorem dX9_lastThatHolds_11 : decode cX9_lastThatHolds 11 = .ok (.aload_n 0, 1) := by decide +kernel
theorem dX9_lastThatHolds_12 : decode cX9_lastThatHolds 12 = .ok (.getfield 18, 3) := by decide +kernel
theorem dX9_lastThatHolds_15 : decode cX9_lastThatHolds 15 = .ok (.iload_n 2, 1) := by decide +kernel
theorem dX9_lastThatHolds_16 : decode cX9_lastThatHolds 16 = .ok (.iaload, 1) := by decide +kernel
theorem dX9_lastThatHolds_17 : decode cX9_lastThatHolds 17 = .ok (.iload_n 1, 1) := by decide +kernel
theorem dX9_lastThatHolds_18 : decode cX9_lastThatHolds 18 = .ok (.if_icmp .ne 14, 3) := by decide +kernel
theorem dX9_lastThatHolds_21 : decode cX9_lastThatHolds 21 = .ok (.aload_n 0, 1) := by decide +kernel
theorem dX9_lastThatHolds_22 : decode cX9_lastThatHolds 22 = .ok (.getfield 34, 3) := by decide +kernel
theorem dX9_lastThatHolds_25 : decode cX9_lastThatHolds 25 = .ok (.iload_n 2, 1) := by decide +kernel
theorem dX9_lastThatHolds_26 : decode cX9_lastThatHolds 26 = .ok (.baload, 1) := by decide +kernel
theorem dX9_lastThatHolds_27 : decode cX9_lastThatHolds 27 = .ok (.ifCond .eq 5, 3) := by decide +kernel
theorem dX9_lastThatHolds_30 : decode cX9_lastThatHolds 30 = .ok (.iload_n 2, 1) := by decide +kernel
theorem dX9_lastThatHolds_31 : decode cX9_lastThatHolds 31 = .ok (.ireturn, 1) := by decide +kernel
theorem dX9_lastThatHolds_32 : decode cX9_lastThatHolds 32 = .ok (.iinc 2 (-1), 3) := by decide +kernel
theorem dX9_lastThatHolds_35 : decode cX9_lastThatHolds 35 = .ok (.goto (-28), 3) := by decide +kernel
theorem dX9_lastThatHolds_38 : decode cX9_lastThatHolds 38 = .ok (.iconst (-1), 1) := by decide +kernel
theorem dX9_lastThatHolds_39 : decode cX9_lastThatHolds 39 = .ok (.ireturn, 1) := by decide +kernel
theorem dX9_lastClose_0 : decode cX9_lastClose 0 = .ok (.aload_n 0, 1) := by decide +kernel
theorem dX9_lastClose_1 : decode cX9_lastClose 1 = .ok (.getfield 15, 3) := by decide +kernel
theorem dX9_lastClose_4 : decode cX9_lastClose 4 = .ok (.iconst 1, 1) := by decide +kernel
theorem dX9_lastClose_5 : decode cX9_lastClose 5 = .ok (.isub, 1) := by decide +kernel
theorem dX9_lastClose_6 : decode cX9_lastClose 6 = .ok (.istore_n 2, 1) := by decide +kernel
theorem dX9_lastClose_7 : decode cX9_lastClose 7 = .ok (.iload_n 2, 1) := by decide +kernel
theorem dX9_lastClose_8 : decode cX9_lastClose 8 = .ok (.ifCond .lt 37, 3) := by decide +kernel
theorem dX9_lastClose_11 : decode cX9_lastClose 11 = .ok (.aload_n 0, 1) := by decide +kernel
theorem dX9_lastClose_12 : decode cX9_lastClose 12 = .ok (.getfield 18, 3) := by decide +kernel
theorem dX9_lastClose_15 : decode cX9_lastClose 15 = .ok (.iload_n 2, 1) := by decide +kernel
theorem dX9_lastClose_16 : decode cX9_lastClose 16 = .ok (.iaload, 1) := by decide +kernel
theorem dX9_lastClose_17 : decode cX9_lastClose 17 = .ok (.bipush 6, 2) := by decide +kernel
theorem dX9_lastClose_19 : decode cX9_lastClose 19 = .ok (.if_icmp .ne 20, 3) := by decide +kernel
theorem dX9_lastClose_22 : decode cX9_lastClose 22 = .ok (.aload_n 0, 1) := by decide +kernel
theorem dX9_lastClose_23 : decode cX9_lastClose 23 = .ok (.getfield 22, 3) := by decide +kernel
theorem dX9_lastClose_26 : decode cX9_lastClose 26 = .ok (.iload_n 2, 1) := by decide +kernel
theorem dX9_lastClose_27 : decode cX9_lastClose 27 = .ok (.iaload, 1) := by decide +kernel
theorem dX9_lastClose_28 : decode cX9_lastClose 28 = .ok (.iload_n 1, 1) := by decide +kernel
theorem dX9_lastClose_29 : decode cX9_lastClose 29 = .ok (.if_icmp .ne 10, 3) := by decide +kernel
theorem dX9_lastClose_32 : decode cX9_lastClose 32 = .ok (.aload_n 0, 1) := by decide +kernel
theorem dX9_lastClose_33 : decode cX9_lastClose 33 = .ok (.getfield 25, 3) := by decide +kernel
theorem dX9_lastClose_36 : decode cX9_lastClose 36 = .ok (.iload_n 2, 1) := by decide +kernel
theorem dX9_lastClose_37 : decode cX9_lastClose 37 = .ok (.iaload, 1) := by decide +kernel
theorem dX9_lastClose_38 : decode cX9_lastClose 38 = .ok (.ireturn, 1) := by decide +kernel
theorem dX9_lastClose_39 : decode cX9_lastClose 39 = .ok (.iinc 2 (-1), 3) := by decide +kernel
theorem dX9_lastClose_42 : decode cX9_lastClose 42 = .ok (.goto (-35), 3) := by decide +kernel
theorem dX9_lastClose_45 : decode cX9_lastClose 45 = .ok (.iconst (-1), 1) := by decide +kernel
theorem dX9_lastClose_46 : decode cX9_lastClose 46 = .ok (.ireturn, 1) := by decide +kernel
theorem dX9_depthAfter_0 : decode cX9_depthAfter 0 = .ok (.iload_n 1, 1) := by decide +kernel
theorem dX9_depthAfter_1 : decode cX9_depthAfter 1 = .ok (.bipush 31, 2) := by decide +kernel
theorem dX9_depthAfter_3 : decode cX9_depthAfter 3 = .ok (.iand, 1) := by decide +kernel
theorem dX9_depthAfter_4 : decode cX9_depthAfter 4 = .ok (.istore 4, 2) := by decide +kernel
theorem dX9_depthAfter_6 : decode cX9_depthAfter 6 = .ok (.iload 4, 2) := by decide +kernel
theorem dX9_depthAfter_8 : decode cX9_depthAfter 8 = .ok (.bipush 29, 2) := by decide +kernel
theorem dX9_depthAfter_10 : decode cX9_depthAfter 10 = .ok (.if_icmp .ne 34, 3) := by decide +kernel
theorem dX9_depthAfter_13 : decode cX9_depthAfter 13 = .ok (.iload_n 3, 1) := by decide +kernel
theorem dX9_depthAfter_14 : decode cX9_depthAfter 14 = .ok (.iconst 1, 1) := by decide +kernel
theorem dX9_depthAfter_15 : decode cX9_depthAfter 15 = .ok (.if_icmp .lt 29, 3) := by decide +kernel
theorem dX9_depthAfter_18 : decode cX9_depthAfter 18 = .ok (.aload_n 0, 1) := by decide +kernel
theorem dX9_depthAfter_19 : decode cX9_depthAfter 19 = .ok (.getfield 38, 3) := by decide +kernel
theorem dX9_depthAfter_22 : decode cX9_depthAfter 22 = .ok (.iload_n 3, 1) := by decide +kernel
theorem dX9_depthAfter_23 : decode cX9_depthAfter 23 = .ok (.iconst 1, 1) := by decide +kernel
theorem dX9_depthAfter_24 : decode cX9_depthAfter 24 = .ok (.isub, 1) := by decide +kernel
theorem dX9_depthAfter_25 : decode cX9_depthAfter 25 = .ok (.aload_n 0, 1) := by decide +kernel
theorem dX9_depthAfter_26 : decode cX9_depthAfter 26 = .ok (.getfield 38, 3) := by decide +kernel
theorem dX9_depthAfter_29 : decode cX9_depthAfter 29 = .ok (.iload_n 3, 1) := by decide +kernel
theorem dX9_depthAfter_30 : decode cX9_depthAfter 30 = .ok (.iconst 1, 1) := by decide +kernel
theorem dX9_depthAfter_31 : decode cX9_depthAfter 31 = .ok (.isub, 1) := by decide +kernel
theorem dX9_depthAfter_32 : decode cX9_depthAfter 32 = .ok (.baload, 1) := by decide +kernel
theorem dX9_depthAfter_33 : decode cX9_depthAfter 33 = .ok (.ifCond .ne 7, 3) := by decide +kernel
theorem dX9_depthAfter_36 : decode cX9_depthAfter 36 = .ok (.iconst 1, 1) := by decide +kernel
theorem dX9_depthAfter_37 : decode cX9_depthAfter 37 = .ok (.goto 4, 3) := by decide +kernel
theorem dX9_depthAfter_40 : decode cX9_depthAfter 40 = .ok (.iconst 0, 1) := by decide +kernel
theorem dX9_depthAfter_41 : decode cX9_depthAfter 41 = .ok (.bastore, 1) := by decide +kernel
theorem dX9_depthAfter_42 : decode cX9_depthAfter 42 = .ok (.iload_n 3, 1) := by decide +kernel
theorem dX9_depthAfter_43 : decode cX9_depthAfter 43 = .ok (.ireturn, 1) := by decide +kernel
theorem dX9_depthAfter_44 : decode cX9_depthAfter 44 = .ok (.iload 4, 2) := by decide +kernel
theorem dX9_depthAfter_46 : decode cX9_depthAfter 46 = .ok (.bipush 27, 2) := by decide +kernel
theorem dX9_depthAfter_48 : decode cX9_depthAfter 48 = .ok (.if_icmp .ne 47, 3) := by decide +kernel
theorem dX9_depthAfter_51 : decode cX9_depthAfter 51 = .ok (.iload_n 3, 1) := by decide +kernel
theorem dX9_depthAfter_52 : decode cX9_depthAfter 52 = .ok (.iconst 2, 1) := by decide +kernel
theorem dX9_depthAfter_53 : decode cX9_depthAfter 53 = .ok (.if_icmp .lt 42, 3) := by decide +kernel
theorem dX9_depthAfter_56 : decode cX9_depthAfter 56 = .ok (.aload_n 0, 1) := by decide +kernel
theorem dX9_depthAfter_57 : decode cX9_depthAfter 57 = .ok (.getfield 38, 3) := by decide +kernel
theorem dX9_depthAfter_60 : decode cX9_depthAfter 60 = .ok (.iload_n 3, 1) := by decide +kernel
theorem dX9_depthAfter_61 : decode cX9_depthAfter 61 = .ok (.iconst 2, 1) := by decide +kernel
theorem dX9_depthAfter_62 : decode cX9_depthAfter 62 = .ok (.isub, 1) := by decide +kernel
theorem dX9_depthAfter_63 : decode cX9_depthAfter 63 = .ok (.aload_n 0, 1) := by decide +kernel
theorem dX9_depthAfter_64 : decode cX9_depthAfter 64 = .ok (.getfield 38, 3) := by decide +kernel
theorem dX9_depthAfter_67 : decode cX9_depthAfter 67 = .ok (.iload_n 3, 1) := by decide +kernel
theorem dX9_depthAfter_68 : decode cX9_depthAfter 68 = .ok (.iconst 2, 1) := by decide +kernel
theorem dX9_depthAfter_69 : decode cX9_depthAfter 69 = .ok (.isub, 1) := by decide +kernel
theorem dX9_depthAfter_70 : decode cX9_depthAfter 70 = .ok (.baload, 1) := by decide +kernel
theorem dX9_depthAfter_71 : decode cX9_depthAfter 71 = .ok (.ifCond .eq 18, 3) := by decide +kernel
theorem dX9_depthAfter_74 : decode cX9_depthAfter 74 = .ok (.aload_n 0, 1) := by decide +kernel
theorem dX9_depthAfter_75 : decode cX9_depthAfter 75 = .ok (.getfield 38, 3) := by decide +kernel
theorem dX9_depthAfter_78 : decode cX9_depthAfter 78 = .ok (.iload_n 3, 1) := by decide +kernel
theorem dX9_depthAfter_79 : decode cX9_depthAfter 79 = .ok (.iconst 1, 1) := by decide +kernel
theorem dX9_depthAfter_80 : decode cX9_depthAfter 80 = .ok (.isub, 1) := by decide +kernel
theorem dX9_depthAfter_81 : decode cX9_depthAfter 81 = .ok (.baload, 1) := by decide +kernel
theorem dX9_depthAfter_82 : decode cX9_depthAfter 82 = .ok (.ifCond .eq 7, 3) := by decide +kernel
theorem dX9_depthAfter_85 : decode cX9_depthAfter 85 = .ok (.iconst 1, 1) := by decide +kernel
theorem dX9_depthAfter_86 : decode cX9_depthAfter 86 = .ok (.goto 4, 3) := by decide +kernel
theorem dX9_depthAfter_89 : decode cX9_depthAfter 89 = .ok (.iconst 0, 1) := by decide +kernel
theorem dX9_depthAfter_90 : decode cX9_depthAfter 90 = .ok (.bastore, 1) := by decide +kernel
theorem dX9_depthAfter_91 : decode cX9_depthAfter 91 = .ok (.iload_n 3, 1) := by decide +kernel
theorem dX9_depthAfter_92 : decode cX9_depthAfter 92 = .ok (.iconst 1, 1) := by decide +kernel
theorem dX9_depthAfter_93 : decode cX9_depthAfter 93 = .ok (.isub, 1) := by decide +kernel
theorem dX9_depthAfter_94 : decode cX9_depthAfter 94 = .ok (.ireturn, 1) := by decide +kernel
theorem dX9_depthAfter_95 : decode cX9_depthAfter 95 = .ok (.iload 4, 2) := by decide +kernel
theorem dX9_depthAfter_97 : decode cX9_depthAfter 97 = .ok (.bipush 28, 2) := by decide +kernel
theorem dX9_depthAfter_99 : decode cX9_depthAfter 99 = .ok (.if_icmp .ne 47, 3) := by decide +kernel
theorem dX9_depthAfter_102 : decode cX9_depthAfter 102 = .ok (.iload_n 3, 1) := by decide +kernel
theorem dX9_depthAfter_103 : decode cX9_depthAfter 103 = .ok (.iconst 2, 1) := by decide +kernel
theorem dX9_depthAfter_104 : decode cX9_depthAfter 104 = .ok (.if_icmp .lt 42, 3) := by decide +kernel
theorem dX9_depthAfter_107 : decode cX9_depthAfter 107 = .ok (.aload_n 0, 1) := by decide +kernel
theorem dX9_depthAfter_108 : decode cX9_depthAfter 108 = .ok (.getfield 38, 3) := by decide +kernel
theorem dX9_depthAfter_111 : decode cX9_depthAfter 111 = .ok (.iload_n 3, 1) := by decide +kernel
theorem dX9_depthAfter_112 : decode cX9_depthAfter 112 = .ok (.iconst 2, 1) := by decide +kernel
theorem dX9_depthAfter_113 : decode cX9_depthAfter 113 = .ok (.isub, 1) := by decide +kernel
theorem dX9_depthAfter_114 : decode cX9_depthAfter 114 = .ok (.aload_n 0, 1) := by decide +kernel
theorem dX9_depthAfter_115 : decode cX9_depthAfter 115 = .ok (.getfield 38, 3) := by decide +kernel
theorem dX9_depthAfter_118 : decode cX9_depthAfter 118 = .ok (.iload_n 3, 1) := by decide +kernel
theorem dX9_depthAfter_119 : decode cX9_depthAfter 119 = .ok (.iconst 2, 1) := by decide +kernel
theorem dX9_depthAfter_120 : decode cX9_depthAfter 120 = .ok (.isub, 1) := by decide +kernel
theorem dX9_depthAfter_121 : decode cX9_depthAfter 121 = .ok (.baload, 1) := by decide +kernel
theorem dX9_depthAfter_122 : decode cX9_depthAfter 122 = .ok (.ifCond .ne 14, 3) := by decide +kernel
theorem dX9_depthAfter_125 : decode cX9_depthAfter 125 = .ok (.aload_n 0, 1) := by decide +kernel
theorem dX9_depthAfter_126 : decode cX9_depthAfter 126 = .ok (.getfield 38, 3) := by decide +kernel
theorem dX9_depthAfter_129 : decode cX9_depthAfter 129 = .ok (.iload_n 3, 1) := by decide +kernel
theorem dX9_depthAfter_130 : decode cX9_depthAfter 130 = .ok (.iconst 1, 1) := by decide +kernel
theorem dX9_depthAfter_131 : decode cX9_depthAfter 131 = .ok (.isub, 1) := by decide +kernel
theorem dX9_depthAfter_132 : decode cX9_depthAfter 132 = .ok (.baload, 1) := by decide +kernel
theorem dX9_depthAfter_133 : decode cX9_depthAfter 133 = .ok (.ifCond .eq 7, 3) := by decide +kernel
theorem dX9_depthAfter_136 : decode cX9_depthAfter 136 = .ok (.iconst 1, 1) := by decide +kernel
theorem dX9_depthAfter_137 : decode cX9_depthAfter 137 = .ok (.goto 4, 3) := by decide +kernel
theorem dX9_depthAfter_140 : decode cX9_depthAfter 140 = .ok (.iconst 0, 1) := by decide +kernel
theorem dX9_depthAfter_141 : decode cX9_depthAfter 141 = .ok (.bastore, 1) := by decide +kernel
theorem dX9_depthAfter_142 : decode cX9_depthAfter 142 = .ok (.iload_n 3, 1) := by decide +kernel
theorem dX9_depthAfter_143 : decode cX9_depthAfter 143 = .ok (.iconst 1, 1) := by decide +kernel
theorem dX9_depthAfter_144 : decode cX9_depthAfter 144 = .ok (.isub, 1) := by decide +kernel
theorem dX9_depthAfter_145 : decode cX9_depthAfter 145 = .ok (.ireturn, 1) := by decide +kernel
theorem dX9_depthAfter_146 : decode cX9_depthAfter 146 = .ok (.iload 4, 2) := by decide +kernel
theorem dX9_depthAfter_148 : decode cX9_depthAfter 148 = .ok (.bipush 27, 2) := by decide +kernel
theorem dX9_depthAfter_150 : decode cX9_depthAfter 150 = .ok (.if_icmp .ge 12, 3) := by decide +kernel
theorem dX9_depthAfter_153 : decode cX9_depthAfter 153 = .ok (.iload_n 3, 1) := by decide +kernel
theorem dX9_depthAfter_154 : decode cX9_depthAfter 154 = .ok (.aload_n 0, 1) := by decide +kernel
theorem dX9_depthAfter_155 : decode cX9_depthAfter 155 = .ok (.getfield 38, 3) := by decide +kernel
theorem dX9_depthAfter_158 : decode cX9_depthAfter 158 = .ok (.arraylength, 1) := by decide +kernel
theorem dX9_depthAfter_159 : decode cX9_depthAfter 159 = .ok (.if_icmp .lt 5, 3) := by decide +kernel
theorem dX9_depthAfter_162 : decode cX9_depthAfter 162 = .ok (.iload_n 3, 1) := by decide +kernel
theorem dX9_depthAfter_163 : decode cX9_depthAfter 163 = .ok (.ireturn, 1) := by decide +kernel
theorem dX9_depthAfter_164 : decode cX9_depthAfter 164 = .ok (.aload_n 0, 1) := by decide +kernel
theorem dX9_depthAfter_165 : decode cX9_depthAfter 165 = .ok (.getfield 38, 3) := by decide +kernel
theorem dX9_depthAfter_168 : decode cX9_depthAfter 168 = .ok (.iload_n 3, 1) := by decide +kernel
theorem dX9_depthAfter_169 : decode cX9_depthAfter 169 = .ok (.iload 4, 2) := by decide +kernel
theorem dX9_depthAfter_171 : decode cX9_depthAfter 171 = .ok (.iload_n 1, 1) := by decide +kernel
theorem dX9_depthAfter_172 : decode cX9_depthAfter 172 = .ok (.iconst 5, 1) := by decide +kernel
theorem dX9_depthAfter_173 : decode cX9_depthAfter 173 = .ok (.ishr, 1) := by decide +kernel
theorem dX9_depthAfter_174 : decode cX9_depthAfter 174 = .ok (.aload_n 2, 1) := by decide +kernel
theorem dX9_depthAfter_175 : decode cX9_depthAfter 175 = .ok (.invokestatic 51, 3) := by decide +kernel
theorem dX9_depthAfter_178 : decode cX9_depthAfter 178 = .ok (.bastore, 1) := by decide +kernel
theorem dX9_depthAfter_179 : decode cX9_depthAfter 179 = .ok (.iload_n 3, 1) := by decide +kernel
theorem dX9_depthAfter_180 : decode cX9_depthAfter 180 = .ok (.iconst 1, 1) := by decide +kernel
theorem dX9_depthAfter_181 : decode cX9_depthAfter 181 = .ok (.iadd, 1) := by decide +kernel
theorem dX9_depthAfter_182 : decode cX9_depthAfter 182 = .ok (.ireturn, 1) := by decide +kernel
theorem dX9_isTrue_0 : decode cX9_isTrue 0 = .ok (.iload_n 0, 1) := by decide +kernel
theorem dX9_isTrue_1 : decode cX9_isTrue 1 = .ok (.bipush 9, 2) := by decide +kernel
theorem dX9_isTrue_3 : decode cX9_isTrue 3 = .ok (.irem, 1) := by decide +kernel
theorem dX9_isTrue_4 : decode cX9_isTrue 4 = .ok (.istore_n 3, 1) := by decide +kernel
theorem dX9_isTrue_5 : decode cX9_isTrue 5 = .ok (.iload_n 3, 1) := by decide +kernel
theorem dX9_isTrue_6 : decode cX9_isTrue 6 = .ok (.ifCond .lt 9, 3) := by decide +kernel
theorem dX9_isTrue_9 : decode cX9_isTrue 9 = .ok (.iload_n 3, 1) := by decide +kernel
theorem dX9_isTrue_10 : decode cX9_isTrue 10 = .ok (.aload_n 2, 1) := by decide +kernel
theorem dX9_isTrue_11 : decode cX9_isTrue 11 = .ok (.arraylength, 1) := by decide +kernel
theorem dX9_isTrue_12 : decode cX9_isTrue 12 = .ok (.if_icmp .lt 5, 3) := by decide +kernel
theorem dX9_isTrue_15 : decode cX9_isTrue 15 = .ok (.iconst 0, 1) := by decide +kernel
theorem dX9_isTrue_16 : decode cX9_isTrue 16 = .ok (.ireturn, 1) := by decide +kernel
theorem dX9_isTrue_17 : decode cX9_isTrue 17 = .ok (.iload_n 0, 1) := by decide +kernel
theorem dX9_isTrue_18 : decode cX9_isTrue 18 = .ok (.bipush 18, 2) := by decide +kernel
theorem dX9_isTrue_20 : decode cX9_isTrue 20 = .ok (.if_icmp .lt 16, 3) := by decide +kernel
theorem dX9_isTrue_23 : decode cX9_isTrue 23 = .ok (.aload_n 2, 1) := by decide +kernel
theorem dX9_isTrue_24 : decode cX9_isTrue 24 = .ok (.iload_n 3, 1) := by decide +kernel
theorem dX9_isTrue_25 : decode cX9_isTrue 25 = .ok (.iaload, 1) := by decide +kernel
theorem dX9_isTrue_26 : decode cX9_isTrue 26 = .ok (.iload_n 1, 1) := by decide +kernel
theorem dX9_isTrue_27 : decode cX9_isTrue 27 = .ok (.if_icmp .le 7, 3) := by decide +kernel
theorem dX9_isTrue_30 : decode cX9_isTrue 30 = .ok (.iconst 1, 1) := by decide +kernel
theorem dX9_isTrue_31 : decode cX9_isTrue 31 = .ok (.goto 4, 3) := by decide +kernel
theorem dX9_isTrue_34 : decode cX9_isTrue 34 = .ok (.iconst 0, 1) := by decide +kernel
theorem dX9_isTrue_35 : decode cX9_isTrue 35 = .ok (.ireturn, 1) := by decide +kernel
theorem dX9_isTrue_36 : decode cX9_isTrue 36 = .ok (.iload_n 0, 1) := by decide +kernel
theorem dX9_isTrue_37 : decode cX9_isTrue 37 = .ok (.bipush 9, 2) := by decide +kernel
theorem dX9_isTrue_39 : decode cX9_isTrue 39 = .ok (.if_icmp .lt 16, 3) := by decide +kernel
theorem dX9_isTrue_42 : decode cX9_isTrue 42 = .ok (.aload_n 2, 1) := by decide +kernel
theorem dX9_isTrue_43 : decode cX9_isTrue 43 = .ok (.iload_n 3, 1) := by decide +kernel
theorem dX9_isTrue_44 : decode cX9_isTrue 44 = .ok (.iaload, 1) := by decide +kernel
theorem dX9_isTrue_45 : decode cX9_isTrue 45 = .ok (.iload_n 1, 1) := by decide +kernel
theorem dX9_isTrue_46 : decode cX9_isTrue 46 = .ok (.if_icmp .ge 7, 3) := by decide +kernel
theorem dX9_isTrue_49 : decode cX9_isTrue 49 = .ok (.iconst 1, 1) := by decide +kernel
theorem dX9_isTrue_50 : decode cX9_isTrue 50 = .ok (.goto 4, 3) := by decide +kernel
theorem dX9_isTrue_53 : decode cX9_isTrue 53 = .ok (.iconst 0, 1) := by decide +kernel
theorem dX9_isTrue_54 : decode cX9_isTrue 54 = .ok (.ireturn, 1) := by decide +kernel
theorem dX9_isTrue_55 : decode cX9_isTrue 55 = .ok (.aload_n 2, 1) := by decide +kernel
theorem dX9_isTrue_56 : decode cX9_isTrue 56 = .ok (.iload_n 3, 1) := by decide +kernel
theorem dX9_isTrue_57 : decode cX9_isTrue 57 = .ok (.iaload, 1) := by decide +kernel
theorem dX9_isTrue_58 : decode cX9_isTrue 58 = .ok (.ifCond .le 7, 3) := by decide +kernel
theorem dX9_isTrue_61 : decode cX9_isTrue 61 = .ok (.iconst 1, 1) := by decide +kernel
theorem dX9_isTrue_62 : decode cX9_isTrue 62 = .ok (.goto 4, 3) := by decide +kernel
theorem dX9_isTrue_65 : decode cX9_isTrue 65 = .ok (.iconst 0, 1) := by decide +kernel
theorem dX9_isTrue_66 : decode cX9_isTrue 66 = .ok (.ireturn, 1) := by decide +kernel
theorem dX10_init_0 : decode cX10_init 0 = .ok (.aload_n 0, 1) := by decide +kernel
theorem dX10_init_1 : decode cX10_init 1 = .ok (.invokespecial 3, 3) := by decide +kernel
theorem dX10_init_4 : decode cX10_init 4 = .ok (.aload_n 0, 1) := by decide +kernel
theorem dX10_init_5 : decode cX10_init 5 = .ok (.iconst 0, 1) := by decide +kernel
theorem dX10_init_6 : decode cX10_init 6 = .ok (.putfield 9, 3) := by decide +kernel
theorem dX10_init_9 : decode cX10_init 9 = .ok (.aload_n 0, 1) := by decide +kernel
theorem dX10_init_10 : decode cX10_init 10 = .ok (.iconst 0, 1) := by decide +kernel
theorem dX10_init_11 : decode cX10_init 11 = .ok (.putfield 15, 3) := by decide +kernel
theorem dX10_init_14 : decode cX10_init 14 = .ok (.aload_n 0, 1) := by decide +kernel
theorem dX10_init_15 : decode cX10_init 15 = .ok (.iconst (-1), 1) := by decide +kernel
theorem dX10_init_16 : decode cX10_init 16 = .ok (.putfield 18, 3) := by decide +kernel
theorem dX10_init_19 : decode cX10_init 19 = .ok (.aload_n 0, 1) := by decide +kernel
theorem dX10_init_20 : decode cX10_init 20 = .ok (.sipush 401, 3) := by decide +kernel
theorem dX10_init_23 : decode cX10_init 23 = .ok (.newarray .int, 2) := by decide +kernel
theorem dX10_init_25 : decode cX10_init 25 = .ok (.putfield 21, 3) := by decide +kernel
theorem dX10_init_28 : decode cX10_init 28 = .ok (.aload_n 0, 1) := by decide +kernel
theorem dX10_init_29 : decode cX10_init 29 = .ok (.new 25, 3) := by decide +kernel
theorem dX10_init_32 : decode cX10_init 32 = .ok (.dup, 1) := by decide +kernel
theorem dX10_init_33 : decode cX10_init 33 = .ok (.invokespecial 27, 3) := by decide +kernel
theorem dX10_init_36 : decode cX10_init 36 = .ok (.putfield 28, 3) := by decide +kernel
theorem dX10_init_39 : decode cX10_init 39 = .ok (.aload_n 0, 1) := by decide +kernel
theorem dX10_init_40 : decode cX10_init 40 = .ok (.aload_n 1, 1) := by decide +kernel
theorem dX10_init_41 : decode cX10_init 41 = .ok (.putfield 32, 3) := by decide +kernel
theorem dX10_init_44 : decode cX10_init 44 = .ok (.return_, 1) := by decide +kernel
theorem dX10_firstWrong_0 : decode cX10_firstWrong 0 = .ok (.aload_n 0, 1) := by decide +kernel
theorem dX10_firstWrong_1 : decode cX10_firstWrong 1 = .ok (.getfield 28, 3) := by decide +kernel
theorem dX10_firstWrong_4 : decode cX10_firstWrong 4 = .ok (.iconst 0, 1) := by decide +kernel
theorem dX10_firstWrong_5 : decode cX10_firstWrong 5 = .ok (.putfield 36, 3) := by decide +kernel
theorem dX10_firstWrong_8 : decode cX10_firstWrong 8 = .ok (.aload_n 0, 1) := by decide +kernel
theorem dX10_firstWrong_9 : decode cX10_firstWrong 9 = .ok (.iload_n 1, 1) := by decide +kernel
theorem dX10_firstWrong_10 : decode cX10_firstWrong 10 = .ok (.aload_n 0, 1) := by decide +kernel
theorem dX10_firstWrong_11 : decode cX10_firstWrong 11 = .ok (.getfield 32, 3) := by decide +kernel
theorem dX10_firstWrong_14 : decode cX10_firstWrong 14 = .ok (.arraylength, 1) := by decide +kernel
theorem dX10_firstWrong_15 : decode cX10_firstWrong 15 = .ok (.invokestatic 39, 3) := by decide +kernel
theorem dX10_firstWrong_18 : decode cX10_firstWrong 18 = .ok (.putfield 9, 3) := by decide +kernel
theorem dX10_firstWrong_21 : decode cX10_firstWrong 21 = .ok (.aload_n 0, 1) := by decide +kernel
theorem dX10_firstWrong_22 : decode cX10_firstWrong 22 = .ok (.iconst 0, 1) := by decide +kernel
theorem dX10_firstWrong_23 : decode cX10_firstWrong 23 = .ok (.putfield 15, 3) := by decide +kernel
theorem dX10_firstWrong_26 : decode cX10_firstWrong 26 = .ok (.aload_n 0, 1) := by decide +kernel
theorem dX10_firstWrong_27 : decode cX10_firstWrong 27 = .ok (.iconst (-1), 1) := by decide +kernel
theorem dX10_firstWrong_28 : decode cX10_firstWrong 28 = .ok (.putfield 18, 3) := by decide +kernel
theorem dX10_firstWrong_31 : decode cX10_firstWrong 31 = .ok (.aload_n 0, 1) := by decide +kernel
theorem dX10_firstWrong_32 : decode cX10_firstWrong 32 = .ok (.invokevirtual 45, 3) := by decide +kernel
theorem dX10_firstWrong_35 : decode cX10_firstWrong 35 = .ok (.aload_n 0, 1) := by decide +kernel
theorem dX10_firstWrong_36 : decode cX10_firstWrong 36 = .ok (.getfield 21, 3) := by decide +kernel
theorem dX10_firstWrong_39 : decode cX10_firstWrong 39 = .ok (.iconst 0, 1) := by decide +kernel
theorem dX10_firstWrong_40 : decode cX10_firstWrong 40 = .ok (.iaload, 1) := by decide +kernel
theorem dX10_firstWrong_41 : decode cX10_firstWrong 41 = .ok (.aload_n 0, 1) := by decide +kernel
theorem dX10_firstWrong_42 : decode cX10_firstWrong 42 = .ok (.getfield 9, 3) := by decide +kernel
theorem dX10_firstWrong_45 : decode cX10_firstWrong 45 = .ok (.if_icmp .ge 7, 3) := by decide +kernel
theorem dX10_firstWrong_48 : decode cX10_firstWrong 48 = .ok (.iconst 1, 1) := by decide +kernel
theorem dX10_firstWrong_49 : decode cX10_firstWrong 49 = .ok (.goto 4, 3) := by decide +kernel
theorem dX10_firstWrong_52 : decode cX10_firstWrong 52 = .ok (.iconst 0, 1) := by decide +kernel
theorem dX10_firstWrong_53 : decode cX10_firstWrong 53 = .ok (.istore_n 2, 1) := by decide +kernel
theorem dX10_firstWrong_54 : decode cX10_firstWrong 54 = .ok (.iconst 0, 1) := by decide +kernel
theorem dX10_firstWrong_55 : decode cX10_firstWrong 55 = .ok (.istore_n 3, 1) := by decide +kernel
theorem dX10_firstWrong_56 : decode cX10_firstWrong 56 = .ok (.iload_n 2, 1) := by decide +kernel
theorem dX10_firstWrong_57 : decode cX10_firstWrong 57 = .ok (.ifCond .eq 35, 3) := by decide +kernel
theorem dX10_firstWrong_60 : decode cX10_firstWrong 60 = .ok (.iload_n 3, 1) := by decide +kernel
theorem dX10_firstWrong_61 : decode cX10_firstWrong 61 = .ok (.bipush 12, 2) := by decide +kernel
theorem dX10_firstWrong_63 : decode cX10_firstWrong 63 = .ok (.if_icmp .ge 29, 3) := by decide +kernel
theorem dX10_firstWrong_66 : decode cX10_firstWrong 66 = .ok (.aload_n 0, 1) := by decide +kernel
theorem dX10_firstWrong_67 : decode cX10_firstWrong 67 = .ok (.invokevirtual 48, 3) := by decide +kernel
theorem dX10_firstWrong_70 : decode cX10_firstWrong 70 = .ok (.ifCond .eq 14, 3) := by decide +kernel
theorem dX10_firstWrong_73 : decode cX10_firstWrong 73 = .ok (.aload_n 0, 1) := by decide +kernel
theorem dX10_firstWrong_74 : decode cX10_firstWrong 74 = .ok (.invokevirtual 52, 3) := by decide +kernel
theorem dX10_firstWrong_77 : decode cX10_firstWrong 77 = .ok (.ifCond .eq 7, 3) := by decide +kernel
theorem dX10_firstWrong_80 : decode cX10_firstWrong 80 = .ok (.iconst 1, 1) := by decide +kernel
theorem dX10_firstWrong_81 : decode cX10_firstWrong 81 = .ok (.goto 4, 3) := by decide +kernel
theorem dX10_firstWrong_84 : decode cX10_firstWrong 84 = .ok (.iconst 0, 1) := by decide +kernel
theorem dX10_firstWrong_85 : decode cX10_firstWrong 85 = .ok (.istore_n 2, 1) := by decide +kernel
theorem dX10_firstWrong_86 : decode cX10_firstWrong 86 = .ok (.iinc 3 1, 3) := by decide +kernel
theorem dX10_firstWrong_89 : decode cX10_firstWrong 89 = .ok (.goto (-33), 3) := by decide +kernel
theorem dX10_firstWrong_92 : decode cX10_firstWrong 92 = .ok (.aload_n 0, 1) := by decide +kernel
theorem dX10_firstWrong_93 : decode cX10_firstWrong 93 = .ok (.getfield 18, 3) := by decide +kernel
theorem dX10_firstWrong_96 : decode cX10_firstWrong 96 = .ok (.ireturn, 1) := by decide +kernel
theorem dX10_findInk_0 : decode cX10_findInk 0 = .ok (.aload_n 0, 1) := by decide +kernel
theorem dX10_findInk_1 : decode cX10_findInk 1 = .ok (.getfield 21, 3) := by decide +kernel
theorem dX10_findInk_4 : decode cX10_findInk 4 = .ok (.aload_n 0, 1) := by decide +kernel
theorem dX10_findInk_5 : decode cX10_findInk 5 = .ok (.getfield 9, 3) := by decide +kernel
theorem dX10_findInk_8 : decode cX10_findInk 8 = .ok (.aload_n 0, 1) := by decide +kernel
theorem dX10_findInk_9 : decode cX10_findInk 9 = .ok (.getfield 9, 3) := by decide +kernel
theorem dX10_findInk_12 : decode cX10_findInk 12 = .ok (.iastore, 1) := by decide +kernel
theorem dX10_findInk_13 : decode cX10_findInk 13 = .ok (.aload_n 0, 1) := by decide +kernel
theorem dX10_findInk_14 : decode cX10_findInk 14 = .ok (.getfield 9, 3) := by decide +kernel
theorem dX10_findInk_17 : decode cX10_findInk 17 = .ok (.iconst 1, 1) := by decide +kernel
theorem dX10_findInk_18 : decode cX10_findInk 18 = .ok (.isub, 1) := by decide +kernel
theorem dX10_findInk_19 : decode cX10_findInk 19 = .ok (.istore_n 1, 1) := by decide +kernel
theorem dX10_findInk_20 : decode cX10_findInk 20 = .ok (.iload_n 1, 1) := by decide +kernel
theorem dX10_findInk_21 : decode cX10_findInk 21 = .ok (.ifCond .lt 38, 3) := by decide +kernel
theorem dX10_findInk_24 : decode cX10_findInk 24 = .ok (.aload_n 0, 1) := by decide +kernel
theorem dX10_findInk_25 : decode cX10_findInk 25 = .ok (.getfield 21, 3) := by decide +kernel
theorem dX10_findInk_28 : decode cX10_findInk 28 = .ok (.iload_n 1, 1) := by decide +kernel
theorem dX10_findInk_29 : decode cX10_findInk 29 = .ok (.aload_n 0, 1) := by decide +kernel
theorem dX10_findInk_30 : decode cX10_findInk 30 = .ok (.getfield 32, 3) := by decide +kernel
theorem dX10_findInk_33 : decode cX10_findInk 33 = .ok (.iload_n 1, 1) := by decide +kernel
theorem dX10_findInk_34 : decode cX10_findInk 34 = .ok (.baload, 1) := by decide +kernel
theorem dX10_findInk_35 : decode cX10_findInk 35 = .ok (.bipush 32, 2) := by decide +kernel
theorem dX10_findInk_37 : decode cX10_findInk 37 = .ok (.if_icmp .ne 14, 3) := by decide +kernel
theorem dX10_findInk_40 : decode cX10_findInk 40 = .ok (.aload_n 0, 1) := by decide +kernel
theorem dX10_findInk_41 : decode cX10_findInk 41 = .ok (.getfield 21, 3) := by decide +kernel
theorem dX10_findInk_44 : decode cX10_findInk 44 = .ok (.iload_n 1, 1) := by decide +kernel
theorem dX10_findInk_45 : decode cX10_findInk 45 = .ok (.iconst 1, 1) := by decide +kernel
theorem dX10_findInk_46 : decode cX10_findInk 46 = .ok (.iadd, 1) := by decide +kernel
theorem dX10_findInk_47 : decode cX10_findInk 47 = .ok (.iaload, 1) := by decide +kernel
theorem dX10_findInk_48 : decode cX10_findInk 48 = .ok (.goto 4, 3) := by decide +kernel
theorem dX10_findInk_51 : decode cX10_findInk 51 = .ok (.iload_n 1, 1) := by decide +kernel
theorem dX10_findInk_52 : decode cX10_findInk 52 = .ok (.iastore, 1) := by decide +kernel
theorem dX10_findInk_53 : decode cX10_findInk 53 = .ok (.iinc 1 (-1), 3) := by decide +kernel
theorem dX10_findInk_56 : decode cX10_findInk 56 = .ok (.goto (-36), 3) := by decide +kernel
theorem dX10_findInk_59 : decode cX10_findInk 59 = .ok (.return_, 1) := by decide +kernel
theorem dX10_anotherFollows_0 : decode cX10_anotherFollows 0 = .ok (.aload_n 0, 1) := by decide +kernel
theorem dX10_anotherFollows_1 : decode cX10_anotherFollows 1 = .ok (.getfield 21, 3) := by decide +kernel
theorem dX10_anotherFollows_4 : decode cX10_anotherFollows 4 = .ok (.aload_n 0, 1) := by decide +kernel
theorem dX10_anotherFollows_5 : decode cX10_anotherFollows 5 = .ok (.getfield 15, 3) := by decide +kernel
theorem dX10_anotherFollows_8 : decode cX10_anotherFollows 8 = .ok (.iaload, 1) := by decide +kernel
theorem dX10_anotherFollows_9 : decode cX10_anotherFollows 9 = .ok (.aload_n 0, 1) := by decide +kernel
theorem dX10_anotherFollows_10 : decode cX10_anotherFollows 10 = .ok (.getfield 9, 3) := by decide +kernel
theorem dX10_anotherFollows_13 : decode cX10_anotherFollows 13 = .ok (.if_icmp .lt 5, 3) := by decide +kernel
theorem dX10_anotherFollows_16 : decode cX10_anotherFollows 16 = .ok (.iconst 0, 1) := by decide +kernel
theorem dX10_anotherFollows_17 : decode cX10_anotherFollows 17 = .ok (.ireturn, 1) := by decide +kernel
theorem dX10_anotherFollows_18 : decode cX10_anotherFollows 18 = .ok (.aload_n 0, 1) := by decide +kernel
theorem dX10_anotherFollows_19 : decode cX10_anotherFollows 19 = .ok (.bipush 59, 2) := by decide +kernel
theorem dX10_anotherFollows_21 : decode cX10_anotherFollows 21 = .ok (.invokevirtual 55, 3) := by decide +kernel
theorem dX10_anotherFollows_24 : decode cX10_anotherFollows 24 = .ok (.ifCond .ne 8, 3) := by decide +kernel
theorem dX10_anotherFollows_27 : decode cX10_anotherFollows 27 = .ok (.aload_n 0, 1) := by decide +kernel
theorem dX10_anotherFollows_28 : decode cX10_anotherFollows 28 = .ok (.invokevirtual 59, 3) := by decide +kernel
theorem dX10_anotherFollows_31 : decode cX10_anotherFollows 31 = .ok (.ireturn, 1) := by decide +kernel
theorem dX10_anotherFollows_32 : decode cX10_anotherFollows 32 = .ok (.aload_n 0, 1) := by decide +kernel
theorem dX10_anotherFollows_33 : decode cX10_anotherFollows 33 = .ok (.getfield 28, 3) := by decide +kernel
theorem dX10_anotherFollows_36 : decode cX10_anotherFollows 36 = .ok (.getfield 36, 3) := by decide +kernel
theorem dX10_anotherFollows_39 : decode cX10_anotherFollows 39 = .ok (.bipush 12, 2) := by decide +kernel
theorem dX10_anotherFollows_41 : decode cX10_anotherFollows 41 = .ok (.if_icmp .lt 10, 3) := by decide +kernel
theorem dX10_anotherFollows_44 : decode cX10_anotherFollows 44 = .ok (.aload_n 0, 1) := by decide +kernel
theorem dX10_anotherFollows_45 : decode cX10_anotherFollows 45 = .ok (.invokevirtual 59, 3) := by decide +kernel
theorem dX10_anotherFollows_48 : decode cX10_anotherFollows 48 = .ok (.ifCond .eq 7, 3) := by decide +kernel
theorem dX10_anotherFollows_51 : decode cX10_anotherFollows 51 = .ok (.iconst 1, 1) := by decide +kernel
theorem dX10_anotherFollows_52 : decode cX10_anotherFollows 52 = .ok (.goto 4, 3) := by decide +kernel
theorem dX10_anotherFollows_55 : decode cX10_anotherFollows 55 = .ok (.iconst 0, 1) := by decide +kernel
theorem dX10_anotherFollows_56 : decode cX10_anotherFollows 56 = .ok (.ireturn, 1) := by decide +kernel
theorem dX10_readRule_0 : decode cX10_readRule 0 = .ok (.aload_n 0, 1) := by decide +kernel
theorem dX10_readRule_1 : decode cX10_readRule 1 = .ok (.ldc 62, 2) := by decide +kernel
theorem dX10_readRule_3 : decode cX10_readRule 3 = .ok (.invokevirtual 64, 3) := by decide +kernel
theorem dX10_readRule_6 : decode cX10_readRule 6 = .ok (.ifCond .eq 39, 3) := by decide +kernel
theorem dX10_readRule_9 : decode cX10_readRule 9 = .ok (.aload_n 0, 1) := by decide +kernel
theorem dX10_readRule_10 : decode cX10_readRule 10 = .ok (.iconst 0, 1) := by decide +kernel
theorem dX10_readRule_11 : decode cX10_readRule 11 = .ok (.bipush 10, 2) := by decide +kernel
theorem dX10_readRule_13 : decode cX10_readRule 13 = .ok (.sipush 400, 3) := by decide +kernel
theorem dX10_readRule_16 : decode cX10_readRule 16 = .ok (.invokevirtual 68, 3) := by decide +kernel
theorem dX10_readRule_19 : decode cX10_readRule 19 = .ok (.ifCond .eq 24, 3) := by decide +kernel
theorem dX10_readRule_22 : decode cX10_readRule 22 = .ok (.aload_n 0, 1) := by decide +kernel
theorem dX10_readRule_23 : decode cX10_readRule 23 = .ok (.ldc 72, 2) := by decide +kernel
theorem dX10_readRule_25 : decode cX10_readRule 25 = .ok (.invokevirtual 64, 3) := by decide +kernel
theorem dX10_readRule_28 : decode cX10_readRule 28 = .ok (.ifCond .eq 11, 3) := by decide +kernel
theorem dX10_readRule_31 : decode cX10_readRule 31 = .ok (.aload_n 0, 1) := by decide +kernel
theorem dX10_readRule_32 : decode cX10_readRule 32 = .ok (.iconst 0, 1) := by decide +kernel
theorem dX10_readRule_33 : decode cX10_readRule 33 = .ok (.invokevirtual 74, 3) := by decide +kernel
theorem dX10_readRule_36 : decode cX10_readRule 36 = .ok (.ifCond .eq 7, 3) := by decide +kernel
theorem dX10_readRule_39 : decode cX10_readRule 39 = .ok (.iconst 1, 1) := by decide +kernel
theorem dX10_readRule_40 : decode cX10_readRule 40 = .ok (.goto 4, 3) := by decide +kernel
theorem dX10_readRule_43 : decode cX10_readRule 43 = .ok (.iconst 0, 1) := by decide +kernel
theorem dX10_readRule_44 : decode cX10_readRule 44 = .ok (.ireturn, 1) := by decide +kernel
theorem dX10_readRule_45 : decode cX10_readRule 45 = .ok (.aload_n 0, 1) := by decide +kernel
theorem dX10_readRule_46 : decode cX10_readRule 46 = .ok (.ldc 77, 2) := by decide +kernel
theorem dX10_readRule_48 : decode cX10_readRule 48 = .ok (.invokevirtual 64, 3) := by decide +kernel
theorem dX10_readRule_51 : decode cX10_readRule 51 = .ok (.ifCond .eq 8, 3) := by decide +kernel
theorem dX10_readRule_54 : decode cX10_readRule 54 = .ok (.aload_n 0, 1) := by decide +kernel
theorem dX10_readRule_55 : decode cX10_readRule 55 = .ok (.invokevirtual 79, 3) := by decide +kernel
theorem dX10_readRule_58 : decode cX10_readRule 58 = .ok (.ireturn, 1) := by decide +kernel
theorem dX10_readRule_59 : decode cX10_readRule 59 = .ok (.aload_n 0, 1) := by decide +kernel
theorem dX10_readRule_60 : decode cX10_readRule 60 = .ok (.ldc 82, 2) := by decide +kernel
theorem dX10_readRule_62 : decode cX10_readRule 62 = .ok (.invokevirtual 64, 3) := by decide +kernel
theorem dX10_readRule_65 : decode cX10_readRule 65 = .ok (.ifCond .eq 13, 3) := by decide +kernel
theorem dX10_readRule_68 : decode cX10_readRule 68 = .ok (.aload_n 0, 1) := by decide +kernel
theorem dX10_readRule_69 : decode cX10_readRule 69 = .ok (.iconst 2, 1) := by decide +kernel
theorem dX10_readRule_70 : decode cX10_readRule 70 = .ok (.iconst 0, 1) := by decide +kernel
theorem dX10_readRule_71 : decode cX10_readRule 71 = .ok (.sipush 999, 3) := by decide +kernel
theorem dX10_readRule_74 : decode cX10_readRule 74 = .ok (.invokevirtual 68, 3) := by decide +kernel
theorem dX10_readRule_77 : decode cX10_readRule 77 = .ok (.ireturn, 1) := by decide +kernel
theorem dX10_readRule_78 : decode cX10_readRule 78 = .ok (.aload_n 0, 1) := by decide +kernel
theorem dX10_readRule_79 : decode cX10_readRule 79 = .ok (.ldc 84, 2) := by decide +kernel
theorem dX10_readRule_81 : decode cX10_readRule 81 = .ok (.invokevirtual 64, 3) := by decide +kernel
theorem dX10_readRule_84 : decode cX10_readRule 84 = .ok (.ifCond .eq 12, 3) := by decide +kernel
theorem dX10_readRule_87 : decode cX10_readRule 87 = .ok (.aload_n 0, 1) := by decide +kernel
theorem dX10_readRule_88 : decode cX10_readRule 88 = .ok (.iconst 3, 1) := by decide +kernel
theorem dX10_readRule_89 : decode cX10_readRule 89 = .ok (.iconst 0, 1) := by decide +kernel
theorem dX10_readRule_90 : decode cX10_readRule 90 = .ok (.bipush 99, 2) := by decide +kernel
theorem dX10_readRule_92 : decode cX10_readRule 92 = .ok (.invokevirtual 68, 3) := by decide +kernel
theorem dX10_readRule_95 : decode cX10_readRule 95 = .ok (.ireturn, 1) := by decide +kernel
theorem dX10_readRule_96 : decode cX10_readRule 96 = .ok (.aload_n 0, 1) := by decide +kernel
theorem dX10_readRule_97 : decode cX10_readRule 97 = .ok (.ldc 86, 2) := by decide +kernel
theorem dX10_readRule_99 : decode cX10_readRule 99 = .ok (.invokevirtual 64, 3) := by decide +kernel
theorem dX10_readRule_102 : decode cX10_readRule 102 = .ok (.ifCond .eq 38, 3) := by decide +kernel
theorem dX10_readRule_105 : decode cX10_readRule 105 = .ok (.aload_n 0, 1) := by decide +kernel
theorem dX10_readRule_106 : decode cX10_readRule 106 = .ok (.iconst 4, 1) := by decide +kernel
theorem dX10_readRule_107 : decode cX10_readRule 107 = .ok (.iconst 0, 1) := by decide +kernel
theorem dX10_readRule_108 : decode cX10_readRule 108 = .ok (.sipush 999, 3) := by decide +kernel
theorem dX10_readRule_111 : decode cX10_readRule 111 = .ok (.invokevirtual 68, 3) := by decide +kernel
theorem dX10_readRule_114 : decode cX10_readRule 114 = .ok (.ifCond .eq 24, 3) := by decide +kernel
theorem dX10_readRule_117 : decode cX10_readRule 117 = .ok (.aload_n 0, 1) := by decide +kernel
theorem dX10_readRule_118 : decode cX10_readRule 118 = .ok (.ldc 72, 2) := by decide +kernel
theorem dX10_readRule_120 : decode cX10_readRule 120 = .ok (.invokevirtual 64, 3) := by decide +kernel
theorem dX10_readRule_123 : decode cX10_readRule 123 = .ok (.ifCond .eq 11, 3) := by decide +kernel
theorem dX10_readRule_126 : decode cX10_readRule 126 = .ok (.aload_n 0, 1) := by decide +kernel
theorem dX10_readRule_127 : decode cX10_readRule 127 = .ok (.iconst 0, 1) := by decide +kernel
theorem dX10_readRule_128 : decode cX10_readRule 128 = .ok (.invokevirtual 74, 3) := by decide +kernel
theorem dX10_readRule_131 : decode cX10_readRule 131 = .ok (.ifCond .eq 7, 3) := by decide +kernel
theorem dX10_readRule_134 : decode cX10_readRule 134 = .ok (.iconst 1, 1) := by decide +kernel
theorem dX10_readRule_135 : decode cX10_readRule 135 = .ok (.goto 4, 3) := by decide +kernel
theorem dX10_readRule_138 : decode cX10_readRule 138 = .ok (.iconst 0, 1) := by decide +kernel
theorem dX10_readRule_139 : decode cX10_readRule 139 = .ok (.ireturn, 1) := by decide +kernel
theorem dX10_readRule_140 : decode cX10_readRule 140 = .ok (.aload_n 0, 1) := by decide +kernel
theorem dX10_readRule_141 : decode cX10_readRule 141 = .ok (.ldc 88, 2) := by decide +kernel
theorem dX10_readRule_143 : decode cX10_readRule 143 = .ok (.invokevirtual 64, 3) := by decide +kernel
theorem dX10_readRule_146 : decode cX10_readRule 146 = .ok (.ifCond .eq 35, 3) := by decide +kernel
theorem dX10_readRule_149 : decode cX10_readRule 149 = .ok (.aload_n 0, 1) := by decide +kernel
theorem dX10_readRule_150 : decode cX10_readRule 150 = .ok (.getfield 28, 3) := by decide +kernel
theorem dX10_readRule_153 : decode cX10_readRule 153 = .ok (.iconst 5, 1) := by decide +kernel
theorem dX10_readRule_154 : decode cX10_readRule 154 = .ok (.iconst 0, 1) := by decide +kernel
theorem dX10_readRule_155 : decode cX10_readRule 155 = .ok (.iconst 0, 1) := by decide +kernel
theorem dX10_readRule_156 : decode cX10_readRule 156 = .ok (.invokevirtual 90, 3) := by decide +kernel
theorem dX10_readRule_159 : decode cX10_readRule 159 = .ok (.aload_n 0, 1) := by decide +kernel
theorem dX10_readRule_160 : decode cX10_readRule 160 = .ok (.ldc 72, 2) := by decide +kernel
theorem dX10_readRule_162 : decode cX10_readRule 162 = .ok (.invokevirtual 64, 3) := by decide +kernel
theorem dX10_readRule_165 : decode cX10_readRule 165 = .ok (.ifCond .eq 11, 3) := by decide +kernel
theorem dX10_readRule_168 : decode cX10_readRule 168 = .ok (.aload_n 0, 1) := by decide +kernel
theorem dX10_readRule_169 : decode cX10_readRule 169 = .ok (.iconst 0, 1) := by decide +kernel
theorem dX10_readRule_170 : decode cX10_readRule 170 = .ok (.invokevirtual 74, 3) := by decide +kernel
theorem dX10_readRule_173 : decode cX10_readRule 173 = .ok (.goto 7, 3) := by decide +kernel
theorem dX10_readRule_176 : decode cX10_readRule 176 = .ok (.aload_n 0, 1) := by decide +kernel
theorem dX10_readRule_177 : decode cX10_readRule 177 = .ok (.invokevirtual 59, 3) := by decide +kernel
theorem dX10_readRule_180 : decode cX10_readRule 180 = .ok (.ireturn, 1) := by decide +kernel
theorem dX10_readRule_181 : decode cX10_readRule 181 = .ok (.aload_n 0, 1) := by decide +kernel
theorem dX10_readRule_182 : decode cX10_readRule 182 = .ok (.ldc 94, 2) := by decide +kernel
theorem dX10_readRule_184 : decode cX10_readRule 184 = .ok (.invokevirtual 64, 3) := by decide +kernel
theorem dX10_readRule_187 : decode cX10_readRule 187 = .ok (.ifCond .eq 10, 3) := by decide +kernel
theorem dX10_readRule_190 : decode cX10_readRule 190 = .ok (.aload_n 0, 1) := by decide +kernel
theorem dX10_readRule_191 : decode cX10_readRule 191 = .ok (.invokevirtual 96, 3) := by decide +kernel
theorem dX10_readRule_194 : decode cX10_readRule 194 = .ok (.goto 7, 3) := by decide +kernel
theorem dX10_readRule_197 : decode cX10_readRule 197 = .ok (.aload_n 0, 1) := by decide +kernel
theorem dX10_readRule_198 : decode cX10_readRule 198 = .ok (.invokevirtual 59, 3) := by decide +kernel
theorem dX10_readRule_201 : decode cX10_readRule 201 = .ok (.ireturn, 1) := by decide +kernel
theorem dX10_readNumbered_0 : decode cX10_readNumbered 0 = .ok (.aload_n 0, 1) := by decide +kernel
theorem dX10_readNumbered_1 : decode cX10_readNumbered 1 = .ok (.iload_n 2, 1) := by decide +kernel
theorem dX10_readNumbered_2 : decode cX10_readNumbered 2 = .ok (.iload_n 3, 1) := by decide +kernel
theorem dX10_readNumbered_3 : decode cX10_readNumbered 3 = .ok (.invokevirtual 99, 3) := by decide +kernel
theorem dX10_readNumbered_6 : decode cX10_readNumbered 6 = .ok (.istore 4, 2) := by decide +kernel
theorem dX10_readNumbered_8 : decode cX10_readNumbered 8 = .ok (.aload_n 0, 1) := by decide +kernel
theorem dX10_readNumbered_9 : decode cX10_readNumbered 9 = .ok (.getfield 28, 3) := by decide +kernel
theorem dX10_readNumbered_12 : decode cX10_readNumbered 12 = .ok (.iload_n 1, 1) := by decide +kernel
theorem dX10_readNumbered_13 : decode cX10_readNumbered 13 = .ok (.iload 4, 2) := by decide +kernel
theorem dX10_readNumbered_15 : decode cX10_readNumbered 15 = .ok (.iconst 0, 1) := by decide +kernel
theorem dX10_readNumbered_16 : decode cX10_readNumbered 16 = .ok (.invokevirtual 90, 3) := by decide +kernel
theorem dX10_readNumbered_19 : decode cX10_readNumbered 19 = .ok (.iload 4, 2) := by decide +kernel
theorem dX10_readNumbered_21 : decode cX10_readNumbered 21 = .ok (.iconst (-1), 1) := by decide +kernel
theorem dX10_readNumbered_22 : decode cX10_readNumbered 22 = .ok (.if_icmp .eq 7, 3) := by decide +kernel
theorem dX10_readNumbered_25 : decode cX10_readNumbered 25 = .ok (.iconst 1, 1) := by decide +kernel
theorem dX10_readNumbered_26 : decode cX10_readNumbered 26 = .ok (.goto 4, 3) := by decide +kernel
theorem dX10_readNumbered_29 : decode cX10_readNumbered 29 = .ok (.iconst 0, 1) := by decide +kernel
theorem dX10_readNumbered_30 : decode cX10_readNumbered 30 = .ok (.ireturn, 1) := by decide +kernel
theorem dX10_readSpace_0 : decode cX10_readSpace 0 = .ok (.aload_n 0, 1) := by decide +kernel
theorem dX10_readSpace_1 : decode cX10_readSpace 1 = .ok (.iconst 1, 1) := by decide +kernel
theorem dX10_readSpace_2 : decode cX10_readSpace 2 = .ok (.bipush 40, 2) := by decide +kernel
theorem dX10_readSpace_4 : decode cX10_readSpace 4 = .ok (.invokevirtual 99, 3) := by decide +kernel
theorem dX10_readSpace_7 : decode cX10_readSpace 7 = .ok (.istore_n 1, 1) := by decide +kernel
theorem dX10_readSpace_8 : decode cX10_readSpace 8 = .ok (.iload_n 1, 1) := by decide +kernel
theorem dX10_readSpace_9 : decode cX10_readSpace 9 = .ok (.iconst (-1), 1) := by decide +kernel
theorem dX10_readSpace_10 : decode cX10_readSpace 10 = .ok (.if_icmp .ne 5, 3) := by decide +kernel
theorem dX10_readSpace_13 : decode cX10_readSpace 13 = .ok (.iconst 0, 1) := by decide +kernel
theorem dX10_readSpace_14 : decode cX10_readSpace 14 = .ok (.ireturn, 1) := by decide +kernel
theorem dX10_readSpace_15 : decode cX10_readSpace 15 = .ok (.aload_n 0, 1) := by decide +kernel
theorem dX10_readSpace_16 : decode cX10_readSpace 16 = .ok (.iload_n 1, 1) := by decide +kernel
theorem dX10_readSpace_17 : decode cX10_readSpace 17 = .ok (.bipush 40, 2) := by decide +kernel
theorem dX10_readSpace_19 : decode cX10_readSpace 19 = .ok (.invokevirtual 99, 3) := by decide +kernel
theorem dX10_readSpace_22 : decode cX10_readSpace 22 = .ok (.istore_n 2, 1) := by decide +kernel
theorem dX10_readSpace_23 : decode cX10_readSpace 23 = .ok (.aload_n 0, 1) := by decide +kernel
theorem dX10_readSpace_24 : decode cX10_readSpace 24 = .ok (.getfield 28, 3) := by decide +kernel
theorem dX10_readSpace_27 : decode cX10_readSpace 27 = .ok (.iconst 1, 1) := by decide +kernel
theorem dX10_readSpace_28 : decode cX10_readSpace 28 = .ok (.iload_n 1, 1) := by decide +kernel
theorem dX10_readSpace_29 : decode cX10_readSpace 29 = .ok (.iload_n 2, 1) := by decide +kernel
theorem dX10_readSpace_30 : decode cX10_readSpace 30 = .ok (.invokevirtual 90, 3) := by decide +kernel
theorem dX10_readSpace_33 : decode cX10_readSpace 33 = .ok (.iload_n 2, 1) := by decide +kernel
theorem dX10_readSpace_34 : decode cX10_readSpace 34 = .ok (.iconst (-1), 1) := by decide +kernel
theorem dX10_readSpace_35 : decode cX10_readSpace 35 = .ok (.if_icmp .eq 7, 3) := by decide +kernel
theorem dX10_readSpace_38 : decode cX10_readSpace 38 = .ok (.iconst 1, 1) := by decide +kernel
theorem dX10_readSpace_39 : decode cX10_readSpace 39 = .ok (.goto 4, 3) := by decide +kernel
theorem dX10_readSpace_42 : decode cX10_readSpace 42 = .ok (.iconst 0, 1) := by decide +kernel
theorem dX10_readSpace_43 : decode cX10_readSpace 43 = .ok (.ireturn, 1) := by decide +kernel
theorem dX10_readClose_0 : decode cX10_readClose 0 = .ok (.aload_n 0, 1) := by decide +kernel
theorem dX10_readClose_1 : decode cX10_readClose 1 = .ok (.iconst 0, 1) := by decide +kernel
theorem dX10_readClose_2 : decode cX10_readClose 2 = .ok (.iconst 5, 1) := by decide +kernel
theorem dX10_readClose_3 : decode cX10_readClose 3 = .ok (.invokevirtual 99, 3) := by decide +kernel
theorem dX10_readClose_6 : decode cX10_readClose 6 = .ok (.istore_n 1, 1) := by decide +kernel
theorem dX10_readClose_7 : decode cX10_readClose 7 = .ok (.iload_n 1, 1) := by decide +kernel
theorem dX10_readClose_8 : decode cX10_readClose 8 = .ok (.iconst (-1), 1) := by decide +kernel
theorem dX10_readClose_9 : decode cX10_readClose 9 = .ok (.if_icmp .ne 5, 3) := by decide +kernel
theorem dX10_readClose_12 : decode cX10_readClose 12 = .ok (.iconst 0, 1) := by decide +kernel
theorem dX10_readClose_13 : decode cX10_readClose 13 = .ok (.ireturn, 1) := by decide +kernel
theorem dX10_readClose_14 : decode cX10_readClose 14 = .ok (.aload_n 0, 1) := by decide +kernel
theorem dX10_readClose_15 : decode cX10_readClose 15 = .ok (.ldc 102, 2) := by decide +kernel
theorem dX10_readClose_17 : decode cX10_readClose 17 = .ok (.invokevirtual 64, 3) := by decide +kernel
theorem dX10_readClose_20 : decode cX10_readClose 20 = .ok (.ifCond .ne 8, 3) := by decide +kernel
theorem dX10_readClose_23 : decode cX10_readClose 23 = .ok (.aload_n 0, 1) := by decide +kernel
theorem dX10_readClose_24 : decode cX10_readClose 24 = .ok (.invokevirtual 59, 3) := by decide +kernel
theorem dX10_readClose_27 : decode cX10_readClose 27 = .ok (.ireturn, 1) := by decide +kernel
theorem dX10_readClose_28 : decode cX10_readClose 28 = .ok (.aload_n 0, 1) := by decide +kernel
theorem dX10_readClose_29 : decode cX10_readClose 29 = .ok (.iconst 0, 1) := by decide +kernel
theorem dX10_readClose_30 : decode cX10_readClose 30 = .ok (.sipush 600, 3) := by decide +kernel
theorem dX10_readClose_33 : decode cX10_readClose 33 = .ok (.invokevirtual 99, 3) := by decide +kernel
theorem dX10_readClose_36 : decode cX10_readClose 36 = .ok (.istore_n 2, 1) := by decide +kernel
theorem dX10_readClose_37 : decode cX10_readClose 37 = .ok (.aload_n 0, 1) := by decide +kernel
theorem dX10_readClose_38 : decode cX10_readClose 38 = .ok (.getfield 28, 3) := by decide +kernel
theorem dX10_readClose_41 : decode cX10_readClose 41 = .ok (.bipush 6, 2) := by decide +kernel
theorem dX10_readClose_43 : decode cX10_readClose 43 = .ok (.iload_n 1, 1) := by decide +kernel
theorem dX10_readClose_44 : decode cX10_readClose 44 = .ok (.iload_n 2, 1) := by decide +kernel
theorem dX10_readClose_45 : decode cX10_readClose 45 = .ok (.invokevirtual 90, 3) := by decide +kernel
theorem dX10_readClose_48 : decode cX10_readClose 48 = .ok (.iload_n 2, 1) := by decide +kernel
theorem dX10_readClose_49 : decode cX10_readClose 49 = .ok (.iconst (-1), 1) := by decide +kernel
theorem dX10_readClose_50 : decode cX10_readClose 50 = .ok (.if_icmp .eq 7, 3) := by decide +kernel
theorem dX10_readClose_53 : decode cX10_readClose 53 = .ok (.iconst 1, 1) := by decide +kernel
theorem dX10_readClose_54 : decode cX10_readClose 54 = .ok (.goto 4, 3) := by decide +kernel
theorem dX10_readClose_57 : decode cX10_readClose 57 = .ok (.iconst 0, 1) := by decide +kernel
theorem dX10_readClose_58 : decode cX10_readClose 58 = .ok (.ireturn, 1) := by decide +kernel
theorem dX10_either_0 : decode cX10_either 0 = .ok (.aload_n 0, 1) := by decide +kernel
theorem dX10_either_1 : decode cX10_either 1 = .ok (.iload_n 1, 1) := by decide +kernel
theorem dX10_either_2 : decode cX10_either 2 = .ok (.invokevirtual 103, 3) := by decide +kernel
theorem dX10_either_5 : decode cX10_either 5 = .ok (.ifCond .ne 5, 3) := by decide +kernel
theorem dX10_either_8 : decode cX10_either 8 = .ok (.iconst 0, 1) := by decide +kernel
theorem dX10_either_9 : decode cX10_either 9 = .ok (.ireturn, 1) := by decide +kernel
theorem dX10_either_10 : decode cX10_either 10 = .ok (.iconst 0, 1) := by decide +kernel
theorem dX10_either_11 : decode cX10_either 11 = .ok (.istore_n 2, 1) := by decide +kernel
theorem dX10_either_12 : decode cX10_either 12 = .ok (.iload_n 2, 1) := by decide +kernel
theorem dX10_either_13 : decode cX10_either 13 = .ok (.aload_n 0, 1) := by decide +kernel
theorem dX10_either_14 : decode cX10_either 14 = .ok (.getfield 9, 3) := by decide +kernel
theorem dX10_either_17 : decode cX10_either 17 = .ok (.if_icmp .ge 38, 3) := by decide +kernel
theorem dX10_either_20 : decode cX10_either 20 = .ok (.aload_n 0, 1) := by decide +kernel
theorem dX10_either_21 : decode cX10_either 21 = .ok (.ldc 106, 2) := by decide +kernel
theorem dX10_either_23 : decode cX10_either 23 = .ok (.invokevirtual 64, 3) := by decide +kernel
theorem dX10_either_26 : decode cX10_either 26 = .ok (.ifCond .eq 29, 3) := by decide +kernel
theorem dX10_either_29 : decode cX10_either 29 = .ok (.aload_n 0, 1) := by decide +kernel
theorem dX10_either_30 : decode cX10_either 30 = .ok (.iload_n 1, 1) := by decide +kernel
theorem dX10_either_31 : decode cX10_either 31 = .ok (.invokevirtual 103, 3) := by decide +kernel
theorem dX10_either_34 : decode cX10_either 34 = .ok (.ifCond .ne 5, 3) := by decide +kernel
theorem dX10_either_37 : decode cX10_either 37 = .ok (.iconst 0, 1) := by decide +kernel
theorem dX10_either_38 : decode cX10_either 38 = .ok (.ireturn, 1) := by decide +kernel
theorem dX10_either_39 : decode cX10_either 39 = .ok (.aload_n 0, 1) := by decide +kernel
theorem dX10_either_40 : decode cX10_either 40 = .ok (.getfield 28, 3) := by decide +kernel
theorem dX10_either_43 : decode cX10_either 43 = .ok (.bipush 28, 2) := by decide +kernel
theorem dX10_either_45 : decode cX10_either 45 = .ok (.iconst 0, 1) := by decide +kernel
theorem dX10_either_46 : decode cX10_either 46 = .ok (.invokevirtual 108, 3) := by decide +kernel
theorem dX10_either_49 : decode cX10_either 49 = .ok (.iinc 2 1, 3) := by decide +kernel
theorem dX10_either_52 : decode cX10_either 52 = .ok (.goto (-40), 3) := by decide +kernel
theorem dX10_either_55 : decode cX10_either 55 = .ok (.iconst 1, 1) := by decide +kernel
theorem dX10_either_56 : decode cX10_either 56 = .ok (.ireturn, 1) := by decide +kernel
theorem dX10_every_0 : decode cX10_every 0 = .ok (.aload_n 0, 1) := by decide +kernel
theorem dX10_every_1 : decode cX10_every 1 = .ok (.iload_n 1, 1) := by decide +kernel
theorem dX10_every_2 : decode cX10_every 2 = .ok (.invokevirtual 112, 3) := by decide +kernel
theorem dX10_every_5 : decode cX10_every 5 = .ok (.ifCond .ne 5, 3) := by decide +kernel
theorem dX10_every_8 : decode cX10_every 8 = .ok (.iconst 0, 1) := by decide +kernel
theorem dX10_every_9 : decode cX10_every 9 = .ok (.ireturn, 1) := by decide +kernel
theorem dX10_every_10 : decode cX10_every 10 = .ok (.iconst 0, 1) := by decide +kernel
theorem dX10_every_11 : decode cX10_every 11 = .ok (.istore_n 2, 1) := by decide +kernel
theorem dX10_every_12 : decode cX10_every 12 = .ok (.iload_n 2, 1) := by decide +kernel
theorem dX10_every_13 : decode cX10_every 13 = .ok (.aload_n 0, 1) := by decide +kernel
theorem dX10_every_14 : decode cX10_every 14 = .ok (.getfield 9, 3) := by decide +kernel
theorem dX10_every_17 : decode cX10_every 17 = .ok (.if_icmp .ge 38, 3) := by decide +kernel
theorem dX10_every_20 : decode cX10_every 20 = .ok (.aload_n 0, 1) := by decide +kernel
theorem dX10_every_21 : decode cX10_every 21 = .ok (.ldc 115, 2) := by decide +kernel
theorem dX10_every_23 : decode cX10_every 23 = .ok (.invokevirtual 64, 3) := by decide +kernel
theorem dX10_every_26 : decode cX10_every 26 = .ok (.ifCond .eq 29, 3) := by decide +kernel
theorem dX10_every_29 : decode cX10_every 29 = .ok (.aload_n 0, 1) := by decide +kernel
theorem dX10_every_30 : decode cX10_every 30 = .ok (.iload_n 1, 1) := by decide +kernel
theorem dX10_every_31 : decode cX10_every 31 = .ok (.invokevirtual 112, 3) := by decide +kernel
theorem dX10_every_34 : decode cX10_every 34 = .ok (.ifCond .ne 5, 3) := by decide +kernel
theorem dX10_every_37 : decode cX10_every 37 = .ok (.iconst 0, 1) := by decide +kernel
theorem dX10_every_38 : decode cX10_every 38 = .ok (.ireturn, 1) := by decide +kernel
theorem dX10_every_39 : decode cX10_every 39 = .ok (.aload_n 0, 1) := by decide +kernel
theorem dX10_every_40 : decode cX10_every 40 = .ok (.getfield 28, 3) := by decide +kernel
theorem dX10_every_43 : decode cX10_every 43 = .ok (.bipush 27, 2) := by decide +kernel
theorem dX10_every_45 : decode cX10_every 45 = .ok (.iconst 0, 1) := by decide +kernel
theorem dX10_every_46 : decode cX10_every 46 = .ok (.invokevirtual 108, 3) := by decide +kernel
theorem dX10_every_49 : decode cX10_every 49 = .ok (.iinc 2 1, 3) := by decide +kernel
theorem dX10_every_52 : decode cX10_every 52 = .ok (.goto (-40), 3) := by decide +kernel
theorem dX10_every_55 : decode cX10_every 55 = .ok (.iconst 1, 1) := by decide +kernel
theorem dX10_every_56 : decode cX10_every 56 = .ok (.ireturn, 1) := by decide +kernel
theorem dX10_atom_0 : decode cX10_atom 0 = .ok (.aload_n 0, 1) := by decide +kernel
theorem dX10_atom_1 : decode cX10_atom 1 = .ok (.getfield 21, 3) := by decide +kernel
theorem dX10_atom_4 : decode cX10_atom 4 = .ok (.aload_n 0, 1) := by decide +kernel
theorem dX10_atom_5 : decode cX10_atom 5 = .ok (.getfield 15, 3) := by decide +kernel
theorem dX10_atom_8 : decode cX10_atom 8 = .ok (.iaload, 1) := by decide +kernel
theorem dX10_atom_9 : decode cX10_atom 9 = .ok (.istore_n 2, 1) := by decide +kernel
theorem dX10_atom_10 : decode cX10_atom 10 = .ok (.aload_n 0, 1) := by decide +kernel
theorem dX10_atom_11 : decode cX10_atom 11 = .ok (.ldc 117, 2) := by decide +kernel
theorem dX10_atom_13 : decode cX10_atom 13 = .ok (.invokevirtual 64, 3) := by decide +kernel
theorem dX10_atom_16 : decode cX10_atom 16 = .ok (.istore_n 3, 1) := by decide +kernel
theorem dX10_atom_17 : decode cX10_atom 17 = .ok (.iload_n 3, 1) := by decide +kernel
theorem dX10_atom_18 : decode cX10_atom 18 = .ok (.ifCond .ne 21, 3) := by decide +kernel
theorem dX10_atom_21 : decode cX10_atom 21 = .ok (.aload_n 0, 1) := by decide +kernel
theorem dX10_atom_22 : decode cX10_atom 22 = .ok (.bipush 40, 2) := by decide +kernel
theorem dX10_atom_24 : decode cX10_atom 24 = .ok (.invokevirtual 55, 3) := by decide +kernel
theorem dX10_atom_27 : decode cX10_atom 27 = .ok (.ifCond .ne 12, 3) := by decide +kernel
theorem dX10_atom_30 : decode cX10_atom 30 = .ok (.aload_n 0, 1) := by decide +kernel
theorem dX10_atom_31 : decode cX10_atom 31 = .ok (.aload_n 0, 1) := by decide +kernel
theorem dX10_atom_32 : decode cX10_atom 32 = .ok (.invokevirtual 119, 3) := by decide +kernel
theorem dX10_atom_35 : decode cX10_atom 35 = .ok (.invokevirtual 123, 3) := by decide +kernel
theorem dX10_atom_38 : decode cX10_atom 38 = .ok (.ireturn, 1) := by decide +kernel
theorem dX10_atom_39 : decode cX10_atom 39 = .ok (.iload_n 1, 1) := by decide +kernel
theorem dX10_atom_40 : decode cX10_atom 40 = .ok (.iconst 5, 1) := by decide +kernel
theorem dX10_atom_41 : decode cX10_atom 41 = .ok (.if_icmp .lt 13, 3) := by decide +kernel
theorem dX10_atom_44 : decode cX10_atom 44 = .ok (.aload_n 0, 1) := by decide +kernel
theorem dX10_atom_45 : decode cX10_atom 45 = .ok (.iload_n 2, 1) := by decide +kernel
theorem dX10_atom_46 : decode cX10_atom 46 = .ok (.putfield 15, 3) := by decide +kernel
theorem dX10_atom_49 : decode cX10_atom 49 = .ok (.aload_n 0, 1) := by decide +kernel
theorem dX10_atom_50 : decode cX10_atom 50 = .ok (.invokevirtual 59, 3) := by decide +kernel
theorem dX10_atom_53 : decode cX10_atom 53 = .ok (.ireturn, 1) := by decide +kernel
theorem dX10_atom_54 : decode cX10_atom 54 = .ok (.iload_n 3, 1) := by decide +kernel
theorem dX10_atom_55 : decode cX10_atom 55 = .ok (.ifCond .eq 25, 3) := by decide +kernel
theorem dX10_atom_58 : decode cX10_atom 58 = .ok (.aload_n 0, 1) := by decide +kernel
theorem dX10_atom_59 : decode cX10_atom 59 = .ok (.iload_n 1, 1) := by decide +kernel
theorem dX10_atom_60 : decode cX10_atom 60 = .ok (.iconst 1, 1) := by decide +kernel
theorem dX10_atom_61 : decode cX10_atom 61 = .ok (.iadd, 1) := by decide +kernel
theorem dX10_atom_62 : decode cX10_atom 62 = .ok (.invokevirtual 112, 3) := by decide +kernel
theorem dX10_atom_65 : decode cX10_atom 65 = .ok (.istore 4, 2) := by decide +kernel
theorem dX10_atom_67 : decode cX10_atom 67 = .ok (.aload_n 0, 1) := by decide +kernel
theorem dX10_atom_68 : decode cX10_atom 68 = .ok (.getfield 28, 3) := by decide +kernel
theorem dX10_atom_71 : decode cX10_atom 71 = .ok (.bipush 29, 2) := by decide +kernel
theorem dX10_atom_73 : decode cX10_atom 73 = .ok (.iconst 0, 1) := by decide +kernel
theorem dX10_atom_74 : decode cX10_atom 74 = .ok (.invokevirtual 108, 3) := by decide +kernel
theorem dX10_atom_77 : decode cX10_atom 77 = .ok (.iload 4, 2) := by decide +kernel
theorem dX10_atom_79 : decode cX10_atom 79 = .ok (.ireturn, 1) := by decide +kernel
theorem dX10_atom_80 : decode cX10_atom 80 = .ok (.aload_n 0, 1) := by decide +kernel
theorem dX10_atom_81 : decode cX10_atom 81 = .ok (.iload_n 1, 1) := by decide +kernel
theorem dX10_atom_82 : decode cX10_atom 82 = .ok (.iconst 1, 1) := by decide +kernel
theorem dX10_atom_83 : decode cX10_atom 83 = .ok (.iadd, 1) := by decide +kernel
theorem dX10_atom_84 : decode cX10_atom 84 = .ok (.invokevirtual 74, 3) := by decide +kernel
theorem dX10_atom_87 : decode cX10_atom 87 = .ok (.ifCond .eq 23, 3) := by decide +kernel
theorem dX10_atom_90 : decode cX10_atom 90 = .ok (.aload_n 0, 1) := by decide +kernel
theorem dX10_atom_91 : decode cX10_atom 91 = .ok (.bipush 41, 2) := by decide +kernel
theorem dX10_atom_93 : decode cX10_atom 93 = .ok (.invokevirtual 55, 3) := by decide +kernel
theorem dX10_atom_96 : decode cX10_atom 96 = .ok (.ifCond .ne 10, 3) := by decide +kernel
theorem dX10_atom_99 : decode cX10_atom 99 = .ok (.aload_n 0, 1) := by decide +kernel
theorem dX10_atom_100 : decode cX10_atom 100 = .ok (.invokevirtual 59, 3) := by decide +kernel
theorem dX10_atom_103 : decode cX10_atom 103 = .ok (.ifCond .eq 7, 3) := by decide +kernel
theorem dX10_atom_106 : decode cX10_atom 106 = .ok (.iconst 1, 1) := by decide +kernel
theorem dX10_atom_107 : decode cX10_atom 107 = .ok (.goto 4, 3) := by decide +kernel
theorem dX10_atom_110 : decode cX10_atom 110 = .ok (.iconst 0, 1) := by decide +kernel
theorem dX10_atom_111 : decode cX10_atom 111 = .ok (.ireturn, 1) := by decide +kernel
theorem dX10_takeFact_0 : decode cX10_takeFact 0 = .ok (.aload_n 0, 1) := by decide +kernel
theorem dX10_takeFact_1 : decode cX10_takeFact 1 = .ok (.ldc 126, 2) := by decide +kernel
theorem dX10_takeFact_3 : decode cX10_takeFact 3 = .ok (.invokevirtual 64, 3) := by decide +kernel
theorem dX10_takeFact_6 : decode cX10_takeFact 6 = .ok (.ifCond .eq 5, 3) := by decide +kernel
theorem dX10_takeFact_9 : decode cX10_takeFact 9 = .ok (.iconst 0, 1) := by decide +kernel
theorem dX10_takeFact_10 : decode cX10_takeFact 10 = .ok (.ireturn, 1) := by decide +kernel
theorem dX10_takeFact_11 : decode cX10_takeFact 11 = .ok (.aload_n 0, 1) := by decide +kernel
theorem dX10_takeFact_12 : decode cX10_takeFact 12 = .ok (.ldc 128, 2) := by decide +kernel
theorem dX10_takeFact_14 : decode cX10_takeFact 14 = .ok (.invokevirtual 64, 3) := by decide +kernel
theorem dX10_takeFact_17 : decode cX10_takeFact 17 = .ok (.ifCond .eq 5, 3) := by decide +kernel
theorem dX10_takeFact_20 : decode cX10_takeFact 20 = .ok (.iconst 1, 1) := by decide +kernel
theorem dX10_takeFact_21 : decode cX10_takeFact 21 = .ok (.ireturn, 1) := by decide +kernel
theorem dX10_takeFact_22 : decode cX10_takeFact 22 = .ok (.aload_n 0, 1) := by decide +kernel
theorem dX10_takeFact_23 : decode cX10_takeFact 23 = .ok (.ldc 130, 2) := by decide +kernel
theorem dX10_takeFact_25 : decode cX10_takeFact 25 = .ok (.invokevirtual 64, 3) := by decide +kernel
theorem dX10_takeFact_28 : decode cX10_takeFact 28 = .ok (.ifCond .eq 5, 3) := by decide +kernel
theorem dX10_takeFact_31 : decode cX10_takeFact 31 = .ok (.iconst 2, 1) := by decide +kernel
theorem dX10_takeFact_32 : decode cX10_takeFact 32 = .ok (.ireturn, 1) := by decide +kernel
theorem dX10_takeFact_33 : decode cX10_takeFact 33 = .ok (.aload_n 0, 1) := by decide +kernel
theorem dX10_takeFact_34 : decode cX10_takeFact 34 = .ok (.ldc 132, 2) := by decide +kernel
theorem dX10_takeFact_36 : decode cX10_takeFact 36 = .ok (.invokevirtual 64, 3) := by decide +kernel
theorem dX10_takeFact_39 : decode cX10_takeFact 39 = .ok (.ifCond .eq 5, 3) := by decide +kernel
theorem dX10_takeFact_42 : decode cX10_takeFact 42 = .ok (.iconst 3, 1) := by decide +kernel
theorem dX10_takeFact_43 : decode cX10_takeFact 43 = .ok (.ireturn, 1) := by decide +kernel
theorem dX10_takeFact_44 : decode cX10_takeFact 44 = .ok (.aload_n 0, 1) := by decide +kernel
theorem dX10_takeFact_45 : decode cX10_takeFact 45 = .ok (.ldc 134, 2) := by decide +kernel
theorem dX10_takeFact_47 : decode cX10_takeFact 47 = .ok (.invokevirtual 64, 3) := by decide +kernel
theorem dX10_takeFact_50 : decode cX10_takeFact 50 = .ok (.ifCond .eq 5, 3) := by decide +kernel
theorem dX10_takeFact_53 : decode cX10_takeFact 53 = .ok (.iconst 4, 1) := by decide +kernel
theorem dX10_takeFact_54 : decode cX10_takeFact 54 = .ok (.ireturn, 1) := by decide +kernel
theorem dX10_takeFact_55 : decode cX10_takeFact 55 = .ok (.aload_n 0, 1) := by decide +kernel
theorem dX10_takeFact_56 : decode cX10_takeFact 56 = .ok (.ldc 136, 2) := by decide +kernel
theorem dX10_takeFact_58 : decode cX10_takeFact 58 = .ok (.invokevirtual 64, 3) := by decide +kernel
theorem dX10_takeFact_61 : decode cX10_takeFact 61 = .ok (.ifCond .eq 5, 3) := by decide +kernel
theorem dX10_takeFact_64 : decode cX10_takeFact 64 = .ok (.iconst 5, 1) := by decide +kernel
theorem dX10_takeFact_65 : decode cX10_takeFact 65 = .ok (.ireturn, 1) := by decide +kernel
theorem dX10_takeFact_66 : decode cX10_takeFact 66 = .ok (.aload_n 0, 1) := by decide +kernel
theorem dX10_takeFact_67 : decode cX10_takeFact 67 = .ok (.ldc 138, 2) := by decide +kernel
theorem dX10_takeFact_69 : decode cX10_takeFact 69 = .ok (.invokevirtual 64, 3) := by decide +kernel
theorem dX10_takeFact_72 : decode cX10_takeFact 72 = .ok (.ifCond .eq 6, 3) := by decide +kernel
theorem dX10_takeFact_75 : decode cX10_takeFact 75 = .ok (.bipush 6, 2) := by decide +kernel
theorem dX10_takeFact_77 : decode cX10_takeFact 77 = .ok (.ireturn, 1) := by decide +kernel
theorem dX10_takeFact_78 : decode cX10_takeFact 78 = .ok (.aload_n 0, 1) := by decide +kernel
theorem dX10_takeFact_79 : decode cX10_takeFact 79 = .ok (.ldc 140, 2) := by decide +kernel
theorem dX10_takeFact_81 : decode cX10_takeFact 81 = .ok (.invokevirtual 64, 3) := by decide +kernel
theorem dX10_takeFact_84 : decode cX10_takeFact 84 = .ok (.ifCond .eq 6, 3) := by decide +kernel
theorem dX10_takeFact_87 : decode cX10_takeFact 87 = .ok (.bipush 7, 2) := by decide +kernel
theorem dX10_takeFact_89 : decode cX10_takeFact 89 = .ok (.ireturn, 1) := by decide +kernel
theorem dX10_takeFact_90 : decode cX10_takeFact 90 = .ok (.aload_n 0, 1) := by decide +kernel
theorem dX10_takeFact_91 : decode cX10_takeFact 91 = .ok (.ldc 142, 2) := by decide +kernel
theorem dX10_takeFact_93 : decode cX10_takeFact 93 = .ok (.invokevirtual 64, 3) := by decide +kernel
theorem dX10_takeFact_96 : decode cX10_takeFact 96 = .ok (.ifCond .eq 8, 3) := by decide +kernel
theorem dX10_takeFact_99 : decode cX10_takeFact 99 = .ok (.bipush 8, 2) := by decide +kernel
theorem dX10_takeFact_101 : decode cX10_takeFact 101 = .ok (.goto 4, 3) := by decide +kernel
theorem dX10_takeFact_104 : decode cX10_takeFact 104 = .ok (.iconst (-1), 1) := by decide +kernel
theorem dX10_takeFact_105 : decode cX10_takeFact 105 = .ok (.ireturn, 1) := by decide +kernel
theorem dX10_tagOrComparison_0 : decode cX10_tagOrComparison 0 = .ok (.iload_n 1, 1) := by decide +kernel
theorem dX10_tagOrComparison_1 : decode cX10_tagOrComparison 1 = .ok (.iconst (-1), 1) := by decide +kernel
theorem dX10_tagOrComparison_2 : decode cX10_tagOrComparison 2 = .ok (.if_icmp .ne 8, 3) := by decide +kernel
theorem dX10_tagOrComparison_5 : decode cX10_tagOrComparison 5 = .ok (.aload_n 0, 1) := by decide +kernel
theorem dX10_tagOrComparison_6 : decode cX10_tagOrComparison 6 = .ok (.invokevirtual 59, 3) := by decide +kernel
theorem dX10_tagOrComparison_9 : decode cX10_tagOrComparison 9 = .ok (.ireturn, 1) := by decide +kernel
theorem dX10_tagOrComparison_10 : decode cX10_tagOrComparison 10 = .ok (.iload_n 1, 1) := by decide +kernel
theorem dX10_tagOrComparison_11 : decode cX10_tagOrComparison 11 = .ok (.iconst 2, 1) := by decide +kernel
theorem dX10_tagOrComparison_12 : decode cX10_tagOrComparison 12 = .ok (.if_icmp .gt 14, 3) := by decide +kernel
theorem dX10_tagOrComparison_15 : decode cX10_tagOrComparison 15 = .ok (.aload_n 0, 1) := by decide +kernel
theorem dX10_tagOrComparison_16 : decode cX10_tagOrComparison 16 = .ok (.getfield 28, 3) := by decide +kernel
theorem dX10_tagOrComparison_19 : decode cX10_tagOrComparison 19 = .ok (.iload_n 1, 1) := by decide +kernel
theorem dX10_tagOrComparison_20 : decode cX10_tagOrComparison 20 = .ok (.iconst 0, 1) := by decide +kernel
theorem dX10_tagOrComparison_21 : decode cX10_tagOrComparison 21 = .ok (.invokevirtual 108, 3) := by decide +kernel
theorem dX10_tagOrComparison_24 : decode cX10_tagOrComparison 24 = .ok (.iconst 1, 1) := by decide +kernel
theorem dX10_tagOrComparison_25 : decode cX10_tagOrComparison 25 = .ok (.ireturn, 1) := by decide +kernel
theorem dX10_tagOrComparison_26 : decode cX10_tagOrComparison 26 = .ok (.aload_n 0, 1) := by decide +kernel
theorem dX10_tagOrComparison_27 : decode cX10_tagOrComparison 27 = .ok (.bipush 60, 2) := by decide +kernel
theorem dX10_tagOrComparison_29 : decode cX10_tagOrComparison 29 = .ok (.invokevirtual 55, 3) := by decide +kernel
theorem dX10_tagOrComparison_32 : decode cX10_tagOrComparison 32 = .ok (.istore_n 2, 1) := by decide +kernel
theorem dX10_tagOrComparison_33 : decode cX10_tagOrComparison 33 = .ok (.iload_n 2, 1) := by decide +kernel
theorem dX10_tagOrComparison_34 : decode cX10_tagOrComparison 34 = .ok (.ifCond .ne 17, 3) := by decide +kernel
theorem dX10_tagOrComparison_37 : decode cX10_tagOrComparison 37 = .ok (.aload_n 0, 1) := by decide +kernel
theorem dX10_tagOrComparison_38 : decode cX10_tagOrComparison 38 = .ok (.bipush 62, 2) := by decide +kernel
theorem dX10_tagOrComparison_40 : decode cX10_tagOrComparison 40 = .ok (.invokevirtual 55, 3) := by decide +kernel
theorem dX10_tagOrComparison_43 : decode cX10_tagOrComparison 43 = .ok (.ifCond .ne 8, 3) := by decide +kernel
theorem dX10_tagOrComparison_46 : decode cX10_tagOrComparison 46 = .ok (.aload_n 0, 1) := by decide +kernel
theorem dX10_tagOrComparison_47 : decode cX10_tagOrComparison 47 = .ok (.invokevirtual 59, 3) := by decide +kernel
theorem dX10_tagOrComparison_50 : decode cX10_tagOrComparison 50 = .ok (.ireturn, 1) := by decide +kernel
theorem dX10_tagOrComparison_51 : decode cX10_tagOrComparison 51 = .ok (.aload_n 0, 1) := by decide +kernel
theorem dX10_tagOrComparison_52 : decode cX10_tagOrComparison 52 = .ok (.iconst 0, 1) := by decide +kernel
theorem dX10_tagOrComparison_53 : decode cX10_tagOrComparison 53 = .ok (.sipush 9999, 3) := by decide +kernel
theorem dX10_tagOrComparison_56 : decode cX10_tagOrComparison 56 = .ok (.invokevirtual 99, 3) := by decide +kernel
theorem dX10_tagOrComparison_59 : decode cX10_tagOrComparison 59 = .ok (.istore_n 3, 1) := by decide +kernel
theorem dX10_tagOrComparison_60 : decode cX10_tagOrComparison 60 = .ok (.aload_n 0, 1) := by decide +kernel
theorem dX10_tagOrComparison_61 : decode cX10_tagOrComparison 61 = .ok (.getfield 28, 3) := by decide +kernel
theorem dX10_tagOrComparison_64 : decode cX10_tagOrComparison 64 = .ok (.iload_n 1, 1) := by decide +kernel
theorem dX10_tagOrComparison_65 : decode cX10_tagOrComparison 65 = .ok (.iload_n 2, 1) := by decide +kernel
theorem dX10_tagOrComparison_66 : decode cX10_tagOrComparison 66 = .ok (.ifCond .eq 8, 3) := by decide +kernel
theorem dX10_tagOrComparison_69 : decode cX10_tagOrComparison 69 = .ok (.bipush 9, 2) := by decide +kernel
theorem dX10_tagOrComparison_71 : decode cX10_tagOrComparison 71 = .ok (.goto 5, 3) := by decide +kernel
theorem dX10_tagOrComparison_74 : decode cX10_tagOrComparison 74 = .ok (.bipush 18, 2) := by decide +kernel
theorem dX10_tagOrComparison_76 : decode cX10_tagOrComparison 76 = .ok (.iadd, 1) := by decide +kernel
theorem dX10_tagOrComparison_77 : decode cX10_tagOrComparison 77 = .ok (.iload_n 3, 1) := by decide +kernel
theorem dX10_tagOrComparison_78 : decode cX10_tagOrComparison 78 = .ok (.invokevirtual 108, 3) := by decide +kernel
theorem dX10_tagOrComparison_81 : decode cX10_tagOrComparison 81 = .ok (.iload_n 3, 1) := by decide +kernel
theorem dX10_tagOrComparison_82 : decode cX10_tagOrComparison 82 = .ok (.iconst (-1), 1) := by decide +kernel
theorem dX10_tagOrComparison_83 : decode cX10_tagOrComparison 83 = .ok (.if_icmp .eq 7, 3) := by decide +kernel
theorem dX10_tagOrComparison_86 : decode cX10_tagOrComparison 86 = .ok (.iconst 1, 1) := by decide +kernel
theorem dX10_tagOrComparison_87 : decode cX10_tagOrComparison 87 = .ok (.goto 4, 3) := by decide +kernel
theorem dX10_tagOrComparison_90 : decode cX10_tagOrComparison 90 = .ok (.iconst 0, 1) := by decide +kernel
theorem dX10_tagOrComparison_91 : decode cX10_tagOrComparison 91 = .ok (.ireturn, 1) := by decide +kernel
theorem dX10_failHere_0 : decode cX10_failHere 0 = .ok (.aload_n 0, 1) := by decide +kernel
theorem dX10_failHere_1 : decode cX10_failHere 1 = .ok (.getfield 18, 3) := by decide +kernel
theorem dX10_failHere_4 : decode cX10_failHere 4 = .ok (.iconst (-1), 1) := by decide +kernel
theorem dX10_failHere_5 : decode cX10_failHere 5 = .ok (.if_icmp .ne 16, 3) := by decide +kernel
theorem dX10_failHere_8 : decode cX10_failHere 8 = .ok (.aload_n 0, 1) := by decide +kernel
theorem dX10_failHere_9 : decode cX10_failHere 9 = .ok (.aload_n 0, 1) := by decide +kernel
theorem dX10_failHere_10 : decode cX10_failHere 10 = .ok (.getfield 21, 3) := by decide +kernel
theorem dX10_failHere_13 : decode cX10_failHere 13 = .ok (.aload_n 0, 1) := by decide +kernel
theorem dX10_failHere_14 : decode cX10_failHere 14 = .ok (.getfield 15, 3) := by decide +kernel
theorem dX10_failHere_17 : decode cX10_failHere 17 = .ok (.iaload, 1) := by decide +kernel
theorem dX10_failHere_18 : decode cX10_failHere 18 = .ok (.putfield 18, 3) := by decide +kernel
theorem dX10_failHere_21 : decode cX10_failHere 21 = .ok (.iconst 0, 1) := by decide +kernel
theorem dX10_failHere_22 : decode cX10_failHere 22 = .ok (.ireturn, 1) := by decide +kernel
theorem dX10_takeSign_0 : decode cX10_takeSign 0 = .ok (.aload_n 0, 1) := by decide +kernel
theorem dX10_takeSign_1 : decode cX10_takeSign 1 = .ok (.aload_n 0, 1) := by decide +kernel
theorem dX10_takeSign_2 : decode cX10_takeSign 2 = .ok (.getfield 21, 3) := by decide +kernel
theorem dX10_takeSign_5 : decode cX10_takeSign 5 = .ok (.aload_n 0, 1) := by decide +kernel
theorem dX10_takeSign_6 : decode cX10_takeSign 6 = .ok (.getfield 15, 3) := by decide +kernel
theorem dX10_takeSign_9 : decode cX10_takeSign 9 = .ok (.iaload, 1) := by decide +kernel
theorem dX10_takeSign_10 : decode cX10_takeSign 10 = .ok (.putfield 15, 3) := by decide +kernel
theorem dX10_takeSign_13 : decode cX10_takeSign 13 = .ok (.aload_n 0, 1) := by decide +kernel
theorem dX10_takeSign_14 : decode cX10_takeSign 14 = .ok (.getfield 15, 3) := by decide +kernel
theorem dX10_takeSign_17 : decode cX10_takeSign 17 = .ok (.aload_n 0, 1) := by decide +kernel
theorem dX10_takeSign_18 : decode cX10_takeSign 18 = .ok (.getfield 9, 3) := by decide +kernel
theorem dX10_takeSign_21 : decode cX10_takeSign 21 = .ok (.if_icmp .ge 16, 3) := by decide +kernel
theorem dX10_takeSign_24 : decode cX10_takeSign 24 = .ok (.aload_n 0, 1) := by decide +kernel
theorem dX10_takeSign_25 : decode cX10_takeSign 25 = .ok (.getfield 32, 3) := by decide +kernel
theorem dX10_takeSign_28 : decode cX10_takeSign 28 = .ok (.aload_n 0, 1) := by decide +kernel
theorem dX10_takeSign_29 : decode cX10_takeSign 29 = .ok (.getfield 15, 3) := by decide +kernel
theorem dX10_takeSign_32 : decode cX10_takeSign 32 = .ok (.baload, 1) := by decide +kernel
theorem dX10_takeSign_33 : decode cX10_takeSign 33 = .ok (.iload_n 1, 1) := by decide +kernel
theorem dX10_takeSign_34 : decode cX10_takeSign 34 = .ok (.if_icmp .eq 5, 3) := by decide +kernel
theorem dX10_takeSign_37 : decode cX10_takeSign 37 = .ok (.iconst 0, 1) := by decide +kernel
theorem dX10_takeSign_38 : decode cX10_takeSign 38 = .ok (.ireturn, 1) := by decide +kernel
theorem dX10_takeSign_39 : decode cX10_takeSign 39 = .ok (.aload_n 0, 1) := by decide +kernel
theorem dX10_takeSign_40 : decode cX10_takeSign 40 = .ok (.dup, 1) := by decide +kernel
theorem dX10_takeSign_41 : decode cX10_takeSign 41 = .ok (.getfield 15, 3) := by decide +kernel
theorem dX10_takeSign_44 : decode cX10_takeSign 44 = .ok (.iconst 1, 1) := by decide +kernel
theorem dX10_takeSign_45 : decode cX10_takeSign 45 = .ok (.iadd, 1) := by decide +kernel
theorem dX10_takeSign_46 : decode cX10_takeSign 46 = .ok (.putfield 15, 3) := by decide +kernel
theorem dX10_takeSign_49 : decode cX10_takeSign 49 = .ok (.iconst 1, 1) := by decide +kernel
theorem dX10_takeSign_50 : decode cX10_takeSign 50 = .ok (.ireturn, 1) := by decide +kernel
theorem dX10_takeWord_0 : decode cX10_takeWord 0 = .ok (.aload_n 0, 1) := by decide +kernel
theorem dX10_takeWord_1 : decode cX10_takeWord 1 = .ok (.aload_n 0, 1) := by decide +kernel
theorem dX10_takeWord_2 : decode cX10_takeWord 2 = .ok (.getfield 21, 3) := by decide +kernel
theorem dX10_takeWord_5 : decode cX10_takeWord 5 = .ok (.aload_n 0, 1) := by decide +kernel
theorem dX10_takeWord_6 : decode cX10_takeWord 6 = .ok (.getfield 15, 3) := by decide +kernel
theorem dX10_takeWord_9 : decode cX10_takeWord 9 = .ok (.iaload, 1) := by decide +kernel
theorem dX10_takeWord_10 : decode cX10_takeWord 10 = .ok (.putfield 15, 3) := by decide +kernel
theorem dX10_takeWord_13 : decode cX10_takeWord 13 = .ok (.aload_n 0, 1) := by decide +kernel
theorem dX10_takeWord_14 : decode cX10_takeWord 14 = .ok (.getfield 15, 3) := by decide +kernel
theorem dX10_takeWord_17 : decode cX10_takeWord 17 = .ok (.aload_n 1, 1) := by decide +kernel
theorem dX10_takeWord_18 : decode cX10_takeWord 18 = .ok (.invokevirtual 144, 3) := by decide +kernel
theorem dX10_takeWord_21 : decode cX10_takeWord 21 = .ok (.iadd, 1) := by decide +kernel
theorem dX10_takeWord_22 : decode cX10_takeWord 22 = .ok (.istore_n 2, 1) := by decide +kernel
theorem dX10_takeWord_23 : decode cX10_takeWord 23 = .ok (.iload_n 2, 1) := by decide +kernel
theorem dX10_takeWord_24 : decode cX10_takeWord 24 = .ok (.aload_n 0, 1) := by decide +kernel
theorem dX10_takeWord_25 : decode cX10_takeWord 25 = .ok (.getfield 9, 3) := by decide +kernel
theorem dX10_takeWord_28 : decode cX10_takeWord 28 = .ok (.if_icmp .ge 29, 3) := by decide +kernel
theorem dX10_takeWord_31 : decode cX10_takeWord 31 = .ok (.aload_n 0, 1) := by decide +kernel
theorem dX10_takeWord_32 : decode cX10_takeWord 32 = .ok (.getfield 32, 3) := by decide +kernel
theorem dX10_takeWord_35 : decode cX10_takeWord 35 = .ok (.iload_n 2, 1) := by decide +kernel
theorem dX10_takeWord_36 : decode cX10_takeWord 36 = .ok (.baload, 1) := by decide +kernel
theorem dX10_takeWord_37 : decode cX10_takeWord 37 = .ok (.bipush 97, 2) := by decide +kernel
theorem dX10_takeWord_39 : decode cX10_takeWord 39 = .ok (.if_icmp .lt 18, 3) := by decide +kernel
theorem dX10_takeWord_42 : decode cX10_takeWord 42 = .ok (.aload_n 0, 1) := by decide +kernel
theorem dX10_takeWord_43 : decode cX10_takeWord 43 = .ok (.getfield 32, 3) := by decide +kernel
theorem dX10_takeWord_46 : decode cX10_takeWord 46 = .ok (.iload_n 2, 1) := by decide +kernel
theorem dX10_takeWord_47 : decode cX10_takeWord 47 = .ok (.baload, 1) := by decide +kernel
theorem dX10_takeWord_48 : decode cX10_takeWord 48 = .ok (.bipush 122, 2) := by decide +kernel
theorem dX10_takeWord_50 : decode cX10_takeWord 50 = .ok (.if_icmp .gt 7, 3) := by decide +kernel
theorem dX10_takeWord_53 : decode cX10_takeWord 53 = .ok (.iconst 1, 1) := by decide +kernel
theorem dX10_takeWord_54 : decode cX10_takeWord 54 = .ok (.goto 4, 3) := by decide +kernel
theorem dX10_takeWord_57 : decode cX10_takeWord 57 = .ok (.iconst 0, 1) := by decide +kernel
theorem dX10_takeWord_58 : decode cX10_takeWord 58 = .ok (.istore_n 3, 1) := by decide +kernel
theorem dX10_takeWord_59 : decode cX10_takeWord 59 = .ok (.iload_n 2, 1) := by decide +kernel
theorem dX10_takeWord_60 : decode cX10_takeWord 60 = .ok (.aload_n 0, 1) := by decide +kernel
theorem dX10_takeWord_61 : decode cX10_takeWord 61 = .ok (.getfield 9, 3) := by decide +kernel
theorem dX10_takeWord_64 : decode cX10_takeWord 64 = .ok (.if_icmp .gt 7, 3) := by decide +kernel
theorem dX10_takeWord_67 : decode cX10_takeWord 67 = .ok (.iload_n 3, 1) := by decide +kernel
theorem dX10_takeWord_68 : decode cX10_takeWord 68 = .ok (.ifCond .eq 5, 3) := by decide +kernel
theorem dX10_takeWord_71 : decode cX10_takeWord 71 = .ok (.iconst 0, 1) := by decide +kernel
theorem dX10_takeWord_72 : decode cX10_takeWord 72 = .ok (.ireturn, 1) := by decide +kernel
theorem dX10_takeWord_73 : decode cX10_takeWord 73 = .ok (.aload_n 0, 1) := by decide +kernel
theorem dX10_takeWord_74 : decode cX10_takeWord 74 = .ok (.getfield 15, 3) := by decide +kernel
theorem dX10_takeWord_77 : decode cX10_takeWord 77 = .ok (.istore 4, 2) := by decide +kernel
theorem dX10_takeWord_79 : decode cX10_takeWord 79 = .ok (.iload 4, 2) := by decide +kernel
theorem dX10_takeWord_81 : decode cX10_takeWord 81 = .ok (.iload_n 2, 1) := by decide +kernel
theorem dX10_takeWord_82 : decode cX10_takeWord 82 = .ok (.if_icmp .ge 32, 3) := by decide +kernel
theorem dX10_takeWord_85 : decode cX10_takeWord 85 = .ok (.aload_n 0, 1) := by decide +kernel
theorem dX10_takeWord_86 : decode cX10_takeWord 86 = .ok (.getfield 32, 3) := by decide +kernel
theorem dX10_takeWord_89 : decode cX10_takeWord 89 = .ok (.iload 4, 2) := by decide +kernel
theorem dX10_takeWord_91 : decode cX10_takeWord 91 = .ok (.baload, 1) := by decide +kernel
theorem dX10_takeWord_92 : decode cX10_takeWord 92 = .ok (.aload_n 1, 1) := by decide +kernel
theorem dX10_takeWord_93 : decode cX10_takeWord 93 = .ok (.iload 4, 2) := by decide +kernel
theorem dX10_takeWord_95 : decode cX10_takeWord 95 = .ok (.aload_n 0, 1) := by decide +kernel
theorem dX10_takeWord_96 : decode cX10_takeWord 96 = .ok (.getfield 15, 3) := by decide +kernel
theorem dX10_takeWord_99 : decode cX10_takeWord 99 = .ok (.isub, 1) := by decide +kernel
theorem dX10_takeWord_100 : decode cX10_takeWord 100 = .ok (.invokevirtual 148, 3) := by decide +kernel
theorem dX10_takeWord_103 : decode cX10_takeWord 103 = .ok (.if_icmp .eq 5, 3) := by decide +kernel
theorem dX10_takeWord_106 : decode cX10_takeWord 106 = .ok (.iconst 0, 1) := by decide +kernel
theorem dX10_takeWord_107 : decode cX10_takeWord 107 = .ok (.ireturn, 1) := by decide +kernel
theorem dX10_takeWord_108 : decode cX10_takeWord 108 = .ok (.iinc 4 1, 3) := by decide +kernel
theorem dX10_takeWord_111 : decode cX10_takeWord 111 = .ok (.goto (-32), 3) := by decide +kernel
theorem dX10_takeWord_114 : decode cX10_takeWord 114 = .ok (.aload_n 0, 1) := by decide +kernel
theorem dX10_takeWord_115 : decode cX10_takeWord 115 = .ok (.iload_n 2, 1) := by decide +kernel
theorem dX10_takeWord_116 : decode cX10_takeWord 116 = .ok (.putfield 15, 3) := by decide +kernel
theorem dX10_takeWord_119 : decode cX10_takeWord 119 = .ok (.iconst 1, 1) := by decide +kernel
theorem dX10_takeWord_120 : decode cX10_takeWord 120 = .ok (.ireturn, 1) := by decide +kernel
theorem dX10_takeNumber_0 : decode cX10_takeNumber 0 = .ok (.aload_n 0, 1) := by decide +kernel
theorem dX10_takeNumber_1 : decode cX10_takeNumber 1 = .ok (.aload_n 0, 1) := by decide +kernel
theorem dX10_takeNumber_2 : decode cX10_takeNumber 2 = .ok (.getfield 21, 3) := by decide +kernel
theorem dX10_takeNumber_5 : decode cX10_takeNumber 5 = .ok (.aload_n 0, 1) := by decide +kernel
theorem dX10_takeNumber_6 : decode cX10_takeNumber 6 = .ok (.getfield 15, 3) := by decide +kernel
theorem dX10_takeNumber_9 : decode cX10_takeNumber 9 = .ok (.iaload, 1) := by decide +kernel
theorem dX10_takeNumber_10 : decode cX10_takeNumber 10 = .ok (.putfield 15, 3) := by decide +kernel
theorem dX10_takeNumber_13 : decode cX10_takeNumber 13 = .ok (.iconst 0, 1) := by decide +kernel
theorem dX10_takeNumber_14 : decode cX10_takeNumber 14 = .ok (.istore_n 3, 1) := by decide +kernel
theorem dX10_takeNumber_15 : decode cX10_takeNumber 15 = .ok (.aload_n 0, 1) := by decide +kernel
theorem dX10_takeNumber_16 : decode cX10_takeNumber 16 = .ok (.getfield 15, 3) := by decide +kernel
theorem dX10_takeNumber_19 : decode cX10_takeNumber 19 = .ok (.istore 4, 2) := by decide +kernel
theorem dX10_takeNumber_21 : decode cX10_takeNumber 21 = .ok (.iload 4, 2) := by decide +kernel
theorem dX10_takeNumber_23 : decode cX10_takeNumber 23 = .ok (.aload_n 0, 1) := by decide +kernel
theorem dX10_takeNumber_24 : decode cX10_takeNumber 24 = .ok (.getfield 9, 3) := by decide +kernel
theorem dX10_takeNumber_27 : decode cX10_takeNumber 27 = .ok (.if_icmp .ge 64, 3) := by decide +kernel
theorem dX10_takeNumber_30 : decode cX10_takeNumber 30 = .ok (.aload_n 0, 1) := by decide +kernel
theorem dX10_takeNumber_31 : decode cX10_takeNumber 31 = .ok (.getfield 32, 3) := by decide +kernel
theorem dX10_takeNumber_34 : decode cX10_takeNumber 34 = .ok (.iload 4, 2) := by decide +kernel
theorem dX10_takeNumber_36 : decode cX10_takeNumber 36 = .ok (.baload, 1) := by decide +kernel
theorem dX10_takeNumber_37 : decode cX10_takeNumber 37 = .ok (.bipush 48, 2) := by decide +kernel
theorem dX10_takeNumber_39 : decode cX10_takeNumber 39 = .ok (.if_icmp .lt 52, 3) := by decide +kernel
theorem dX10_takeNumber_42 : decode cX10_takeNumber 42 = .ok (.aload_n 0, 1) := by decide +kernel
theorem dX10_takeNumber_43 : decode cX10_takeNumber 43 = .ok (.getfield 32, 3) := by decide +kernel
theorem dX10_takeNumber_46 : decode cX10_takeNumber 46 = .ok (.iload 4, 2) := by decide +kernel
theorem dX10_takeNumber_48 : decode cX10_takeNumber 48 = .ok (.baload, 1) := by decide +kernel
theorem dX10_takeNumber_49 : decode cX10_takeNumber 49 = .ok (.bipush 57, 2) := by decide +kernel
theorem dX10_takeNumber_51 : decode cX10_takeNumber 51 = .ok (.if_icmp .gt 40, 3) := by decide +kernel
theorem dX10_takeNumber_54 : decode cX10_takeNumber 54 = .ok (.iload 4, 2) := by decide +kernel
theorem dX10_takeNumber_56 : decode cX10_takeNumber 56 = .ok (.aload_n 0, 1) := by decide +kernel
theorem dX10_takeNumber_57 : decode cX10_takeNumber 57 = .ok (.getfield 15, 3) := by decide +kernel
theorem dX10_takeNumber_60 : decode cX10_takeNumber 60 = .ok (.isub, 1) := by decide +kernel
theorem dX10_takeNumber_61 : decode cX10_takeNumber 61 = .ok (.iconst 4, 1) := by decide +kernel
theorem dX10_takeNumber_62 : decode cX10_takeNumber 62 = .ok (.if_icmp .ge 21, 3) := by decide +kernel
theorem dX10_takeNumber_65 : decode cX10_takeNumber 65 = .ok (.bipush 10, 2) := by decide +kernel
theorem dX10_takeNumber_67 : decode cX10_takeNumber 67 = .ok (.iload_n 3, 1) := by decide +kernel
theorem dX10_takeNumber_68 : decode cX10_takeNumber 68 = .ok (.imul, 1) := by decide +kernel
theorem dX10_takeNumber_69 : decode cX10_takeNumber 69 = .ok (.aload_n 0, 1) := by decide +kernel
theorem dX10_takeNumber_70 : decode cX10_takeNumber 70 = .ok (.getfield 32, 3) := by decide +kernel
theorem dX10_takeNumber_73 : decode cX10_takeNumber 73 = .ok (.iload 4, 2) := by decide +kernel
theorem dX10_takeNumber_75 : decode cX10_takeNumber 75 = .ok (.baload, 1) := by decide +kernel
theorem dX10_takeNumber_76 : decode cX10_takeNumber 76 = .ok (.iadd, 1) := by decide +kernel
theorem dX10_takeNumber_77 : decode cX10_takeNumber 77 = .ok (.bipush 48, 2) := by decide +kernel
theorem dX10_takeNumber_79 : decode cX10_takeNumber 79 = .ok (.isub, 1) := by decide +kernel
theorem dX10_takeNumber_80 : decode cX10_takeNumber 80 = .ok (.goto 4, 3) := by decide +kernel
theorem dX10_takeNumber_83 : decode cX10_takeNumber 83 = .ok (.iconst 0, 1) := by decide +kernel
theorem dX10_takeNumber_84 : decode cX10_takeNumber 84 = .ok (.istore_n 3, 1) := by decide +kernel
theorem dX10_takeNumber_85 : decode cX10_takeNumber 85 = .ok (.iinc 4 1, 3) := by decide +kernel
theorem dX10_takeNumber_88 : decode cX10_takeNumber 88 = .ok (.goto (-67), 3) := by decide +kernel
theorem dX10_takeNumber_91 : decode cX10_takeNumber 91 = .ok (.iload 4, 2) := by decide +kernel
theorem dX10_takeNumber_93 : decode cX10_takeNumber 93 = .ok (.aload_n 0, 1) := by decide +kernel
theorem dX10_takeNumber_94 : decode cX10_takeNumber 94 = .ok (.getfield 15, 3) := by decide +kernel
theorem dX10_takeNumber_97 : decode cX10_takeNumber 97 = .ok (.if_icmp .eq 24, 3) := by decide +kernel
theorem dX10_takeNumber_100 : decode cX10_takeNumber 100 = .ok (.iload 4, 2) := by decide +kernel
theorem dX10_takeNumber_102 : decode cX10_takeNumber 102 = .ok (.aload_n 0, 1) := by decide +kernel
theorem dX10_takeNumber_103 : decode cX10_takeNumber 103 = .ok (.getfield 15, 3) := by decide +kernel
theorem dX10_takeNumber_106 : decode cX10_takeNumber 106 = .ok (.isub, 1) := by decide +kernel
theorem dX10_takeNumber_107 : decode cX10_takeNumber 107 = .ok (.iconst 4, 1) := by decide +kernel
theorem dX10_takeNumber_108 : decode cX10_takeNumber 108 = .ok (.if_icmp .gt 13, 3) := by decide +kernel
theorem dX10_takeNumber_111 : decode cX10_takeNumber 111 = .ok (.iload_n 3, 1) := by decide +kernel
theorem dX10_takeNumber_112 : decode cX10_takeNumber 112 = .ok (.iload_n 1, 1) := by decide +kernel
theorem dX10_takeNumber_113 : decode cX10_takeNumber 113 = .ok (.if_icmp .lt 8, 3) := by decide +kernel
theorem dX10_takeNumber_116 : decode cX10_takeNumber 116 = .ok (.iload_n 3, 1) := by decide +kernel
theorem dX10_takeNumber_117 : decode cX10_takeNumber 117 = .ok (.iload_n 2, 1) := by decide +kernel
theorem dX10_takeNumber_118 : decode cX10_takeNumber 118 = .ok (.if_icmp .le 13, 3) := by decide +kernel
theorem dX10_takeNumber_121 : decode cX10_takeNumber 121 = .ok (.aload_n 0, 1) := by decide +kernel
theorem dX10_takeNumber_122 : decode cX10_takeNumber 122 = .ok (.aload_n 0, 1) := by decide +kernel
theorem dX10_takeNumber_123 : decode cX10_takeNumber 123 = .ok (.getfield 15, 3) := by decide +kernel
theorem dX10_takeNumber_126 : decode cX10_takeNumber 126 = .ok (.putfield 18, 3) := by decide +kernel
theorem dX10_takeNumber_129 : decode cX10_takeNumber 129 = .ok (.iconst (-1), 1) := by decide +kernel
theorem dX10_takeNumber_130 : decode cX10_takeNumber 130 = .ok (.ireturn, 1) := by decide +kernel
theorem dX10_takeNumber_131 : decode cX10_takeNumber 131 = .ok (.aload_n 0, 1) := by decide +kernel
theorem dX10_takeNumber_132 : decode cX10_takeNumber 132 = .ok (.iload 4, 2) := by decide +kernel
theorem dX10_takeNumber_134 : decode cX10_takeNumber 134 = .ok (.putfield 15, 3) := by decide +kernel
theorem dX10_takeNumber_137 : decode cX10_takeNumber 137 = .ok (.iload_n 3, 1) := by decide +kernel
theorem dX10_takeNumber_138 : decode cX10_takeNumber 138 = .ok (.ireturn, 1) := by decide +kernel
theorem dX11_init_0 : decode cX11_init 0 = .ok (.aload_n 0, 1) := by decide +kernel
theorem dX11_init_1 : decode cX11_init 1 = .ok (.invokespecial 1, 3) := by decide +kernel
theorem dX11_init_4 : decode cX11_init 4 = .ok (.aload_n 0, 1) := by decide +kernel
theorem dX11_init_5 : decode cX11_init 5 = .ok (.sipush 400, 3) := by decide +kernel
theorem dX11_init_8 : decode cX11_init 8 = .ok (.newarray .byte, 2) := by decide +kernel
theorem dX11_init_10 : decode cX11_init 10 = .ok (.putfield 9, 3) := by decide +kernel
theorem dX11_init_13 : decode cX11_init 13 = .ok (.aload_n 0, 1) := by decide +kernel
theorem dX11_init_14 : decode cX11_init 14 = .ok (.iconst 0, 1) := by decide +kernel
theorem dX11_init_15 : decode cX11_init 15 = .ok (.putfield 13, 3) := by decide +kernel
theorem dX11_init_18 : decode cX11_init 18 = .ok (.aload_n 0, 1) := by decide +kernel
theorem dX11_init_19 : decode cX11_init 19 = .ok (.iconst (-1), 1) := by decide +kernel
theorem dX11_init_20 : decode cX11_init 20 = .ok (.putfield 17, 3) := by decide +kernel
theorem dX11_init_23 : decode cX11_init 23 = .ok (.aload_n 0, 1) := by decide +kernel
theorem dX11_init_24 : decode cX11_init 24 = .ok (.new 20, 3) := by decide +kernel
theorem dX11_init_27 : decode cX11_init 27 = .ok (.dup, 1) := by decide +kernel
theorem dX11_init_28 : decode cX11_init 28 = .ok (.aload_n 0, 1) := by decide +kernel
theorem dX11_init_29 : decode cX11_init 29 = .ok (.getfield 9, 3) := by decide +kernel
theorem dX11_init_32 : decode cX11_init 32 = .ok (.invokespecial 22, 3) := by decide +kernel
theorem dX11_init_35 : decode cX11_init 35 = .ok (.putfield 25, 3) := by decide +kernel
theorem dX11_init_38 : decode cX11_init 38 = .ok (.aload_n 0, 1) := by decide +kernel
theorem dX11_init_39 : decode cX11_init 39 = .ok (.new 29, 3) := by decide +kernel
theorem dX11_init_42 : decode cX11_init 42 = .ok (.dup, 1) := by decide +kernel
theorem dX11_init_43 : decode cX11_init 43 = .ok (.invokespecial 31, 3) := by decide +kernel
theorem dX11_init_46 : decode cX11_init 46 = .ok (.putfield 32, 3) := by decide +kernel
theorem dX11_init_49 : decode cX11_init 49 = .ok (.aload_n 0, 1) := by decide +kernel
theorem dX11_init_50 : decode cX11_init 50 = .ok (.new 36, 3) := by decide +kernel
theorem dX11_init_53 : decode cX11_init 53 = .ok (.dup, 1) := by decide +kernel
theorem dX11_init_54 : decode cX11_init 54 = .ok (.invokespecial 38, 3) := by decide +kernel
theorem dX11_init_57 : decode cX11_init 57 = .ok (.putfield 39, 3) := by decide +kernel
theorem dX11_init_60 : decode cX11_init 60 = .ok (.aload_n 0, 1) := by decide +kernel
theorem dX11_init_61 : decode cX11_init 61 = .ok (.new 43, 3) := by decide +kernel
theorem dX11_init_64 : decode cX11_init 64 = .ok (.dup, 1) := by decide +kernel
theorem dX11_init_65 : decode cX11_init 65 = .ok (.invokespecial 45, 3) := by decide +kernel
theorem dX11_init_68 : decode cX11_init 68 = .ok (.putfield 46, 3) := by decide +kernel
theorem dX11_init_71 : decode cX11_init 71 = .ok (.aload_n 0, 1) := by decide +kernel
theorem dX11_init_72 : decode cX11_init 72 = .ok (.new 50, 3) := by decide +kernel
theorem dX11_init_75 : decode cX11_init 75 = .ok (.dup, 1) := by decide +kernel
theorem dX11_init_76 : decode cX11_init 76 = .ok (.invokespecial 52, 3) := by decide +kernel
theorem dX11_init_79 : decode cX11_init 79 = .ok (.putfield 53, 3) := by decide +kernel
theorem dX11_init_82 : decode cX11_init 82 = .ok (.aload_n 0, 1) := by decide +kernel
theorem dX11_init_83 : decode cX11_init 83 = .ok (.new 57, 3) := by decide +kernel
theorem dX11_init_86 : decode cX11_init 86 = .ok (.dup, 1) := by decide +kernel
theorem dX11_init_87 : decode cX11_init 87 = .ok (.invokespecial 59, 3) := by decide +kernel
theorem dX11_init_90 : decode cX11_init 90 = .ok (.putfield 60, 3) := by decide +kernel
theorem dX11_init_93 : decode cX11_init 93 = .ok (.aload_n 0, 1) := by decide +kernel
theorem dX11_init_94 : decode cX11_init 94 = .ok (.aconst_null, 1) := by decide +kernel
theorem dX11_init_95 : decode cX11_init 95 = .ok (.putfield 64, 3) := by decide +kernel
theorem dX11_init_98 : decode cX11_init 98 = .ok (.aload_n 0, 1) := by decide +kernel
theorem dX11_init_99 : decode cX11_init 99 = .ok (.aconst_null, 1) := by decide +kernel
theorem dX11_init_100 : decode cX11_init 100 = .ok (.putfield 67, 3) := by decide +kernel
theorem dX11_init_103 : decode cX11_init 103 = .ok (.aload_n 0, 1) := by decide +kernel
theorem dX11_init_104 : decode cX11_init 104 = .ok (.aconst_null, 1) := by decide +kernel
theorem dX11_init_105 : decode cX11_init 105 = .ok (.putfield 70, 3) := by decide +kernel
theorem dX11_init_108 : decode cX11_init 108 = .ok (.return_, 1) := by decide +kernel
theorem dX11_feed_0 : decode cX11_feed 0 = .ok (.aload_n 0, 1) := by decide +kernel
theorem dX11_feed_1 : decode cX11_feed 1 = .ok (.getfield 13, 3) := by decide +kernel
theorem dX11_feed_4 : decode cX11_feed 4 = .ok (.bipush 20, 2) := by decide +kernel
theorem dX11_feed_6 : decode cX11_feed 6 = .ok (.iadd, 1) := by decide +kernel
theorem dX11_feed_7 : decode cX11_feed 7 = .ok (.sipush 400, 3) := by decide +kernel
theorem dX11_feed_10 : decode cX11_feed 10 = .ok (.if_icmp .le 5, 3) := by decide +kernel
theorem dX11_feed_13 : decode cX11_feed 13 = .ok (.iconst (-1), 1) := by decide +kernel
theorem dX11_feed_14 : decode cX11_feed 14 = .ok (.ireturn, 1) := by decide +kernel
theorem dX11_feed_15 : decode cX11_feed 15 = .ok (.aload_n 0, 1) := by decide +kernel
theorem dX11_feed_16 : decode cX11_feed 16 = .ok (.iload_n 1, 1) := by decide +kernel
theorem dX11_feed_17 : decode cX11_feed 17 = .ok (.invokevirtual 73, 3) := by decide +kernel
theorem dX11_feed_20 : decode cX11_feed 20 = .ok (.aload_n 0, 1) := by decide +kernel
theorem dX11_feed_21 : decode cX11_feed 21 = .ok (.iload_n 2, 1) := by decide +kernel
theorem dX11_feed_22 : decode cX11_feed 22 = .ok (.invokevirtual 73, 3) := by decide +kernel
theorem dX11_feed_25 : decode cX11_feed 25 = .ok (.aload_n 0, 1) := by decide +kernel
theorem dX11_feed_26 : decode cX11_feed 26 = .ok (.iload_n 3, 1) := by decide +kernel
theorem dX11_feed_27 : decode cX11_feed 27 = .ok (.invokevirtual 73, 3) := by decide +kernel
theorem dX11_feed_30 : decode cX11_feed 30 = .ok (.aload_n 0, 1) := by decide +kernel
theorem dX11_feed_31 : decode cX11_feed 31 = .ok (.iload 4, 2) := by decide +kernel
theorem dX11_feed_33 : decode cX11_feed 33 = .ok (.invokevirtual 73, 3) := by decide +kernel
theorem dX11_feed_36 : decode cX11_feed 36 = .ok (.aload_n 0, 1) := by decide +kernel
theorem dX11_feed_37 : decode cX11_feed 37 = .ok (.iload 5, 2) := by decide +kernel
theorem dX11_feed_39 : decode cX11_feed 39 = .ok (.invokevirtual 73, 3) := by decide +kernel
theorem dX11_feed_42 : decode cX11_feed 42 = .ok (.aload_n 0, 1) := by decide +kernel
theorem dX11_feed_43 : decode cX11_feed 43 = .ok (.getfield 13, 3) := by decide +kernel
theorem dX11_feed_46 : decode cX11_feed 46 = .ok (.ireturn, 1) := by decide +kernel
theorem dX11_feedNumber_0 : decode cX11_feedNumber 0 = .ok (.bipush 24, 2) := by decide +kernel
theorem dX11_feedNumber_2 : decode cX11_feedNumber 2 = .ok (.istore_n 2, 1) := by decide +kernel
theorem dX11_feedNumber_3 : decode cX11_feedNumber 3 = .ok (.iload_n 2, 1) := by decide +kernel
theorem dX11_feedNumber_4 : decode cX11_feedNumber 4 = .ok (.ifCond .lt 42, 3) := by decide +kernel
theorem dX11_feedNumber_7 : decode cX11_feedNumber 7 = .ok (.aload_n 0, 1) := by decide +kernel
theorem dX11_feedNumber_8 : decode cX11_feedNumber 8 = .ok (.getfield 13, 3) := by decide +kernel
theorem dX11_feedNumber_11 : decode cX11_feedNumber 11 = .ok (.sipush 400, 3) := by decide +kernel
theorem dX11_feedNumber_14 : decode cX11_feedNumber 14 = .ok (.if_icmp .ge 32, 3) := by decide +kernel
theorem dX11_feedNumber_17 : decode cX11_feedNumber 17 = .ok (.aload_n 0, 1) := by decide +kernel
theorem dX11_feedNumber_18 : decode cX11_feedNumber 18 = .ok (.getfield 9, 3) := by decide +kernel
theorem dX11_feedNumber_21 : decode cX11_feedNumber 21 = .ok (.aload_n 0, 1) := by decide +kernel
theorem dX11_feedNumber_22 : decode cX11_feedNumber 22 = .ok (.getfield 13, 3) := by decide +kernel
theorem dX11_feedNumber_25 : decode cX11_feedNumber 25 = .ok (.iload_n 1, 1) := by decide +kernel
theorem dX11_feedNumber_26 : decode cX11_feedNumber 26 = .ok (.iload_n 2, 1) := by decide +kernel
theorem dX11_feedNumber_27 : decode cX11_feedNumber 27 = .ok (.ishr, 1) := by decide +kernel
theorem dX11_feedNumber_28 : decode cX11_feedNumber 28 = .ok (.i2b, 1) := by decide +kernel
theorem dX11_feedNumber_29 : decode cX11_feedNumber 29 = .ok (.bastore, 1) := by decide +kernel
theorem dX11_feedNumber_30 : decode cX11_feedNumber 30 = .ok (.aload_n 0, 1) := by decide +kernel
theorem dX11_feedNumber_31 : decode cX11_feedNumber 31 = .ok (.dup, 1) := by decide +kernel
theorem dX11_feedNumber_32 : decode cX11_feedNumber 32 = .ok (.getfield 13, 3) := by decide +kernel
theorem dX11_feedNumber_35 : decode cX11_feedNumber 35 = .ok (.iconst 1, 1) := by decide +kernel
theorem dX11_feedNumber_36 : decode cX11_feedNumber 36 = .ok (.iadd, 1) := by decide +kernel
theorem dX11_feedNumber_37 : decode cX11_feedNumber 37 = .ok (.putfield 13, 3) := by decide +kernel
theorem dX11_feedNumber_40 : decode cX11_feedNumber 40 = .ok (.iinc 2 (-8), 3) := by decide +kernel
theorem dX11_feedNumber_43 : decode cX11_feedNumber 43 = .ok (.goto (-40), 3) := by decide +kernel
theorem dX11_feedNumber_46 : decode cX11_feedNumber 46 = .ok (.return_, 1) := by decide +kernel
theorem dX11_end_0 : decode cX11_end 0 = .ok (.iload_n 1, 1) := by decide +kernel
theorem dX11_end_1 : decode cX11_end 1 = .ok (.ifCond .lt 11, 3) := by decide +kernel
theorem dX11_end_4 : decode cX11_end 4 = .ok (.iload_n 1, 1) := by decide +kernel
theorem dX11_end_5 : decode cX11_end 5 = .ok (.aload_n 0, 1) := by decide +kernel
theorem dX11_end_6 : decode cX11_end 6 = .ok (.getfield 13, 3) := by decide +kernel
theorem dX11_end_9 : decode cX11_end 9 = .ok (.if_icmp .le 5, 3) := by decide +kernel
theorem dX11_end_12 : decode cX11_end 12 = .ok (.iconst 0, 1) := by decide +kernel
theorem dX11_end_13 : decode cX11_end 13 = .ok (.ireturn, 1) := by decide +kernel
theorem dX11_end_14 : decode cX11_end 14 = .ok (.aload_n 0, 1) := by decide +kernel
theorem dX11_end_15 : decode cX11_end 15 = .ok (.iload_n 1, 1) := by decide +kernel
theorem dX11_end_16 : decode cX11_end 16 = .ok (.putfield 13, 3) := by decide +kernel
theorem dX11_end_19 : decode cX11_end 19 = .ok (.iconst 1, 1) := by decide +kernel
theorem dX11_end_20 : decode cX11_end 20 = .ok (.ireturn, 1) := by decide +kernel
theorem dX11_useTape_0 : decode cX11_useTape 0 = .ok (.aload_n 0, 1) := by decide +kernel
theorem dX11_useTape_1 : decode cX11_useTape 1 = .ok (.getfield 13, 3) := by decide +kernel
theorem dX11_useTape_4 : decode cX11_useTape 4 = .ok (.istore_n 1, 1) := by decide +kernel
theorem dX11_useTape_5 : decode cX11_useTape 5 = .ok (.aload_n 0, 1) := by decide +kernel
theorem dX11_useTape_6 : decode cX11_useTape 6 = .ok (.iconst 0, 1) := by decide +kernel
theorem dX11_useTape_7 : decode cX11_useTape 7 = .ok (.putfield 13, 3) := by decide +kernel
theorem dX11_useTape_10 : decode cX11_useTape 10 = .ok (.iload_n 1, 1) := by decide +kernel
theorem dX11_useTape_11 : decode cX11_useTape 11 = .ok (.ireturn, 1) := by decide +kernel
theorem dX11_width_0 : decode cX11_width 0 = .ok (.iload_n 1, 1) := by decide +kernel
theorem dX11_width_1 : decode cX11_width 1 = .ok (.invokestatic 77, 3) := by decide +kernel
theorem dX11_width_4 : decode cX11_width 4 = .ok (.ifCond .eq 10, 3) := by decide +kernel
theorem dX11_width_7 : decode cX11_width 7 = .ok (.iload_n 2, 1) := by decide +kernel
theorem dX11_width_8 : decode cX11_width 8 = .ok (.invokestatic 81, 3) := by decide +kernel
theorem dX11_width_11 : decode cX11_width 11 = .ok (.ifCond .ne 11, 3) := by decide +kernel
theorem dX11_width_14 : decode cX11_width 14 = .ok (.new 84, 3) := by decide +kernel
theorem dX11_width_17 : decode cX11_width 17 = .ok (.dup, 1) := by decide +kernel
theorem dX11_width_18 : decode cX11_width 18 = .ok (.invokespecial 86, 3) := by decide +kernel
theorem dX11_width_21 : decode cX11_width 21 = .ok (.athrow, 1) := by decide +kernel
theorem dX11_width_22 : decode cX11_width 22 = .ok (.iload_n 3, 1) := by decide +kernel
theorem dX11_width_23 : decode cX11_width 23 = .ok (.iconst 1, 1) := by decide +kernel
theorem dX11_width_24 : decode cX11_width 24 = .ok (.if_icmp .lt 9, 3) := by decide +kernel
theorem dX11_width_27 : decode cX11_width 27 = .ok (.iload_n 3, 1) := by decide +kernel
theorem dX11_width_28 : decode cX11_width 28 = .ok (.bipush 20, 2) := by decide +kernel
theorem dX11_width_30 : decode cX11_width 30 = .ok (.if_icmp .le 11, 3) := by decide +kernel
theorem dX11_width_33 : decode cX11_width 33 = .ok (.new 87, 3) := by decide +kernel
theorem dX11_width_36 : decode cX11_width 36 = .ok (.dup, 1) := by decide +kernel
theorem dX11_width_37 : decode cX11_width 37 = .ok (.invokespecial 89, 3) := by decide +kernel
theorem dX11_width_40 : decode cX11_width 40 = .ok (.athrow, 1) := by decide +kernel
theorem dX11_width_41 : decode cX11_width 41 = .ok (.aload_n 0, 1) := by decide +kernel
theorem dX11_width_42 : decode cX11_width 42 = .ok (.getfield 39, 3) := by decide +kernel
theorem dX11_width_45 : decode cX11_width 45 = .ok (.getfield 90, 3) := by decide +kernel
theorem dX11_width_48 : decode cX11_width 48 = .ok (.iload_n 1, 1) := by decide +kernel
theorem dX11_width_49 : decode cX11_width 49 = .ok (.bipush 27, 2) := by decide +kernel
theorem dX11_width_51 : decode cX11_width 51 = .ok (.imul, 1) := by decide +kernel
theorem dX11_width_52 : decode cX11_width 52 = .ok (.iload_n 2, 1) := by decide +kernel
theorem dX11_width_53 : decode cX11_width 53 = .ok (.iadd, 1) := by decide +kernel
theorem dX11_width_54 : decode cX11_width 54 = .ok (.iload_n 3, 1) := by decide +kernel
theorem dX11_width_55 : decode cX11_width 55 = .ok (.iastore, 1) := by decide +kernel
theorem dX11_width_56 : decode cX11_width 56 = .ok (.return_, 1) := by decide +kernel
theorem dX11_story_0 : decode cX11_story 0 = .ok (.aload_n 0, 1) := by decide +kernel
theorem dX11_story_1 : decode cX11_story 1 = .ok (.invokevirtual 94, 3) := by decide +kernel
theorem dX11_story_4 : decode cX11_story 4 = .ok (.istore_n 3, 1) := by decide +kernel
theorem dX11_story_5 : decode cX11_story 5 = .ok (.iload_n 1, 1) := by decide +kernel
theorem dX11_story_6 : decode cX11_story 6 = .ok (.invokestatic 77, 3) := by decide +kernel
theorem dX11_story_9 : decode cX11_story 9 = .ok (.ifCond .ne 11, 3) := by decide +kernel
theorem dX11_story_12 : decode cX11_story 12 = .ok (.new 84, 3) := by decide +kernel
theorem dX11_story_15 : decode cX11_story 15 = .ok (.dup, 1) := by decide +kernel
theorem dX11_story_16 : decode cX11_story 16 = .ok (.invokespecial 86, 3) := by decide +kernel
theorem dX11_story_19 : decode cX11_story 19 = .ok (.athrow, 1) := by decide +kernel
theorem dX11_story_20 : decode cX11_story 20 = .ok (.iload_n 2, 1) := by decide +kernel
theorem dX11_story_21 : decode cX11_story 21 = .ok (.invokestatic 98, 3) := by decide +kernel
theorem dX11_story_24 : decode cX11_story 24 = .ok (.ifCond .ne 11, 3) := by decide +kernel
theorem dX11_story_27 : decode cX11_story 27 = .ok (.new 87, 3) := by decide +kernel
theorem dX11_story_30 : decode cX11_story 30 = .ok (.dup, 1) := by decide +kernel
theorem dX11_story_31 : decode cX11_story 31 = .ok (.invokespecial 89, 3) := by decide +kernel
theorem dX11_story_34 : decode cX11_story 34 = .ok (.athrow, 1) := by decide +kernel
theorem dX11_story_35 : decode cX11_story 35 = .ok (.aload_n 0, 1) := by decide +kernel
theorem dX11_story_36 : decode cX11_story 36 = .ok (.aload_n 0, 1) := by decide +kernel
theorem dX11_story_37 : decode cX11_story 37 = .ok (.getfield 9, 3) := by decide +kernel
theorem dX11_story_40 : decode cX11_story 40 = .ok (.iload_n 3, 1) := by decide +kernel
theorem dX11_story_41 : decode cX11_story 41 = .ok (.iconst 5, 1) := by decide +kernel
theorem dX11_story_42 : decode cX11_story 42 = .ok (.bipush 24, 2) := by decide +kernel
theorem dX11_story_44 : decode cX11_story 44 = .ok (.iconst 0, 1) := by decide +kernel
theorem dX11_story_45 : decode cX11_story 45 = .ok (.invokestatic 101, 3) := by decide +kernel
theorem dX11_story_48 : decode cX11_story 48 = .ok (.putfield 17, 3) := by decide +kernel
theorem dX11_story_51 : decode cX11_story 51 = .ok (.aload_n 0, 1) := by decide +kernel
theorem dX11_story_52 : decode cX11_story 52 = .ok (.getfield 17, 3) := by decide +kernel
theorem dX11_story_55 : decode cX11_story 55 = .ok (.iconst (-1), 1) := by decide +kernel
theorem dX11_story_56 : decode cX11_story 56 = .ok (.if_icmp .eq 11, 3) := by decide +kernel
theorem dX11_story_59 : decode cX11_story 59 = .ok (.new 87, 3) := by decide +kernel
theorem dX11_story_62 : decode cX11_story 62 = .ok (.dup, 1) := by decide +kernel
theorem dX11_story_63 : decode cX11_story 63 = .ok (.invokespecial 89, 3) := by decide +kernel
theorem dX11_story_66 : decode cX11_story 66 = .ok (.athrow, 1) := by decide +kernel
theorem dX11_story_67 : decode cX11_story 67 = .ok (.aload_n 0, 1) := by decide +kernel
theorem dX11_story_68 : decode cX11_story 68 = .ok (.getfield 39, 3) := by decide +kernel
theorem dX11_story_71 : decode cX11_story 71 = .ok (.getfield 107, 3) := by decide +kernel
theorem dX11_story_74 : decode cX11_story 74 = .ok (.bipush 20, 2) := by decide +kernel
theorem dX11_story_76 : decode cX11_story 76 = .ok (.if_icmp .lt 11, 3) := by decide +kernel
theorem dX11_story_79 : decode cX11_story 79 = .ok (.new 110, 3) := by decide +kernel
theorem dX11_story_82 : decode cX11_story 82 = .ok (.dup, 1) := by decide +kernel
theorem dX11_story_83 : decode cX11_story 83 = .ok (.invokespecial 112, 3) := by decide +kernel
theorem dX11_story_86 : decode cX11_story 86 = .ok (.athrow, 1) := by decide +kernel
theorem dX11_story_87 : decode cX11_story 87 = .ok (.aload_n 0, 1) := by decide +kernel
theorem dX11_story_88 : decode cX11_story 88 = .ok (.getfield 39, 3) := by decide +kernel
theorem dX11_story_91 : decode cX11_story 91 = .ok (.aload_n 0, 1) := by decide +kernel
theorem dX11_story_92 : decode cX11_story 92 = .ok (.getfield 9, 3) := by decide +kernel
theorem dX11_story_95 : decode cX11_story 95 = .ok (.iload_n 3, 1) := by decide +kernel
theorem dX11_story_96 : decode cX11_story 96 = .ok (.iload_n 1, 1) := by decide +kernel
theorem dX11_story_97 : decode cX11_story 97 = .ok (.iload_n 2, 1) := by decide +kernel
theorem dX11_story_98 : decode cX11_story 98 = .ok (.invokevirtual 113, 3) := by decide +kernel
theorem dX11_story_101 : decode cX11_story 101 = .ok (.ireturn, 1) := by decide +kernel
theorem dX11_style_0 : decode cX11_style 0 = .ok (.aload_n 0, 1) := by decide +kernel
theorem dX11_style_1 : decode cX11_style 1 = .ok (.invokevirtual 94, 3) := by decide +kernel
theorem dX11_style_4 : decode cX11_style 4 = .ok (.istore_n 2, 1) := by decide +kernel
theorem dX11_style_5 : decode cX11_style 5 = .ok (.iload_n 1, 1) := by decide +kernel
theorem dX11_style_6 : decode cX11_style 6 = .ok (.aload_n 0, 1) := by decide +kernel
theorem dX11_style_7 : decode cX11_style 7 = .ok (.getfield 39, 3) := by decide +kernel
theorem dX11_style_10 : decode cX11_style 10 = .ok (.getfield 117, 3) := by decide +kernel
theorem dX11_style_13 : decode cX11_style 13 = .ok (.if_icmp .lt 10, 3) := by decide +kernel
theorem dX11_style_16 : decode cX11_style 16 = .ok (.iload_n 1, 1) := by decide +kernel
theorem dX11_style_17 : decode cX11_style 17 = .ok (.sipush 600, 3) := by decide +kernel
theorem dX11_style_20 : decode cX11_style 20 = .ok (.if_icmp .le 11, 3) := by decide +kernel
theorem dX11_style_23 : decode cX11_style 23 = .ok (.new 87, 3) := by decide +kernel
theorem dX11_style_26 : decode cX11_style 26 = .ok (.dup, 1) := by decide +kernel
theorem dX11_style_27 : decode cX11_style 27 = .ok (.invokespecial 89, 3) := by decide +kernel
theorem dX11_style_30 : decode cX11_style 30 = .ok (.athrow, 1) := by decide +kernel
theorem dX11_style_31 : decode cX11_style 31 = .ok (.aload_n 0, 1) := by decide +kernel
theorem dX11_style_32 : decode cX11_style 32 = .ok (.aload_n 0, 1) := by decide +kernel
theorem dX11_style_33 : decode cX11_style 33 = .ok (.getfield 25, 3) := by decide +kernel
theorem dX11_style_36 : decode cX11_style 36 = .ok (.iload_n 2, 1) := by decide +kernel
theorem dX11_style_37 : decode cX11_style 37 = .ok (.invokevirtual 120, 3) := by decide +kernel
theorem dX11_style_40 : decode cX11_style 40 = .ok (.putfield 17, 3) := by decide +kernel
theorem dX11_style_43 : decode cX11_style 43 = .ok (.aload_n 0, 1) := by decide +kernel
theorem dX11_style_44 : decode cX11_style 44 = .ok (.getfield 17, 3) := by decide +kernel
theorem dX11_style_47 : decode cX11_style 47 = .ok (.iconst (-1), 1) := by decide +kernel
theorem dX11_style_48 : decode cX11_style 48 = .ok (.if_icmp .eq 11, 3) := by decide +kernel
theorem dX11_style_51 : decode cX11_style 51 = .ok (.new 87, 3) := by decide +kernel
theorem dX11_style_54 : decode cX11_style 54 = .ok (.dup, 1) := by decide +kernel
theorem dX11_style_55 : decode cX11_style 55 = .ok (.invokespecial 89, 3) := by decide +kernel
theorem dX11_style_58 : decode cX11_style 58 = .ok (.athrow, 1) := by decide +kernel
theorem dX11_style_59 : decode cX11_style 59 = .ok (.aload_n 0, 1) := by decide +kernel
theorem dX11_style_60 : decode cX11_style 60 = .ok (.getfield 39, 3) := by decide +kernel
theorem dX11_style_63 : decode cX11_style 63 = .ok (.getfield 123, 3) := by decide +kernel
theorem dX11_style_66 : decode cX11_style 66 = .ok (.bipush 10, 2) := by decide +kernel
theorem dX11_style_68 : decode cX11_style 68 = .ok (.if_icmp .lt 11, 3) := by decide +kernel
theorem dX11_style_71 : decode cX11_style 71 = .ok (.new 110, 3) := by decide +kernel
theorem dX11_style_74 : decode cX11_style 74 = .ok (.dup, 1) := by decide +kernel
theorem dX11_style_75 : decode cX11_style 75 = .ok (.invokespecial 112, 3) := by decide +kernel
theorem dX11_style_78 : decode cX11_style 78 = .ok (.athrow, 1) := by decide +kernel
theorem dX11_style_79 : decode cX11_style 79 = .ok (.aload_n 0, 1) := by decide +kernel
theorem dX11_style_80 : decode cX11_style 80 = .ok (.getfield 39, 3) := by decide +kernel
theorem dX11_style_83 : decode cX11_style 83 = .ok (.aload_n 0, 1) := by decide +kernel
theorem dX11_style_84 : decode cX11_style 84 = .ok (.getfield 25, 3) := by decide +kernel
theorem dX11_style_87 : decode cX11_style 87 = .ok (.getfield 126, 3) := by decide +kernel
theorem dX11_style_90 : decode cX11_style 90 = .ok (.iload_n 1, 1) := by decide +kernel
theorem dX11_style_91 : decode cX11_style 91 = .ok (.invokevirtual 130, 3) := by decide +kernel
theorem dX11_style_94 : decode cX11_style 94 = .ok (.aload_n 0, 1) := by decide +kernel
theorem dX11_style_95 : decode cX11_style 95 = .ok (.getfield 25, 3) := by decide +kernel
theorem dX11_style_98 : decode cX11_style 98 = .ok (.getfield 126, 3) := by decide +kernel
theorem dX11_style_101 : decode cX11_style 101 = .ok (.getfield 134, 3) := by decide +kernel
theorem dX11_style_104 : decode cX11_style 104 = .ok (.ireturn, 1) := by decide +kernel
theorem dX11_fault_0 : decode cX11_fault 0 = .ok (.aload_n 0, 1) := by decide +kernel
theorem dX11_fault_1 : decode cX11_fault 1 = .ok (.getfield 17, 3) := by decide +kernel
theorem dX11_fault_4 : decode cX11_fault 4 = .ok (.ireturn, 1) := by decide +kernel
theorem dX11_part_0 : decode cX11_part 0 = .ok (.aload_n 0, 1) := by decide +kernel
theorem dX11_part_1 : decode cX11_part 1 = .ok (.getfield 39, 3) := by decide +kernel
theorem dX11_part_4 : decode cX11_part 4 = .ok (.iload_n 1, 1) := by decide +kernel
theorem dX11_part_5 : decode cX11_part 5 = .ok (.invokevirtual 139, 3) := by decide +kernel
theorem dX11_part_8 : decode cX11_part 8 = .ok (.astore_n 3, 1) := by decide +kernel
theorem dX11_part_9 : decode cX11_part 9 = .ok (.aload_n 3, 1) := by decide +kernel
theorem dX11_part_10 : decode cX11_part 10 = .ok (.ifnonnull 11, 3) := by decide +kernel
theorem dX11_part_13 : decode cX11_part 13 = .ok (.new 84, 3) := by decide +kernel
theorem dX11_part_16 : decode cX11_part 16 = .ok (.dup, 1) := by decide +kernel
theorem dX11_part_17 : decode cX11_part 17 = .ok (.invokespecial 86, 3) := by decide +kernel
theorem dX11_part_20 : decode cX11_part 20 = .ok (.athrow, 1) := by decide +kernel
theorem dX11_part_21 : decode cX11_part 21 = .ok (.iload_n 2, 1) := by decide +kernel
theorem dX11_part_22 : decode cX11_part 22 = .ok (.tableswitch 113 0 7 #[46, 51, 56, 61, 66, 79, 95, 104], 46) := by decide +kernel
theorem dX11_part_68 : decode cX11_part 68 = .ok (.aload_n 3, 1) := by decide +kernel
theorem dX11_part_69 : decode cX11_part 69 = .ok (.getfield 143, 3) := by decide +kernel
theorem dX11_part_72 : decode cX11_part 72 = .ok (.ireturn, 1) := by decide +kernel
theorem dX11_part_73 : decode cX11_part 73 = .ok (.aload_n 3, 1) := by decide +kernel
theorem dX11_part_74 : decode cX11_part 74 = .ok (.getfield 146, 3) := by decide +kernel
theorem dX11_part_77 : decode cX11_part 77 = .ok (.ireturn, 1) := by decide +kernel
theorem dX11_part_78 : decode cX11_part 78 = .ok (.aload_n 3, 1) := by decide +kernel
theorem dX11_part_79 : decode cX11_part 79 = .ok (.getfield 149, 3) := by decide +kernel
theorem dX11_part_82 : decode cX11_part 82 = .ok (.ireturn, 1) := by decide +kernel
theorem dX11_part_83 : decode cX11_part 83 = .ok (.aload_n 3, 1) := by decide +kernel
theorem dX11_part_84 : decode cX11_part 84 = .ok (.getfield 152, 3) := by decide +kernel
theorem dX11_part_87 : decode cX11_part 87 = .ok (.ireturn, 1) := by decide +kernel
theorem dX11_part_88 : decode cX11_part 88 = .ok (.aload_n 3, 1) := by decide +kernel
theorem dX11_part_89 : decode cX11_part 89 = .ok (.getfield 155, 3) := by decide +kernel
theorem dX11_part_92 : decode cX11_part 92 = .ok (.ifCond .eq 7, 3) := by decide +kernel
theorem dX11_part_95 : decode cX11_part 95 = .ok (.iconst 1, 1) := by decide +kernel
theorem dX11_part_96 : decode cX11_part 96 = .ok (.goto 4, 3) := by decide +kernel
theorem dX11_part_99 : decode cX11_part 99 = .ok (.iconst 0, 1) := by decide +kernel
theorem dX11_part_100 : decode cX11_part 100 = .ok (.ireturn, 1) := by decide +kernel
theorem dX11_part_101 : decode cX11_part 101 = .ok (.aload_n 3, 1) := by decide +kernel
theorem dX11_part_102 : decode cX11_part 102 = .ok (.getfield 159, 3) := by decide +kernel
theorem dX11_part_105 : decode cX11_part 105 = .ok (.ifCond .eq 10, 3) := by decide +kernel
theorem dX11_part_108 : decode cX11_part 108 = .ok (.aload_n 3, 1) := by decide +kernel
theorem dX11_part_109 : decode cX11_part 109 = .ok (.getfield 162, 3) := by decide +kernel
theorem dX11_part_112 : decode cX11_part 112 = .ok (.goto 4, 3) := by decide +kernel
theorem dX11_part_115 : decode cX11_part 115 = .ok (.iconst (-1), 1) := by decide +kernel
theorem dX11_part_116 : decode cX11_part 116 = .ok (.ireturn, 1) := by decide +kernel
theorem dX11_part_117 : decode cX11_part 117 = .ok (.aload_n 0, 1) := by decide +kernel
theorem dX11_part_118 : decode cX11_part 118 = .ok (.getfield 39, 3) := by decide +kernel
theorem dX11_part_121 : decode cX11_part 121 = .ok (.aload_n 3, 1) := by decide +kernel
theorem dX11_part_122 : decode cX11_part 122 = .ok (.invokevirtual 165, 3) := by decide +kernel
theorem dX11_part_125 : decode cX11_part 125 = .ok (.ireturn, 1) := by decide +kernel
theorem dX11_part_126 : decode cX11_part 126 = .ok (.aload_n 0, 1) := by decide +kernel
theorem dX11_part_127 : decode cX11_part 127 = .ok (.getfield 39, 3) := by decide +kernel
theorem dX11_part_130 : decode cX11_part 130 = .ok (.iload_n 1, 1) := by decide +kernel
theorem dX11_part_131 : decode cX11_part 131 = .ok (.invokevirtual 169, 3) := by decide +kernel
theorem dX11_part_134 : decode cX11_part 134 = .ok (.ireturn, 1) := by decide +kernel
theorem dX11_part_135 : decode cX11_part 135 = .ok (.new 172, 3) := by decide +kernel
theorem dX11_part_138 : decode cX11_part 138 = .ok (.dup, 1) := by decide +kernel
theorem dX11_part_139 : decode cX11_part 139 = .ok (.invokespecial 174, 3) := by decide +kernel
theorem dX11_part_142 : decode cX11_part 142 = .ok (.athrow, 1) := by decide +kernel
theorem dX11_rule_0 : decode cX11_rule 0 = .ok (.aload_n 0, 1) := by decide +kernel
theorem dX11_rule_1 : decode cX11_rule 1 = .ok (.getfield 39, 3) := by decide +kernel
theorem dX11_rule_4 : decode cX11_rule 4 = .ok (.iload_n 1, 1) := by decide +kernel
theorem dX11_rule_5 : decode cX11_rule 5 = .ok (.invokevirtual 139, 3) := by decide +kernel
theorem dX11_rule_8 : decode cX11_rule 8 = .ok (.astore 4, 2) := by decide +kernel
theorem dX11_rule_10 : decode cX11_rule 10 = .ok (.aload 4, 2) := by decide +kernel
theorem dX11_rule_12 : decode cX11_rule 12 = .ok (.ifnonnull 11, 3) := by decide +kernel
theorem dX11_rule_15 : decode cX11_rule 15 = .ok (.new 84, 3) := by decide +kernel
theorem dX11_rule_18 : decode cX11_rule 18 = .ok (.dup, 1) := by decide +kernel
theorem dX11_rule_19 : decode cX11_rule 19 = .ok (.invokespecial 86, 3) := by decide +kernel
theorem dX11_rule_22 : decode cX11_rule 22 = .ok (.athrow, 1) := by decide +kernel
theorem dX11_rule_23 : decode cX11_rule 23 = .ok (.iload_n 2, 1) := by decide +kernel
theorem dX11_rule_24 : decode cX11_rule 24 = .ok (.invokestatic 98, 3) := by decide +kernel
theorem dX11_rule_27 : decode cX11_rule 27 = .ok (.ifCond .ne 11, 3) := by decide +kernel
theorem dX11_rule_30 : decode cX11_rule 30 = .ok (.new 87, 3) := by decide +kernel
theorem dX11_rule_33 : decode cX11_rule 33 = .ok (.dup, 1) := by decide +kernel
theorem dX11_rule_34 : decode cX11_rule 34 = .ok (.invokespecial 89, 3) := by decide +kernel
theorem dX11_rule_37 : decode cX11_rule 37 = .ok (.athrow, 1) := by decide +kernel
theorem dX11_rule_38 : decode cX11_rule 38 = .ok (.aload_n 0, 1) := by decide +kernel
theorem dX11_rule_39 : decode cX11_rule 39 = .ok (.getfield 39, 3) := by decide +kernel
theorem dX11_rule_42 : decode cX11_rule 42 = .ok (.aload 4, 2) := by decide +kernel
theorem dX11_rule_44 : decode cX11_rule 44 = .ok (.iload_n 2, 1) := by decide +kernel
theorem dX11_rule_45 : decode cX11_rule 45 = .ok (.invokevirtual 175, 3) := by decide +kernel
theorem dX11_rule_48 : decode cX11_rule 48 = .ok (.astore 5, 2) := by decide +kernel
theorem dX11_rule_50 : decode cX11_rule 50 = .ok (.iload_n 3, 1) := by decide +kernel
theorem dX11_rule_51 : decode cX11_rule 51 = .ok (.tableswitch 73 0 5 #[37, 43, 49, 55, 61, 67], 37) := by decide +kernel
theorem dX11_rule_88 : decode cX11_rule 88 = .ok (.aload 5, 2) := by decide +kernel
theorem dX11_rule_90 : decode cX11_rule 90 = .ok (.getfield 179, 3) := by decide +kernel
theorem dX11_rule_93 : decode cX11_rule 93 = .ok (.ireturn, 1) := by decide +kernel
theorem dX11_rule_94 : decode cX11_rule 94 = .ok (.aload 5, 2) := by decide +kernel
theorem dX11_rule_96 : decode cX11_rule 96 = .ok (.getfield 184, 3) := by decide +kernel
theorem dX11_rule_99 : decode cX11_rule 99 = .ok (.ireturn, 1) := by decide +kernel
theorem dX11_rule_100 : decode cX11_rule 100 = .ok (.aload 5, 2) := by decide +kernel
theorem dX11_rule_102 : decode cX11_rule 102 = .ok (.getfield 187, 3) := by decide +kernel
theorem dX11_rule_105 : decode cX11_rule 105 = .ok (.ireturn, 1) := by decide +kernel
theorem dX11_rule_106 : decode cX11_rule 106 = .ok (.aload 5, 2) := by decide +kernel
theorem dX11_rule_108 : decode cX11_rule 108 = .ok (.getfield 190, 3) := by decide +kernel
theorem dX11_rule_111 : decode cX11_rule 111 = .ok (.ireturn, 1) := by decide +kernel
theorem dX11_rule_112 : decode cX11_rule 112 = .ok (.aload 5, 2) := by decide +kernel
theorem dX11_rule_114 : decode cX11_rule 114 = .ok (.getfield 193, 3) := by decide +kernel
theorem dX11_rule_117 : decode cX11_rule 117 = .ok (.ireturn, 1) := by decide +kernel
theorem dX11_rule_118 : decode cX11_rule 118 = .ok (.aload 5, 2) := by decide +kernel
theorem dX11_rule_120 : decode cX11_rule 120 = .ok (.getfield 196, 3) := by decide +kernel
theorem dX11_rule_123 : decode cX11_rule 123 = .ok (.ireturn, 1) := by decide +kernel
theorem dX11_rule_124 : decode cX11_rule 124 = .ok (.new 172, 3) := by decide +kernel
theorem dX11_rule_127 : decode cX11_rule 127 = .ok (.dup, 1) := by decide +kernel
theorem dX11_rule_128 : decode cX11_rule 128 = .ok (.invokespecial 174, 3) := by decide +kernel
theorem dX11_rule_131 : decode cX11_rule 131 = .ok (.athrow, 1) := by decide +kernel
theorem dX11_best_0 : decode cX11_best 0 = .ok (.aload_n 0, 1) := by decide +kernel
theorem dX11_best_1 : decode cX11_best 1 = .ok (.getfield 39, 3) := by decide +kernel
theorem dX11_best_4 : decode cX11_best 4 = .ok (.iload_n 1, 1) := by decide +kernel
theorem dX11_best_5 : decode cX11_best 5 = .ok (.invokevirtual 139, 3) := by decide +kernel
theorem dX11_best_8 : decode cX11_best 8 = .ok (.astore_n 3, 1) := by decide +kernel
theorem dX11_best_9 : decode cX11_best 9 = .ok (.aload_n 3, 1) := by decide +kernel
theorem dX11_best_10 : decode cX11_best 10 = .ok (.ifnonnull 11, 3) := by decide +kernel
theorem dX11_best_13 : decode cX11_best 13 = .ok (.new 84, 3) := by decide +kernel
theorem dX11_best_16 : decode cX11_best 16 = .ok (.dup, 1) := by decide +kernel
theorem dX11_best_17 : decode cX11_best 17 = .ok (.invokespecial 86, 3) := by decide +kernel
theorem dX11_best_20 : decode cX11_best 20 = .ok (.athrow, 1) := by decide +kernel
theorem dX11_best_21 : decode cX11_best 21 = .ok (.aload_n 0, 1) := by decide +kernel
theorem dX11_best_22 : decode cX11_best 22 = .ok (.getfield 39, 3) := by decide +kernel
theorem dX11_best_25 : decode cX11_best 25 = .ok (.aload_n 3, 1) := by decide +kernel
theorem dX11_best_26 : decode cX11_best 26 = .ok (.aload_n 0, 1) := by decide +kernel
theorem dX11_best_27 : decode cX11_best 27 = .ok (.getfield 39, 3) := by decide +kernel
theorem dX11_best_30 : decode cX11_best 30 = .ok (.getfield 117, 3) := by decide +kernel
theorem dX11_best_33 : decode cX11_best 33 = .ok (.invokevirtual 175, 3) := by decide +kernel
theorem dX11_best_36 : decode cX11_best 36 = .ok (.astore 4, 2) := by decide +kernel
theorem dX11_best_38 : decode cX11_best 38 = .ok (.iload_n 2, 1) := by decide +kernel
theorem dX11_best_39 : decode cX11_best 39 = .ok (.tableswitch 59 0 2 #[25, 32, 53], 25) := by decide +kernel
theorem dX11_best_64 : decode cX11_best 64 = .ok (.aload 4, 2) := by decide +kernel
theorem dX11_best_66 : decode cX11_best 66 = .ok (.iconst 0, 1) := by decide +kernel
theorem dX11_best_67 : decode cX11_best 67 = .ok (.invokevirtual 199, 3) := by decide +kernel
theorem dX11_best_70 : decode cX11_best 70 = .ok (.ireturn, 1) := by decide +kernel
theorem dX11_best_71 : decode cX11_best 71 = .ok (.aload 4, 2) := by decide +kernel
theorem dX11_best_73 : decode cX11_best 73 = .ok (.iconst 0, 1) := by decide +kernel
theorem dX11_best_74 : decode cX11_best 74 = .ok (.invokevirtual 199, 3) := by decide +kernel
theorem dX11_best_77 : decode cX11_best 77 = .ok (.iconst (-1), 1) := by decide +kernel
theorem dX11_best_78 : decode cX11_best 78 = .ok (.if_icmp .ne 7, 3) := by decide +kernel
theorem dX11_best_81 : decode cX11_best 81 = .ok (.iconst (-1), 1) := by decide +kernel
theorem dX11_best_82 : decode cX11_best 82 = .ok (.goto 9, 3) := by decide +kernel
theorem dX11_best_85 : decode cX11_best 85 = .ok (.aload 4, 2) := by decide +kernel
theorem dX11_best_87 : decode cX11_best 87 = .ok (.iconst 0, 1) := by decide +kernel
theorem dX11_best_88 : decode cX11_best 88 = .ok (.invokevirtual 202, 3) := by decide +kernel
theorem dX11_best_91 : decode cX11_best 91 = .ok (.ireturn, 1) := by decide +kernel
theorem dX11_best_92 : decode cX11_best 92 = .ok (.aload 4, 2) := by decide +kernel
theorem dX11_best_94 : decode cX11_best 94 = .ok (.invokevirtual 205, 3) := by decide +kernel
theorem dX11_best_97 : decode cX11_best 97 = .ok (.ireturn, 1) := by decide +kernel
theorem dX11_best_98 : decode cX11_best 98 = .ok (.new 172, 3) := by decide +kernel
theorem dX11_best_101 : decode cX11_best 101 = .ok (.dup, 1) := by decide +kernel
theorem dX11_best_102 : decode cX11_best 102 = .ok (.invokespecial 174, 3) := by decide +kernel
theorem dX11_best_105 : decode cX11_best 105 = .ok (.athrow, 1) := by decide +kernel
theorem dX11_ends_0 : decode cX11_ends 0 = .ok (.aload_n 0, 1) := by decide +kernel
theorem dX11_ends_1 : decode cX11_ends 1 = .ok (.getfield 39, 3) := by decide +kernel
theorem dX11_ends_4 : decode cX11_ends 4 = .ok (.iload_n 1, 1) := by decide +kernel
theorem dX11_ends_5 : decode cX11_ends 5 = .ok (.invokevirtual 139, 3) := by decide +kernel
theorem dX11_ends_8 : decode cX11_ends 8 = .ok (.astore_n 3, 1) := by decide +kernel
theorem dX11_ends_9 : decode cX11_ends 9 = .ok (.aload_n 3, 1) := by decide +kernel
theorem dX11_ends_10 : decode cX11_ends 10 = .ok (.ifnonnull 11, 3) := by decide +kernel
theorem dX11_ends_13 : decode cX11_ends 13 = .ok (.new 84, 3) := by decide +kernel
theorem dX11_ends_16 : decode cX11_ends 16 = .ok (.dup, 1) := by decide +kernel
theorem dX11_ends_17 : decode cX11_ends 17 = .ok (.invokespecial 86, 3) := by decide +kernel
theorem dX11_ends_20 : decode cX11_ends 20 = .ok (.athrow, 1) := by decide +kernel
theorem dX11_ends_21 : decode cX11_ends 21 = .ok (.aload_n 3, 1) := by decide +kernel
theorem dX11_ends_22 : decode cX11_ends 22 = .ok (.getfield 159, 3) := by decide +kernel
theorem dX11_ends_25 : decode cX11_ends 25 = .ok (.ifCond .eq 22, 3) := by decide +kernel
theorem dX11_ends_28 : decode cX11_ends 28 = .ok (.aload_n 3, 1) := by decide +kernel
theorem dX11_ends_29 : decode cX11_ends 29 = .ok (.iload_n 2, 1) := by decide +kernel
theorem dX11_ends_30 : decode cX11_ends 30 = .ok (.invokevirtual 208, 3) := by decide +kernel
theorem dX11_ends_33 : decode cX11_ends 33 = .ok (.ifCond .eq 12, 3) := by decide +kernel
theorem dX11_ends_36 : decode cX11_ends 36 = .ok (.aload_n 3, 1) := by decide +kernel
theorem dX11_ends_37 : decode cX11_ends 37 = .ok (.getfield 211, 3) := by decide +kernel
theorem dX11_ends_40 : decode cX11_ends 40 = .ok (.iload_n 2, 1) := by decide +kernel
theorem dX11_ends_41 : decode cX11_ends 41 = .ok (.iaload, 1) := by decide +kernel
theorem dX11_ends_42 : decode cX11_ends 42 = .ok (.goto 4, 3) := by decide +kernel
theorem dX11_ends_45 : decode cX11_ends 45 = .ok (.iconst (-1), 1) := by decide +kernel
theorem dX11_ends_46 : decode cX11_ends 46 = .ok (.ireturn, 1) := by decide +kernel
theorem dX11_ends_47 : decode cX11_ends 47 = .ok (.aload_n 0, 1) := by decide +kernel
theorem dX11_ends_48 : decode cX11_ends 48 = .ok (.getfield 39, 3) := by decide +kernel
theorem dX11_ends_51 : decode cX11_ends 51 = .ok (.aload_n 3, 1) := by decide +kernel
theorem dX11_ends_52 : decode cX11_ends 52 = .ok (.aload_n 0, 1) := by decide +kernel
theorem dX11_ends_53 : decode cX11_ends 53 = .ok (.getfield 39, 3) := by decide +kernel
theorem dX11_ends_56 : decode cX11_ends 56 = .ok (.getfield 117, 3) := by decide +kernel
theorem dX11_ends_59 : decode cX11_ends 59 = .ok (.invokevirtual 175, 3) := by decide +kernel
theorem dX11_ends_62 : decode cX11_ends 62 = .ok (.astore 4, 2) := by decide +kernel
theorem dX11_ends_64 : decode cX11_ends 64 = .ok (.aload 4, 2) := by decide +kernel
theorem dX11_ends_66 : decode cX11_ends 66 = .ok (.iconst 0, 1) := by decide +kernel
theorem dX11_ends_67 : decode cX11_ends 67 = .ok (.invokevirtual 199, 3) := by decide +kernel
theorem dX11_ends_70 : decode cX11_ends 70 = .ok (.iconst (-1), 1) := by decide +kernel
theorem dX11_ends_71 : decode cX11_ends 71 = .ok (.if_icmp .ne 7, 3) := by decide +kernel
theorem dX11_ends_74 : decode cX11_ends 74 = .ok (.iconst (-1), 1) := by decide +kernel
theorem dX11_ends_75 : decode cX11_ends 75 = .ok (.goto 9, 3) := by decide +kernel
theorem dX11_ends_78 : decode cX11_ends 78 = .ok (.aload 4, 2) := by decide +kernel
theorem dX11_ends_80 : decode cX11_ends 80 = .ok (.iload_n 2, 1) := by decide +kernel
theorem dX11_ends_81 : decode cX11_ends 81 = .ok (.invokevirtual 214, 3) := by decide +kernel
theorem dX11_ends_84 : decode cX11_ends 84 = .ok (.ireturn, 1) := by decide +kernel
theorem dX11_hand_0 : decode cX11_hand 0 = .ok (.aload_n 0, 1) := by decide +kernel
theorem dX11_hand_1 : decode cX11_hand 1 = .ok (.getfield 39, 3) := by decide +kernel
theorem dX11_hand_4 : decode cX11_hand 4 = .ok (.iload_n 1, 1) := by decide +kernel
theorem dX11_hand_5 : decode cX11_hand 5 = .ok (.invokevirtual 139, 3) := by decide +kernel
theorem dX11_hand_8 : decode cX11_hand 8 = .ok (.astore_n 3, 1) := by decide +kernel
theorem dX11_hand_9 : decode cX11_hand 9 = .ok (.aload_n 3, 1) := by decide +kernel
theorem dX11_hand_10 : decode cX11_hand 10 = .ok (.ifnonnull 11, 3) := by decide +kernel
theorem dX11_hand_13 : decode cX11_hand 13 = .ok (.new 84, 3) := by decide +kernel
theorem dX11_hand_16 : decode cX11_hand 16 = .ok (.dup, 1) := by decide +kernel
theorem dX11_hand_17 : decode cX11_hand 17 = .ok (.invokespecial 86, 3) := by decide +kernel
theorem dX11_hand_20 : decode cX11_hand 20 = .ok (.athrow, 1) := by decide +kernel
theorem dX11_hand_21 : decode cX11_hand 21 = .ok (.aload_n 0, 1) := by decide +kernel
theorem dX11_hand_22 : decode cX11_hand 22 = .ok (.getfield 39, 3) := by decide +kernel
theorem dX11_hand_25 : decode cX11_hand 25 = .ok (.aload_n 3, 1) := by decide +kernel
theorem dX11_hand_26 : decode cX11_hand 26 = .ok (.aload_n 0, 1) := by decide +kernel
theorem dX11_hand_27 : decode cX11_hand 27 = .ok (.getfield 39, 3) := by decide +kernel
theorem dX11_hand_30 : decode cX11_hand 30 = .ok (.getfield 117, 3) := by decide +kernel
theorem dX11_hand_33 : decode cX11_hand 33 = .ok (.invokevirtual 175, 3) := by decide +kernel
theorem dX11_hand_36 : decode cX11_hand 36 = .ok (.iload_n 2, 1) := by decide +kernel
theorem dX11_hand_37 : decode cX11_hand 37 = .ok (.invokevirtual 217, 3) := by decide +kernel
theorem dX11_hand_40 : decode cX11_hand 40 = .ok (.ireturn, 1) := by decide +kernel
theorem dX11_machine_0 : decode cX11_machine 0 = .ok (.iload_n 1, 1) := by decide +kernel
theorem dX11_machine_1 : decode cX11_machine 1 = .ok (.invokestatic 221, 3) := by decide +kernel
theorem dX11_machine_4 : decode cX11_machine 4 = .ok (.ifCond .eq 13, 3) := by decide +kernel
theorem dX11_machine_7 : decode cX11_machine 7 = .ok (.iload_n 2, 1) := by decide +kernel
theorem dX11_machine_8 : decode cX11_machine 8 = .ok (.ifCond .lt 9, 3) := by decide +kernel
theorem dX11_machine_11 : decode cX11_machine 11 = .ok (.iload_n 2, 1) := by decide +kernel
theorem dX11_machine_12 : decode cX11_machine 12 = .ok (.bipush 9, 2) := by decide +kernel
theorem dX11_machine_14 : decode cX11_machine 14 = .ok (.if_icmp .le 11, 3) := by decide +kernel
theorem dX11_machine_17 : decode cX11_machine 17 = .ok (.new 87, 3) := by decide +kernel
theorem dX11_machine_20 : decode cX11_machine 20 = .ok (.dup, 1) := by decide +kernel
theorem dX11_machine_21 : decode cX11_machine 21 = .ok (.invokespecial 89, 3) := by decide +kernel
theorem dX11_machine_24 : decode cX11_machine 24 = .ok (.athrow, 1) := by decide +kernel
theorem dX11_machine_25 : decode cX11_machine 25 = .ok (.aload_n 0, 1) := by decide +kernel
theorem dX11_machine_26 : decode cX11_machine 26 = .ok (.getfield 39, 3) := by decide +kernel
theorem dX11_machine_29 : decode cX11_machine 29 = .ok (.getfield 224, 3) := by decide +kernel
theorem dX11_machine_32 : decode cX11_machine 32 = .ok (.iconst 4, 1) := by decide +kernel
theorem dX11_machine_33 : decode cX11_machine 33 = .ok (.if_icmp .lt 11, 3) := by decide +kernel
theorem dX11_machine_36 : decode cX11_machine 36 = .ok (.new 110, 3) := by decide +kernel
theorem dX11_machine_39 : decode cX11_machine 39 = .ok (.dup, 1) := by decide +kernel
theorem dX11_machine_40 : decode cX11_machine 40 = .ok (.invokespecial 112, 3) := by decide +kernel
theorem dX11_machine_43 : decode cX11_machine 43 = .ok (.athrow, 1) := by decide +kernel
theorem dX11_machine_44 : decode cX11_machine 44 = .ok (.aload_n 0, 1) := by decide +kernel
theorem dX11_machine_45 : decode cX11_machine 45 = .ok (.getfield 39, 3) := by decide +kernel
theorem dX11_machine_48 : decode cX11_machine 48 = .ok (.iload_n 1, 1) := by decide +kernel
theorem dX11_machine_49 : decode cX11_machine 49 = .ok (.iload_n 2, 1) := by decide +kernel
theorem dX11_machine_50 : decode cX11_machine 50 = .ok (.invokevirtual 227, 3) := by decide +kernel
theorem dX11_machine_53 : decode cX11_machine 53 = .ok (.ireturn, 1) := by decide +kernel
theorem dX11_brass_0 : decode cX11_brass 0 = .ok (.aload_n 0, 1) := by decide +kernel
theorem dX11_brass_1 : decode cX11_brass 1 = .ok (.getfield 39, 3) := by decide +kernel
theorem dX11_brass_4 : decode cX11_brass 4 = .ok (.iload_n 1, 1) := by decide +kernel
theorem dX11_brass_5 : decode cX11_brass 5 = .ok (.invokevirtual 231, 3) := by decide +kernel
theorem dX11_brass_8 : decode cX11_brass 8 = .ok (.astore 4, 2) := by decide +kernel
theorem dX11_brass_10 : decode cX11_brass 10 = .ok (.aload 4, 2) := by decide +kernel
theorem dX11_brass_12 : decode cX11_brass 12 = .ok (.ifnull 10, 3) := by decide +kernel
theorem dX11_brass_15 : decode cX11_brass 15 = .ok (.iload_n 2, 1) := by decide +kernel
theorem dX11_brass_16 : decode cX11_brass 16 = .ok (.invokestatic 81, 3) := by decide +kernel
theorem dX11_brass_19 : decode cX11_brass 19 = .ok (.ifCond .ne 11, 3) := by decide +kernel
theorem dX11_brass_22 : decode cX11_brass 22 = .ok (.new 84, 3) := by decide +kernel
theorem dX11_brass_25 : decode cX11_brass 25 = .ok (.dup, 1) := by decide +kernel
theorem dX11_brass_26 : decode cX11_brass 26 = .ok (.invokespecial 86, 3) := by decide +kernel
theorem dX11_brass_29 : decode cX11_brass 29 = .ok (.athrow, 1) := by decide +kernel
theorem dX11_brass_30 : decode cX11_brass 30 = .ok (.iload_n 3, 1) := by decide +kernel
theorem dX11_brass_31 : decode cX11_brass 31 = .ok (.invokestatic 221, 3) := by decide +kernel
theorem dX11_brass_34 : decode cX11_brass 34 = .ok (.ifCond .ne 11, 3) := by decide +kernel
theorem dX11_brass_37 : decode cX11_brass 37 = .ok (.new 87, 3) := by decide +kernel
theorem dX11_brass_40 : decode cX11_brass 40 = .ok (.dup, 1) := by decide +kernel
theorem dX11_brass_41 : decode cX11_brass 41 = .ok (.invokespecial 89, 3) := by decide +kernel
theorem dX11_brass_44 : decode cX11_brass 44 = .ok (.athrow, 1) := by decide +kernel
theorem dX11_brass_45 : decode cX11_brass 45 = .ok (.aload 4, 2) := by decide +kernel
theorem dX11_brass_47 : decode cX11_brass 47 = .ok (.getfield 235, 3) := by decide +kernel
theorem dX11_brass_50 : decode cX11_brass 50 = .ok (.iload_n 2, 1) := by decide +kernel
theorem dX11_brass_51 : decode cX11_brass 51 = .ok (.iload_n 3, 1) := by decide +kernel
theorem dX11_brass_52 : decode cX11_brass 52 = .ok (.iastore, 1) := by decide +kernel
theorem dX11_brass_53 : decode cX11_brass 53 = .ok (.aload_n 0, 1) := by decide +kernel
theorem dX11_brass_54 : decode cX11_brass 54 = .ok (.getfield 39, 3) := by decide +kernel
theorem dX11_brass_57 : decode cX11_brass 57 = .ok (.iload_n 1, 1) := by decide +kernel
theorem dX11_brass_58 : decode cX11_brass 58 = .ok (.aload_n 0, 1) := by decide +kernel
theorem dX11_brass_59 : decode cX11_brass 59 = .ok (.getfield 39, 3) := by decide +kernel
theorem dX11_brass_62 : decode cX11_brass 62 = .ok (.getfield 117, 3) := by decide +kernel
theorem dX11_brass_65 : decode cX11_brass 65 = .ok (.aload 4, 2) := by decide +kernel
theorem dX11_brass_67 : decode cX11_brass 67 = .ok (.getfield 240, 3) := by decide +kernel
theorem dX11_brass_70 : decode cX11_brass 70 = .ok (.isub, 1) := by decide +kernel
theorem dX11_brass_71 : decode cX11_brass 71 = .ok (.iconst 1, 1) := by decide +kernel
theorem dX11_brass_72 : decode cX11_brass 72 = .ok (.iadd, 1) := by decide +kernel
theorem dX11_brass_73 : decode cX11_brass 73 = .ok (.aload_n 0, 1) := by decide +kernel
theorem dX11_brass_74 : decode cX11_brass 74 = .ok (.getfield 39, 3) := by decide +kernel
theorem dX11_brass_77 : decode cX11_brass 77 = .ok (.getfield 117, 3) := by decide +kernel
theorem dX11_brass_80 : decode cX11_brass 80 = .ok (.invokevirtual 243, 3) := by decide +kernel
theorem dX11_brass_83 : decode cX11_brass 83 = .ok (.iconst 0, 1) := by decide +kernel
theorem dX11_brass_84 : decode cX11_brass 84 = .ok (.iload_n 3, 1) := by decide +kernel
theorem dX11_brass_85 : decode cX11_brass 85 = .ok (.aload_n 0, 1) := by decide +kernel
theorem dX11_brass_86 : decode cX11_brass 86 = .ok (.getfield 39, 3) := by decide +kernel
theorem dX11_brass_89 : decode cX11_brass 89 = .ok (.getfield 247, 3) := by decide +kernel
theorem dX11_brass_92 : decode cX11_brass 92 = .ok (.iload_n 2, 1) := by decide +kernel
theorem dX11_brass_93 : decode cX11_brass 93 = .ok (.iaload, 1) := by decide +kernel
theorem dX11_brass_94 : decode cX11_brass 94 = .ok (.isub, 1) := by decide +kernel
theorem dX11_brass_95 : decode cX11_brass 95 = .ok (.invokestatic 250, 3) := by decide +kernel
theorem dX11_brass_98 : decode cX11_brass 98 = .ok (.ireturn, 1) := by decide +kernel
theorem dX11_broken_0 : decode cX11_broken 0 = .ok (.aload_n 0, 1) := by decide +kernel
theorem dX11_broken_1 : decode cX11_broken 1 = .ok (.getfield 39, 3) := by decide +kernel
theorem dX11_broken_4 : decode cX11_broken 4 = .ok (.iload_n 1, 1) := by decide +kernel
theorem dX11_broken_5 : decode cX11_broken 5 = .ok (.invokevirtual 231, 3) := by decide +kernel
theorem dX11_broken_8 : decode cX11_broken 8 = .ok (.astore_n 3, 1) := by decide +kernel
theorem dX11_broken_9 : decode cX11_broken 9 = .ok (.aload_n 3, 1) := by decide +kernel
theorem dX11_broken_10 : decode cX11_broken 10 = .ok (.ifnonnull 11, 3) := by decide +kernel
theorem dX11_broken_13 : decode cX11_broken 13 = .ok (.new 84, 3) := by decide +kernel
theorem dX11_broken_16 : decode cX11_broken 16 = .ok (.dup, 1) := by decide +kernel
theorem dX11_broken_17 : decode cX11_broken 17 = .ok (.invokespecial 86, 3) := by decide +kernel
theorem dX11_broken_20 : decode cX11_broken 20 = .ok (.athrow, 1) := by decide +kernel
theorem dX11_broken_21 : decode cX11_broken 21 = .ok (.aload_n 3, 1) := by decide +kernel
theorem dX11_broken_22 : decode cX11_broken 22 = .ok (.getfield 255, 3) := by decide +kernel
theorem dX11_broken_25 : decode cX11_broken 25 = .ok (.istore 4, 2) := by decide +kernel
theorem dX11_broken_27 : decode cX11_broken 27 = .ok (.aload_n 3, 1) := by decide +kernel
theorem dX11_broken_28 : decode cX11_broken 28 = .ok (.iload_n 2, 1) := by decide +kernel
theorem dX11_broken_29 : decode cX11_broken 29 = .ok (.putfield 255, 3) := by decide +kernel
theorem dX11_broken_32 : decode cX11_broken 32 = .ok (.iload 4, 2) := by decide +kernel
theorem dX11_broken_34 : decode cX11_broken 34 = .ok (.iload_n 2, 1) := by decide +kernel
theorem dX11_broken_35 : decode cX11_broken 35 = .ok (.if_icmp .eq 7, 3) := by decide +kernel
theorem dX11_broken_38 : decode cX11_broken 38 = .ok (.iconst 1, 1) := by decide +kernel
theorem dX11_broken_39 : decode cX11_broken 39 = .ok (.goto 4, 3) := by decide +kernel
theorem dX11_broken_42 : decode cX11_broken 42 = .ok (.iconst 0, 1) := by decide +kernel
theorem dX11_broken_43 : decode cX11_broken 43 = .ok (.ireturn, 1) := by decide +kernel
theorem dX11_give_0 : decode cX11_give 0 = .ok (.aload_n 0, 1) := by decide +kernel
theorem dX11_give_1 : decode cX11_give 1 = .ok (.getfield 39, 3) := by decide +kernel
theorem dX11_give_4 : decode cX11_give 4 = .ok (.iload_n 1, 1) := by decide +kernel
theorem dX11_give_5 : decode cX11_give 5 = .ok (.invokevirtual 139, 3) := by decide +kernel
theorem dX11_give_8 : decode cX11_give 8 = .ok (.astore_n 3, 1) := by decide +kernel
theorem dX11_give_9 : decode cX11_give 9 = .ok (.aload_n 0, 1) := by decide +kernel
theorem dX11_give_10 : decode cX11_give 10 = .ok (.getfield 39, 3) := by decide +kernel
theorem dX11_give_13 : decode cX11_give 13 = .ok (.iload_n 2, 1) := by decide +kernel
theorem dX11_give_14 : decode cX11_give 14 = .ok (.invokevirtual 231, 3) := by decide +kernel
theorem dX11_give_17 : decode cX11_give 17 = .ok (.astore 4, 2) := by decide +kernel
theorem dX11_give_19 : decode cX11_give 19 = .ok (.aload_n 3, 1) := by decide +kernel
theorem dX11_give_20 : decode cX11_give 20 = .ok (.ifnull 8, 3) := by decide +kernel
theorem dX11_give_23 : decode cX11_give 23 = .ok (.aload 4, 2) := by decide +kernel
theorem dX11_give_25 : decode cX11_give 25 = .ok (.ifnonnull 11, 3) := by decide +kernel
theorem dX11_give_28 : decode cX11_give 28 = .ok (.new 84, 3) := by decide +kernel
theorem dX11_give_31 : decode cX11_give 31 = .ok (.dup, 1) := by decide +kernel
theorem dX11_give_32 : decode cX11_give 32 = .ok (.invokespecial 86, 3) := by decide +kernel
theorem dX11_give_35 : decode cX11_give 35 = .ok (.athrow, 1) := by decide +kernel
theorem dX11_give_36 : decode cX11_give 36 = .ok (.aload 4, 2) := by decide +kernel
theorem dX11_give_38 : decode cX11_give 38 = .ok (.getfield 258, 3) := by decide +kernel
theorem dX11_give_41 : decode cX11_give 41 = .ok (.bipush 30, 2) := by decide +kernel
theorem dX11_give_43 : decode cX11_give 43 = .ok (.if_icmp .lt 11, 3) := by decide +kernel
theorem dX11_give_46 : decode cX11_give 46 = .ok (.new 110, 3) := by decide +kernel
theorem dX11_give_49 : decode cX11_give 49 = .ok (.dup, 1) := by decide +kernel
theorem dX11_give_50 : decode cX11_give 50 = .ok (.invokespecial 112, 3) := by decide +kernel
theorem dX11_give_53 : decode cX11_give 53 = .ok (.athrow, 1) := by decide +kernel
theorem dX11_give_54 : decode cX11_give 54 = .ok (.aload_n 3, 1) := by decide +kernel
theorem dX11_give_55 : decode cX11_give 55 = .ok (.getfield 155, 3) := by decide +kernel
theorem dX11_give_58 : decode cX11_give 58 = .ok (.ifCond .eq 5, 3) := by decide +kernel
theorem dX11_give_61 : decode cX11_give 61 = .ok (.iconst (-1), 1) := by decide +kernel
theorem dX11_give_62 : decode cX11_give 62 = .ok (.ireturn, 1) := by decide +kernel
theorem dX11_give_63 : decode cX11_give 63 = .ok (.aload_n 3, 1) := by decide +kernel
theorem dX11_give_64 : decode cX11_give 64 = .ok (.iconst 1, 1) := by decide +kernel
theorem dX11_give_65 : decode cX11_give 65 = .ok (.putfield 155, 3) := by decide +kernel
theorem dX11_give_68 : decode cX11_give 68 = .ok (.aload 4, 2) := by decide +kernel
theorem dX11_give_70 : decode cX11_give 70 = .ok (.iload_n 1, 1) := by decide +kernel
theorem dX11_give_71 : decode cX11_give 71 = .ok (.iconst 0, 1) := by decide +kernel
theorem dX11_give_72 : decode cX11_give 72 = .ok (.iconst (-1), 1) := by decide +kernel
theorem dX11_give_73 : decode cX11_give 73 = .ok (.iconst 0, 1) := by decide +kernel
theorem dX11_give_74 : decode cX11_give 74 = .ok (.invokevirtual 261, 3) := by decide +kernel
theorem dX11_give_77 : decode cX11_give 77 = .ok (.aload 4, 2) := by decide +kernel
theorem dX11_give_79 : decode cX11_give 79 = .ok (.getfield 258, 3) := by decide +kernel
theorem dX11_give_82 : decode cX11_give 82 = .ok (.ireturn, 1) := by decide +kernel
theorem dX11_minutes_0 : decode cX11_minutes 0 = .ok (.iload_n 1, 1) := by decide +kernel
theorem dX11_minutes_1 : decode cX11_minutes 1 = .ok (.ifCond .lt 9, 3) := by decide +kernel
theorem dX11_minutes_4 : decode cX11_minutes 4 = .ok (.iload_n 1, 1) := by decide +kernel
theorem dX11_minutes_5 : decode cX11_minutes 5 = .ok (.bipush 120, 2) := by decide +kernel
theorem dX11_minutes_7 : decode cX11_minutes 7 = .ok (.if_icmp .le 11, 3) := by decide +kernel
theorem dX11_minutes_10 : decode cX11_minutes 10 = .ok (.new 87, 3) := by decide +kernel
theorem dX11_minutes_13 : decode cX11_minutes 13 = .ok (.dup, 1) := by decide +kernel
theorem dX11_minutes_14 : decode cX11_minutes 14 = .ok (.invokespecial 89, 3) := by decide +kernel
theorem dX11_minutes_17 : decode cX11_minutes 17 = .ok (.athrow, 1) := by decide +kernel
theorem dX11_minutes_18 : decode cX11_minutes 18 = .ok (.iconst 0, 1) := by decide +kernel
theorem dX11_minutes_19 : decode cX11_minutes 19 = .ok (.istore_n 2, 1) := by decide +kernel
theorem dX11_minutes_20 : decode cX11_minutes 20 = .ok (.iload_n 2, 1) := by decide +kernel
theorem dX11_minutes_21 : decode cX11_minutes 21 = .ok (.iload_n 1, 1) := by decide +kernel
theorem dX11_minutes_22 : decode cX11_minutes 22 = .ok (.if_icmp .ge 29, 3) := by decide +kernel
theorem dX11_minutes_25 : decode cX11_minutes 25 = .ok (.aload_n 0, 1) := by decide +kernel
theorem dX11_minutes_26 : decode cX11_minutes 26 = .ok (.getfield 39, 3) := by decide +kernel
theorem dX11_minutes_29 : decode cX11_minutes 29 = .ok (.getfield 117, 3) := by decide +kernel
theorem dX11_minutes_32 : decode cX11_minutes 32 = .ok (.sipush 600, 3) := by decide +kernel
theorem dX11_minutes_35 : decode cX11_minutes 35 = .ok (.if_icmp .ge 16, 3) := by decide +kernel
theorem dX11_minutes_38 : decode cX11_minutes 38 = .ok (.aload_n 0, 1) := by decide +kernel
theorem dX11_minutes_39 : decode cX11_minutes 39 = .ok (.getfield 39, 3) := by decide +kernel
theorem dX11_minutes_42 : decode cX11_minutes 42 = .ok (.invokevirtual 265, 3) := by decide +kernel
theorem dX11_minutes_45 : decode cX11_minutes 45 = .ok (.iinc 2 1, 3) := by decide +kernel
theorem dX11_minutes_48 : decode cX11_minutes 48 = .ok (.goto (-28), 3) := by decide +kernel
theorem dX11_minutes_51 : decode cX11_minutes 51 = .ok (.aload_n 0, 1) := by decide +kernel
theorem dX11_minutes_52 : decode cX11_minutes 52 = .ok (.getfield 39, 3) := by decide +kernel
theorem dX11_minutes_55 : decode cX11_minutes 55 = .ok (.getfield 117, 3) := by decide +kernel
theorem dX11_minutes_58 : decode cX11_minutes 58 = .ok (.ireturn, 1) := by decide +kernel
theorem dX11_runs_0 : decode cX11_runs 0 = .ok (.aload_n 0, 1) := by decide +kernel
theorem dX11_runs_1 : decode cX11_runs 1 = .ok (.getfield 39, 3) := by decide +kernel
theorem dX11_runs_4 : decode cX11_runs 4 = .ok (.iload_n 1, 1) := by decide +kernel
theorem dX11_runs_5 : decode cX11_runs 5 = .ok (.invokevirtual 231, 3) := by decide +kernel
theorem dX11_runs_8 : decode cX11_runs 8 = .ok (.astore_n 3, 1) := by decide +kernel
theorem dX11_runs_9 : decode cX11_runs 9 = .ok (.aload_n 3, 1) := by decide +kernel
theorem dX11_runs_10 : decode cX11_runs 10 = .ok (.ifnonnull 11, 3) := by decide +kernel
theorem dX11_runs_13 : decode cX11_runs 13 = .ok (.new 84, 3) := by decide +kernel
theorem dX11_runs_16 : decode cX11_runs 16 = .ok (.dup, 1) := by decide +kernel
theorem dX11_runs_17 : decode cX11_runs 17 = .ok (.invokespecial 86, 3) := by decide +kernel
theorem dX11_runs_20 : decode cX11_runs 20 = .ok (.athrow, 1) := by decide +kernel
theorem dX11_runs_21 : decode cX11_runs 21 = .ok (.iload_n 2, 1) := by decide +kernel
theorem dX11_runs_22 : decode cX11_runs 22 = .ok (.tableswitch 89 0 5 #[38, 43, 48, 53, 58, 71], 38) := by decide +kernel
theorem dX11_runs_60 : decode cX11_runs 60 = .ok (.aload_n 3, 1) := by decide +kernel
theorem dX11_runs_61 : decode cX11_runs 61 = .ok (.getfield 258, 3) := by decide +kernel
theorem dX11_runs_64 : decode cX11_runs 64 = .ok (.ireturn, 1) := by decide +kernel
theorem dX11_runs_65 : decode cX11_runs 65 = .ok (.aload_n 3, 1) := by decide +kernel
theorem dX11_runs_66 : decode cX11_runs 66 = .ok (.getfield 268, 3) := by decide +kernel
theorem dX11_runs_69 : decode cX11_runs 69 = .ok (.ireturn, 1) := by decide +kernel
theorem dX11_runs_70 : decode cX11_runs 70 = .ok (.aload_n 3, 1) := by decide +kernel
theorem dX11_runs_71 : decode cX11_runs 71 = .ok (.getfield 271, 3) := by decide +kernel
theorem dX11_runs_74 : decode cX11_runs 74 = .ok (.ireturn, 1) := by decide +kernel
theorem dX11_runs_75 : decode cX11_runs 75 = .ok (.aload_n 3, 1) := by decide +kernel
theorem dX11_runs_76 : decode cX11_runs 76 = .ok (.getfield 274, 3) := by decide +kernel
theorem dX11_runs_79 : decode cX11_runs 79 = .ok (.ireturn, 1) := by decide +kernel
theorem dX11_runs_80 : decode cX11_runs 80 = .ok (.aload_n 3, 1) := by decide +kernel
theorem dX11_runs_81 : decode cX11_runs 81 = .ok (.getfield 255, 3) := by decide +kernel
theorem dX11_runs_84 : decode cX11_runs 84 = .ok (.ifCond .eq 7, 3) := by decide +kernel
theorem dX11_runs_87 : decode cX11_runs 87 = .ok (.iconst 1, 1) := by decide +kernel
theorem dX11_runs_88 : decode cX11_runs 88 = .ok (.goto 4, 3) := by decide +kernel
theorem dX11_runs_91 : decode cX11_runs 91 = .ok (.iconst 0, 1) := by decide +kernel
theorem dX11_runs_92 : decode cX11_runs 92 = .ok (.ireturn, 1) := by decide +kernel
theorem dX11_runs_93 : decode cX11_runs 93 = .ok (.aload_n 3, 1) := by decide +kernel
theorem dX11_runs_94 : decode cX11_runs 94 = .ok (.getfield 258, 3) := by decide +kernel
theorem dX11_runs_97 : decode cX11_runs 97 = .ok (.ifCond .ne 7, 3) := by decide +kernel
theorem dX11_runs_100 : decode cX11_runs 100 = .ok (.iconst (-1), 1) := by decide +kernel
theorem dX11_runs_101 : decode cX11_runs 101 = .ok (.goto 9, 3) := by decide +kernel
theorem dX11_runs_104 : decode cX11_runs 104 = .ok (.aload_n 3, 1) := by decide +kernel
theorem dX11_runs_105 : decode cX11_runs 105 = .ok (.getfield 277, 3) := by decide +kernel
theorem dX11_runs_108 : decode cX11_runs 108 = .ok (.iconst 0, 1) := by decide +kernel
theorem dX11_runs_109 : decode cX11_runs 109 = .ok (.iaload, 1) := by decide +kernel
theorem dX11_runs_110 : decode cX11_runs 110 = .ok (.ireturn, 1) := by decide +kernel
theorem dX11_runs_111 : decode cX11_runs 111 = .ok (.new 172, 3) := by decide +kernel
theorem dX11_runs_114 : decode cX11_runs 114 = .ok (.dup, 1) := by decide +kernel
theorem dX11_runs_115 : decode cX11_runs 115 = .ok (.invokespecial 174, 3) := by decide +kernel
theorem dX11_runs_118 : decode cX11_runs 118 = .ok (.athrow, 1) := by decide +kernel
theorem dX11_slug_0 : decode cX11_slug 0 = .ok (.aload_n 0, 1) := by decide +kernel
theorem dX11_slug_1 : decode cX11_slug 1 = .ok (.getfield 39, 3) := by decide +kernel
theorem dX11_slug_4 : decode cX11_slug 4 = .ok (.iload_n 1, 1) := by decide +kernel
theorem dX11_slug_5 : decode cX11_slug 5 = .ok (.invokevirtual 280, 3) := by decide +kernel
theorem dX11_slug_8 : decode cX11_slug 8 = .ok (.astore_n 3, 1) := by decide +kernel
theorem dX11_slug_9 : decode cX11_slug 9 = .ok (.aload_n 3, 1) := by decide +kernel
theorem dX11_slug_10 : decode cX11_slug 10 = .ok (.ifnonnull 11, 3) := by decide +kernel
theorem dX11_slug_13 : decode cX11_slug 13 = .ok (.new 84, 3) := by decide +kernel
theorem dX11_slug_16 : decode cX11_slug 16 = .ok (.dup, 1) := by decide +kernel
theorem dX11_slug_17 : decode cX11_slug 17 = .ok (.invokespecial 86, 3) := by decide +kernel
theorem dX11_slug_20 : decode cX11_slug 20 = .ok (.athrow, 1) := by decide +kernel
theorem dX11_slug_21 : decode cX11_slug 21 = .ok (.iload_n 2, 1) := by decide +kernel
theorem dX11_slug_22 : decode cX11_slug 22 = .ok (.tableswitch 120 0 9 #[54, 59, 64, 69, 74, 79, 84, 89, 102, 115], 54) := by decide +kernel
theorem dX11_slug_76 : decode cX11_slug 76 = .ok (.aload_n 3, 1) := by decide +kernel
theorem dX11_slug_77 : decode cX11_slug 77 = .ok (.getfield 284, 3) := by decide +kernel
theorem dX11_slug_80 : decode cX11_slug 80 = .ok (.ireturn, 1) := by decide +kernel
theorem dX11_slug_81 : decode cX11_slug 81 = .ok (.aload_n 3, 1) := by decide +kernel
theorem dX11_slug_82 : decode cX11_slug 82 = .ok (.getfield 289, 3) := by decide +kernel
theorem dX11_slug_85 : decode cX11_slug 85 = .ok (.ireturn, 1) := by decide +kernel
theorem dX11_slug_86 : decode cX11_slug 86 = .ok (.aload_n 3, 1) := by decide +kernel
theorem dX11_slug_87 : decode cX11_slug 87 = .ok (.getfield 292, 3) := by decide +kernel
theorem dX11_slug_90 : decode cX11_slug 90 = .ok (.ireturn, 1) := by decide +kernel
theorem dX11_slug_91 : decode cX11_slug 91 = .ok (.aload_n 3, 1) := by decide +kernel
theorem dX11_slug_92 : decode cX11_slug 92 = .ok (.getfield 295, 3) := by decide +kernel
theorem dX11_slug_95 : decode cX11_slug 95 = .ok (.ireturn, 1) := by decide +kernel
theorem dX11_slug_96 : decode cX11_slug 96 = .ok (.aload_n 3, 1) := by decide +kernel
theorem dX11_slug_97 : decode cX11_slug 97 = .ok (.getfield 298, 3) := by decide +kernel
theorem dX11_slug_100 : decode cX11_slug 100 = .ok (.ireturn, 1) := by decide +kernel
theorem dX11_slug_101 : decode cX11_slug 101 = .ok (.aload_n 3, 1) := by decide +kernel
theorem dX11_slug_102 : decode cX11_slug 102 = .ok (.getfield 301, 3) := by decide +kernel
theorem dX11_slug_105 : decode cX11_slug 105 = .ok (.ireturn, 1) := by decide +kernel
theorem dX11_slug_106 : decode cX11_slug 106 = .ok (.aload_n 3, 1) := by decide +kernel
theorem dX11_slug_107 : decode cX11_slug 107 = .ok (.getfield 304, 3) := by decide +kernel
theorem dX11_slug_110 : decode cX11_slug 110 = .ok (.ireturn, 1) := by decide +kernel
theorem dX11_slug_111 : decode cX11_slug 111 = .ok (.aload_n 3, 1) := by decide +kernel
theorem dX11_slug_112 : decode cX11_slug 112 = .ok (.getfield 307, 3) := by decide +kernel
theorem dX11_slug_115 : decode cX11_slug 115 = .ok (.ifCond .eq 7, 3) := by decide +kernel
theorem dX11_slug_118 : decode cX11_slug 118 = .ok (.iconst 1, 1) := by decide +kernel
theorem dX11_slug_119 : decode cX11_slug 119 = .ok (.goto 4, 3) := by decide +kernel
theorem dX11_slug_122 : decode cX11_slug 122 = .ok (.iconst 0, 1) := by decide +kernel
theorem dX11_slug_123 : decode cX11_slug 123 = .ok (.ireturn, 1) := by decide +kernel
theorem dX11_slug_124 : decode cX11_slug 124 = .ok (.aload_n 3, 1) := by decide +kernel
theorem dX11_slug_125 : decode cX11_slug 125 = .ok (.getfield 310, 3) := by decide +kernel
theorem dX11_slug_128 : decode cX11_slug 128 = .ok (.ifCond .le 7, 3) := by decide +kernel
theorem dX11_slug_131 : decode cX11_slug 131 = .ok (.iconst 1, 1) := by decide +kernel
theorem dX11_slug_132 : decode cX11_slug 132 = .ok (.goto 4, 3) := by decide +kernel
theorem dX11_slug_135 : decode cX11_slug 135 = .ok (.iconst 0, 1) := by decide +kernel
theorem dX11_slug_136 : decode cX11_slug 136 = .ok (.ireturn, 1) := by decide +kernel
theorem dX11_slug_137 : decode cX11_slug 137 = .ok (.aload_n 3, 1) := by decide +kernel
theorem dX11_slug_138 : decode cX11_slug 138 = .ok (.getfield 313, 3) := by decide +kernel
theorem dX11_slug_141 : decode cX11_slug 141 = .ok (.ireturn, 1) := by decide +kernel
theorem dX11_slug_142 : decode cX11_slug 142 = .ok (.new 172, 3) := by decide +kernel
theorem dX11_slug_145 : decode cX11_slug 145 = .ok (.dup, 1) := by decide +kernel
theorem dX11_slug_146 : decode cX11_slug 146 = .ok (.invokespecial 174, 3) := by decide +kernel
theorem dX11_slug_149 : decode cX11_slug 149 = .ok (.athrow, 1) := by decide +kernel
theorem dX11_says_0 : decode cX11_says 0 = .ok (.aload_n 0, 1) := by decide +kernel
theorem dX11_says_1 : decode cX11_says 1 = .ok (.getfield 39, 3) := by decide +kernel
theorem dX11_says_4 : decode cX11_says 4 = .ok (.iload_n 1, 1) := by decide +kernel
theorem dX11_says_5 : decode cX11_says 5 = .ok (.invokevirtual 280, 3) := by decide +kernel
theorem dX11_says_8 : decode cX11_says 8 = .ok (.astore_n 3, 1) := by decide +kernel
theorem dX11_says_9 : decode cX11_says 9 = .ok (.aload_n 3, 1) := by decide +kernel
theorem dX11_says_10 : decode cX11_says 10 = .ok (.ifnonnull 11, 3) := by decide +kernel
theorem dX11_says_13 : decode cX11_says 13 = .ok (.new 84, 3) := by decide +kernel
theorem dX11_says_16 : decode cX11_says 16 = .ok (.dup, 1) := by decide +kernel
theorem dX11_says_17 : decode cX11_says 17 = .ok (.invokespecial 86, 3) := by decide +kernel
theorem dX11_says_20 : decode cX11_says 20 = .ok (.athrow, 1) := by decide +kernel
theorem dX11_says_21 : decode cX11_says 21 = .ok (.iload_n 2, 1) := by decide +kernel
theorem dX11_says_22 : decode cX11_says 22 = .ok (.ifCond .lt 11, 3) := by decide +kernel
theorem dX11_says_25 : decode cX11_says 25 = .ok (.iload_n 2, 1) := by decide +kernel
theorem dX11_says_26 : decode cX11_says 26 = .ok (.aload_n 3, 1) := by decide +kernel
theorem dX11_says_27 : decode cX11_says 27 = .ok (.getfield 316, 3) := by decide +kernel
theorem dX11_says_30 : decode cX11_says 30 = .ok (.if_icmp .lt 7, 3) := by decide +kernel
theorem dX11_says_33 : decode cX11_says 33 = .ok (.iconst (-1), 1) := by decide +kernel
theorem dX11_says_34 : decode cX11_says 34 = .ok (.goto 9, 3) := by decide +kernel
theorem dX11_says_37 : decode cX11_says 37 = .ok (.aload_n 3, 1) := by decide +kernel
theorem dX11_says_38 : decode cX11_says 38 = .ok (.getfield 319, 3) := by decide +kernel
theorem dX11_says_41 : decode cX11_says 41 = .ok (.iload_n 2, 1) := by decide +kernel
theorem dX11_says_42 : decode cX11_says 42 = .ok (.baload, 1) := by decide +kernel
theorem dX11_says_43 : decode cX11_says 43 = .ok (.ireturn, 1) := by decide +kernel
theorem dX11_lies_0 : decode cX11_lies 0 = .ok (.aload_n 0, 1) := by decide +kernel
theorem dX11_lies_1 : decode cX11_lies 1 = .ok (.getfield 39, 3) := by decide +kernel
theorem dX11_lies_4 : decode cX11_lies 4 = .ok (.iload_n 1, 1) := by decide +kernel
theorem dX11_lies_5 : decode cX11_lies 5 = .ok (.invokevirtual 139, 3) := by decide +kernel
theorem dX11_lies_8 : decode cX11_lies 8 = .ok (.astore_n 3, 1) := by decide +kernel
theorem dX11_lies_9 : decode cX11_lies 9 = .ok (.aload_n 3, 1) := by decide +kernel
theorem dX11_lies_10 : decode cX11_lies 10 = .ok (.ifnonnull 11, 3) := by decide +kernel
theorem dX11_lies_13 : decode cX11_lies 13 = .ok (.new 84, 3) := by decide +kernel
theorem dX11_lies_16 : decode cX11_lies 16 = .ok (.dup, 1) := by decide +kernel
theorem dX11_lies_17 : decode cX11_lies 17 = .ok (.invokespecial 86, 3) := by decide +kernel
theorem dX11_lies_20 : decode cX11_lies 20 = .ok (.athrow, 1) := by decide +kernel
theorem dX11_lies_21 : decode cX11_lies 21 = .ok (.aload_n 3, 1) := by decide +kernel
theorem dX11_lies_22 : decode cX11_lies 22 = .ok (.getfield 159, 3) := by decide +kernel
theorem dX11_lies_25 : decode cX11_lies 25 = .ok (.ifCond .ne 11, 3) := by decide +kernel
theorem dX11_lies_28 : decode cX11_lies 28 = .ok (.new 322, 3) := by decide +kernel
theorem dX11_lies_31 : decode cX11_lies 31 = .ok (.dup, 1) := by decide +kernel
theorem dX11_lies_32 : decode cX11_lies 32 = .ok (.invokespecial 324, 3) := by decide +kernel
theorem dX11_lies_35 : decode cX11_lies 35 = .ok (.athrow, 1) := by decide +kernel
theorem dX11_lies_36 : decode cX11_lies 36 = .ok (.aload_n 3, 1) := by decide +kernel
theorem dX11_lies_37 : decode cX11_lies 37 = .ok (.iload_n 2, 1) := by decide +kernel
theorem dX11_lies_38 : decode cX11_lies 38 = .ok (.invokevirtual 208, 3) := by decide +kernel
theorem dX11_lies_41 : decode cX11_lies 41 = .ok (.ifCond .ne 11, 3) := by decide +kernel
theorem dX11_lies_44 : decode cX11_lies 44 = .ok (.new 84, 3) := by decide +kernel
theorem dX11_lies_47 : decode cX11_lies 47 = .ok (.dup, 1) := by decide +kernel
theorem dX11_lies_48 : decode cX11_lies 48 = .ok (.invokespecial 86, 3) := by decide +kernel
theorem dX11_lies_51 : decode cX11_lies 51 = .ok (.athrow, 1) := by decide +kernel
theorem dX11_lies_52 : decode cX11_lies 52 = .ok (.aload_n 3, 1) := by decide +kernel
theorem dX11_lies_53 : decode cX11_lies 53 = .ok (.getfield 325, 3) := by decide +kernel
theorem dX11_lies_56 : decode cX11_lies 56 = .ok (.iload_n 2, 1) := by decide +kernel
theorem dX11_lies_57 : decode cX11_lies 57 = .ok (.iaload, 1) := by decide +kernel
theorem dX11_lies_58 : decode cX11_lies 58 = .ok (.ireturn, 1) := by decide +kernel
theorem dX11_judge_0 : decode cX11_judge 0 = .ok (.aload_n 0, 1) := by decide +kernel
theorem dX11_judge_1 : decode cX11_judge 1 = .ok (.getfield 39, 3) := by decide +kernel
theorem dX11_judge_4 : decode cX11_judge 4 = .ok (.iload_n 1, 1) := by decide +kernel
theorem dX11_judge_5 : decode cX11_judge 5 = .ok (.invokevirtual 139, 3) := by decide +kernel
theorem dX11_judge_8 : decode cX11_judge 8 = .ok (.astore_n 2, 1) := by decide +kernel
theorem dX11_judge_9 : decode cX11_judge 9 = .ok (.aload_n 2, 1) := by decide +kernel
theorem dX11_judge_10 : decode cX11_judge 10 = .ok (.ifnonnull 11, 3) := by decide +kernel
theorem dX11_judge_13 : decode cX11_judge 13 = .ok (.new 84, 3) := by decide +kernel
theorem dX11_judge_16 : decode cX11_judge 16 = .ok (.dup, 1) := by decide +kernel
theorem dX11_judge_17 : decode cX11_judge 17 = .ok (.invokespecial 86, 3) := by decide +kernel
theorem dX11_judge_20 : decode cX11_judge 20 = .ok (.athrow, 1) := by decide +kernel
theorem dX11_judge_21 : decode cX11_judge 21 = .ok (.aload_n 2, 1) := by decide +kernel
theorem dX11_judge_22 : decode cX11_judge 22 = .ok (.getfield 159, 3) := by decide +kernel
theorem dX11_judge_25 : decode cX11_judge 25 = .ok (.ifCond .ne 11, 3) := by decide +kernel
theorem dX11_judge_28 : decode cX11_judge 28 = .ok (.new 322, 3) := by decide +kernel
theorem dX11_judge_31 : decode cX11_judge 31 = .ok (.dup, 1) := by decide +kernel
theorem dX11_judge_32 : decode cX11_judge 32 = .ok (.invokespecial 324, 3) := by decide +kernel
theorem dX11_judge_35 : decode cX11_judge 35 = .ok (.athrow, 1) := by decide +kernel
theorem dX11_judge_36 : decode cX11_judge 36 = .ok (.aload_n 0, 1) := by decide +kernel
theorem dX11_judge_37 : decode cX11_judge 37 = .ok (.getfield 39, 3) := by decide +kernel
theorem dX11_judge_40 : decode cX11_judge 40 = .ok (.aload_n 2, 1) := by decide +kernel
theorem dX11_judge_41 : decode cX11_judge 41 = .ok (.invokevirtual 327, 3) := by decide +kernel
theorem dX11_judge_44 : decode cX11_judge 44 = .ok (.ireturn, 1) := by decide +kernel
theorem dX11_pie_0 : decode cX11_pie 0 = .ok (.aload_n 0, 1) := by decide +kernel
theorem dX11_pie_1 : decode cX11_pie 1 = .ok (.getfield 39, 3) := by decide +kernel
theorem dX11_pie_4 : decode cX11_pie 4 = .ok (.iload_n 1, 1) := by decide +kernel
theorem dX11_pie_5 : decode cX11_pie 5 = .ok (.invokevirtual 280, 3) := by decide +kernel
theorem dX11_pie_8 : decode cX11_pie 8 = .ok (.astore_n 2, 1) := by decide +kernel
theorem dX11_pie_9 : decode cX11_pie 9 = .ok (.aload_n 2, 1) := by decide +kernel
theorem dX11_pie_10 : decode cX11_pie 10 = .ok (.ifnonnull 11, 3) := by decide +kernel
theorem dX11_pie_13 : decode cX11_pie 13 = .ok (.new 84, 3) := by decide +kernel
theorem dX11_pie_16 : decode cX11_pie 16 = .ok (.dup, 1) := by decide +kernel
theorem dX11_pie_17 : decode cX11_pie 17 = .ok (.invokespecial 86, 3) := by decide +kernel
theorem dX11_pie_20 : decode cX11_pie 20 = .ok (.athrow, 1) := by decide +kernel
theorem dX11_pie_21 : decode cX11_pie 21 = .ok (.aload_n 2, 1) := by decide +kernel
theorem dX11_pie_22 : decode cX11_pie 22 = .ok (.getfield 298, 3) := by decide +kernel
theorem dX11_pie_25 : decode cX11_pie 25 = .ok (.ifCond .eq 5, 3) := by decide +kernel
theorem dX11_pie_28 : decode cX11_pie 28 = .ok (.iconst 0, 1) := by decide +kernel
theorem dX11_pie_29 : decode cX11_pie 29 = .ok (.ireturn, 1) := by decide +kernel
theorem dX11_pie_30 : decode cX11_pie 30 = .ok (.aload_n 0, 1) := by decide +kernel
theorem dX11_pie_31 : decode cX11_pie 31 = .ok (.getfield 39, 3) := by decide +kernel
theorem dX11_pie_34 : decode cX11_pie 34 = .ok (.aload_n 2, 1) := by decide +kernel
theorem dX11_pie_35 : decode cX11_pie 35 = .ok (.iconst 1, 1) := by decide +kernel
theorem dX11_pie_36 : decode cX11_pie 36 = .ok (.invokevirtual 330, 3) := by decide +kernel
theorem dX11_pie_39 : decode cX11_pie 39 = .ok (.iconst 1, 1) := by decide +kernel
theorem dX11_pie_40 : decode cX11_pie 40 = .ok (.ireturn, 1) := by decide +kernel
theorem dX11_change_0 : decode cX11_change 0 = .ok (.aload_n 0, 1) := by decide +kernel
theorem dX11_change_1 : decode cX11_change 1 = .ok (.getfield 39, 3) := by decide +kernel
theorem dX11_change_4 : decode cX11_change 4 = .ok (.iload_n 1, 1) := by decide +kernel
theorem dX11_change_5 : decode cX11_change 5 = .ok (.invokevirtual 280, 3) := by decide +kernel
theorem dX11_change_8 : decode cX11_change 8 = .ok (.astore_n 3, 1) := by decide +kernel
theorem dX11_change_9 : decode cX11_change 9 = .ok (.aload_n 0, 1) := by decide +kernel
theorem dX11_change_10 : decode cX11_change 10 = .ok (.getfield 39, 3) := by decide +kernel
theorem dX11_change_13 : decode cX11_change 13 = .ok (.iload_n 2, 1) := by decide +kernel
theorem dX11_change_14 : decode cX11_change 14 = .ok (.invokevirtual 280, 3) := by decide +kernel
theorem dX11_change_17 : decode cX11_change 17 = .ok (.astore 4, 2) := by decide +kernel
theorem dX11_change_19 : decode cX11_change 19 = .ok (.aload_n 3, 1) := by decide +kernel
theorem dX11_change_20 : decode cX11_change 20 = .ok (.ifnull 8, 3) := by decide +kernel
theorem dX11_change_23 : decode cX11_change 23 = .ok (.aload 4, 2) := by decide +kernel
theorem dX11_change_25 : decode cX11_change 25 = .ok (.ifnonnull 11, 3) := by decide +kernel
theorem dX11_change_28 : decode cX11_change 28 = .ok (.new 84, 3) := by decide +kernel
theorem dX11_change_31 : decode cX11_change 31 = .ok (.dup, 1) := by decide +kernel
theorem dX11_change_32 : decode cX11_change 32 = .ok (.invokespecial 86, 3) := by decide +kernel
theorem dX11_change_35 : decode cX11_change 35 = .ok (.athrow, 1) := by decide +kernel
theorem dX11_change_36 : decode cX11_change 36 = .ok (.aload_n 3, 1) := by decide +kernel
theorem dX11_change_37 : decode cX11_change 37 = .ok (.getfield 298, 3) := by decide +kernel
theorem dX11_change_40 : decode cX11_change 40 = .ok (.ifCond .ne 11, 3) := by decide +kernel
theorem dX11_change_43 : decode cX11_change 43 = .ok (.aload 4, 2) := by decide +kernel
theorem dX11_change_45 : decode cX11_change 45 = .ok (.getfield 298, 3) := by decide +kernel
theorem dX11_change_48 : decode cX11_change 48 = .ok (.ifCond .eq 5, 3) := by decide +kernel
theorem dX11_change_51 : decode cX11_change 51 = .ok (.iconst 0, 1) := by decide +kernel
theorem dX11_change_52 : decode cX11_change 52 = .ok (.ireturn, 1) := by decide +kernel
theorem dX11_change_53 : decode cX11_change 53 = .ok (.aload_n 3, 1) := by decide +kernel
theorem dX11_change_54 : decode cX11_change 54 = .ok (.getfield 304, 3) := by decide +kernel
theorem dX11_change_57 : decode cX11_change 57 = .ok (.istore 5, 2) := by decide +kernel
theorem dX11_change_59 : decode cX11_change 59 = .ok (.aload_n 3, 1) := by decide +kernel
theorem dX11_change_60 : decode cX11_change 60 = .ok (.getfield 301, 3) := by decide +kernel
theorem dX11_change_63 : decode cX11_change 63 = .ok (.istore 6, 2) := by decide +kernel
theorem dX11_change_65 : decode cX11_change 65 = .ok (.aload_n 0, 1) := by decide +kernel
theorem dX11_change_66 : decode cX11_change 66 = .ok (.getfield 39, 3) := by decide +kernel
theorem dX11_change_69 : decode cX11_change 69 = .ok (.iload_n 1, 1) := by decide +kernel
theorem dX11_change_70 : decode cX11_change 70 = .ok (.aload 4, 2) := by decide +kernel
theorem dX11_change_72 : decode cX11_change 72 = .ok (.getfield 304, 3) := by decide +kernel
theorem dX11_change_75 : decode cX11_change 75 = .ok (.aload 4, 2) := by decide +kernel
theorem dX11_change_77 : decode cX11_change 77 = .ok (.getfield 301, 3) := by decide +kernel
theorem dX11_change_80 : decode cX11_change 80 = .ok (.invokevirtual 334, 3) := by decide +kernel
theorem dX11_change_83 : decode cX11_change 83 = .ok (.aload_n 0, 1) := by decide +kernel
theorem dX11_change_84 : decode cX11_change 84 = .ok (.getfield 39, 3) := by decide +kernel
theorem dX11_change_87 : decode cX11_change 87 = .ok (.iload_n 2, 1) := by decide +kernel
theorem dX11_change_88 : decode cX11_change 88 = .ok (.iload 5, 2) := by decide +kernel
theorem dX11_change_90 : decode cX11_change 90 = .ok (.iload 6, 2) := by decide +kernel
theorem dX11_change_92 : decode cX11_change 92 = .ok (.invokevirtual 334, 3) := by decide +kernel
theorem dX11_change_95 : decode cX11_change 95 = .ok (.iconst 1, 1) := by decide +kernel
theorem dX11_change_96 : decode cX11_change 96 = .ok (.ireturn, 1) := by decide +kernel
theorem dX11_again_0 : decode cX11_again 0 = .ok (.aload_n 0, 1) := by decide +kernel
theorem dX11_again_1 : decode cX11_again 1 = .ok (.getfield 39, 3) := by decide +kernel
theorem dX11_again_4 : decode cX11_again 4 = .ok (.iload_n 1, 1) := by decide +kernel
theorem dX11_again_5 : decode cX11_again 5 = .ok (.invokevirtual 139, 3) := by decide +kernel
theorem dX11_again_8 : decode cX11_again 8 = .ok (.astore 4, 2) := by decide +kernel
theorem dX11_again_10 : decode cX11_again 10 = .ok (.aload_n 0, 1) := by decide +kernel
theorem dX11_again_11 : decode cX11_again 11 = .ok (.getfield 39, 3) := by decide +kernel
theorem dX11_again_14 : decode cX11_again 14 = .ok (.iload_n 3, 1) := by decide +kernel
theorem dX11_again_15 : decode cX11_again 15 = .ok (.invokevirtual 231, 3) := by decide +kernel
theorem dX11_again_18 : decode cX11_again 18 = .ok (.astore 5, 2) := by decide +kernel
theorem dX11_again_20 : decode cX11_again 20 = .ok (.aload 4, 2) := by decide +kernel
theorem dX11_again_22 : decode cX11_again 22 = .ok (.ifnull 8, 3) := by decide +kernel
theorem dX11_again_25 : decode cX11_again 25 = .ok (.aload 5, 2) := by decide +kernel
theorem dX11_again_27 : decode cX11_again 27 = .ok (.ifnonnull 11, 3) := by decide +kernel
theorem dX11_again_30 : decode cX11_again 30 = .ok (.new 84, 3) := by decide +kernel
theorem dX11_again_33 : decode cX11_again 33 = .ok (.dup, 1) := by decide +kernel
theorem dX11_again_34 : decode cX11_again 34 = .ok (.invokespecial 86, 3) := by decide +kernel
theorem dX11_again_37 : decode cX11_again 37 = .ok (.athrow, 1) := by decide +kernel
theorem dX11_again_38 : decode cX11_again 38 = .ok (.aload 4, 2) := by decide +kernel
theorem dX11_again_40 : decode cX11_again 40 = .ok (.getfield 159, 3) := by decide +kernel
theorem dX11_again_43 : decode cX11_again 43 = .ok (.ifCond .ne 11, 3) := by decide +kernel
theorem dX11_again_46 : decode cX11_again 46 = .ok (.new 322, 3) := by decide +kernel
theorem dX11_again_49 : decode cX11_again 49 = .ok (.dup, 1) := by decide +kernel
theorem dX11_again_50 : decode cX11_again 50 = .ok (.invokespecial 324, 3) := by decide +kernel
theorem dX11_again_53 : decode cX11_again 53 = .ok (.athrow, 1) := by decide +kernel
theorem dX11_again_54 : decode cX11_again 54 = .ok (.aload 4, 2) := by decide +kernel
theorem dX11_again_56 : decode cX11_again 56 = .ok (.iload_n 2, 1) := by decide +kernel
theorem dX11_again_57 : decode cX11_again 57 = .ok (.invokevirtual 208, 3) := by decide +kernel
theorem dX11_again_60 : decode cX11_again 60 = .ok (.ifCond .ne 11, 3) := by decide +kernel
theorem dX11_again_63 : decode cX11_again 63 = .ok (.new 84, 3) := by decide +kernel
theorem dX11_again_66 : decode cX11_again 66 = .ok (.dup, 1) := by decide +kernel
theorem dX11_again_67 : decode cX11_again 67 = .ok (.invokespecial 86, 3) := by decide +kernel
theorem dX11_again_70 : decode cX11_again 70 = .ok (.athrow, 1) := by decide +kernel
theorem dX11_again_71 : decode cX11_again 71 = .ok (.aload 5, 2) := by decide +kernel
theorem dX11_again_73 : decode cX11_again 73 = .ok (.getfield 258, 3) := by decide +kernel
theorem dX11_again_76 : decode cX11_again 76 = .ok (.bipush 30, 2) := by decide +kernel
theorem dX11_again_78 : decode cX11_again 78 = .ok (.if_icmp .lt 11, 3) := by decide +kernel
theorem dX11_again_81 : decode cX11_again 81 = .ok (.new 110, 3) := by decide +kernel
theorem dX11_again_84 : decode cX11_again 84 = .ok (.dup, 1) := by decide +kernel
theorem dX11_again_85 : decode cX11_again 85 = .ok (.invokespecial 112, 3) := by decide +kernel
theorem dX11_again_88 : decode cX11_again 88 = .ok (.athrow, 1) := by decide +kernel
theorem dX11_again_89 : decode cX11_again 89 = .ok (.aload 4, 2) := by decide +kernel
theorem dX11_again_91 : decode cX11_again 91 = .ok (.getfield 325, 3) := by decide +kernel
theorem dX11_again_94 : decode cX11_again 94 = .ok (.iload_n 2, 1) := by decide +kernel
theorem dX11_again_95 : decode cX11_again 95 = .ok (.iaload, 1) := by decide +kernel
theorem dX11_again_96 : decode cX11_again 96 = .ok (.iconst (-1), 1) := by decide +kernel
theorem dX11_again_97 : decode cX11_again 97 = .ok (.if_icmp .eq 5, 3) := by decide +kernel
theorem dX11_again_100 : decode cX11_again 100 = .ok (.iconst (-1), 1) := by decide +kernel
theorem dX11_again_101 : decode cX11_again 101 = .ok (.ireturn, 1) := by decide +kernel
theorem dX11_again_102 : decode cX11_again 102 = .ok (.aload 5, 2) := by decide +kernel
theorem dX11_again_104 : decode cX11_again 104 = .ok (.iload_n 1, 1) := by decide +kernel
theorem dX11_again_105 : decode cX11_again 105 = .ok (.iload_n 2, 1) := by decide +kernel
theorem dX11_again_106 : decode cX11_again 106 = .ok (.iload_n 2, 1) := by decide +kernel
theorem dX11_again_107 : decode cX11_again 107 = .ok (.iconst 1, 1) := by decide +kernel
theorem dX11_again_108 : decode cX11_again 108 = .ok (.iadd, 1) := by decide +kernel
theorem dX11_again_109 : decode cX11_again 109 = .ok (.iconst 0, 1) := by decide +kernel
theorem dX11_again_110 : decode cX11_again 110 = .ok (.invokevirtual 261, 3) := by decide +kernel
theorem dX11_again_113 : decode cX11_again 113 = .ok (.aload 5, 2) := by decide +kernel
theorem dX11_again_115 : decode cX11_again 115 = .ok (.getfield 258, 3) := by decide +kernel
theorem dX11_again_118 : decode cX11_again 118 = .ok (.ireturn, 1) := by decide +kernel
theorem dX11_correct_0 : decode cX11_correct 0 = .ok (.aload_n 0, 1) := by decide +kernel
theorem dX11_correct_1 : decode cX11_correct 1 = .ok (.invokevirtual 94, 3) := by decide +kernel
theorem dX11_correct_4 : decode cX11_correct 4 = .ok (.istore 4, 2) := by decide +kernel
theorem dX11_correct_6 : decode cX11_correct 6 = .ok (.aload_n 0, 1) := by decide +kernel
theorem dX11_correct_7 : decode cX11_correct 7 = .ok (.getfield 39, 3) := by decide +kernel
theorem dX11_correct_10 : decode cX11_correct 10 = .ok (.iload_n 1, 1) := by decide +kernel
theorem dX11_correct_11 : decode cX11_correct 11 = .ok (.invokevirtual 139, 3) := by decide +kernel
theorem dX11_correct_14 : decode cX11_correct 14 = .ok (.astore 5, 2) := by decide +kernel
theorem dX11_correct_16 : decode cX11_correct 16 = .ok (.aload_n 0, 1) := by decide +kernel
theorem dX11_correct_17 : decode cX11_correct 17 = .ok (.getfield 39, 3) := by decide +kernel
theorem dX11_correct_20 : decode cX11_correct 20 = .ok (.iload_n 3, 1) := by decide +kernel
theorem dX11_correct_21 : decode cX11_correct 21 = .ok (.invokevirtual 231, 3) := by decide +kernel
theorem dX11_correct_24 : decode cX11_correct 24 = .ok (.astore 6, 2) := by decide +kernel
theorem dX11_correct_26 : decode cX11_correct 26 = .ok (.aload 5, 2) := by decide +kernel
theorem dX11_correct_28 : decode cX11_correct 28 = .ok (.ifnull 21, 3) := by decide +kernel
theorem dX11_correct_31 : decode cX11_correct 31 = .ok (.aload 6, 2) := by decide +kernel
theorem dX11_correct_33 : decode cX11_correct 33 = .ok (.ifnull 16, 3) := by decide +kernel
theorem dX11_correct_36 : decode cX11_correct 36 = .ok (.iload_n 2, 1) := by decide +kernel
theorem dX11_correct_37 : decode cX11_correct 37 = .ok (.ifCond .lt 12, 3) := by decide +kernel
theorem dX11_correct_40 : decode cX11_correct 40 = .ok (.iload_n 2, 1) := by decide +kernel
theorem dX11_correct_41 : decode cX11_correct 41 = .ok (.aload 5, 2) := by decide +kernel
theorem dX11_correct_43 : decode cX11_correct 43 = .ok (.getfield 143, 3) := by decide +kernel
theorem dX11_correct_46 : decode cX11_correct 46 = .ok (.if_icmp .lt 11, 3) := by decide +kernel
theorem dX11_correct_49 : decode cX11_correct 49 = .ok (.new 84, 3) := by decide +kernel
theorem dX11_correct_52 : decode cX11_correct 52 = .ok (.dup, 1) := by decide +kernel
theorem dX11_correct_53 : decode cX11_correct 53 = .ok (.invokespecial 86, 3) := by decide +kernel
theorem dX11_correct_56 : decode cX11_correct 56 = .ok (.athrow, 1) := by decide +kernel
theorem dX11_correct_57 : decode cX11_correct 57 = .ok (.aload 5, 2) := by decide +kernel
theorem dX11_correct_59 : decode cX11_correct 59 = .ok (.getfield 146, 3) := by decide +kernel
theorem dX11_correct_62 : decode cX11_correct 62 = .ok (.aload 5, 2) := by decide +kernel
theorem dX11_correct_64 : decode cX11_correct 64 = .ok (.iload_n 2, 1) := by decide +kernel
theorem dX11_correct_65 : decode cX11_correct 65 = .ok (.invokevirtual 337, 3) := by decide +kernel
theorem dX11_correct_68 : decode cX11_correct 68 = .ok (.isub, 1) := by decide +kernel
theorem dX11_correct_69 : decode cX11_correct 69 = .ok (.istore 7, 2) := by decide +kernel
theorem dX11_correct_71 : decode cX11_correct 71 = .ok (.aload_n 0, 1) := by decide +kernel
theorem dX11_correct_72 : decode cX11_correct 72 = .ok (.aload_n 0, 1) := by decide +kernel
theorem dX11_correct_73 : decode cX11_correct 73 = .ok (.getfield 9, 3) := by decide +kernel
theorem dX11_correct_76 : decode cX11_correct 76 = .ok (.iload 4, 2) := by decide +kernel
theorem dX11_correct_78 : decode cX11_correct 78 = .ok (.iconst 1, 1) := by decide +kernel
theorem dX11_correct_79 : decode cX11_correct 79 = .ok (.iconst 1, 1) := by decide +kernel
theorem dX11_correct_80 : decode cX11_correct 80 = .ok (.iload 7, 2) := by decide +kernel
theorem dX11_correct_82 : decode cX11_correct 82 = .ok (.invokestatic 101, 3) := by decide +kernel
theorem dX11_correct_85 : decode cX11_correct 85 = .ok (.putfield 17, 3) := by decide +kernel
theorem dX11_correct_88 : decode cX11_correct 88 = .ok (.aload_n 0, 1) := by decide +kernel
theorem dX11_correct_89 : decode cX11_correct 89 = .ok (.getfield 17, 3) := by decide +kernel
theorem dX11_correct_92 : decode cX11_correct 92 = .ok (.iconst (-1), 1) := by decide +kernel
theorem dX11_correct_93 : decode cX11_correct 93 = .ok (.if_icmp .eq 11, 3) := by decide +kernel
theorem dX11_correct_96 : decode cX11_correct 96 = .ok (.new 87, 3) := by decide +kernel
theorem dX11_correct_99 : decode cX11_correct 99 = .ok (.dup, 1) := by decide +kernel
theorem dX11_correct_100 : decode cX11_correct 100 = .ok (.invokespecial 89, 3) := by decide +kernel
theorem dX11_correct_103 : decode cX11_correct 103 = .ok (.athrow, 1) := by decide +kernel
theorem dX11_correct_104 : decode cX11_correct 104 = .ok (.aload 5, 2) := by decide +kernel
theorem dX11_correct_106 : decode cX11_correct 106 = .ok (.getfield 159, 3) := by decide +kernel
theorem dX11_correct_109 : decode cX11_correct 109 = .ok (.ifCond .eq 22, 3) := by decide +kernel
theorem dX11_correct_112 : decode cX11_correct 112 = .ok (.aload_n 0, 1) := by decide +kernel
theorem dX11_correct_113 : decode cX11_correct 113 = .ok (.getfield 39, 3) := by decide +kernel
theorem dX11_correct_116 : decode cX11_correct 116 = .ok (.iload_n 1, 1) := by decide +kernel
theorem dX11_correct_117 : decode cX11_correct 117 = .ok (.invokevirtual 340, 3) := by decide +kernel
theorem dX11_correct_120 : decode cX11_correct 120 = .ok (.ifCond .eq 11, 3) := by decide +kernel
theorem dX11_correct_123 : decode cX11_correct 123 = .ok (.new 322, 3) := by decide +kernel
theorem dX11_correct_126 : decode cX11_correct 126 = .ok (.dup, 1) := by decide +kernel
theorem dX11_correct_127 : decode cX11_correct 127 = .ok (.invokespecial 324, 3) := by decide +kernel
theorem dX11_correct_130 : decode cX11_correct 130 = .ok (.athrow, 1) := by decide +kernel
theorem dX11_correct_131 : decode cX11_correct 131 = .ok (.aload 6, 2) := by decide +kernel
theorem dX11_correct_133 : decode cX11_correct 133 = .ok (.getfield 258, 3) := by decide +kernel
theorem dX11_correct_136 : decode cX11_correct 136 = .ok (.bipush 30, 2) := by decide +kernel
theorem dX11_correct_138 : decode cX11_correct 138 = .ok (.if_icmp .lt 11, 3) := by decide +kernel
theorem dX11_correct_141 : decode cX11_correct 141 = .ok (.new 110, 3) := by decide +kernel
theorem dX11_correct_144 : decode cX11_correct 144 = .ok (.dup, 1) := by decide +kernel
theorem dX11_correct_145 : decode cX11_correct 145 = .ok (.invokespecial 112, 3) := by decide +kernel
theorem dX11_correct_148 : decode cX11_correct 148 = .ok (.athrow, 1) := by decide +kernel
theorem dX11_correct_149 : decode cX11_correct 149 = .ok (.aload_n 0, 1) := by decide +kernel
theorem dX11_correct_150 : decode cX11_correct 150 = .ok (.getfield 32, 3) := by decide +kernel
theorem dX11_correct_153 : decode cX11_correct 153 = .ok (.aload 5, 2) := by decide +kernel
theorem dX11_correct_155 : decode cX11_correct 155 = .ok (.iload_n 2, 1) := by decide +kernel
theorem dX11_correct_156 : decode cX11_correct 156 = .ok (.aload_n 0, 1) := by decide +kernel
theorem dX11_correct_157 : decode cX11_correct 157 = .ok (.getfield 9, 3) := by decide +kernel
theorem dX11_correct_160 : decode cX11_correct 160 = .ok (.iload 4, 2) := by decide +kernel
theorem dX11_correct_162 : decode cX11_correct 162 = .ok (.invokevirtual 343, 3) := by decide +kernel
theorem dX11_correct_165 : decode cX11_correct 165 = .ok (.aload_n 0, 1) := by decide +kernel
theorem dX11_correct_166 : decode cX11_correct 166 = .ok (.getfield 39, 3) := by decide +kernel
theorem dX11_correct_169 : decode cX11_correct 169 = .ok (.iload_n 1, 1) := by decide +kernel
theorem dX11_correct_170 : decode cX11_correct 170 = .ok (.iload_n 2, 1) := by decide +kernel
theorem dX11_correct_171 : decode cX11_correct 171 = .ok (.aload_n 0, 1) := by decide +kernel
theorem dX11_correct_172 : decode cX11_correct 172 = .ok (.getfield 32, 3) := by decide +kernel
theorem dX11_correct_175 : decode cX11_correct 175 = .ok (.aload 6, 2) := by decide +kernel
theorem dX11_correct_177 : decode cX11_correct 177 = .ok (.invokevirtual 347, 3) := by decide +kernel
theorem dX11_correct_180 : decode cX11_correct 180 = .ok (.ireturn, 1) := by decide +kernel
theorem dX11_slip_0 : decode cX11_slip 0 = .ok (.aload_n 0, 1) := by decide +kernel
theorem dX11_slip_1 : decode cX11_slip 1 = .ok (.getfield 39, 3) := by decide +kernel
theorem dX11_slip_4 : decode cX11_slip 4 = .ok (.iload_n 1, 1) := by decide +kernel
theorem dX11_slip_5 : decode cX11_slip 5 = .ok (.invokevirtual 280, 3) := by decide +kernel
theorem dX11_slip_8 : decode cX11_slip 8 = .ok (.astore 4, 2) := by decide +kernel
theorem dX11_slip_10 : decode cX11_slip 10 = .ok (.aload 4, 2) := by decide +kernel
theorem dX11_slip_12 : decode cX11_slip 12 = .ok (.ifnonnull 11, 3) := by decide +kernel
theorem dX11_slip_15 : decode cX11_slip 15 = .ok (.new 84, 3) := by decide +kernel
theorem dX11_slip_18 : decode cX11_slip 18 = .ok (.dup, 1) := by decide +kernel
theorem dX11_slip_19 : decode cX11_slip 19 = .ok (.invokespecial 86, 3) := by decide +kernel
theorem dX11_slip_22 : decode cX11_slip 22 = .ok (.athrow, 1) := by decide +kernel
theorem dX11_slip_23 : decode cX11_slip 23 = .ok (.aload 4, 2) := by decide +kernel
theorem dX11_slip_25 : decode cX11_slip 25 = .ok (.iload_n 2, 1) := by decide +kernel
theorem dX11_slip_26 : decode cX11_slip 26 = .ok (.invokevirtual 351, 3) := by decide +kernel
theorem dX11_slip_29 : decode cX11_slip 29 = .ok (.istore 5, 2) := by decide +kernel
theorem dX11_slip_31 : decode cX11_slip 31 = .ok (.iload 5, 2) := by decide +kernel
theorem dX11_slip_33 : decode cX11_slip 33 = .ok (.iconst (-1), 1) := by decide +kernel
theorem dX11_slip_34 : decode cX11_slip 34 = .ok (.if_icmp .eq 13, 3) := by decide +kernel
theorem dX11_slip_37 : decode cX11_slip 37 = .ok (.iload_n 3, 1) := by decide +kernel
theorem dX11_slip_38 : decode cX11_slip 38 = .ok (.ifCond .lt 9, 3) := by decide +kernel
theorem dX11_slip_41 : decode cX11_slip 41 = .ok (.iload_n 3, 1) := by decide +kernel
theorem dX11_slip_42 : decode cX11_slip 42 = .ok (.bipush 26, 2) := by decide +kernel
theorem dX11_slip_44 : decode cX11_slip 44 = .ok (.if_icmp .lt 11, 3) := by decide +kernel
theorem dX11_slip_47 : decode cX11_slip 47 = .ok (.new 87, 3) := by decide +kernel
theorem dX11_slip_50 : decode cX11_slip 50 = .ok (.dup, 1) := by decide +kernel
theorem dX11_slip_51 : decode cX11_slip 51 = .ok (.invokespecial 89, 3) := by decide +kernel
theorem dX11_slip_54 : decode cX11_slip 54 = .ok (.athrow, 1) := by decide +kernel
theorem dX11_slip_55 : decode cX11_slip 55 = .ok (.aload 4, 2) := by decide +kernel
theorem dX11_slip_57 : decode cX11_slip 57 = .ok (.iload 5, 2) := by decide +kernel
theorem dX11_slip_59 : decode cX11_slip 59 = .ok (.bipush 97, 2) := by decide +kernel
theorem dX11_slip_61 : decode cX11_slip 61 = .ok (.iload_n 3, 1) := by decide +kernel
theorem dX11_slip_62 : decode cX11_slip 62 = .ok (.iadd, 1) := by decide +kernel
theorem dX11_slip_63 : decode cX11_slip 63 = .ok (.invokevirtual 354, 3) := by decide +kernel
theorem dX11_slip_66 : decode cX11_slip 66 = .ok (.ireturn, 1) := by decide +kernel
theorem dX11_read_0 : decode cX11_read 0 = .ok (.aload_n 0, 1) := by decide +kernel
theorem dX11_read_1 : decode cX11_read 1 = .ok (.getfield 39, 3) := by decide +kernel
theorem dX11_read_4 : decode cX11_read 4 = .ok (.iload_n 2, 1) := by decide +kernel
theorem dX11_read_5 : decode cX11_read 5 = .ok (.invokevirtual 280, 3) := by decide +kernel
theorem dX11_read_8 : decode cX11_read 8 = .ok (.astore_n 3, 1) := by decide +kernel
theorem dX11_read_9 : decode cX11_read 9 = .ok (.aload_n 3, 1) := by decide +kernel
theorem dX11_read_10 : decode cX11_read 10 = .ok (.ifnull 12, 3) := by decide +kernel
theorem dX11_read_13 : decode cX11_read 13 = .ok (.iload_n 1, 1) := by decide +kernel
theorem dX11_read_14 : decode cX11_read 14 = .ok (.ifCond .lt 8, 3) := by decide +kernel
theorem dX11_read_17 : decode cX11_read 17 = .ok (.iload_n 1, 1) := by decide +kernel
theorem dX11_read_18 : decode cX11_read 18 = .ok (.iconst 1, 1) := by decide +kernel
theorem dX11_read_19 : decode cX11_read 19 = .ok (.if_icmp .le 11, 3) := by decide +kernel
theorem dX11_read_22 : decode cX11_read 22 = .ok (.new 84, 3) := by decide +kernel
theorem dX11_read_25 : decode cX11_read 25 = .ok (.dup, 1) := by decide +kernel
theorem dX11_read_26 : decode cX11_read 26 = .ok (.invokespecial 86, 3) := by decide +kernel
theorem dX11_read_29 : decode cX11_read 29 = .ok (.athrow, 1) := by decide +kernel
theorem dX11_read_30 : decode cX11_read 30 = .ok (.iconst 1, 1) := by decide +kernel
theorem dX11_read_31 : decode cX11_read 31 = .ok (.iload_n 1, 1) := by decide +kernel
theorem dX11_read_32 : decode cX11_read 32 = .ok (.ishl, 1) := by decide +kernel
theorem dX11_read_33 : decode cX11_read 33 = .ok (.istore 4, 2) := by decide +kernel
theorem dX11_read_35 : decode cX11_read 35 = .ok (.aload_n 3, 1) := by decide +kernel
theorem dX11_read_36 : decode cX11_read 36 = .ok (.getfield 358, 3) := by decide +kernel
theorem dX11_read_39 : decode cX11_read 39 = .ok (.iload 4, 2) := by decide +kernel
theorem dX11_read_41 : decode cX11_read 41 = .ok (.iand, 1) := by decide +kernel
theorem dX11_read_42 : decode cX11_read 42 = .ok (.ifCond .eq 5, 3) := by decide +kernel
theorem dX11_read_45 : decode cX11_read 45 = .ok (.iconst 0, 1) := by decide +kernel
theorem dX11_read_46 : decode cX11_read 46 = .ok (.ireturn, 1) := by decide +kernel
theorem dX11_read_47 : decode cX11_read 47 = .ok (.aload_n 3, 1) := by decide +kernel
theorem dX11_read_48 : decode cX11_read 48 = .ok (.dup, 1) := by decide +kernel
theorem dX11_read_49 : decode cX11_read 49 = .ok (.getfield 358, 3) := by decide +kernel
theorem dX11_read_52 : decode cX11_read 52 = .ok (.iload 4, 2) := by decide +kernel
theorem dX11_read_54 : decode cX11_read 54 = .ok (.ior, 1) := by decide +kernel
theorem dX11_read_55 : decode cX11_read 55 = .ok (.putfield 358, 3) := by decide +kernel
theorem dX11_read_58 : decode cX11_read 58 = .ok (.iconst 1, 1) := by decide +kernel
theorem dX11_read_59 : decode cX11_read 59 = .ok (.ireturn, 1) := by decide +kernel
theorem dX11_proof_0 : decode cX11_proof 0 = .ok (.iload_n 1, 1) := by decide +kernel
theorem dX11_proof_1 : decode cX11_proof 1 = .ok (.tableswitch 94 0 5 #[39, 48, 57, 66, 74, 84], 39) := by decide +kernel
theorem dX11_proof_40 : decode cX11_proof 40 = .ok (.aload_n 0, 1) := by decide +kernel
theorem dX11_proof_41 : decode cX11_proof 41 = .ok (.getfield 39, 3) := by decide +kernel
theorem dX11_proof_44 : decode cX11_proof 44 = .ok (.iconst 1, 1) := by decide +kernel
theorem dX11_proof_45 : decode cX11_proof 45 = .ok (.invokevirtual 361, 3) := by decide +kernel
theorem dX11_proof_48 : decode cX11_proof 48 = .ok (.ireturn, 1) := by decide +kernel
theorem dX11_proof_49 : decode cX11_proof 49 = .ok (.aload_n 0, 1) := by decide +kernel
theorem dX11_proof_50 : decode cX11_proof 50 = .ok (.getfield 39, 3) := by decide +kernel
theorem dX11_proof_53 : decode cX11_proof 53 = .ok (.iconst 2, 1) := by decide +kernel
theorem dX11_proof_54 : decode cX11_proof 54 = .ok (.invokevirtual 361, 3) := by decide +kernel
theorem dX11_proof_57 : decode cX11_proof 57 = .ok (.ireturn, 1) := by decide +kernel
theorem dX11_proof_58 : decode cX11_proof 58 = .ok (.aload_n 0, 1) := by decide +kernel
theorem dX11_proof_59 : decode cX11_proof 59 = .ok (.getfield 39, 3) := by decide +kernel
theorem dX11_proof_62 : decode cX11_proof 62 = .ok (.iconst 3, 1) := by decide +kernel
theorem dX11_proof_63 : decode cX11_proof 63 = .ok (.invokevirtual 361, 3) := by decide +kernel
theorem dX11_proof_66 : decode cX11_proof 66 = .ok (.ireturn, 1) := by decide +kernel
theorem dX11_proof_67 : decode cX11_proof 67 = .ok (.aload_n 0, 1) := by decide +kernel
theorem dX11_proof_68 : decode cX11_proof 68 = .ok (.getfield 39, 3) := by decide +kernel
theorem dX11_proof_71 : decode cX11_proof 71 = .ok (.invokevirtual 364, 3) := by decide +kernel
theorem dX11_proof_74 : decode cX11_proof 74 = .ok (.ireturn, 1) := by decide +kernel
theorem dX11_proof_75 : decode cX11_proof 75 = .ok (.aload_n 0, 1) := by decide +kernel
theorem dX11_proof_76 : decode cX11_proof 76 = .ok (.getfield 39, 3) := by decide +kernel
theorem dX11_proof_79 : decode cX11_proof 79 = .ok (.iconst 1, 1) := by decide +kernel
theorem dX11_proof_80 : decode cX11_proof 80 = .ok (.iconst 0, 1) := by decide +kernel
theorem dX11_proof_81 : decode cX11_proof 81 = .ok (.invokevirtual 367, 3) := by decide +kernel
theorem dX11_proof_84 : decode cX11_proof 84 = .ok (.ireturn, 1) := by decide +kernel
theorem dX11_proof_85 : decode cX11_proof 85 = .ok (.aload_n 0, 1) := by decide +kernel
theorem dX11_proof_86 : decode cX11_proof 86 = .ok (.getfield 39, 3) := by decide +kernel
theorem dX11_proof_89 : decode cX11_proof 89 = .ok (.iconst 0, 1) := by decide +kernel
theorem dX11_proof_90 : decode cX11_proof 90 = .ok (.iconst 1, 1) := by decide +kernel
theorem dX11_proof_91 : decode cX11_proof 91 = .ok (.invokevirtual 367, 3) := by decide +kernel
theorem dX11_proof_94 : decode cX11_proof 94 = .ok (.ireturn, 1) := by decide +kernel
theorem dX11_proof_95 : decode cX11_proof 95 = .ok (.new 172, 3) := by decide +kernel
theorem dX11_proof_98 : decode cX11_proof 98 = .ok (.dup, 1) := by decide +kernel
theorem dX11_proof_99 : decode cX11_proof 99 = .ok (.invokespecial 174, 3) := by decide +kernel
theorem dX11_proof_102 : decode cX11_proof 102 = .ok (.athrow, 1) := by decide +kernel
theorem dX11_carry_0 : decode cX11_carry 0 = .ok (.aload_n 0, 1) := by decide +kernel
theorem dX11_carry_1 : decode cX11_carry 1 = .ok (.getfield 39, 3) := by decide +kernel
theorem dX11_carry_4 : decode cX11_carry 4 = .ok (.iload_n 1, 1) := by decide +kernel
theorem dX11_carry_5 : decode cX11_carry 5 = .ok (.invokevirtual 280, 3) := by decide +kernel
theorem dX11_carry_8 : decode cX11_carry 8 = .ok (.astore 4, 2) := by decide +kernel
theorem dX11_carry_10 : decode cX11_carry 10 = .ok (.aload 4, 2) := by decide +kernel
theorem dX11_carry_12 : decode cX11_carry 12 = .ok (.ifnonnull 11, 3) := by decide +kernel
theorem dX11_carry_15 : decode cX11_carry 15 = .ok (.new 84, 3) := by decide +kernel
theorem dX11_carry_18 : decode cX11_carry 18 = .ok (.dup, 1) := by decide +kernel
theorem dX11_carry_19 : decode cX11_carry 19 = .ok (.invokespecial 86, 3) := by decide +kernel
theorem dX11_carry_22 : decode cX11_carry 22 = .ok (.athrow, 1) := by decide +kernel
theorem dX11_carry_23 : decode cX11_carry 23 = .ok (.iload_n 2, 1) := by decide +kernel
theorem dX11_carry_24 : decode cX11_carry 24 = .ok (.ifCond .lt 29, 3) := by decide +kernel
theorem dX11_carry_27 : decode cX11_carry 27 = .ok (.iload_n 2, 1) := by decide +kernel
theorem dX11_carry_28 : decode cX11_carry 28 = .ok (.bipush 9, 2) := by decide +kernel
theorem dX11_carry_30 : decode cX11_carry 30 = .ok (.if_icmp .gt 23, 3) := by decide +kernel
theorem dX11_carry_33 : decode cX11_carry 33 = .ok (.iload_n 3, 1) := by decide +kernel
theorem dX11_carry_34 : decode cX11_carry 34 = .ok (.aload 4, 2) := by decide +kernel
theorem dX11_carry_36 : decode cX11_carry 36 = .ok (.getfield 292, 3) := by decide +kernel
theorem dX11_carry_39 : decode cX11_carry 39 = .ok (.if_icmp .lt 14, 3) := by decide +kernel
theorem dX11_carry_42 : decode cX11_carry 42 = .ok (.iload_n 3, 1) := by decide +kernel
theorem dX11_carry_43 : decode cX11_carry 43 = .ok (.aload_n 0, 1) := by decide +kernel
theorem dX11_carry_44 : decode cX11_carry 44 = .ok (.getfield 39, 3) := by decide +kernel
theorem dX11_carry_47 : decode cX11_carry 47 = .ok (.getfield 117, 3) := by decide +kernel
theorem dX11_carry_50 : decode cX11_carry 50 = .ok (.if_icmp .le 11, 3) := by decide +kernel
theorem dX11_carry_53 : decode cX11_carry 53 = .ok (.new 87, 3) := by decide +kernel
theorem dX11_carry_56 : decode cX11_carry 56 = .ok (.dup, 1) := by decide +kernel
theorem dX11_carry_57 : decode cX11_carry 57 = .ok (.invokespecial 89, 3) := by decide +kernel
theorem dX11_carry_60 : decode cX11_carry 60 = .ok (.athrow, 1) := by decide +kernel
theorem dX11_carry_61 : decode cX11_carry 61 = .ok (.aload_n 0, 1) := by decide +kernel
theorem dX11_carry_62 : decode cX11_carry 62 = .ok (.getfield 46, 3) := by decide +kernel
theorem dX11_carry_65 : decode cX11_carry 65 = .ok (.getfield 371, 3) := by decide +kernel
theorem dX11_carry_68 : decode cX11_carry 68 = .ok (.sipush 200, 3) := by decide +kernel
theorem dX11_carry_71 : decode cX11_carry 71 = .ok (.if_icmp .lt 5, 3) := by decide +kernel
theorem dX11_carry_74 : decode cX11_carry 74 = .ok (.iconst (-1), 1) := by decide +kernel
theorem dX11_carry_75 : decode cX11_carry 75 = .ok (.ireturn, 1) := by decide +kernel
theorem dX11_carry_76 : decode cX11_carry 76 = .ok (.aload_n 0, 1) := by decide +kernel
theorem dX11_carry_77 : decode cX11_carry 77 = .ok (.getfield 46, 3) := by decide +kernel
theorem dX11_carry_80 : decode cX11_carry 80 = .ok (.iload_n 1, 1) := by decide +kernel
theorem dX11_carry_81 : decode cX11_carry 81 = .ok (.iload_n 2, 1) := by decide +kernel
theorem dX11_carry_82 : decode cX11_carry 82 = .ok (.iload_n 3, 1) := by decide +kernel
theorem dX11_carry_83 : decode cX11_carry 83 = .ok (.aload_n 0, 1) := by decide +kernel
theorem dX11_carry_84 : decode cX11_carry 84 = .ok (.getfield 39, 3) := by decide +kernel
theorem dX11_carry_87 : decode cX11_carry 87 = .ok (.getfield 117, 3) := by decide +kernel
theorem dX11_carry_90 : decode cX11_carry 90 = .ok (.invokevirtual 374, 3) := by decide +kernel
theorem dX11_carry_93 : decode cX11_carry 93 = .ok (.aload_n 0, 1) := by decide +kernel
theorem dX11_carry_94 : decode cX11_carry 94 = .ok (.getfield 46, 3) := by decide +kernel
theorem dX11_carry_97 : decode cX11_carry 97 = .ok (.getfield 371, 3) := by decide +kernel
theorem dX11_carry_100 : decode cX11_carry 100 = .ok (.ireturn, 1) := by decide +kernel
theorem dX11_where_0 : decode cX11_where 0 = .ok (.aload_n 0, 1) := by decide +kernel
theorem dX11_where_1 : decode cX11_where 1 = .ok (.getfield 39, 3) := by decide +kernel
theorem dX11_where_4 : decode cX11_where 4 = .ok (.iload_n 1, 1) := by decide +kernel
theorem dX11_where_5 : decode cX11_where 5 = .ok (.invokevirtual 280, 3) := by decide +kernel
theorem dX11_where_8 : decode cX11_where 8 = .ok (.ifnonnull 11, 3) := by decide +kernel
theorem dX11_where_11 : decode cX11_where 11 = .ok (.new 84, 3) := by decide +kernel
theorem dX11_where_14 : decode cX11_where 14 = .ok (.dup, 1) := by decide +kernel
theorem dX11_where_15 : decode cX11_where 15 = .ok (.invokespecial 86, 3) := by decide +kernel
theorem dX11_where_18 : decode cX11_where 18 = .ok (.athrow, 1) := by decide +kernel
theorem dX11_where_19 : decode cX11_where 19 = .ok (.aload_n 0, 1) := by decide +kernel
theorem dX11_where_20 : decode cX11_where 20 = .ok (.getfield 46, 3) := by decide +kernel
theorem dX11_where_23 : decode cX11_where 23 = .ok (.iload_n 1, 1) := by decide +kernel
theorem dX11_where_24 : decode cX11_where 24 = .ok (.iload_n 2, 1) := by decide +kernel
theorem dX11_where_25 : decode cX11_where 25 = .ok (.iload_n 3, 1) := by decide +kernel
theorem dX11_where_26 : decode cX11_where 26 = .ok (.invokevirtual 378, 3) := by decide +kernel
theorem dX11_where_29 : decode cX11_where 29 = .ok (.ireturn, 1) := by decide +kernel
theorem dX11_page_0 : decode cX11_page 0 = .ok (.iload_n 1, 1) := by decide +kernel
theorem dX11_page_1 : decode cX11_page 1 = .ok (.invokestatic 382, 3) := by decide +kernel
theorem dX11_page_4 : decode cX11_page 4 = .ok (.ifCond .ne 11, 3) := by decide +kernel
theorem dX11_page_7 : decode cX11_page 7 = .ok (.new 84, 3) := by decide +kernel
theorem dX11_page_10 : decode cX11_page 10 = .ok (.dup, 1) := by decide +kernel
theorem dX11_page_11 : decode cX11_page 11 = .ok (.invokespecial 86, 3) := by decide +kernel
theorem dX11_page_14 : decode cX11_page 14 = .ok (.athrow, 1) := by decide +kernel
theorem dX11_page_15 : decode cX11_page 15 = .ok (.iload_n 2, 1) := by decide +kernel
theorem dX11_page_16 : decode cX11_page 16 = .ok (.iconst 1, 1) := by decide +kernel
theorem dX11_page_17 : decode cX11_page 17 = .ok (.if_icmp .lt 19, 3) := by decide +kernel
theorem dX11_page_20 : decode cX11_page 20 = .ok (.iload_n 2, 1) := by decide +kernel
theorem dX11_page_21 : decode cX11_page 21 = .ok (.iconst 3, 1) := by decide +kernel
theorem dX11_page_22 : decode cX11_page 22 = .ok (.if_icmp .gt 14, 3) := by decide +kernel
theorem dX11_page_25 : decode cX11_page 25 = .ok (.iload_n 3, 1) := by decide +kernel
theorem dX11_page_26 : decode cX11_page 26 = .ok (.iconst 1, 1) := by decide +kernel
theorem dX11_page_27 : decode cX11_page 27 = .ok (.if_icmp .lt 9, 3) := by decide +kernel
theorem dX11_page_30 : decode cX11_page 30 = .ok (.iload_n 3, 1) := by decide +kernel
theorem dX11_page_31 : decode cX11_page 31 = .ok (.bipush 60, 2) := by decide +kernel
theorem dX11_page_33 : decode cX11_page 33 = .ok (.if_icmp .le 11, 3) := by decide +kernel
theorem dX11_page_36 : decode cX11_page 36 = .ok (.new 87, 3) := by decide +kernel
theorem dX11_page_39 : decode cX11_page 39 = .ok (.dup, 1) := by decide +kernel
theorem dX11_page_40 : decode cX11_page 40 = .ok (.invokespecial 89, 3) := by decide +kernel
theorem dX11_page_43 : decode cX11_page 43 = .ok (.athrow, 1) := by decide +kernel
theorem dX11_page_44 : decode cX11_page 44 = .ok (.aload_n 0, 1) := by decide +kernel
theorem dX11_page_45 : decode cX11_page 45 = .ok (.getfield 46, 3) := by decide +kernel
theorem dX11_page_48 : decode cX11_page 48 = .ok (.getfield 385, 3) := by decide +kernel
theorem dX11_page_51 : decode cX11_page 51 = .ok (.iload_n 1, 1) := by decide +kernel
theorem dX11_page_52 : decode cX11_page 52 = .ok (.iload_n 2, 1) := by decide +kernel
theorem dX11_page_53 : decode cX11_page 53 = .ok (.iastore, 1) := by decide +kernel
theorem dX11_page_54 : decode cX11_page 54 = .ok (.aload_n 0, 1) := by decide +kernel
theorem dX11_page_55 : decode cX11_page 55 = .ok (.getfield 46, 3) := by decide +kernel
theorem dX11_page_58 : decode cX11_page 58 = .ok (.getfield 388, 3) := by decide +kernel
theorem dX11_page_61 : decode cX11_page 61 = .ok (.iload_n 1, 1) := by decide +kernel
theorem dX11_page_62 : decode cX11_page 62 = .ok (.iload_n 3, 1) := by decide +kernel
theorem dX11_page_63 : decode cX11_page 63 = .ok (.iastore, 1) := by decide +kernel
theorem dX11_page_64 : decode cX11_page 64 = .ok (.return_, 1) := by decide +kernel
theorem dX11_fit_0 : decode cX11_fit 0 = .ok (.aload_n 0, 1) := by decide +kernel
theorem dX11_fit_1 : decode cX11_fit 1 = .ok (.iload_n 1, 1) := by decide +kernel
theorem dX11_fit_2 : decode cX11_fit 2 = .ok (.iload_n 2, 1) := by decide +kernel
theorem dX11_fit_3 : decode cX11_fit 3 = .ok (.invokevirtual 391, 3) := by decide +kernel
theorem dX11_fit_6 : decode cX11_fit 6 = .ok (.aload_n 0, 1) := by decide +kernel
theorem dX11_fit_7 : decode cX11_fit 7 = .ok (.getfield 53, 3) := by decide +kernel
theorem dX11_fit_10 : decode cX11_fit 10 = .ok (.getfield 395, 3) := by decide +kernel
theorem dX11_fit_13 : decode cX11_fit 13 = .ok (.ireturn, 1) := by decide +kernel
theorem dX11_fits_0 : decode cX11_fits 0 = .ok (.iload_n 3, 1) := by decide +kernel
theorem dX11_fits_1 : decode cX11_fits 1 = .ok (.ifCond .lt 14, 3) := by decide +kernel
theorem dX11_fits_4 : decode cX11_fits 4 = .ok (.iload_n 3, 1) := by decide +kernel
theorem dX11_fits_5 : decode cX11_fits 5 = .ok (.aload_n 0, 1) := by decide +kernel
theorem dX11_fits_6 : decode cX11_fits 6 = .ok (.getfield 39, 3) := by decide +kernel
theorem dX11_fits_9 : decode cX11_fits 9 = .ok (.getfield 107, 3) := by decide +kernel
theorem dX11_fits_12 : decode cX11_fits 12 = .ok (.if_icmp .lt 11, 3) := by decide +kernel
theorem dX11_fits_15 : decode cX11_fits 15 = .ok (.new 84, 3) := by decide +kernel
theorem dX11_fits_18 : decode cX11_fits 18 = .ok (.dup, 1) := by decide +kernel
theorem dX11_fits_19 : decode cX11_fits 19 = .ok (.invokespecial 86, 3) := by decide +kernel
theorem dX11_fits_22 : decode cX11_fits 22 = .ok (.athrow, 1) := by decide +kernel
theorem dX11_fits_23 : decode cX11_fits 23 = .ok (.aload_n 0, 1) := by decide +kernel
theorem dX11_fits_24 : decode cX11_fits 24 = .ok (.iload_n 1, 1) := by decide +kernel
theorem dX11_fits_25 : decode cX11_fits 25 = .ok (.iload_n 2, 1) := by decide +kernel
theorem dX11_fits_26 : decode cX11_fits 26 = .ok (.invokevirtual 391, 3) := by decide +kernel
theorem dX11_fits_29 : decode cX11_fits 29 = .ok (.aload_n 0, 1) := by decide +kernel
theorem dX11_fits_30 : decode cX11_fits 30 = .ok (.getfield 53, 3) := by decide +kernel
theorem dX11_fits_33 : decode cX11_fits 33 = .ok (.iload_n 3, 1) := by decide +kernel
theorem dX11_fits_34 : decode cX11_fits 34 = .ok (.invokevirtual 398, 3) := by decide +kernel
theorem dX11_fits_37 : decode cX11_fits 37 = .ok (.istore 5, 2) := by decide +kernel
theorem dX11_fits_39 : decode cX11_fits 39 = .ok (.aload_n 0, 1) := by decide +kernel
theorem dX11_fits_40 : decode cX11_fits 40 = .ok (.getfield 53, 3) := by decide +kernel
theorem dX11_fits_43 : decode cX11_fits 43 = .ok (.getfield 395, 3) := by decide +kernel
theorem dX11_fits_46 : decode cX11_fits 46 = .ok (.iconst (-1), 1) := by decide +kernel
theorem dX11_fits_47 : decode cX11_fits 47 = .ok (.if_icmp .eq 9, 3) := by decide +kernel
theorem dX11_fits_50 : decode cX11_fits 50 = .ok (.iload 5, 2) := by decide +kernel
theorem dX11_fits_52 : decode cX11_fits 52 = .ok (.iconst (-1), 1) := by decide +kernel
theorem dX11_fits_53 : decode cX11_fits 53 = .ok (.if_icmp .ne 5, 3) := by decide +kernel
theorem dX11_fits_56 : decode cX11_fits 56 = .ok (.iconst (-1), 1) := by decide +kernel
theorem dX11_fits_57 : decode cX11_fits 57 = .ok (.ireturn, 1) := by decide +kernel
theorem dX11_fits_58 : decode cX11_fits 58 = .ok (.iload 4, 2) := by decide +kernel
theorem dX11_fits_60 : decode cX11_fits 60 = .ok (.ifCond .eq 16, 3) := by decide +kernel
theorem dX11_fits_63 : decode cX11_fits 63 = .ok (.aload_n 0, 1) := by decide +kernel
theorem dX11_fits_64 : decode cX11_fits 64 = .ok (.getfield 53, 3) := by decide +kernel
theorem dX11_fits_67 : decode cX11_fits 67 = .ok (.getfield 401, 3) := by decide +kernel
theorem dX11_fits_70 : decode cX11_fits 70 = .ok (.iload 5, 2) := by decide +kernel
theorem dX11_fits_72 : decode cX11_fits 72 = .ok (.iaload, 1) := by decide +kernel
theorem dX11_fits_73 : decode cX11_fits 73 = .ok (.goto 13, 3) := by decide +kernel
theorem dX11_fits_76 : decode cX11_fits 76 = .ok (.aload_n 0, 1) := by decide +kernel
theorem dX11_fits_77 : decode cX11_fits 77 = .ok (.getfield 53, 3) := by decide +kernel
theorem dX11_fits_80 : decode cX11_fits 80 = .ok (.getfield 404, 3) := by decide +kernel
theorem dX11_fits_83 : decode cX11_fits 83 = .ok (.iload 5, 2) := by decide +kernel
theorem dX11_fits_85 : decode cX11_fits 85 = .ok (.iaload, 1) := by decide +kernel
theorem dX11_fits_86 : decode cX11_fits 86 = .ok (.ireturn, 1) := by decide +kernel
theorem dX11_lock_0 : decode cX11_lock 0 = .ok (.aload_n 0, 1) := by decide +kernel
theorem dX11_lock_1 : decode cX11_lock 1 = .ok (.iload_n 1, 1) := by decide +kernel
theorem dX11_lock_2 : decode cX11_lock 2 = .ok (.iload_n 2, 1) := by decide +kernel
theorem dX11_lock_3 : decode cX11_lock 3 = .ok (.invokevirtual 391, 3) := by decide +kernel
theorem dX11_lock_6 : decode cX11_lock 6 = .ok (.aload_n 0, 1) := by decide +kernel
theorem dX11_lock_7 : decode cX11_lock 7 = .ok (.getfield 53, 3) := by decide +kernel
theorem dX11_lock_10 : decode cX11_lock 10 = .ok (.getfield 395, 3) := by decide +kernel
theorem dX11_lock_13 : decode cX11_lock 13 = .ok (.iconst (-1), 1) := by decide +kernel
theorem dX11_lock_14 : decode cX11_lock 14 = .ok (.if_icmp .eq 17, 3) := by decide +kernel
theorem dX11_lock_17 : decode cX11_lock 17 = .ok (.aload_n 0, 1) := by decide +kernel
theorem dX11_lock_18 : decode cX11_lock 18 = .ok (.getfield 53, 3) := by decide +kernel
theorem dX11_lock_21 : decode cX11_lock 21 = .ok (.aload_n 0, 1) := by decide +kernel
theorem dX11_lock_22 : decode cX11_lock 22 = .ok (.getfield 39, 3) := by decide +kernel
theorem dX11_lock_25 : decode cX11_lock 25 = .ok (.invokevirtual 407, 3) := by decide +kernel
theorem dX11_lock_28 : decode cX11_lock 28 = .ok (.ifCond .ne 5, 3) := by decide +kernel
theorem dX11_lock_31 : decode cX11_lock 31 = .ok (.iconst (-1), 1) := by decide +kernel
theorem dX11_lock_32 : decode cX11_lock 32 = .ok (.ireturn, 1) := by decide +kernel
theorem dX11_lock_33 : decode cX11_lock 33 = .ok (.aload_n 0, 1) := by decide +kernel
theorem dX11_lock_34 : decode cX11_lock 34 = .ok (.getfield 46, 3) := by decide +kernel
theorem dX11_lock_37 : decode cX11_lock 37 = .ok (.iload_n 1, 1) := by decide +kernel
theorem dX11_lock_38 : decode cX11_lock 38 = .ok (.invokevirtual 411, 3) := by decide +kernel
theorem dX11_lock_41 : decode cX11_lock 41 = .ok (.istore_n 3, 1) := by decide +kernel
theorem dX11_lock_42 : decode cX11_lock 42 = .ok (.iconst 0, 1) := by decide +kernel
theorem dX11_lock_43 : decode cX11_lock 43 = .ok (.istore 4, 2) := by decide +kernel
theorem dX11_lock_45 : decode cX11_lock 45 = .ok (.iload 4, 2) := by decide +kernel
theorem dX11_lock_47 : decode cX11_lock 47 = .ok (.aload_n 0, 1) := by decide +kernel
theorem dX11_lock_48 : decode cX11_lock 48 = .ok (.getfield 46, 3) := by decide +kernel
theorem dX11_lock_51 : decode cX11_lock 51 = .ok (.getfield 385, 3) := by decide +kernel
theorem dX11_lock_54 : decode cX11_lock 54 = .ok (.iload_n 1, 1) := by decide +kernel
theorem dX11_lock_55 : decode cX11_lock 55 = .ok (.iaload, 1) := by decide +kernel
theorem dX11_lock_56 : decode cX11_lock 56 = .ok (.if_icmp .ge 70, 3) := by decide +kernel
theorem dX11_lock_59 : decode cX11_lock 59 = .ok (.iconst 0, 1) := by decide +kernel
theorem dX11_lock_60 : decode cX11_lock 60 = .ok (.istore 5, 2) := by decide +kernel
theorem dX11_lock_62 : decode cX11_lock 62 = .ok (.iload 5, 2) := by decide +kernel
theorem dX11_lock_64 : decode cX11_lock 64 = .ok (.aload_n 0, 1) := by decide +kernel
theorem dX11_lock_65 : decode cX11_lock 65 = .ok (.getfield 53, 3) := by decide +kernel
theorem dX11_lock_68 : decode cX11_lock 68 = .ok (.getfield 414, 3) := by decide +kernel
theorem dX11_lock_71 : decode cX11_lock 71 = .ok (.if_icmp .ge 49, 3) := by decide +kernel
theorem dX11_lock_74 : decode cX11_lock 74 = .ok (.aload_n 0, 1) := by decide +kernel
theorem dX11_lock_75 : decode cX11_lock 75 = .ok (.getfield 53, 3) := by decide +kernel
theorem dX11_lock_78 : decode cX11_lock 78 = .ok (.getfield 404, 3) := by decide +kernel
theorem dX11_lock_81 : decode cX11_lock 81 = .ok (.iload 5, 2) := by decide +kernel
theorem dX11_lock_83 : decode cX11_lock 83 = .ok (.iaload, 1) := by decide +kernel
theorem dX11_lock_84 : decode cX11_lock 84 = .ok (.iload 4, 2) := by decide +kernel
theorem dX11_lock_86 : decode cX11_lock 86 = .ok (.if_icmp .ne 28, 3) := by decide +kernel
theorem dX11_lock_89 : decode cX11_lock 89 = .ok (.aload_n 0, 1) := by decide +kernel
theorem dX11_lock_90 : decode cX11_lock 90 = .ok (.iload_n 3, 1) := by decide +kernel
theorem dX11_lock_91 : decode cX11_lock 91 = .ok (.aload_n 0, 1) := by decide +kernel
theorem dX11_lock_92 : decode cX11_lock 92 = .ok (.getfield 53, 3) := by decide +kernel
theorem dX11_lock_95 : decode cX11_lock 95 = .ok (.getfield 417, 3) := by decide +kernel
theorem dX11_lock_98 : decode cX11_lock 98 = .ok (.iload 5, 2) := by decide +kernel
theorem dX11_lock_100 : decode cX11_lock 100 = .ok (.iaload, 1) := by decide +kernel
theorem dX11_lock_101 : decode cX11_lock 101 = .ok (.aload_n 0, 1) := by decide +kernel
theorem dX11_lock_102 : decode cX11_lock 102 = .ok (.getfield 53, 3) := by decide +kernel
theorem dX11_lock_105 : decode cX11_lock 105 = .ok (.getfield 401, 3) := by decide +kernel
theorem dX11_lock_108 : decode cX11_lock 108 = .ok (.iload 5, 2) := by decide +kernel
theorem dX11_lock_110 : decode cX11_lock 110 = .ok (.iaload, 1) := by decide +kernel
theorem dX11_lock_111 : decode cX11_lock 111 = .ok (.invokevirtual 419, 3) := by decide +kernel
theorem dX11_lock_114 : decode cX11_lock 114 = .ok (.iinc 5 1, 3) := by decide +kernel
theorem dX11_lock_117 : decode cX11_lock 117 = .ok (.goto (-55), 3) := by decide +kernel
theorem dX11_lock_120 : decode cX11_lock 120 = .ok (.iinc 4 1, 3) := by decide +kernel
theorem dX11_lock_123 : decode cX11_lock 123 = .ok (.goto (-78), 3) := by decide +kernel
theorem dX11_lock_126 : decode cX11_lock 126 = .ok (.aload_n 0, 1) := by decide +kernel
theorem dX11_lock_127 : decode cX11_lock 127 = .ok (.getfield 46, 3) := by decide +kernel
theorem dX11_lock_130 : decode cX11_lock 130 = .ok (.getfield 422, 3) := by decide +kernel
theorem dX11_lock_133 : decode cX11_lock 133 = .ok (.iload_n 1, 1) := by decide +kernel
theorem dX11_lock_134 : decode cX11_lock 134 = .ok (.aload_n 0, 1) := by decide +kernel
theorem dX11_lock_135 : decode cX11_lock 135 = .ok (.getfield 39, 3) := by decide +kernel
theorem dX11_lock_138 : decode cX11_lock 138 = .ok (.getfield 117, 3) := by decide +kernel
theorem dX11_lock_141 : decode cX11_lock 141 = .ok (.iastore, 1) := by decide +kernel
theorem dX11_lock_142 : decode cX11_lock 142 = .ok (.aload_n 0, 1) := by decide +kernel
theorem dX11_lock_143 : decode cX11_lock 143 = .ok (.getfield 46, 3) := by decide +kernel
theorem dX11_lock_146 : decode cX11_lock 146 = .ok (.getfield 425, 3) := by decide +kernel
theorem dX11_lock_149 : decode cX11_lock 149 = .ok (.iload_n 1, 1) := by decide +kernel
theorem dX11_lock_150 : decode cX11_lock 150 = .ok (.aload_n 0, 1) := by decide +kernel
theorem dX11_lock_151 : decode cX11_lock 151 = .ok (.getfield 39, 3) := by decide +kernel
theorem dX11_lock_154 : decode cX11_lock 154 = .ok (.iload_n 1, 1) := by decide +kernel
theorem dX11_lock_155 : decode cX11_lock 155 = .ok (.invokevirtual 428, 3) := by decide +kernel
theorem dX11_lock_158 : decode cX11_lock 158 = .ok (.iastore, 1) := by decide +kernel
theorem dX11_lock_159 : decode cX11_lock 159 = .ok (.aload_n 0, 1) := by decide +kernel
theorem dX11_lock_160 : decode cX11_lock 160 = .ok (.getfield 46, 3) := by decide +kernel
theorem dX11_lock_163 : decode cX11_lock 163 = .ok (.getfield 431, 3) := by decide +kernel
theorem dX11_lock_166 : decode cX11_lock 166 = .ok (.iload_n 3, 1) := by decide +kernel
theorem dX11_lock_167 : decode cX11_lock 167 = .ok (.iaload, 1) := by decide +kernel
theorem dX11_lock_168 : decode cX11_lock 168 = .ok (.ireturn, 1) := by decide +kernel
theorem dX11_layStory_0 : decode cX11_layStory 0 = .ok (.iconst 0, 1) := by decide +kernel
theorem dX11_layStory_1 : decode cX11_layStory 1 = .ok (.istore 4, 2) := by decide +kernel
theorem dX11_layStory_3 : decode cX11_layStory 3 = .ok (.iload 4, 2) := by decide +kernel
theorem dX11_layStory_5 : decode cX11_layStory 5 = .ok (.iload_n 3, 1) := by decide +kernel
theorem dX11_layStory_6 : decode cX11_layStory 6 = .ok (.if_icmp .ge 39, 3) := by decide +kernel
theorem dX11_layStory_9 : decode cX11_layStory 9 = .ok (.aload_n 0, 1) := by decide +kernel
theorem dX11_layStory_10 : decode cX11_layStory 10 = .ok (.getfield 39, 3) := by decide +kernel
theorem dX11_layStory_13 : decode cX11_layStory 13 = .ok (.iconst 5, 1) := by decide +kernel
theorem dX11_layStory_14 : decode cX11_layStory 14 = .ok (.iload_n 2, 1) := by decide +kernel
theorem dX11_layStory_15 : decode cX11_layStory 15 = .ok (.imul, 1) := by decide +kernel
theorem dX11_layStory_16 : decode cX11_layStory 16 = .ok (.iload 4, 2) := by decide +kernel
theorem dX11_layStory_18 : decode cX11_layStory 18 = .ok (.iadd, 1) := by decide +kernel
theorem dX11_layStory_19 : decode cX11_layStory 19 = .ok (.invokevirtual 139, 3) := by decide +kernel
theorem dX11_layStory_22 : decode cX11_layStory 22 = .ok (.astore 5, 2) := by decide +kernel
theorem dX11_layStory_24 : decode cX11_layStory 24 = .ok (.aload 5, 2) := by decide +kernel
theorem dX11_layStory_26 : decode cX11_layStory 26 = .ok (.ifnull 13, 3) := by decide +kernel
theorem dX11_layStory_29 : decode cX11_layStory 29 = .ok (.aload_n 0, 1) := by decide +kernel
theorem dX11_layStory_30 : decode cX11_layStory 30 = .ok (.getfield 46, 3) := by decide +kernel
theorem dX11_layStory_33 : decode cX11_layStory 33 = .ok (.iload_n 1, 1) := by decide +kernel
theorem dX11_layStory_34 : decode cX11_layStory 34 = .ok (.aload 5, 2) := by decide +kernel
theorem dX11_layStory_36 : decode cX11_layStory 36 = .ok (.invokevirtual 434, 3) := by decide +kernel
theorem dX11_layStory_39 : decode cX11_layStory 39 = .ok (.iinc 4 1, 3) := by decide +kernel
theorem dX11_layStory_42 : decode cX11_layStory 42 = .ok (.goto (-39), 3) := by decide +kernel
theorem dX11_layStory_45 : decode cX11_layStory 45 = .ok (.return_, 1) := by decide +kernel
theorem dX11_findFit_0 : decode cX11_findFit 0 = .ok (.iload_n 1, 1) := by decide +kernel
theorem dX11_findFit_1 : decode cX11_findFit 1 = .ok (.invokestatic 382, 3) := by decide +kernel
theorem dX11_findFit_4 : decode cX11_findFit 4 = .ok (.ifCond .eq 15, 3) := by decide +kernel
theorem dX11_findFit_7 : decode cX11_findFit 7 = .ok (.iload_n 2, 1) := by decide +kernel
theorem dX11_findFit_8 : decode cX11_findFit 8 = .ok (.aload_n 0, 1) := by decide +kernel
theorem dX11_findFit_9 : decode cX11_findFit 9 = .ok (.getfield 39, 3) := by decide +kernel
theorem dX11_findFit_12 : decode cX11_findFit 12 = .ok (.getfield 107, 3) := by decide +kernel
theorem dX11_findFit_15 : decode cX11_findFit 15 = .ok (.iushr, 1) := by decide +kernel
theorem dX11_findFit_16 : decode cX11_findFit 16 = .ok (.ifCond .eq 11, 3) := by decide +kernel
theorem dX11_findFit_19 : decode cX11_findFit 19 = .ok (.new 84, 3) := by decide +kernel
theorem dX11_findFit_22 : decode cX11_findFit 22 = .ok (.dup, 1) := by decide +kernel
theorem dX11_findFit_23 : decode cX11_findFit 23 = .ok (.invokespecial 86, 3) := by decide +kernel
theorem dX11_findFit_26 : decode cX11_findFit 26 = .ok (.athrow, 1) := by decide +kernel
theorem dX11_findFit_27 : decode cX11_findFit 27 = .ok (.iload_n 2, 1) := by decide +kernel
theorem dX11_findFit_28 : decode cX11_findFit 28 = .ok (.invokestatic 438, 3) := by decide +kernel
theorem dX11_findFit_31 : decode cX11_findFit 31 = .ok (.istore_n 3, 1) := by decide +kernel
theorem dX11_findFit_32 : decode cX11_findFit 32 = .ok (.iload_n 3, 1) := by decide +kernel
theorem dX11_findFit_33 : decode cX11_findFit 33 = .ok (.iconst 1, 1) := by decide +kernel
theorem dX11_findFit_34 : decode cX11_findFit 34 = .ok (.if_icmp .lt 8, 3) := by decide +kernel
theorem dX11_findFit_37 : decode cX11_findFit 37 = .ok (.iload_n 3, 1) := by decide +kernel
theorem dX11_findFit_38 : decode cX11_findFit 38 = .ok (.iconst 4, 1) := by decide +kernel
theorem dX11_findFit_39 : decode cX11_findFit 39 = .ok (.if_icmp .le 11, 3) := by decide +kernel
theorem dX11_findFit_42 : decode cX11_findFit 42 = .ok (.new 87, 3) := by decide +kernel
theorem dX11_findFit_45 : decode cX11_findFit 45 = .ok (.dup, 1) := by decide +kernel
theorem dX11_findFit_46 : decode cX11_findFit 46 = .ok (.invokespecial 89, 3) := by decide +kernel
theorem dX11_findFit_49 : decode cX11_findFit 49 = .ok (.athrow, 1) := by decide +kernel
theorem dX11_findFit_50 : decode cX11_findFit 50 = .ok (.iconst 0, 1) := by decide +kernel
theorem dX11_findFit_51 : decode cX11_findFit 51 = .ok (.istore 4, 2) := by decide +kernel
theorem dX11_findFit_53 : decode cX11_findFit 53 = .ok (.iload 4, 2) := by decide +kernel
theorem dX11_findFit_55 : decode cX11_findFit 55 = .ok (.aload_n 0, 1) := by decide +kernel
theorem dX11_findFit_56 : decode cX11_findFit 56 = .ok (.getfield 39, 3) := by decide +kernel
theorem dX11_findFit_59 : decode cX11_findFit 59 = .ok (.getfield 107, 3) := by decide +kernel
theorem dX11_findFit_62 : decode cX11_findFit 62 = .ok (.if_icmp .ge 38, 3) := by decide +kernel
theorem dX11_findFit_65 : decode cX11_findFit 65 = .ok (.iload_n 2, 1) := by decide +kernel
theorem dX11_findFit_66 : decode cX11_findFit 66 = .ok (.iload 4, 2) := by decide +kernel
theorem dX11_findFit_68 : decode cX11_findFit 68 = .ok (.ishr, 1) := by decide +kernel
theorem dX11_findFit_69 : decode cX11_findFit 69 = .ok (.iconst 1, 1) := by decide +kernel
theorem dX11_findFit_70 : decode cX11_findFit 70 = .ok (.iand, 1) := by decide +kernel
theorem dX11_findFit_71 : decode cX11_findFit 71 = .ok (.ifCond .eq 23, 3) := by decide +kernel
theorem dX11_findFit_74 : decode cX11_findFit 74 = .ok (.aload_n 0, 1) := by decide +kernel
theorem dX11_findFit_75 : decode cX11_findFit 75 = .ok (.getfield 39, 3) := by decide +kernel
theorem dX11_findFit_78 : decode cX11_findFit 78 = .ok (.iload 4, 2) := by decide +kernel
theorem dX11_findFit_80 : decode cX11_findFit 80 = .ok (.invokevirtual 443, 3) := by decide +kernel
theorem dX11_findFit_83 : decode cX11_findFit 83 = .ok (.ifCond .ne 11, 3) := by decide +kernel
theorem dX11_findFit_86 : decode cX11_findFit 86 = .ok (.new 322, 3) := by decide +kernel
theorem dX11_findFit_89 : decode cX11_findFit 89 = .ok (.dup, 1) := by decide +kernel
theorem dX11_findFit_90 : decode cX11_findFit 90 = .ok (.invokespecial 324, 3) := by decide +kernel
theorem dX11_findFit_93 : decode cX11_findFit 93 = .ok (.athrow, 1) := by decide +kernel
theorem dX11_findFit_94 : decode cX11_findFit 94 = .ok (.iinc 4 1, 3) := by decide +kernel
theorem dX11_findFit_97 : decode cX11_findFit 97 = .ok (.goto (-44), 3) := by decide +kernel
theorem dX11_findFit_100 : decode cX11_findFit 100 = .ok (.aload_n 0, 1) := by decide +kernel
theorem dX11_findFit_101 : decode cX11_findFit 101 = .ok (.getfield 53, 3) := by decide +kernel
theorem dX11_findFit_104 : decode cX11_findFit 104 = .ok (.aload_n 0, 1) := by decide +kernel
theorem dX11_findFit_105 : decode cX11_findFit 105 = .ok (.getfield 39, 3) := by decide +kernel
theorem dX11_findFit_108 : decode cX11_findFit 108 = .ok (.iload_n 2, 1) := by decide +kernel
theorem dX11_findFit_109 : decode cX11_findFit 109 = .ok (.aload_n 0, 1) := by decide +kernel
theorem dX11_findFit_110 : decode cX11_findFit 110 = .ok (.getfield 46, 3) := by decide +kernel
theorem dX11_findFit_113 : decode cX11_findFit 113 = .ok (.getfield 385, 3) := by decide +kernel
theorem dX11_findFit_116 : decode cX11_findFit 116 = .ok (.iload_n 1, 1) := by decide +kernel
theorem dX11_findFit_117 : decode cX11_findFit 117 = .ok (.iaload, 1) := by decide +kernel
theorem dX11_findFit_118 : decode cX11_findFit 118 = .ok (.aload_n 0, 1) := by decide +kernel
theorem dX11_findFit_119 : decode cX11_findFit 119 = .ok (.getfield 46, 3) := by decide +kernel
theorem dX11_findFit_122 : decode cX11_findFit 122 = .ok (.getfield 388, 3) := by decide +kernel
theorem dX11_findFit_125 : decode cX11_findFit 125 = .ok (.iload_n 1, 1) := by decide +kernel
theorem dX11_findFit_126 : decode cX11_findFit 126 = .ok (.iaload, 1) := by decide +kernel
theorem dX11_findFit_127 : decode cX11_findFit 127 = .ok (.invokevirtual 446, 3) := by decide +kernel
theorem dX11_findFit_130 : decode cX11_findFit 130 = .ok (.return_, 1) := by decide +kernel
theorem dX11_locked_0 : decode cX11_locked 0 = .ok (.iload_n 1, 1) := by decide +kernel
theorem dX11_locked_1 : decode cX11_locked 1 = .ok (.invokestatic 382, 3) := by decide +kernel
theorem dX11_locked_4 : decode cX11_locked 4 = .ok (.ifCond .ne 11, 3) := by decide +kernel
theorem dX11_locked_7 : decode cX11_locked 7 = .ok (.new 84, 3) := by decide +kernel
theorem dX11_locked_10 : decode cX11_locked 10 = .ok (.dup, 1) := by decide +kernel
theorem dX11_locked_11 : decode cX11_locked 11 = .ok (.invokespecial 86, 3) := by decide +kernel
theorem dX11_locked_14 : decode cX11_locked 14 = .ok (.athrow, 1) := by decide +kernel
theorem dX11_locked_15 : decode cX11_locked 15 = .ok (.iload_n 2, 1) := by decide +kernel
theorem dX11_locked_16 : decode cX11_locked 16 = .ok (.tableswitch 86 0 4 #[36, 46, 56, 66, 76], 36) := by decide +kernel
theorem dX11_locked_52 : decode cX11_locked 52 = .ok (.aload_n 0, 1) := by decide +kernel
theorem dX11_locked_53 : decode cX11_locked 53 = .ok (.getfield 46, 3) := by decide +kernel
theorem dX11_locked_56 : decode cX11_locked 56 = .ok (.getfield 431, 3) := by decide +kernel
theorem dX11_locked_59 : decode cX11_locked 59 = .ok (.iload_n 1, 1) := by decide +kernel
theorem dX11_locked_60 : decode cX11_locked 60 = .ok (.iaload, 1) := by decide +kernel
theorem dX11_locked_61 : decode cX11_locked 61 = .ok (.ireturn, 1) := by decide +kernel
theorem dX11_locked_62 : decode cX11_locked 62 = .ok (.aload_n 0, 1) := by decide +kernel
theorem dX11_locked_63 : decode cX11_locked 63 = .ok (.getfield 46, 3) := by decide +kernel
theorem dX11_locked_66 : decode cX11_locked 66 = .ok (.getfield 422, 3) := by decide +kernel
theorem dX11_locked_69 : decode cX11_locked 69 = .ok (.iload_n 1, 1) := by decide +kernel
theorem dX11_locked_70 : decode cX11_locked 70 = .ok (.iaload, 1) := by decide +kernel
theorem dX11_locked_71 : decode cX11_locked 71 = .ok (.ireturn, 1) := by decide +kernel
theorem dX11_locked_72 : decode cX11_locked 72 = .ok (.aload_n 0, 1) := by decide +kernel
theorem dX11_locked_73 : decode cX11_locked 73 = .ok (.getfield 46, 3) := by decide +kernel
theorem dX11_locked_76 : decode cX11_locked 76 = .ok (.getfield 425, 3) := by decide +kernel
theorem dX11_locked_79 : decode cX11_locked 79 = .ok (.iload_n 1, 1) := by decide +kernel
theorem dX11_locked_80 : decode cX11_locked 80 = .ok (.iaload, 1) := by decide +kernel
theorem dX11_locked_81 : decode cX11_locked 81 = .ok (.ireturn, 1) := by decide +kernel
theorem dX11_locked_82 : decode cX11_locked 82 = .ok (.aload_n 0, 1) := by decide +kernel
theorem dX11_locked_83 : decode cX11_locked 83 = .ok (.getfield 46, 3) := by decide +kernel
theorem dX11_locked_86 : decode cX11_locked 86 = .ok (.getfield 385, 3) := by decide +kernel
theorem dX11_locked_89 : decode cX11_locked 89 = .ok (.iload_n 1, 1) := by decide +kernel
theorem dX11_locked_90 : decode cX11_locked 90 = .ok (.iaload, 1) := by decide +kernel
theorem dX11_locked_91 : decode cX11_locked 91 = .ok (.ireturn, 1) := by decide +kernel
theorem dX11_locked_92 : decode cX11_locked 92 = .ok (.aload_n 0, 1) := by decide +kernel
theorem dX11_locked_93 : decode cX11_locked 93 = .ok (.getfield 46, 3) := by decide +kernel
theorem dX11_locked_96 : decode cX11_locked 96 = .ok (.getfield 388, 3) := by decide +kernel
theorem dX11_locked_99 : decode cX11_locked 99 = .ok (.iload_n 1, 1) := by decide +kernel
theorem dX11_locked_100 : decode cX11_locked 100 = .ok (.iaload, 1) := by decide +kernel
theorem dX11_locked_101 : decode cX11_locked 101 = .ok (.ireturn, 1) := by decide +kernel
theorem dX11_locked_102 : decode cX11_locked 102 = .ok (.new 172, 3) := by decide +kernel
theorem dX11_locked_105 : decode cX11_locked 105 = .ok (.dup, 1) := by decide +kernel
theorem dX11_locked_106 : decode cX11_locked 106 = .ok (.invokespecial 174, 3) := by decide +kernel
theorem dX11_locked_109 : decode cX11_locked 109 = .ok (.athrow, 1) := by decide +kernel
theorem dX11_stands_0 : decode cX11_stands 0 = .ok (.iload_n 1, 1) := by decide +kernel
theorem dX11_stands_1 : decode cX11_stands 1 = .ok (.invokestatic 382, 3) := by decide +kernel
theorem dX11_stands_4 : decode cX11_stands 4 = .ok (.ifCond .eq 11, 3) := by decide +kernel
theorem dX11_stands_7 : decode cX11_stands 7 = .ok (.aload_n 0, 1) := by decide +kernel
theorem dX11_stands_8 : decode cX11_stands 8 = .ok (.iload_n 2, 1) := by decide +kernel
theorem dX11_stands_9 : decode cX11_stands 9 = .ok (.invokevirtual 450, 3) := by decide +kernel
theorem dX11_stands_12 : decode cX11_stands 12 = .ok (.ifCond .ne 11, 3) := by decide +kernel
theorem dX11_stands_15 : decode cX11_stands 15 = .ok (.new 84, 3) := by decide +kernel
theorem dX11_stands_18 : decode cX11_stands 18 = .ok (.dup, 1) := by decide +kernel
theorem dX11_stands_19 : decode cX11_stands 19 = .ok (.invokespecial 86, 3) := by decide +kernel
theorem dX11_stands_22 : decode cX11_stands 22 = .ok (.athrow, 1) := by decide +kernel
theorem dX11_stands_23 : decode cX11_stands 23 = .ok (.aload_n 0, 1) := by decide +kernel
theorem dX11_stands_24 : decode cX11_stands 24 = .ok (.getfield 46, 3) := by decide +kernel
theorem dX11_stands_27 : decode cX11_stands 27 = .ok (.bipush 6, 2) := by decide +kernel
theorem dX11_stands_29 : decode cX11_stands 29 = .ok (.iload_n 2, 1) := by decide +kernel
theorem dX11_stands_30 : decode cX11_stands 30 = .ok (.iconst 1, 1) := by decide +kernel
theorem dX11_stands_31 : decode cX11_stands 31 = .ok (.iadd, 1) := by decide +kernel
theorem dX11_stands_32 : decode cX11_stands 32 = .ok (.imul, 1) := by decide +kernel
theorem dX11_stands_33 : decode cX11_stands 33 = .ok (.iload_n 1, 1) := by decide +kernel
theorem dX11_stands_34 : decode cX11_stands 34 = .ok (.iadd, 1) := by decide +kernel
theorem dX11_stands_35 : decode cX11_stands 35 = .ok (.iload_n 3, 1) := by decide +kernel
theorem dX11_stands_36 : decode cX11_stands 36 = .ok (.invokevirtual 453, 3) := by decide +kernel
theorem dX11_stands_39 : decode cX11_stands 39 = .ok (.ireturn, 1) := by decide +kernel
theorem dX11_edition_0 : decode cX11_edition 0 = .ok (.aload_n 0, 1) := by decide +kernel
theorem dX11_edition_1 : decode cX11_edition 1 = .ok (.getfield 46, 3) := by decide +kernel
theorem dX11_edition_4 : decode cX11_edition 4 = .ok (.getfield 456, 3) := by decide +kernel
theorem dX11_edition_7 : decode cX11_edition 7 = .ok (.bipush 8, 2) := by decide +kernel
theorem dX11_edition_9 : decode cX11_edition 9 = .ok (.if_icmp .lt 11, 3) := by decide +kernel
theorem dX11_edition_12 : decode cX11_edition 12 = .ok (.new 110, 3) := by decide +kernel
theorem dX11_edition_15 : decode cX11_edition 15 = .ok (.dup, 1) := by decide +kernel
theorem dX11_edition_16 : decode cX11_edition 16 = .ok (.invokespecial 112, 3) := by decide +kernel
theorem dX11_edition_19 : decode cX11_edition 19 = .ok (.athrow, 1) := by decide +kernel
theorem dX11_edition_20 : decode cX11_edition 20 = .ok (.aload_n 0, 1) := by decide +kernel
theorem dX11_edition_21 : decode cX11_edition 21 = .ok (.getfield 46, 3) := by decide +kernel
theorem dX11_edition_24 : decode cX11_edition 24 = .ok (.invokevirtual 459, 3) := by decide +kernel
theorem dX11_edition_27 : decode cX11_edition 27 = .ok (.ireturn, 1) := by decide +kernel
theorem dX11_changed_0 : decode cX11_changed 0 = .ok (.iload_n 1, 1) := by decide +kernel
theorem dX11_changed_1 : decode cX11_changed 1 = .ok (.invokestatic 382, 3) := by decide +kernel
theorem dX11_changed_4 : decode cX11_changed 4 = .ok (.ifCond .eq 19, 3) := by decide +kernel
theorem dX11_changed_7 : decode cX11_changed 7 = .ok (.aload_n 0, 1) := by decide +kernel
theorem dX11_changed_8 : decode cX11_changed 8 = .ok (.iload_n 2, 1) := by decide +kernel
theorem dX11_changed_9 : decode cX11_changed 9 = .ok (.invokevirtual 450, 3) := by decide +kernel
theorem dX11_changed_12 : decode cX11_changed 12 = .ok (.ifCond .eq 11, 3) := by decide +kernel
theorem dX11_changed_15 : decode cX11_changed 15 = .ok (.aload_n 0, 1) := by decide +kernel
theorem dX11_changed_16 : decode cX11_changed 16 = .ok (.iload_n 3, 1) := by decide +kernel
theorem dX11_changed_17 : decode cX11_changed 17 = .ok (.invokevirtual 450, 3) := by decide +kernel
theorem dX11_changed_20 : decode cX11_changed 20 = .ok (.ifCond .ne 11, 3) := by decide +kernel
theorem dX11_changed_23 : decode cX11_changed 23 = .ok (.new 84, 3) := by decide +kernel
theorem dX11_changed_26 : decode cX11_changed 26 = .ok (.dup, 1) := by decide +kernel
theorem dX11_changed_27 : decode cX11_changed 27 = .ok (.invokespecial 86, 3) := by decide +kernel
theorem dX11_changed_30 : decode cX11_changed 30 = .ok (.athrow, 1) := by decide +kernel
theorem dX11_changed_31 : decode cX11_changed 31 = .ok (.aload_n 0, 1) := by decide +kernel
theorem dX11_changed_32 : decode cX11_changed 32 = .ok (.getfield 46, 3) := by decide +kernel
theorem dX11_changed_35 : decode cX11_changed 35 = .ok (.bipush 6, 2) := by decide +kernel
theorem dX11_changed_37 : decode cX11_changed 37 = .ok (.iload_n 2, 1) := by decide +kernel
theorem dX11_changed_38 : decode cX11_changed 38 = .ok (.iconst 1, 1) := by decide +kernel
theorem dX11_changed_39 : decode cX11_changed 39 = .ok (.iadd, 1) := by decide +kernel
theorem dX11_changed_40 : decode cX11_changed 40 = .ok (.imul, 1) := by decide +kernel
theorem dX11_changed_41 : decode cX11_changed 41 = .ok (.iload_n 1, 1) := by decide +kernel
theorem dX11_changed_42 : decode cX11_changed 42 = .ok (.iadd, 1) := by decide +kernel
theorem dX11_changed_43 : decode cX11_changed 43 = .ok (.bipush 6, 2) := by decide +kernel
theorem dX11_changed_45 : decode cX11_changed 45 = .ok (.iload_n 3, 1) := by decide +kernel
theorem dX11_changed_46 : decode cX11_changed 46 = .ok (.iconst 1, 1) := by decide +kernel
theorem dX11_changed_47 : decode cX11_changed 47 = .ok (.iadd, 1) := by decide +kernel
theorem dX11_changed_48 : decode cX11_changed 48 = .ok (.imul, 1) := by decide +kernel
theorem dX11_changed_49 : decode cX11_changed 49 = .ok (.iload_n 1, 1) := by decide +kernel
theorem dX11_changed_50 : decode cX11_changed 50 = .ok (.iadd, 1) := by decide +kernel
theorem dX11_changed_51 : decode cX11_changed 51 = .ok (.invokevirtual 462, 3) := by decide +kernel
theorem dX11_changed_54 : decode cX11_changed 54 = .ok (.ireturn, 1) := by decide +kernel
theorem dX11_least_0 : decode cX11_least 0 = .ok (.aload_n 0, 1) := by decide +kernel
theorem dX11_least_1 : decode cX11_least 1 = .ok (.getfield 60, 3) := by decide +kernel
theorem dX11_least_4 : decode cX11_least 4 = .ok (.aload_n 0, 1) := by decide +kernel
theorem dX11_least_5 : decode cX11_least 5 = .ok (.getfield 39, 3) := by decide +kernel
theorem dX11_least_8 : decode cX11_least 8 = .ok (.invokevirtual 465, 3) := by decide +kernel
theorem dX11_least_11 : decode cX11_least 11 = .ok (.ireturn, 1) := by decide +kernel
theorem dX11_ahead_0 : decode cX11_ahead 0 = .ok (.iload_n 1, 1) := by decide +kernel
theorem dX11_ahead_1 : decode cX11_ahead 1 = .ok (.iconst (-1), 1) := by decide +kernel
theorem dX11_ahead_2 : decode cX11_ahead 2 = .ok (.if_icmp .eq 22, 3) := by decide +kernel
theorem dX11_ahead_5 : decode cX11_ahead 5 = .ok (.aload_n 0, 1) := by decide +kernel
theorem dX11_ahead_6 : decode cX11_ahead 6 = .ok (.getfield 39, 3) := by decide +kernel
theorem dX11_ahead_9 : decode cX11_ahead 9 = .ok (.iload_n 1, 1) := by decide +kernel
theorem dX11_ahead_10 : decode cX11_ahead 10 = .ok (.invokevirtual 231, 3) := by decide +kernel
theorem dX11_ahead_13 : decode cX11_ahead 13 = .ok (.ifnonnull 11, 3) := by decide +kernel
theorem dX11_ahead_16 : decode cX11_ahead 16 = .ok (.new 84, 3) := by decide +kernel
theorem dX11_ahead_19 : decode cX11_ahead 19 = .ok (.dup, 1) := by decide +kernel
theorem dX11_ahead_20 : decode cX11_ahead 20 = .ok (.invokespecial 86, 3) := by decide +kernel
theorem dX11_ahead_23 : decode cX11_ahead 23 = .ok (.athrow, 1) := by decide +kernel
theorem dX11_ahead_24 : decode cX11_ahead 24 = .ok (.aload_n 0, 1) := by decide +kernel
theorem dX11_ahead_25 : decode cX11_ahead 25 = .ok (.getfield 70, 3) := by decide +kernel
theorem dX11_ahead_28 : decode cX11_ahead 28 = .ok (.ifnonnull 14, 3) := by decide +kernel
theorem dX11_ahead_31 : decode cX11_ahead 31 = .ok (.aload_n 0, 1) := by decide +kernel
theorem dX11_ahead_32 : decode cX11_ahead 32 = .ok (.new 36, 3) := by decide +kernel
theorem dX11_ahead_35 : decode cX11_ahead 35 = .ok (.dup, 1) := by decide +kernel
theorem dX11_ahead_36 : decode cX11_ahead 36 = .ok (.invokespecial 38, 3) := by decide +kernel
theorem dX11_ahead_39 : decode cX11_ahead 39 = .ok (.putfield 70, 3) := by decide +kernel
theorem dX11_ahead_42 : decode cX11_ahead 42 = .ok (.aload_n 0, 1) := by decide +kernel
theorem dX11_ahead_43 : decode cX11_ahead 43 = .ok (.getfield 70, 3) := by decide +kernel
theorem dX11_ahead_46 : decode cX11_ahead 46 = .ok (.aload_n 0, 1) := by decide +kernel
theorem dX11_ahead_47 : decode cX11_ahead 47 = .ok (.getfield 39, 3) := by decide +kernel
theorem dX11_ahead_50 : decode cX11_ahead 50 = .ok (.invokevirtual 469, 3) := by decide +kernel
theorem dX11_ahead_53 : decode cX11_ahead 53 = .ok (.aload_n 0, 1) := by decide +kernel
theorem dX11_ahead_54 : decode cX11_ahead 54 = .ok (.getfield 70, 3) := by decide +kernel
theorem dX11_ahead_57 : decode cX11_ahead 57 = .ok (.iload_n 1, 1) := by decide +kernel
theorem dX11_ahead_58 : decode cX11_ahead 58 = .ok (.invokevirtual 231, 3) := by decide +kernel
theorem dX11_ahead_61 : decode cX11_ahead 61 = .ok (.astore_n 2, 1) := by decide +kernel
theorem dX11_ahead_62 : decode cX11_ahead 62 = .ok (.aload_n 2, 1) := by decide +kernel
theorem dX11_ahead_63 : decode cX11_ahead 63 = .ok (.ifnull 8, 3) := by decide +kernel
theorem dX11_ahead_66 : decode cX11_ahead 66 = .ok (.aload_n 2, 1) := by decide +kernel
theorem dX11_ahead_67 : decode cX11_ahead 67 = .ok (.iconst 1, 1) := by decide +kernel
theorem dX11_ahead_68 : decode cX11_ahead 68 = .ok (.putfield 255, 3) := by decide +kernel
theorem dX11_ahead_71 : decode cX11_ahead 71 = .ok (.aload_n 0, 1) := by decide +kernel
theorem dX11_ahead_72 : decode cX11_ahead 72 = .ok (.getfield 39, 3) := by decide +kernel
theorem dX11_ahead_75 : decode cX11_ahead 75 = .ok (.getfield 117, 3) := by decide +kernel
theorem dX11_ahead_78 : decode cX11_ahead 78 = .ok (.istore_n 3, 1) := by decide +kernel
theorem dX11_ahead_79 : decode cX11_ahead 79 = .ok (.iload_n 3, 1) := by decide +kernel
theorem dX11_ahead_80 : decode cX11_ahead 80 = .ok (.sipush 600, 3) := by decide +kernel
theorem dX11_ahead_83 : decode cX11_ahead 83 = .ok (.if_icmp .ge 26, 3) := by decide +kernel
theorem dX11_ahead_86 : decode cX11_ahead 86 = .ok (.aload_n 0, 1) := by decide +kernel
theorem dX11_ahead_87 : decode cX11_ahead 87 = .ok (.getfield 70, 3) := by decide +kernel
theorem dX11_ahead_90 : decode cX11_ahead 90 = .ok (.invokevirtual 473, 3) := by decide +kernel
theorem dX11_ahead_93 : decode cX11_ahead 93 = .ok (.ifCond .eq 16, 3) := by decide +kernel
theorem dX11_ahead_96 : decode cX11_ahead 96 = .ok (.aload_n 0, 1) := by decide +kernel
theorem dX11_ahead_97 : decode cX11_ahead 97 = .ok (.getfield 70, 3) := by decide +kernel
theorem dX11_ahead_100 : decode cX11_ahead 100 = .ok (.invokevirtual 265, 3) := by decide +kernel
theorem dX11_ahead_103 : decode cX11_ahead 103 = .ok (.iinc 3 1, 3) := by decide +kernel
theorem dX11_ahead_106 : decode cX11_ahead 106 = .ok (.goto (-27), 3) := by decide +kernel
theorem dX11_ahead_109 : decode cX11_ahead 109 = .ok (.aload_n 0, 1) := by decide +kernel
theorem dX11_ahead_110 : decode cX11_ahead 110 = .ok (.getfield 70, 3) := by decide +kernel
theorem dX11_ahead_113 : decode cX11_ahead 113 = .ok (.invokevirtual 477, 3) := by decide +kernel
theorem dX11_ahead_116 : decode cX11_ahead 116 = .ok (.ifCond .ne 13, 3) := by decide +kernel
theorem dX11_ahead_119 : decode cX11_ahead 119 = .ok (.aload_n 0, 1) := by decide +kernel
theorem dX11_ahead_120 : decode cX11_ahead 120 = .ok (.getfield 70, 3) := by decide +kernel
theorem dX11_ahead_123 : decode cX11_ahead 123 = .ok (.getfield 117, 3) := by decide +kernel
theorem dX11_ahead_126 : decode cX11_ahead 126 = .ok (.goto 4, 3) := by decide +kernel
theorem dX11_ahead_129 : decode cX11_ahead 129 = .ok (.iconst (-1), 1) := by decide +kernel
theorem dX11_ahead_130 : decode cX11_ahead 130 = .ok (.ireturn, 1) := by decide +kernel
theorem dX11_pay_0 : decode cX11_pay 0 = .ok (.aload_n 0, 1) := by decide +kernel
theorem dX11_pay_1 : decode cX11_pay 1 = .ok (.getfield 39, 3) := by decide +kernel
theorem dX11_pay_4 : decode cX11_pay 4 = .ok (.iload_n 1, 1) := by decide +kernel
theorem dX11_pay_5 : decode cX11_pay 5 = .ok (.invokevirtual 231, 3) := by decide +kernel
theorem dX11_pay_8 : decode cX11_pay 8 = .ok (.ifnonnull 11, 3) := by decide +kernel
theorem dX11_pay_11 : decode cX11_pay 11 = .ok (.new 84, 3) := by decide +kernel
theorem dX11_pay_14 : decode cX11_pay 14 = .ok (.dup, 1) := by decide +kernel
theorem dX11_pay_15 : decode cX11_pay 15 = .ok (.invokespecial 86, 3) := by decide +kernel
theorem dX11_pay_18 : decode cX11_pay 18 = .ok (.athrow, 1) := by decide +kernel
theorem dX11_pay_19 : decode cX11_pay 19 = .ok (.aload_n 0, 1) := by decide +kernel
theorem dX11_pay_20 : decode cX11_pay 20 = .ok (.getfield 39, 3) := by decide +kernel
theorem dX11_pay_23 : decode cX11_pay 23 = .ok (.iload_n 1, 1) := by decide +kernel
theorem dX11_pay_24 : decode cX11_pay 24 = .ok (.iload_n 2, 1) := by decide +kernel
theorem dX11_pay_25 : decode cX11_pay 25 = .ok (.iload_n 3, 1) := by decide +kernel
theorem dX11_pay_26 : decode cX11_pay 26 = .ok (.invokevirtual 480, 3) := by decide +kernel
theorem dX11_pay_29 : decode cX11_pay 29 = .ok (.ireturn, 1) := by decide +kernel
theorem dX11_row_0 : decode cX11_row 0 = .ok (.aload_n 0, 1) := by decide +kernel
theorem dX11_row_1 : decode cX11_row 1 = .ok (.getfield 39, 3) := by decide +kernel
theorem dX11_row_4 : decode cX11_row 4 = .ok (.iload_n 1, 1) := by decide +kernel
theorem dX11_row_5 : decode cX11_row 5 = .ok (.iload_n 2, 1) := by decide +kernel
theorem dX11_row_6 : decode cX11_row 6 = .ok (.invokevirtual 483, 3) := by decide +kernel
theorem dX11_row_9 : decode cX11_row 9 = .ok (.istore_n 3, 1) := by decide +kernel
theorem dX11_row_10 : decode cX11_row 10 = .ok (.iload_n 3, 1) := by decide +kernel
theorem dX11_row_11 : decode cX11_row 11 = .ok (.iconst (-1), 1) := by decide +kernel
theorem dX11_row_12 : decode cX11_row 12 = .ok (.if_icmp .ne 11, 3) := by decide +kernel
theorem dX11_row_15 : decode cX11_row 15 = .ok (.new 172, 3) := by decide +kernel
theorem dX11_row_18 : decode cX11_row 18 = .ok (.dup, 1) := by decide +kernel
theorem dX11_row_19 : decode cX11_row 19 = .ok (.invokespecial 174, 3) := by decide +kernel
theorem dX11_row_22 : decode cX11_row 22 = .ok (.athrow, 1) := by decide +kernel
theorem dX11_row_23 : decode cX11_row 23 = .ok (.aload_n 0, 1) := by decide +kernel
theorem dX11_row_24 : decode cX11_row 24 = .ok (.getfield 39, 3) := by decide +kernel
theorem dX11_row_27 : decode cX11_row 27 = .ok (.getfield 486, 3) := by decide +kernel
theorem dX11_row_30 : decode cX11_row 30 = .ok (.iload_n 3, 1) := by decide +kernel
theorem dX11_row_31 : decode cX11_row 31 = .ok (.iaload, 1) := by decide +kernel
theorem dX11_row_32 : decode cX11_row 32 = .ok (.ireturn, 1) := by decide +kernel
theorem dX11_tear_0 : decode cX11_tear 0 = .ok (.aload_n 0, 1) := by decide +kernel
theorem dX11_tear_1 : decode cX11_tear 1 = .ok (.getfield 39, 3) := by decide +kernel
theorem dX11_tear_4 : decode cX11_tear 4 = .ok (.iload_n 1, 1) := by decide +kernel
theorem dX11_tear_5 : decode cX11_tear 5 = .ok (.iload_n 2, 1) := by decide +kernel
theorem dX11_tear_6 : decode cX11_tear 6 = .ok (.invokevirtual 483, 3) := by decide +kernel
theorem dX11_tear_9 : decode cX11_tear 9 = .ok (.istore 4, 2) := by decide +kernel
theorem dX11_tear_11 : decode cX11_tear 11 = .ok (.iload 4, 2) := by decide +kernel
theorem dX11_tear_13 : decode cX11_tear 13 = .ok (.iconst (-1), 1) := by decide +kernel
theorem dX11_tear_14 : decode cX11_tear 14 = .ok (.if_icmp .ne 11, 3) := by decide +kernel
theorem dX11_tear_17 : decode cX11_tear 17 = .ok (.new 172, 3) := by decide +kernel
theorem dX11_tear_20 : decode cX11_tear 20 = .ok (.dup, 1) := by decide +kernel
theorem dX11_tear_21 : decode cX11_tear 21 = .ok (.invokespecial 174, 3) := by decide +kernel
theorem dX11_tear_24 : decode cX11_tear 24 = .ok (.athrow, 1) := by decide +kernel
theorem dX11_tear_25 : decode cX11_tear 25 = .ok (.aload_n 0, 1) := by decide +kernel
theorem dX11_tear_26 : decode cX11_tear 26 = .ok (.getfield 39, 3) := by decide +kernel
theorem dX11_tear_29 : decode cX11_tear 29 = .ok (.getfield 486, 3) := by decide +kernel
theorem dX11_tear_32 : decode cX11_tear 32 = .ok (.iload 4, 2) := by decide +kernel
theorem dX11_tear_34 : decode cX11_tear 34 = .ok (.dup2, 1) := by decide +kernel
theorem dX11_tear_35 : decode cX11_tear 35 = .ok (.iaload, 1) := by decide +kernel
theorem dX11_tear_36 : decode cX11_tear 36 = .ok (.iload_n 3, 1) := by decide +kernel
theorem dX11_tear_37 : decode cX11_tear 37 = .ok (.ixor, 1) := by decide +kernel
theorem dX11_tear_38 : decode cX11_tear 38 = .ok (.iastore, 1) := by decide +kernel
theorem dX11_tear_39 : decode cX11_tear 39 = .ok (.aload_n 0, 1) := by decide +kernel
theorem dX11_tear_40 : decode cX11_tear 40 = .ok (.getfield 39, 3) := by decide +kernel
theorem dX11_tear_43 : decode cX11_tear 43 = .ok (.getfield 486, 3) := by decide +kernel
theorem dX11_tear_46 : decode cX11_tear 46 = .ok (.iload 4, 2) := by decide +kernel
theorem dX11_tear_48 : decode cX11_tear 48 = .ok (.iaload, 1) := by decide +kernel
theorem dX11_tear_49 : decode cX11_tear 49 = .ok (.ireturn, 1) := by decide +kernel
theorem dX11_check_0 : decode cX11_check 0 = .ok (.iconst 0, 1) := by decide +kernel
theorem dX11_check_1 : decode cX11_check 1 = .ok (.istore_n 1, 1) := by decide +kernel
theorem dX11_check_2 : decode cX11_check 2 = .ok (.iload_n 1, 1) := by decide +kernel
theorem dX11_check_3 : decode cX11_check 3 = .ok (.aload_n 0, 1) := by decide +kernel
theorem dX11_check_4 : decode cX11_check 4 = .ok (.getfield 39, 3) := by decide +kernel
theorem dX11_check_7 : decode cX11_check 7 = .ok (.invokevirtual 489, 3) := by decide +kernel
theorem dX11_check_10 : decode cX11_check 10 = .ok (.if_icmp .ge 64, 3) := by decide +kernel
theorem dX11_check_13 : decode cX11_check 13 = .ok (.iconst 0, 1) := by decide +kernel
theorem dX11_check_14 : decode cX11_check 14 = .ok (.istore_n 2, 1) := by decide +kernel
theorem dX11_check_15 : decode cX11_check 15 = .ok (.iload_n 2, 1) := by decide +kernel
theorem dX11_check_16 : decode cX11_check 16 = .ok (.iconst 4, 1) := by decide +kernel
theorem dX11_check_17 : decode cX11_check 17 = .ok (.if_icmp .ge 51, 3) := by decide +kernel
theorem dX11_check_20 : decode cX11_check 20 = .ok (.aload_n 0, 1) := by decide +kernel
theorem dX11_check_21 : decode cX11_check 21 = .ok (.getfield 39, 3) := by decide +kernel
theorem dX11_check_24 : decode cX11_check 24 = .ok (.iload_n 1, 1) := by decide +kernel
theorem dX11_check_25 : decode cX11_check 25 = .ok (.iload_n 2, 1) := by decide +kernel
theorem dX11_check_26 : decode cX11_check 26 = .ok (.invokevirtual 483, 3) := by decide +kernel
theorem dX11_check_29 : decode cX11_check 29 = .ok (.istore_n 3, 1) := by decide +kernel
theorem dX11_check_30 : decode cX11_check 30 = .ok (.iload_n 3, 1) := by decide +kernel
theorem dX11_check_31 : decode cX11_check 31 = .ok (.iconst (-1), 1) := by decide +kernel
theorem dX11_check_32 : decode cX11_check 32 = .ok (.if_icmp .eq 30, 3) := by decide +kernel
theorem dX11_check_35 : decode cX11_check 35 = .ok (.aload_n 0, 1) := by decide +kernel
theorem dX11_check_36 : decode cX11_check 36 = .ok (.getfield 39, 3) := by decide +kernel
theorem dX11_check_39 : decode cX11_check 39 = .ok (.getfield 486, 3) := by decide +kernel
theorem dX11_check_42 : decode cX11_check 42 = .ok (.iload_n 3, 1) := by decide +kernel
theorem dX11_check_43 : decode cX11_check 43 = .ok (.iaload, 1) := by decide +kernel
theorem dX11_check_44 : decode cX11_check 44 = .ok (.aload_n 0, 1) := by decide +kernel
theorem dX11_check_45 : decode cX11_check 45 = .ok (.getfield 39, 3) := by decide +kernel
theorem dX11_check_48 : decode cX11_check 48 = .ok (.getfield 492, 3) := by decide +kernel
theorem dX11_check_51 : decode cX11_check 51 = .ok (.iload_n 3, 1) := by decide +kernel
theorem dX11_check_52 : decode cX11_check 52 = .ok (.iaload, 1) := by decide +kernel
theorem dX11_check_53 : decode cX11_check 53 = .ok (.if_icmp .eq 9, 3) := by decide +kernel
theorem dX11_check_56 : decode cX11_check 56 = .ok (.iconst 4, 1) := by decide +kernel
theorem dX11_check_57 : decode cX11_check 57 = .ok (.iload_n 1, 1) := by decide +kernel
theorem dX11_check_58 : decode cX11_check 58 = .ok (.imul, 1) := by decide +kernel
theorem dX11_check_59 : decode cX11_check 59 = .ok (.iload_n 2, 1) := by decide +kernel
theorem dX11_check_60 : decode cX11_check 60 = .ok (.iadd, 1) := by decide +kernel
theorem dX11_check_61 : decode cX11_check 61 = .ok (.ireturn, 1) := by decide +kernel
theorem dX11_check_62 : decode cX11_check 62 = .ok (.iinc 2 1, 3) := by decide +kernel
theorem dX11_check_65 : decode cX11_check 65 = .ok (.goto (-50), 3) := by decide +kernel
theorem dX11_check_68 : decode cX11_check 68 = .ok (.iinc 1 1, 3) := by decide +kernel
theorem dX11_check_71 : decode cX11_check 71 = .ok (.goto (-69), 3) := by decide +kernel
theorem dX11_check_74 : decode cX11_check 74 = .ok (.iconst (-1), 1) := by decide +kernel
theorem dX11_check_75 : decode cX11_check 75 = .ok (.ireturn, 1) := by decide +kernel
theorem dX11_image_0 : decode cX11_image 0 = .ok (.aload_n 0, 1) := by decide +kernel
theorem dX11_image_1 : decode cX11_image 1 = .ok (.getfield 64, 3) := by decide +kernel
theorem dX11_image_4 : decode cX11_image 4 = .ok (.ifnonnull 14, 3) := by decide +kernel
theorem dX11_image_7 : decode cX11_image 7 = .ok (.aload_n 0, 1) := by decide +kernel
theorem dX11_image_8 : decode cX11_image 8 = .ok (.new 36, 3) := by decide +kernel
theorem dX11_image_11 : decode cX11_image 11 = .ok (.dup, 1) := by decide +kernel
theorem dX11_image_12 : decode cX11_image 12 = .ok (.invokespecial 38, 3) := by decide +kernel
theorem dX11_image_15 : decode cX11_image 15 = .ok (.putfield 64, 3) := by decide +kernel
theorem dX11_image_18 : decode cX11_image 18 = .ok (.aload_n 0, 1) := by decide +kernel
theorem dX11_image_19 : decode cX11_image 19 = .ok (.getfield 67, 3) := by decide +kernel
theorem dX11_image_22 : decode cX11_image 22 = .ok (.ifnonnull 14, 3) := by decide +kernel
theorem dX11_image_25 : decode cX11_image 25 = .ok (.aload_n 0, 1) := by decide +kernel
theorem dX11_image_26 : decode cX11_image 26 = .ok (.new 43, 3) := by decide +kernel
theorem dX11_image_29 : decode cX11_image 29 = .ok (.dup, 1) := by decide +kernel
theorem dX11_image_30 : decode cX11_image 30 = .ok (.invokespecial 45, 3) := by decide +kernel
theorem dX11_image_33 : decode cX11_image 33 = .ok (.putfield 67, 3) := by decide +kernel
theorem dX11_image_36 : decode cX11_image 36 = .ok (.aload_n 0, 1) := by decide +kernel
theorem dX11_image_37 : decode cX11_image 37 = .ok (.getfield 64, 3) := by decide +kernel
theorem dX11_image_40 : decode cX11_image 40 = .ok (.aload_n 0, 1) := by decide +kernel
theorem dX11_image_41 : decode cX11_image 41 = .ok (.getfield 39, 3) := by decide +kernel
theorem dX11_image_44 : decode cX11_image 44 = .ok (.invokevirtual 469, 3) := by decide +kernel
theorem dX11_image_47 : decode cX11_image 47 = .ok (.aload_n 0, 1) := by decide +kernel
theorem dX11_image_48 : decode cX11_image 48 = .ok (.getfield 67, 3) := by decide +kernel
theorem dX11_image_51 : decode cX11_image 51 = .ok (.aload_n 0, 1) := by decide +kernel
theorem dX11_image_52 : decode cX11_image 52 = .ok (.getfield 46, 3) := by decide +kernel
theorem dX11_image_55 : decode cX11_image 55 = .ok (.invokevirtual 495, 3) := by decide +kernel
theorem dX11_image_58 : decode cX11_image 58 = .ok (.return_, 1) := by decide +kernel
theorem dX11_back_0 : decode cX11_back 0 = .ok (.aload_n 0, 1) := by decide +kernel
theorem dX11_back_1 : decode cX11_back 1 = .ok (.getfield 64, 3) := by decide +kernel
theorem dX11_back_4 : decode cX11_back 4 = .ok (.ifnull 10, 3) := by decide +kernel
theorem dX11_back_7 : decode cX11_back 7 = .ok (.aload_n 0, 1) := by decide +kernel
theorem dX11_back_8 : decode cX11_back 8 = .ok (.getfield 67, 3) := by decide +kernel
theorem dX11_back_11 : decode cX11_back 11 = .ok (.ifnonnull 5, 3) := by decide +kernel
theorem dX11_back_14 : decode cX11_back 14 = .ok (.iconst 0, 1) := by decide +kernel
theorem dX11_back_15 : decode cX11_back 15 = .ok (.ireturn, 1) := by decide +kernel
theorem dX11_back_16 : decode cX11_back 16 = .ok (.aload_n 0, 1) := by decide +kernel
theorem dX11_back_17 : decode cX11_back 17 = .ok (.getfield 39, 3) := by decide +kernel
theorem dX11_back_20 : decode cX11_back 20 = .ok (.aload_n 0, 1) := by decide +kernel
theorem dX11_back_21 : decode cX11_back 21 = .ok (.getfield 64, 3) := by decide +kernel
theorem dX11_back_24 : decode cX11_back 24 = .ok (.invokevirtual 469, 3) := by decide +kernel
theorem dX11_back_27 : decode cX11_back 27 = .ok (.aload_n 0, 1) := by decide +kernel
theorem dX11_back_28 : decode cX11_back 28 = .ok (.getfield 46, 3) := by decide +kernel
theorem dX11_back_31 : decode cX11_back 31 = .ok (.aload_n 0, 1) := by decide +kernel
theorem dX11_back_32 : decode cX11_back 32 = .ok (.getfield 67, 3) := by decide +kernel
theorem dX11_back_35 : decode cX11_back 35 = .ok (.invokevirtual 495, 3) := by decide +kernel
theorem dX11_back_38 : decode cX11_back 38 = .ok (.iconst 1, 1) := by decide +kernel
theorem dX11_back_39 : decode cX11_back 39 = .ok (.ireturn, 1) := by decide +kernel
theorem dX11_count_0 : decode cX11_count 0 = .ok (.iload_n 1, 1) := by decide +kernel
theorem dX11_count_1 : decode cX11_count 1 = .ok (.tableswitch 210 0 14 #[75, 83, 91, 99, 107, 115, 124, 133, 142, 150, 170, 178, 186, 194, 202], 75) := by decide +kernel
theorem dX11_count_76 : decode cX11_count 76 = .ok (.aload_n 0, 1) := by decide +kernel
theorem dX11_count_77 : decode cX11_count 77 = .ok (.getfield 39, 3) := by decide +kernel
theorem dX11_count_80 : decode cX11_count 80 = .ok (.getfield 117, 3) := by decide +kernel
theorem dX11_count_83 : decode cX11_count 83 = .ok (.ireturn, 1) := by decide +kernel
theorem dX11_count_84 : decode cX11_count 84 = .ok (.aload_n 0, 1) := by decide +kernel
theorem dX11_count_85 : decode cX11_count 85 = .ok (.getfield 39, 3) := by decide +kernel
theorem dX11_count_88 : decode cX11_count 88 = .ok (.getfield 107, 3) := by decide +kernel
theorem dX11_count_91 : decode cX11_count 91 = .ok (.ireturn, 1) := by decide +kernel
theorem dX11_count_92 : decode cX11_count 92 = .ok (.aload_n 0, 1) := by decide +kernel
theorem dX11_count_93 : decode cX11_count 93 = .ok (.getfield 39, 3) := by decide +kernel
theorem dX11_count_96 : decode cX11_count 96 = .ok (.invokevirtual 498, 3) := by decide +kernel
theorem dX11_count_99 : decode cX11_count 99 = .ok (.ireturn, 1) := by decide +kernel
theorem dX11_count_100 : decode cX11_count 100 = .ok (.aload_n 0, 1) := by decide +kernel
theorem dX11_count_101 : decode cX11_count 101 = .ok (.getfield 39, 3) := by decide +kernel
theorem dX11_count_104 : decode cX11_count 104 = .ok (.getfield 224, 3) := by decide +kernel
theorem dX11_count_107 : decode cX11_count 107 = .ok (.ireturn, 1) := by decide +kernel
theorem dX11_count_108 : decode cX11_count 108 = .ok (.aload_n 0, 1) := by decide +kernel
theorem dX11_count_109 : decode cX11_count 109 = .ok (.getfield 39, 3) := by decide +kernel
theorem dX11_count_112 : decode cX11_count 112 = .ok (.getfield 501, 3) := by decide +kernel
theorem dX11_count_115 : decode cX11_count 115 = .ok (.ireturn, 1) := by decide +kernel
theorem dX11_count_116 : decode cX11_count 116 = .ok (.aload_n 0, 1) := by decide +kernel
theorem dX11_count_117 : decode cX11_count 117 = .ok (.getfield 39, 3) := by decide +kernel
theorem dX11_count_120 : decode cX11_count 120 = .ok (.iconst 0, 1) := by decide +kernel
theorem dX11_count_121 : decode cX11_count 121 = .ok (.invokevirtual 504, 3) := by decide +kernel
theorem dX11_count_124 : decode cX11_count 124 = .ok (.ireturn, 1) := by decide +kernel
theorem dX11_count_125 : decode cX11_count 125 = .ok (.aload_n 0, 1) := by decide +kernel
theorem dX11_count_126 : decode cX11_count 126 = .ok (.getfield 39, 3) := by decide +kernel
theorem dX11_count_129 : decode cX11_count 129 = .ok (.iconst 1, 1) := by decide +kernel
theorem dX11_count_130 : decode cX11_count 130 = .ok (.invokevirtual 504, 3) := by decide +kernel
theorem dX11_count_133 : decode cX11_count 133 = .ok (.ireturn, 1) := by decide +kernel
theorem dX11_count_134 : decode cX11_count 134 = .ok (.aload_n 0, 1) := by decide +kernel
theorem dX11_count_135 : decode cX11_count 135 = .ok (.getfield 39, 3) := by decide +kernel
theorem dX11_count_138 : decode cX11_count 138 = .ok (.iconst 2, 1) := by decide +kernel
theorem dX11_count_139 : decode cX11_count 139 = .ok (.invokevirtual 504, 3) := by decide +kernel
theorem dX11_count_142 : decode cX11_count 142 = .ok (.ireturn, 1) := by decide +kernel
theorem dX11_count_143 : decode cX11_count 143 = .ok (.aload_n 0, 1) := by decide +kernel
theorem dX11_count_144 : decode cX11_count 144 = .ok (.getfield 39, 3) := by decide +kernel
theorem dX11_count_147 : decode cX11_count 147 = .ok (.invokevirtual 507, 3) := by decide +kernel
theorem dX11_count_150 : decode cX11_count 150 = .ok (.ireturn, 1) := by decide +kernel
theorem dX11_count_151 : decode cX11_count 151 = .ok (.aload_n 0, 1) := by decide +kernel
theorem dX11_count_152 : decode cX11_count 152 = .ok (.getfield 39, 3) := by decide +kernel
theorem dX11_count_155 : decode cX11_count 155 = .ok (.iconst 1, 1) := by decide +kernel
theorem dX11_count_156 : decode cX11_count 156 = .ok (.iconst 1, 1) := by decide +kernel
theorem dX11_count_157 : decode cX11_count 157 = .ok (.invokevirtual 367, 3) := by decide +kernel
theorem dX11_count_160 : decode cX11_count 160 = .ok (.aload_n 0, 1) := by decide +kernel
theorem dX11_count_161 : decode cX11_count 161 = .ok (.getfield 39, 3) := by decide +kernel
theorem dX11_count_164 : decode cX11_count 164 = .ok (.iconst 0, 1) := by decide +kernel
theorem dX11_count_165 : decode cX11_count 165 = .ok (.iconst 1, 1) := by decide +kernel
theorem dX11_count_166 : decode cX11_count 166 = .ok (.invokevirtual 367, 3) := by decide +kernel
theorem dX11_count_169 : decode cX11_count 169 = .ok (.iadd, 1) := by decide +kernel
theorem dX11_count_170 : decode cX11_count 170 = .ok (.ireturn, 1) := by decide +kernel
theorem dX11_count_171 : decode cX11_count 171 = .ok (.aload_n 0, 1) := by decide +kernel
theorem dX11_count_172 : decode cX11_count 172 = .ok (.getfield 46, 3) := by decide +kernel
theorem dX11_count_175 : decode cX11_count 175 = .ok (.getfield 371, 3) := by decide +kernel
theorem dX11_count_178 : decode cX11_count 178 = .ok (.ireturn, 1) := by decide +kernel
theorem dX11_count_179 : decode cX11_count 179 = .ok (.aload_n 0, 1) := by decide +kernel
theorem dX11_count_180 : decode cX11_count 180 = .ok (.getfield 46, 3) := by decide +kernel
theorem dX11_count_183 : decode cX11_count 183 = .ok (.getfield 456, 3) := by decide +kernel
theorem dX11_count_186 : decode cX11_count 186 = .ok (.ireturn, 1) := by decide +kernel
theorem dX11_count_187 : decode cX11_count 187 = .ok (.aload_n 0, 1) := by decide +kernel
theorem dX11_count_188 : decode cX11_count 188 = .ok (.getfield 39, 3) := by decide +kernel
theorem dX11_count_191 : decode cX11_count 191 = .ok (.invokevirtual 477, 3) := by decide +kernel
theorem dX11_count_194 : decode cX11_count 194 = .ok (.ireturn, 1) := by decide +kernel
theorem dX11_count_195 : decode cX11_count 195 = .ok (.aload_n 0, 1) := by decide +kernel
theorem dX11_count_196 : decode cX11_count 196 = .ok (.getfield 39, 3) := by decide +kernel
theorem dX11_count_199 : decode cX11_count 199 = .ok (.getfield 123, 3) := by decide +kernel
theorem dX11_count_202 : decode cX11_count 202 = .ok (.ireturn, 1) := by decide +kernel
theorem dX11_count_203 : decode cX11_count 203 = .ok (.aload_n 0, 1) := by decide +kernel
theorem dX11_count_204 : decode cX11_count 204 = .ok (.getfield 39, 3) := by decide +kernel
theorem dX11_count_207 : decode cX11_count 207 = .ok (.invokevirtual 489, 3) := by decide +kernel
theorem dX11_count_210 : decode cX11_count 210 = .ok (.ireturn, 1) := by decide +kernel
theorem dX11_count_211 : decode cX11_count 211 = .ok (.iconst (-1), 1) := by decide +kernel
theorem dX11_count_212 : decode cX11_count 212 = .ok (.ireturn, 1) := by decide +kernel
theorem dX11_isFace_0 : decode cX11_isFace 0 = .ok (.iload_n 0, 1) := by decide +kernel
theorem dX11_isFace_1 : decode cX11_isFace 1 = .ok (.ifCond .lt 12, 3) := by decide +kernel
theorem dX11_isFace_4 : decode cX11_isFace 4 = .ok (.iload_n 0, 1) := by decide +kernel
theorem dX11_isFace_5 : decode cX11_isFace 5 = .ok (.iconst 2, 1) := by decide +kernel
theorem dX11_isFace_6 : decode cX11_isFace 6 = .ok (.if_icmp .ge 7, 3) := by decide +kernel
theorem dX11_isFace_9 : decode cX11_isFace 9 = .ok (.iconst 1, 1) := by decide +kernel
theorem dX11_isFace_10 : decode cX11_isFace 10 = .ok (.goto 4, 3) := by decide +kernel
theorem dX11_isFace_13 : decode cX11_isFace 13 = .ok (.iconst 0, 1) := by decide +kernel
theorem dX11_isFace_14 : decode cX11_isFace 14 = .ok (.ireturn, 1) := by decide +kernel
theorem dX11_isSign_0 : decode cX11_isSign 0 = .ok (.iload_n 0, 1) := by decide +kernel
theorem dX11_isSign_1 : decode cX11_isSign 1 = .ok (.ifCond .lt 13, 3) := by decide +kernel
theorem dX11_isSign_4 : decode cX11_isSign 4 = .ok (.iload_n 0, 1) := by decide +kernel
theorem dX11_isSign_5 : decode cX11_isSign 5 = .ok (.bipush 27, 2) := by decide +kernel
theorem dX11_isSign_7 : decode cX11_isSign 7 = .ok (.if_icmp .ge 7, 3) := by decide +kernel
theorem dX11_isSign_10 : decode cX11_isSign 10 = .ok (.iconst 1, 1) := by decide +kernel
theorem dX11_isSign_11 : decode cX11_isSign 11 = .ok (.goto 4, 3) := by decide +kernel
theorem dX11_isSign_14 : decode cX11_isSign 14 = .ok (.iconst 0, 1) := by decide +kernel
theorem dX11_isSign_15 : decode cX11_isSign 15 = .ok (.ireturn, 1) := by decide +kernel
theorem dX11_isMinute_0 : decode cX11_isMinute 0 = .ok (.iload_n 0, 1) := by decide +kernel
theorem dX11_isMinute_1 : decode cX11_isMinute 1 = .ok (.ifCond .lt 14, 3) := by decide +kernel
theorem dX11_isMinute_4 : decode cX11_isMinute 4 = .ok (.iload_n 0, 1) := by decide +kernel
theorem dX11_isMinute_5 : decode cX11_isMinute 5 = .ok (.sipush 600, 3) := by decide +kernel
theorem dX11_isMinute_8 : decode cX11_isMinute 8 = .ok (.if_icmp .gt 7, 3) := by decide +kernel
theorem dX11_isMinute_11 : decode cX11_isMinute 11 = .ok (.iconst 1, 1) := by decide +kernel
theorem dX11_isMinute_12 : decode cX11_isMinute 12 = .ok (.goto 4, 3) := by decide +kernel
theorem dX11_isMinute_15 : decode cX11_isMinute 15 = .ok (.iconst 0, 1) := by decide +kernel
theorem dX11_isMinute_16 : decode cX11_isMinute 16 = .ok (.ireturn, 1) := by decide +kernel
theorem dX11_isBrasses_0 : decode cX11_isBrasses 0 = .ok (.iload_n 0, 1) := by decide +kernel
theorem dX11_isBrasses_1 : decode cX11_isBrasses 1 = .ok (.ifCond .lt 13, 3) := by decide +kernel
theorem dX11_isBrasses_4 : decode cX11_isBrasses 4 = .ok (.iload_n 0, 1) := by decide +kernel
theorem dX11_isBrasses_5 : decode cX11_isBrasses 5 = .ok (.bipush 40, 2) := by decide +kernel
theorem dX11_isBrasses_7 : decode cX11_isBrasses 7 = .ok (.if_icmp .gt 7, 3) := by decide +kernel
theorem dX11_isBrasses_10 : decode cX11_isBrasses 10 = .ok (.iconst 1, 1) := by decide +kernel
theorem dX11_isBrasses_11 : decode cX11_isBrasses 11 = .ok (.goto 4, 3) := by decide +kernel
theorem dX11_isBrasses_14 : decode cX11_isBrasses 14 = .ok (.iconst 0, 1) := by decide +kernel
theorem dX11_isBrasses_15 : decode cX11_isBrasses 15 = .ok (.ireturn, 1) := by decide +kernel
theorem dX11_isPage_0 : decode cX11_isPage 0 = .ok (.iload_n 0, 1) := by decide +kernel
theorem dX11_isPage_1 : decode cX11_isPage 1 = .ok (.ifCond .lt 13, 3) := by decide +kernel
theorem dX11_isPage_4 : decode cX11_isPage 4 = .ok (.iload_n 0, 1) := by decide +kernel
theorem dX11_isPage_5 : decode cX11_isPage 5 = .ok (.bipush 6, 2) := by decide +kernel
theorem dX11_isPage_7 : decode cX11_isPage 7 = .ok (.if_icmp .ge 7, 3) := by decide +kernel
theorem dX11_isPage_10 : decode cX11_isPage 10 = .ok (.iconst 1, 1) := by decide +kernel
theorem dX11_isPage_11 : decode cX11_isPage 11 = .ok (.goto 4, 3) := by decide +kernel
theorem dX11_isPage_14 : decode cX11_isPage 14 = .ok (.iconst 0, 1) := by decide +kernel
theorem dX11_isPage_15 : decode cX11_isPage 15 = .ok (.ireturn, 1) := by decide +kernel
theorem dX11_isEdition_0 : decode cX11_isEdition 0 = .ok (.iload_n 1, 1) := by decide +kernel
theorem dX11_isEdition_1 : decode cX11_isEdition 1 = .ok (.iconst (-1), 1) := by decide +kernel
theorem dX11_isEdition_2 : decode cX11_isEdition 2 = .ok (.if_icmp .lt 18, 3) := by decide +kernel
theorem dX11_isEdition_5 : decode cX11_isEdition 5 = .ok (.iload_n 1, 1) := by decide +kernel
theorem dX11_isEdition_6 : decode cX11_isEdition 6 = .ok (.aload_n 0, 1) := by decide +kernel
theorem dX11_isEdition_7 : decode cX11_isEdition 7 = .ok (.getfield 46, 3) := by decide +kernel
theorem dX11_isEdition_10 : decode cX11_isEdition 10 = .ok (.getfield 456, 3) := by decide +kernel
theorem dX11_isEdition_13 : decode cX11_isEdition 13 = .ok (.if_icmp .ge 7, 3) := by decide +kernel
theorem dX11_isEdition_16 : decode cX11_isEdition 16 = .ok (.iconst 1, 1) := by decide +kernel
theorem dX11_isEdition_17 : decode cX11_isEdition 17 = .ok (.goto 4, 3) := by decide +kernel
theorem dX11_isEdition_20 : decode cX11_isEdition 20 = .ok (.iconst 0, 1) := by decide +kernel
theorem dX11_isEdition_21 : decode cX11_isEdition 21 = .ok (.ireturn, 1) := by decide +kernel
theorem dX11_copyFlags_0 : decode cX11_copyFlags 0 = .ok (.iconst 0, 1) := by decide +kernel
theorem dX11_copyFlags_1 : decode cX11_copyFlags 1 = .ok (.istore_n 2, 1) := by decide +kernel
theorem dX11_copyFlags_2 : decode cX11_copyFlags 2 = .ok (.iload_n 2, 1) := by decide +kernel
theorem dX11_copyFlags_3 : decode cX11_copyFlags 3 = .ok (.aload_n 0, 1) := by decide +kernel
theorem dX11_copyFlags_4 : decode cX11_copyFlags 4 = .ok (.arraylength, 1) := by decide +kernel
theorem dX11_copyFlags_5 : decode cX11_copyFlags 5 = .ok (.if_icmp .ge 21, 3) := by decide +kernel
theorem dX11_copyFlags_8 : decode cX11_copyFlags 8 = .ok (.iload_n 2, 1) := by decide +kernel
theorem dX11_copyFlags_9 : decode cX11_copyFlags 9 = .ok (.aload_n 1, 1) := by decide +kernel
theorem dX11_copyFlags_10 : decode cX11_copyFlags 10 = .ok (.arraylength, 1) := by decide +kernel
theorem dX11_copyFlags_11 : decode cX11_copyFlags 11 = .ok (.if_icmp .ge 15, 3) := by decide +kernel
theorem dX11_copyFlags_14 : decode cX11_copyFlags 14 = .ok (.aload_n 1, 1) := by decide +kernel
theorem dX11_copyFlags_15 : decode cX11_copyFlags 15 = .ok (.iload_n 2, 1) := by decide +kernel
theorem dX11_copyFlags_16 : decode cX11_copyFlags 16 = .ok (.aload_n 0, 1) := by decide +kernel
theorem dX11_copyFlags_17 : decode cX11_copyFlags 17 = .ok (.iload_n 2, 1) := by decide +kernel
theorem dX11_copyFlags_18 : decode cX11_copyFlags 18 = .ok (.baload, 1) := by decide +kernel
theorem dX11_copyFlags_19 : decode cX11_copyFlags 19 = .ok (.bastore, 1) := by decide +kernel
theorem dX11_copyFlags_20 : decode cX11_copyFlags 20 = .ok (.iinc 2 1, 3) := by decide +kernel
theorem dX11_copyFlags_23 : decode cX11_copyFlags 23 = .ok (.goto (-21), 3) := by decide +kernel
theorem dX11_copyFlags_26 : decode cX11_copyFlags 26 = .ok (.return_, 1) := by decide +kernel
theorem dX12_init_0 : decode cX12_init 0 = .ok (.aload_n 0, 1) := by decide +kernel
theorem dX12_init_1 : decode cX12_init 1 = .ok (.invokespecial 1, 3) := by decide +kernel
theorem dX12_init_4 : decode cX12_init 4 = .ok (.aload_n 0, 1) := by decide +kernel
theorem dX12_init_5 : decode cX12_init 5 = .ok (.ldc 7, 2) := by decide +kernel
theorem dX12_init_7 : decode cX12_init 7 = .ok (.newarray .int, 2) := by decide +kernel
theorem dX12_init_9 : decode cX12_init 9 = .ok (.putfield 8, 3) := by decide +kernel
theorem dX12_init_12 : decode cX12_init 12 = .ok (.aload_n 0, 1) := by decide +kernel
theorem dX12_init_13 : decode cX12_init 13 = .ok (.ldc 7, 2) := by decide +kernel
theorem dX12_init_15 : decode cX12_init 15 = .ok (.newarray .int, 2) := by decide +kernel
theorem dX12_init_17 : decode cX12_init 17 = .ok (.putfield 14, 3) := by decide +kernel
theorem dX12_init_20 : decode cX12_init 20 = .ok (.aload_n 0, 1) := by decide +kernel
theorem dX12_init_21 : decode cX12_init 21 = .ok (.ldc 7, 2) := by decide +kernel
theorem dX12_init_23 : decode cX12_init 23 = .ok (.newarray .int, 2) := by decide +kernel
theorem dX12_init_25 : decode cX12_init 25 = .ok (.putfield 17, 3) := by decide +kernel
theorem dX12_init_28 : decode cX12_init 28 = .ok (.aload_n 0, 1) := by decide +kernel
theorem dX12_init_29 : decode cX12_init 29 = .ok (.sipush 400, 3) := by decide +kernel
theorem dX12_init_32 : decode cX12_init 32 = .ok (.newarray .int, 2) := by decide +kernel
theorem dX12_init_34 : decode cX12_init 34 = .ok (.putfield 20, 3) := by decide +kernel
theorem dX12_init_37 : decode cX12_init 37 = .ok (.aload_n 0, 1) := by decide +kernel
theorem dX12_init_38 : decode cX12_init 38 = .ok (.iconst (-1), 1) := by decide +kernel
theorem dX12_init_39 : decode cX12_init 39 = .ok (.putfield 23, 3) := by decide +kernel
theorem dX12_init_42 : decode cX12_init 42 = .ok (.aload_n 0, 1) := by decide +kernel
theorem dX12_init_43 : decode cX12_init 43 = .ok (.sipush 200, 3) := by decide +kernel
theorem dX12_init_46 : decode cX12_init 46 = .ok (.newarray .int, 2) := by decide +kernel
theorem dX12_init_48 : decode cX12_init 48 = .ok (.putfield 27, 3) := by decide +kernel
theorem dX12_init_51 : decode cX12_init 51 = .ok (.aload_n 0, 1) := by decide +kernel
theorem dX12_init_52 : decode cX12_init 52 = .ok (.sipush 200, 3) := by decide +kernel
theorem dX12_init_55 : decode cX12_init 55 = .ok (.newarray .int, 2) := by decide +kernel
theorem dX12_init_57 : decode cX12_init 57 = .ok (.putfield 30, 3) := by decide +kernel
theorem dX12_init_60 : decode cX12_init 60 = .ok (.aload_n 0, 1) := by decide +kernel
theorem dX12_init_61 : decode cX12_init 61 = .ok (.sipush 2400, 3) := by decide +kernel
theorem dX12_init_64 : decode cX12_init 64 = .ok (.newarray .int, 2) := by decide +kernel
theorem dX12_init_66 : decode cX12_init 66 = .ok (.putfield 33, 3) := by decide +kernel
theorem dX12_init_69 : decode cX12_init 69 = .ok (.aload_n 0, 1) := by decide +kernel
theorem dX12_init_70 : decode cX12_init 70 = .ok (.iconst 5, 1) := by decide +kernel
theorem dX12_init_71 : decode cX12_init 71 = .ok (.newarray .int, 2) := by decide +kernel
theorem dX12_init_73 : decode cX12_init 73 = .ok (.putfield 36, 3) := by decide +kernel
theorem dX12_init_76 : decode cX12_init 76 = .ok (.aload_n 0, 1) := by decide +kernel
theorem dX12_init_77 : decode cX12_init 77 = .ok (.iconst 5, 1) := by decide +kernel
theorem dX12_init_78 : decode cX12_init 78 = .ok (.newarray .int, 2) := by decide +kernel
theorem dX12_init_80 : decode cX12_init 80 = .ok (.putfield 39, 3) := by decide +kernel
theorem dX12_init_83 : decode cX12_init 83 = .ok (.aload_n 0, 1) := by decide +kernel
theorem dX12_init_84 : decode cX12_init 84 = .ok (.sipush 562, 3) := by decide +kernel
theorem dX12_init_87 : decode cX12_init 87 = .ok (.newarray .int, 2) := by decide +kernel
theorem dX12_init_89 : decode cX12_init 89 = .ok (.putfield 42, 3) := by decide +kernel
theorem dX12_init_92 : decode cX12_init 92 = .ok (.aload_n 0, 1) := by decide +kernel
theorem dX12_init_93 : decode cX12_init 93 = .ok (.iconst 3, 1) := by decide +kernel
theorem dX12_init_94 : decode cX12_init 94 = .ok (.newarray .boolean, 2) := by decide +kernel
theorem dX12_init_96 : decode cX12_init 96 = .ok (.putfield 45, 3) := by decide +kernel
theorem dX12_init_99 : decode cX12_init 99 = .ok (.aload_n 0, 1) := by decide +kernel
theorem dX12_init_100 : decode cX12_init 100 = .ok (.bipush 6, 2) := by decide +kernel
theorem dX12_init_102 : decode cX12_init 102 = .ok (.newarray .int, 2) := by decide +kernel
theorem dX12_init_104 : decode cX12_init 104 = .ok (.putfield 49, 3) := by decide +kernel
theorem dX12_init_107 : decode cX12_init 107 = .ok (.aload_n 0, 1) := by decide +kernel
theorem dX12_init_108 : decode cX12_init 108 = .ok (.bipush 100, 2) := by decide +kernel
theorem dX12_init_110 : decode cX12_init 110 = .ok (.newarray .boolean, 2) := by decide +kernel
theorem dX12_init_112 : decode cX12_init 112 = .ok (.putfield 52, 3) := by decide +kernel
theorem dX12_init_115 : decode cX12_init 115 = .ok (.aload_n 0, 1) := by decide +kernel
theorem dX12_init_116 : decode cX12_init 116 = .ok (.bipush 41, 2) := by decide +kernel
theorem dX12_init_118 : decode cX12_init 118 = .ok (.newarray .int, 2) := by decide +kernel
theorem dX12_init_120 : decode cX12_init 120 = .ok (.putfield 55, 3) := by decide +kernel
theorem dX12_init_123 : decode cX12_init 123 = .ok (.aload_n 0, 1) := by decide +kernel
theorem dX12_init_124 : decode cX12_init 124 = .ok (.bipush 41, 2) := by decide +kernel
theorem dX12_init_126 : decode cX12_init 126 = .ok (.newarray .int, 2) := by decide +kernel
theorem dX12_init_128 : decode cX12_init 128 = .ok (.putfield 58, 3) := by decide +kernel
theorem dX12_init_131 : decode cX12_init 131 = .ok (.aload_n 0, 1) := by decide +kernel
theorem dX12_init_132 : decode cX12_init 132 = .ok (.bipush 41, 2) := by decide +kernel
theorem dX12_init_134 : decode cX12_init 134 = .ok (.newarray .int, 2) := by decide +kernel
theorem dX12_init_136 : decode cX12_init 136 = .ok (.putfield 61, 3) := by decide +kernel
theorem dX12_init_139 : decode cX12_init 139 = .ok (.aload_n 0, 1) := by decide +kernel
theorem dX12_init_140 : decode cX12_init 140 = .ok (.sipush 430, 3) := by decide +kernel
theorem dX12_init_143 : decode cX12_init 143 = .ok (.newarray .int, 2) := by decide +kernel
theorem dX12_init_145 : decode cX12_init 145 = .ok (.putfield 64, 3) := by decide +kernel
theorem dX12_init_148 : decode cX12_init 148 = .ok (.aload_n 0, 1) := by decide +kernel
theorem dX12_init_149 : decode cX12_init 149 = .ok (.bipush 27, 2) := by decide +kernel
theorem dX12_init_151 : decode cX12_init 151 = .ok (.newarray .int, 2) := by decide +kernel
theorem dX12_init_153 : decode cX12_init 153 = .ok (.putfield 67, 3) := by decide +kernel
theorem dX12_init_156 : decode cX12_init 156 = .ok (.aload_n 0, 1) := by decide +kernel
theorem dX12_init_157 : decode cX12_init 157 = .ok (.bipush 41, 2) := by decide +kernel
theorem dX12_init_159 : decode cX12_init 159 = .ok (.newarray .boolean, 2) := by decide +kernel
theorem dX12_init_161 : decode cX12_init 161 = .ok (.putfield 70, 3) := by decide +kernel
theorem dX12_init_164 : decode cX12_init 164 = .ok (.aload_n 0, 1) := by decide +kernel
theorem dX12_init_165 : decode cX12_init 165 = .ok (.sipush 17200, 3) := by decide +kernel
theorem dX12_init_168 : decode cX12_init 168 = .ok (.newarray .int, 2) := by decide +kernel
theorem dX12_init_170 : decode cX12_init 170 = .ok (.putfield 73, 3) := by decide +kernel
theorem dX12_init_173 : decode cX12_init 173 = .ok (.aload_n 0, 1) := by decide +kernel
theorem dX12_init_174 : decode cX12_init 174 = .ok (.bipush 40, 2) := by decide +kernel
theorem dX12_init_176 : decode cX12_init 176 = .ok (.newarray .int, 2) := by decide +kernel
theorem dX12_init_178 : decode cX12_init 178 = .ok (.putfield 76, 3) := by decide +kernel
theorem dX12_init_181 : decode cX12_init 181 = .ok (.aload_n 0, 1) := by decide +kernel
theorem dX12_init_182 : decode cX12_init 182 = .ok (.bipush 40, 2) := by decide +kernel
theorem dX12_init_184 : decode cX12_init 184 = .ok (.newarray .int, 2) := by decide +kernel
theorem dX12_init_186 : decode cX12_init 186 = .ok (.putfield 79, 3) := by decide +kernel
theorem dX12_init_189 : decode cX12_init 189 = .ok (.aload_n 0, 1) := by decide +kernel
theorem dX12_init_190 : decode cX12_init 190 = .ok (.sipush 645, 3) := by decide +kernel
theorem dX12_init_193 : decode cX12_init 193 = .ok (.newarray .int, 2) := by decide +kernel
theorem dX12_init_195 : decode cX12_init 195 = .ok (.putfield 82, 3) := by decide +kernel
theorem dX12_init_198 : decode cX12_init 198 = .ok (.aload_n 0, 1) := by decide +kernel
theorem dX12_init_199 : decode cX12_init 199 = .ok (.bipush 40, 2) := by decide +kernel
theorem dX12_init_201 : decode cX12_init 201 = .ok (.newarray .int, 2) := by decide +kernel
theorem dX12_init_203 : decode cX12_init 203 = .ok (.putfield 85, 3) := by decide +kernel
theorem dX12_init_206 : decode cX12_init 206 = .ok (.aload_n 0, 1) := by decide +kernel
theorem dX12_init_207 : decode cX12_init 207 = .ok (.bipush 40, 2) := by decide +kernel
theorem dX12_init_209 : decode cX12_init 209 = .ok (.newarray .int, 2) := by decide +kernel
theorem dX12_init_211 : decode cX12_init 211 = .ok (.putfield 88, 3) := by decide +kernel
theorem dX12_init_214 : decode cX12_init 214 = .ok (.aload_n 0, 1) := by decide +kernel
theorem dX12_init_215 : decode cX12_init 215 = .ok (.sipush 480, 3) := by decide +kernel
theorem dX12_init_218 : decode cX12_init 218 = .ok (.newarray .int, 2) := by decide +kernel
theorem dX12_init_220 : decode cX12_init 220 = .ok (.putfield 91, 3) := by decide +kernel
theorem dX12_init_223 : decode cX12_init 223 = .ok (.aload_n 0, 1) := by decide +kernel
theorem dX12_init_224 : decode cX12_init 224 = .ok (.iconst 4, 1) := by decide +kernel
theorem dX12_init_225 : decode cX12_init 225 = .ok (.newarray .int, 2) := by decide +kernel
theorem dX12_init_227 : decode cX12_init 227 = .ok (.putfield 94, 3) := by decide +kernel
theorem dX12_init_230 : decode cX12_init 230 = .ok (.aload_n 0, 1) := by decide +kernel
theorem dX12_init_231 : decode cX12_init 231 = .ok (.iconst 4, 1) := by decide +kernel
theorem dX12_init_232 : decode cX12_init 232 = .ok (.newarray .int, 2) := by decide +kernel
theorem dX12_init_234 : decode cX12_init 234 = .ok (.putfield 97, 3) := by decide +kernel
theorem dX12_init_237 : decode cX12_init 237 = .ok (.aload_n 0, 1) := by decide +kernel
theorem dX12_init_238 : decode cX12_init 238 = .ok (.iconst 4, 1) := by decide +kernel
theorem dX12_init_239 : decode cX12_init 239 = .ok (.newarray .int, 2) := by decide +kernel
theorem dX12_init_241 : decode cX12_init 241 = .ok (.putfield 100, 3) := by decide +kernel
theorem dX12_init_244 : decode cX12_init 244 = .ok (.aload_n 0, 1) := by decide +kernel
theorem dX12_init_245 : decode cX12_init 245 = .ok (.iconst 4, 1) := by decide +kernel
theorem dX12_init_246 : decode cX12_init 246 = .ok (.newarray .int, 2) := by decide +kernel
theorem dX12_init_248 : decode cX12_init 248 = .ok (.putfield 103, 3) := by decide +kernel
theorem dX12_init_251 : decode cX12_init 251 = .ok (.aload_n 0, 1) := by decide +kernel
theorem dX12_init_252 : decode cX12_init 252 = .ok (.iconst 4, 1) := by decide +kernel
theorem dX12_init_253 : decode cX12_init 253 = .ok (.newarray .int, 2) := by decide +kernel
theorem dX12_init_255 : decode cX12_init 255 = .ok (.putfield 106, 3) := by decide +kernel
theorem dX12_init_258 : decode cX12_init 258 = .ok (.aload_n 0, 1) := by decide +kernel
theorem dX12_init_259 : decode cX12_init 259 = .ok (.iconst 3, 1) := by decide +kernel
theorem dX12_init_260 : decode cX12_init 260 = .ok (.newarray .int, 2) := by decide +kernel
theorem dX12_init_262 : decode cX12_init 262 = .ok (.putfield 109, 3) := by decide +kernel
theorem dX12_init_265 : decode cX12_init 265 = .ok (.aload_n 0, 1) := by decide +kernel
theorem dX12_init_266 : decode cX12_init 266 = .ok (.iconst 5, 1) := by decide +kernel
theorem dX12_init_267 : decode cX12_init 267 = .ok (.newarray .int, 2) := by decide +kernel
theorem dX12_init_269 : decode cX12_init 269 = .ok (.putfield 112, 3) := by decide +kernel
theorem dX12_init_272 : decode cX12_init 272 = .ok (.aload_n 0, 1) := by decide +kernel
theorem dX12_init_273 : decode cX12_init 273 = .ok (.iconst 5, 1) := by decide +kernel
theorem dX12_init_274 : decode cX12_init 274 = .ok (.newarray .int, 2) := by decide +kernel
theorem dX12_init_276 : decode cX12_init 276 = .ok (.putfield 115, 3) := by decide +kernel
theorem dX12_init_279 : decode cX12_init 279 = .ok (.aload_n 0, 1) := by decide +kernel
theorem dX12_init_280 : decode cX12_init 280 = .ok (.iconst 4, 1) := by decide +kernel
theorem dX12_init_281 : decode cX12_init 281 = .ok (.newarray .int, 2) := by decide +kernel
theorem dX12_init_283 : decode cX12_init 283 = .ok (.putfield 118, 3) := by decide +kernel
theorem dX12_init_286 : decode cX12_init 286 = .ok (.iconst 0, 1) := by decide +kernel
theorem dX12_init_287 : decode cX12_init 287 = .ok (.istore_n 1, 1) := by decide +kernel
theorem dX12_init_288 : decode cX12_init 288 = .ok (.iload_n 1, 1) := by decide +kernel
theorem dX12_init_289 : decode cX12_init 289 = .ok (.bipush 54, 2) := by decide +kernel
theorem dX12_init_291 : decode cX12_init 291 = .ok (.if_icmp .ge 19, 3) := by decide +kernel
theorem dX12_init_294 : decode cX12_init 294 = .ok (.aload_n 0, 1) := by decide +kernel
theorem dX12_init_295 : decode cX12_init 295 = .ok (.getfield 8, 3) := by decide +kernel
theorem dX12_init_298 : decode cX12_init 298 = .ok (.bipush 16, 2) := by decide +kernel
theorem dX12_init_300 : decode cX12_init 300 = .ok (.iload_n 1, 1) := by decide +kernel
theorem dX12_init_301 : decode cX12_init 301 = .ok (.iadd, 1) := by decide +kernel
theorem dX12_init_302 : decode cX12_init 302 = .ok (.iconst 4, 1) := by decide +kernel
theorem dX12_init_303 : decode cX12_init 303 = .ok (.iastore, 1) := by decide +kernel
theorem dX12_init_304 : decode cX12_init 304 = .ok (.iinc 1 1, 3) := by decide +kernel
theorem dX12_init_307 : decode cX12_init 307 = .ok (.goto (-19), 3) := by decide +kernel
theorem dX12_init_310 : decode cX12_init 310 = .ok (.iconst 0, 1) := by decide +kernel
theorem dX12_init_311 : decode cX12_init 311 = .ok (.istore_n 1, 1) := by decide +kernel
theorem dX12_init_312 : decode cX12_init 312 = .ok (.iload_n 1, 1) := by decide +kernel
theorem dX12_init_313 : decode cX12_init 313 = .ok (.bipush 6, 2) := by decide +kernel
theorem dX12_init_315 : decode cX12_init 315 = .ok (.if_icmp .ge 56, 3) := by decide +kernel
theorem dX12_init_318 : decode cX12_init 318 = .ok (.aload_n 0, 1) := by decide +kernel
theorem dX12_init_319 : decode cX12_init 319 = .ok (.getfield 8, 3) := by decide +kernel
theorem dX12_init_322 : decode cX12_init 322 = .ok (.ldc 121, 2) := by decide +kernel
theorem dX12_init_324 : decode cX12_init 324 = .ok (.sipush 185, 3) := by decide +kernel
theorem dX12_init_327 : decode cX12_init 327 = .ok (.iload_n 1, 1) := by decide +kernel
theorem dX12_init_328 : decode cX12_init 328 = .ok (.imul, 1) := by decide +kernel
theorem dX12_init_329 : decode cX12_init 329 = .ok (.iadd, 1) := by decide +kernel
theorem dX12_init_330 : decode cX12_init 330 = .ok (.iconst 1, 1) := by decide +kernel
theorem dX12_init_331 : decode cX12_init 331 = .ok (.iastore, 1) := by decide +kernel
theorem dX12_init_332 : decode cX12_init 332 = .ok (.aload_n 0, 1) := by decide +kernel
theorem dX12_init_333 : decode cX12_init 333 = .ok (.getfield 8, 3) := by decide +kernel
theorem dX12_init_336 : decode cX12_init 336 = .ok (.ldc 121, 2) := by decide +kernel
theorem dX12_init_338 : decode cX12_init 338 = .ok (.sipush 185, 3) := by decide +kernel
theorem dX12_init_341 : decode cX12_init 341 = .ok (.iload_n 1, 1) := by decide +kernel
theorem dX12_init_342 : decode cX12_init 342 = .ok (.imul, 1) := by decide +kernel
theorem dX12_init_343 : decode cX12_init 343 = .ok (.iadd, 1) := by decide +kernel
theorem dX12_init_344 : decode cX12_init 344 = .ok (.iconst 1, 1) := by decide +kernel
theorem dX12_init_345 : decode cX12_init 345 = .ok (.iadd, 1) := by decide +kernel
theorem dX12_init_346 : decode cX12_init 346 = .ok (.bipush 20, 2) := by decide +kernel
theorem dX12_init_348 : decode cX12_init 348 = .ok (.iastore, 1) := by decide +kernel
theorem dX12_init_349 : decode cX12_init 349 = .ok (.aload_n 0, 1) := by decide +kernel
theorem dX12_init_350 : decode cX12_init 350 = .ok (.getfield 8, 3) := by decide +kernel
theorem dX12_init_353 : decode cX12_init 353 = .ok (.ldc 121, 2) := by decide +kernel
theorem dX12_init_355 : decode cX12_init 355 = .ok (.sipush 185, 3) := by decide +kernel
theorem dX12_init_358 : decode cX12_init 358 = .ok (.iload_n 1, 1) := by decide +kernel
theorem dX12_init_359 : decode cX12_init 359 = .ok (.imul, 1) := by decide +kernel
theorem dX12_init_360 : decode cX12_init 360 = .ok (.iadd, 1) := by decide +kernel
theorem dX12_init_361 : decode cX12_init 361 = .ok (.iconst 3, 1) := by decide +kernel
theorem dX12_init_362 : decode cX12_init 362 = .ok (.iadd, 1) := by decide +kernel
theorem dX12_init_363 : decode cX12_init 363 = .ok (.iconst (-1), 1) := by decide +kernel
theorem dX12_init_364 : decode cX12_init 364 = .ok (.iastore, 1) := by decide +kernel
theorem dX12_init_365 : decode cX12_init 365 = .ok (.iinc 1 1, 3) := by decide +kernel
theorem dX12_init_368 : decode cX12_init 368 = .ok (.goto (-56), 3) := by decide +kernel
theorem dX12_init_371 : decode cX12_init 371 = .ok (.return_, 1) := by decide +kernel
theorem dX12_thrown_0 : decode cX12_thrown 0 = .ok (.aload_n 0, 1) := by decide +kernel
theorem dX12_thrown_1 : decode cX12_thrown 1 = .ok (.getfield 122, 3) := by decide +kernel
theorem dX12_thrown_4 : decode cX12_thrown 4 = .ok (.ireturn, 1) := by decide +kernel
theorem dX12_isIn_0 : decode cX12_isIn 0 = .ok (.iload_n 0, 1) := by decide +kernel
theorem dX12_isIn_1 : decode cX12_isIn 1 = .ok (.iload_n 1, 1) := by decide +kernel
theorem dX12_isIn_2 : decode cX12_isIn 2 = .ok (.if_icmp .lt 12, 3) := by decide +kernel
theorem dX12_isIn_5 : decode cX12_isIn 5 = .ok (.iload_n 0, 1) := by decide +kernel
theorem dX12_isIn_6 : decode cX12_isIn 6 = .ok (.iload_n 2, 1) := by decide +kernel
theorem dX12_isIn_7 : decode cX12_isIn 7 = .ok (.if_icmp .gt 7, 3) := by decide +kernel
theorem dX12_isIn_10 : decode cX12_isIn 10 = .ok (.iconst 1, 1) := by decide +kernel
theorem dX12_isIn_11 : decode cX12_isIn 11 = .ok (.goto 4, 3) := by decide +kernel
theorem dX12_isIn_14 : decode cX12_isIn 14 = .ok (.iconst 0, 1) := by decide +kernel
theorem dX12_isIn_15 : decode cX12_isIn 15 = .ok (.ireturn, 1) := by decide +kernel
theorem dX12_part0_0 : decode cX12_part0 0 = .ok (.sipush 130, 3) := by decide +kernel
theorem dX12_part0_3 : decode cX12_part0 3 = .ok (.sipush 645, 3) := by decide +kernel
theorem dX12_part0_6 : decode cX12_part0 6 = .ok (.iload_n 0, 1) := by decide +kernel
theorem dX12_part0_7 : decode cX12_part0 7 = .ok (.imul, 1) := by decide +kernel
theorem dX12_part0_8 : decode cX12_part0 8 = .ok (.iadd, 1) := by decide +kernel
theorem dX12_part0_9 : decode cX12_part0 9 = .ok (.ireturn, 1) := by decide +kernel
theorem dX12_slug0_0 : decode cX12_slug0 0 = .ok (.ldc 125, 2) := by decide +kernel
theorem dX12_slug0_2 : decode cX12_slug0 2 = .ok (.sipush 852, 3) := by decide +kernel
theorem dX12_slug0_5 : decode cX12_slug0 5 = .ok (.iload_n 0, 1) := by decide +kernel
theorem dX12_slug0_6 : decode cX12_slug0 6 = .ok (.imul, 1) := by decide +kernel
theorem dX12_slug0_7 : decode cX12_slug0 7 = .ok (.iadd, 1) := by decide +kernel
theorem dX12_slug0_8 : decode cX12_slug0 8 = .ok (.ireturn, 1) := by decide +kernel
theorem dX12_machine0_0 : decode cX12_machine0 0 = .ok (.ldc 126, 2) := by decide +kernel
theorem dX12_machine0_2 : decode cX12_machine0 2 = .ok (.sipush 183, 3) := by decide +kernel
theorem dX12_machine0_5 : decode cX12_machine0 5 = .ok (.iload_n 0, 1) := by decide +kernel
theorem dX12_machine0_6 : decode cX12_machine0 6 = .ok (.imul, 1) := by decide +kernel
theorem dX12_machine0_7 : decode cX12_machine0 7 = .ok (.iadd, 1) := by decide +kernel
theorem dX12_machine0_8 : decode cX12_machine0 8 = .ok (.ireturn, 1) := by decide +kernel
theorem dX12_isPart_0 : decode cX12_isPart 0 = .ok (.iload_n 1, 1) := by decide +kernel
theorem dX12_isPart_1 : decode cX12_isPart 1 = .ok (.ifCond .lt 36, 3) := by decide +kernel
theorem dX12_isPart_4 : decode cX12_isPart 4 = .ok (.iload_n 1, 1) := by decide +kernel
theorem dX12_isPart_5 : decode cX12_isPart 5 = .ok (.iconst 5, 1) := by decide +kernel
theorem dX12_isPart_6 : decode cX12_isPart 6 = .ok (.idiv, 1) := by decide +kernel
theorem dX12_isPart_7 : decode cX12_isPart 7 = .ok (.aload_n 0, 1) := by decide +kernel
theorem dX12_isPart_8 : decode cX12_isPart 8 = .ok (.getfield 8, 3) := by decide +kernel
theorem dX12_isPart_11 : decode cX12_isPart 11 = .ok (.iconst 1, 1) := by decide +kernel
theorem dX12_isPart_12 : decode cX12_isPart 12 = .ok (.iaload, 1) := by decide +kernel
theorem dX12_isPart_13 : decode cX12_isPart 13 = .ok (.if_icmp .ge 24, 3) := by decide +kernel
theorem dX12_isPart_16 : decode cX12_isPart 16 = .ok (.iload_n 1, 1) := by decide +kernel
theorem dX12_isPart_17 : decode cX12_isPart 17 = .ok (.iconst 5, 1) := by decide +kernel
theorem dX12_isPart_18 : decode cX12_isPart 18 = .ok (.irem, 1) := by decide +kernel
theorem dX12_isPart_19 : decode cX12_isPart 19 = .ok (.aload_n 0, 1) := by decide +kernel
theorem dX12_isPart_20 : decode cX12_isPart 20 = .ok (.getfield 8, 3) := by decide +kernel
theorem dX12_isPart_23 : decode cX12_isPart 23 = .ok (.bipush 110, 2) := by decide +kernel
theorem dX12_isPart_25 : decode cX12_isPart 25 = .ok (.iload_n 1, 1) := by decide +kernel
theorem dX12_isPart_26 : decode cX12_isPart 26 = .ok (.iconst 5, 1) := by decide +kernel
theorem dX12_isPart_27 : decode cX12_isPart 27 = .ok (.idiv, 1) := by decide +kernel
theorem dX12_isPart_28 : decode cX12_isPart 28 = .ok (.iadd, 1) := by decide +kernel
theorem dX12_isPart_29 : decode cX12_isPart 29 = .ok (.iaload, 1) := by decide +kernel
theorem dX12_isPart_30 : decode cX12_isPart 30 = .ok (.if_icmp .ge 7, 3) := by decide +kernel
theorem dX12_isPart_33 : decode cX12_isPart 33 = .ok (.iconst 1, 1) := by decide +kernel
theorem dX12_isPart_34 : decode cX12_isPart 34 = .ok (.goto 4, 3) := by decide +kernel
theorem dX12_isPart_37 : decode cX12_isPart 37 = .ok (.iconst 0, 1) := by decide +kernel
theorem dX12_isPart_38 : decode cX12_isPart 38 = .ok (.ireturn, 1) := by decide +kernel
theorem dX12_isMachine_0 : decode cX12_isMachine 0 = .ok (.iload_n 1, 1) := by decide +kernel
theorem dX12_isMachine_1 : decode cX12_isMachine 1 = .ok (.ifCond .lt 17, 3) := by decide +kernel
theorem dX12_isMachine_4 : decode cX12_isMachine 4 = .ok (.iload_n 1, 1) := by decide +kernel
theorem dX12_isMachine_5 : decode cX12_isMachine 5 = .ok (.aload_n 0, 1) := by decide +kernel
theorem dX12_isMachine_6 : decode cX12_isMachine 6 = .ok (.getfield 8, 3) := by decide +kernel
theorem dX12_isMachine_9 : decode cX12_isMachine 9 = .ok (.iconst 3, 1) := by decide +kernel
theorem dX12_isMachine_10 : decode cX12_isMachine 10 = .ok (.iaload, 1) := by decide +kernel
theorem dX12_isMachine_11 : decode cX12_isMachine 11 = .ok (.if_icmp .ge 7, 3) := by decide +kernel
theorem dX12_isMachine_14 : decode cX12_isMachine 14 = .ok (.iconst 1, 1) := by decide +kernel
theorem dX12_isMachine_15 : decode cX12_isMachine 15 = .ok (.goto 4, 3) := by decide +kernel
theorem dX12_isMachine_18 : decode cX12_isMachine 18 = .ok (.iconst 0, 1) := by decide +kernel
theorem dX12_isMachine_19 : decode cX12_isMachine 19 = .ok (.ireturn, 1) := by decide +kernel
theorem dX12_isSlug_0 : decode cX12_isSlug 0 = .ok (.iload_n 1, 1) := by decide +kernel
theorem dX12_isSlug_1 : decode cX12_isSlug 1 = .ok (.ifCond .lt 17, 3) := by decide +kernel
theorem dX12_isSlug_4 : decode cX12_isSlug 4 = .ok (.iload_n 1, 1) := by decide +kernel
theorem dX12_isSlug_5 : decode cX12_isSlug 5 = .ok (.aload_n 0, 1) := by decide +kernel
theorem dX12_isSlug_6 : decode cX12_isSlug 6 = .ok (.getfield 8, 3) := by decide +kernel
theorem dX12_isSlug_9 : decode cX12_isSlug 9 = .ok (.iconst 4, 1) := by decide +kernel
theorem dX12_isSlug_10 : decode cX12_isSlug 10 = .ok (.iaload, 1) := by decide +kernel
theorem dX12_isSlug_11 : decode cX12_isSlug 11 = .ok (.if_icmp .ge 7, 3) := by decide +kernel
theorem dX12_isSlug_14 : decode cX12_isSlug 14 = .ok (.iconst 1, 1) := by decide +kernel
theorem dX12_isSlug_15 : decode cX12_isSlug 15 = .ok (.goto 4, 3) := by decide +kernel
theorem dX12_isSlug_18 : decode cX12_isSlug 18 = .ok (.iconst 0, 1) := by decide +kernel
theorem dX12_isSlug_19 : decode cX12_isSlug 19 = .ok (.ireturn, 1) := by decide +kernel
theorem dX12_isPage_0 : decode cX12_isPage 0 = .ok (.iload_n 0, 1) := by decide +kernel
theorem dX12_isPage_1 : decode cX12_isPage 1 = .ok (.ifCond .lt 13, 3) := by decide +kernel
theorem dX12_isPage_4 : decode cX12_isPage 4 = .ok (.iload_n 0, 1) := by decide +kernel
theorem dX12_isPage_5 : decode cX12_isPage 5 = .ok (.bipush 6, 2) := by decide +kernel
theorem dX12_isPage_7 : decode cX12_isPage 7 = .ok (.if_icmp .ge 7, 3) := by decide +kernel
theorem dX12_isPage_10 : decode cX12_isPage 10 = .ok (.iconst 1, 1) := by decide +kernel
theorem dX12_isPage_11 : decode cX12_isPage 11 = .ok (.goto 4, 3) := by decide +kernel
theorem dX12_isPage_14 : decode cX12_isPage 14 = .ok (.iconst 0, 1) := by decide +kernel
theorem dX12_isPage_15 : decode cX12_isPage 15 = .ok (.ireturn, 1) := by decide +kernel
theorem dX12_byteCame_0 : decode cX12_byteCame 0 = .ok (.aload_n 0, 1) := by decide +kernel
theorem dX12_byteCame_1 : decode cX12_byteCame 1 = .ok (.getfield 20, 3) := by decide +kernel
theorem dX12_byteCame_4 : decode cX12_byteCame 4 = .ok (.aload_n 0, 1) := by decide +kernel
theorem dX12_byteCame_5 : decode cX12_byteCame 5 = .ok (.getfield 127, 3) := by decide +kernel
theorem dX12_byteCame_8 : decode cX12_byteCame 8 = .ok (.iload_n 1, 1) := by decide +kernel
theorem dX12_byteCame_9 : decode cX12_byteCame 9 = .ok (.sipush 255, 3) := by decide +kernel
theorem dX12_byteCame_12 : decode cX12_byteCame 12 = .ok (.iand, 1) := by decide +kernel
theorem dX12_byteCame_13 : decode cX12_byteCame 13 = .ok (.iastore, 1) := by decide +kernel
theorem dX12_byteCame_14 : decode cX12_byteCame 14 = .ok (.aload_n 0, 1) := by decide +kernel
theorem dX12_byteCame_15 : decode cX12_byteCame 15 = .ok (.dup, 1) := by decide +kernel
theorem dX12_byteCame_16 : decode cX12_byteCame 16 = .ok (.getfield 127, 3) := by decide +kernel
theorem dX12_byteCame_19 : decode cX12_byteCame 19 = .ok (.iconst 1, 1) := by decide +kernel
theorem dX12_byteCame_20 : decode cX12_byteCame 20 = .ok (.iadd, 1) := by decide +kernel
theorem dX12_byteCame_21 : decode cX12_byteCame 21 = .ok (.putfield 127, 3) := by decide +kernel
theorem dX12_byteCame_24 : decode cX12_byteCame 24 = .ok (.return_, 1) := by decide +kernel
theorem dX12_feed_0 : decode cX12_feed 0 = .ok (.aload_n 0, 1) := by decide +kernel
theorem dX12_feed_1 : decode cX12_feed 1 = .ok (.iconst 0, 1) := by decide +kernel
theorem dX12_feed_2 : decode cX12_feed 2 = .ok (.putfield 122, 3) := by decide +kernel
theorem dX12_feed_5 : decode cX12_feed 5 = .ok (.aload_n 0, 1) := by decide +kernel
theorem dX12_feed_6 : decode cX12_feed 6 = .ok (.getfield 127, 3) := by decide +kernel
theorem dX12_feed_9 : decode cX12_feed 9 = .ok (.bipush 20, 2) := by decide +kernel
theorem dX12_feed_11 : decode cX12_feed 11 = .ok (.iadd, 1) := by decide +kernel
theorem dX12_feed_12 : decode cX12_feed 12 = .ok (.sipush 400, 3) := by decide +kernel
theorem dX12_feed_15 : decode cX12_feed 15 = .ok (.if_icmp .le 5, 3) := by decide +kernel
theorem dX12_feed_18 : decode cX12_feed 18 = .ok (.iconst (-1), 1) := by decide +kernel
theorem dX12_feed_19 : decode cX12_feed 19 = .ok (.ireturn, 1) := by decide +kernel
theorem dX12_feed_20 : decode cX12_feed 20 = .ok (.bipush 24, 2) := by decide +kernel
theorem dX12_feed_22 : decode cX12_feed 22 = .ok (.istore 6, 2) := by decide +kernel
theorem dX12_feed_24 : decode cX12_feed 24 = .ok (.iload 6, 2) := by decide +kernel
theorem dX12_feed_26 : decode cX12_feed 26 = .ok (.ifCond .lt 17, 3) := by decide +kernel
theorem dX12_feed_29 : decode cX12_feed 29 = .ok (.aload_n 0, 1) := by decide +kernel
theorem dX12_feed_30 : decode cX12_feed 30 = .ok (.iload_n 1, 1) := by decide +kernel
theorem dX12_feed_31 : decode cX12_feed 31 = .ok (.iload 6, 2) := by decide +kernel
theorem dX12_feed_33 : decode cX12_feed 33 = .ok (.ishr, 1) := by decide +kernel
theorem dX12_feed_34 : decode cX12_feed 34 = .ok (.invokevirtual 130, 3) := by decide +kernel
theorem dX12_feed_37 : decode cX12_feed 37 = .ok (.iinc 6 (-8), 3) := by decide +kernel
theorem dX12_feed_40 : decode cX12_feed 40 = .ok (.goto (-16), 3) := by decide +kernel
theorem dX12_feed_43 : decode cX12_feed 43 = .ok (.bipush 24, 2) := by decide +kernel
theorem dX12_feed_45 : decode cX12_feed 45 = .ok (.istore 6, 2) := by decide +kernel
theorem dX12_feed_47 : decode cX12_feed 47 = .ok (.iload 6, 2) := by decide +kernel
theorem dX12_feed_49 : decode cX12_feed 49 = .ok (.ifCond .lt 17, 3) := by decide +kernel
theorem dX12_feed_52 : decode cX12_feed 52 = .ok (.aload_n 0, 1) := by decide +kernel
theorem dX12_feed_53 : decode cX12_feed 53 = .ok (.iload_n 2, 1) := by decide +kernel
theorem dX12_feed_54 : decode cX12_feed 54 = .ok (.iload 6, 2) := by decide +kernel
theorem dX12_feed_56 : decode cX12_feed 56 = .ok (.ishr, 1) := by decide +kernel
theorem dX12_feed_57 : decode cX12_feed 57 = .ok (.invokevirtual 130, 3) := by decide +kernel
theorem dX12_feed_60 : decode cX12_feed 60 = .ok (.iinc 6 (-8), 3) := by decide +kernel
theorem dX12_feed_63 : decode cX12_feed 63 = .ok (.goto (-16), 3) := by decide +kernel
theorem dX12_feed_66 : decode cX12_feed 66 = .ok (.bipush 24, 2) := by decide +kernel
theorem dX12_feed_68 : decode cX12_feed 68 = .ok (.istore 6, 2) := by decide +kernel
theorem dX12_feed_70 : decode cX12_feed 70 = .ok (.iload 6, 2) := by decide +kernel
theorem dX12_feed_72 : decode cX12_feed 72 = .ok (.ifCond .lt 17, 3) := by decide +kernel
theorem dX12_feed_75 : decode cX12_feed 75 = .ok (.aload_n 0, 1) := by decide +kernel
theorem dX12_feed_76 : decode cX12_feed 76 = .ok (.iload_n 3, 1) := by decide +kernel
theorem dX12_feed_77 : decode cX12_feed 77 = .ok (.iload 6, 2) := by decide +kernel
theorem dX12_feed_79 : decode cX12_feed 79 = .ok (.ishr, 1) := by decide +kernel
theorem dX12_feed_80 : decode cX12_feed 80 = .ok (.invokevirtual 130, 3) := by decide +kernel
theorem dX12_feed_83 : decode cX12_feed 83 = .ok (.iinc 6 (-8), 3) := by decide +kernel
theorem dX12_feed_86 : decode cX12_feed 86 = .ok (.goto (-16), 3) := by decide +kernel
theorem dX12_feed_89 : decode cX12_feed 89 = .ok (.bipush 24, 2) := by decide +kernel
theorem dX12_feed_91 : decode cX12_feed 91 = .ok (.istore 6, 2) := by decide +kernel
theorem dX12_feed_93 : decode cX12_feed 93 = .ok (.iload 6, 2) := by decide +kernel
theorem dX12_feed_95 : decode cX12_feed 95 = .ok (.ifCond .lt 18, 3) := by decide +kernel
theorem dX12_feed_98 : decode cX12_feed 98 = .ok (.aload_n 0, 1) := by decide +kernel
theorem dX12_feed_99 : decode cX12_feed 99 = .ok (.iload 4, 2) := by decide +kernel
theorem dX12_feed_101 : decode cX12_feed 101 = .ok (.iload 6, 2) := by decide +kernel
theorem dX12_feed_103 : decode cX12_feed 103 = .ok (.ishr, 1) := by decide +kernel
theorem dX12_feed_104 : decode cX12_feed 104 = .ok (.invokevirtual 130, 3) := by decide +kernel
theorem dX12_feed_107 : decode cX12_feed 107 = .ok (.iinc 6 (-8), 3) := by decide +kernel
theorem dX12_feed_110 : decode cX12_feed 110 = .ok (.goto (-17), 3) := by decide +kernel
theorem dX12_feed_113 : decode cX12_feed 113 = .ok (.bipush 24, 2) := by decide +kernel
theorem dX12_feed_115 : decode cX12_feed 115 = .ok (.istore 6, 2) := by decide +kernel
theorem dX12_feed_117 : decode cX12_feed 117 = .ok (.iload 6, 2) := by decide +kernel
theorem dX12_feed_119 : decode cX12_feed 119 = .ok (.ifCond .lt 18, 3) := by decide +kernel
theorem dX12_feed_122 : decode cX12_feed 122 = .ok (.aload_n 0, 1) := by decide +kernel
theorem dX12_feed_123 : decode cX12_feed 123 = .ok (.iload 5, 2) := by decide +kernel
theorem dX12_feed_125 : decode cX12_feed 125 = .ok (.iload 6, 2) := by decide +kernel
theorem dX12_feed_127 : decode cX12_feed 127 = .ok (.ishr, 1) := by decide +kernel
theorem dX12_feed_128 : decode cX12_feed 128 = .ok (.invokevirtual 130, 3) := by decide +kernel
theorem dX12_feed_131 : decode cX12_feed 131 = .ok (.iinc 6 (-8), 3) := by decide +kernel
theorem dX12_feed_134 : decode cX12_feed 134 = .ok (.goto (-17), 3) := by decide +kernel
theorem dX12_feed_137 : decode cX12_feed 137 = .ok (.aload_n 0, 1) := by decide +kernel
theorem dX12_feed_138 : decode cX12_feed 138 = .ok (.getfield 127, 3) := by decide +kernel
theorem dX12_feed_141 : decode cX12_feed 141 = .ok (.ireturn, 1) := by decide +kernel
theorem dX12_end_0 : decode cX12_end 0 = .ok (.aload_n 0, 1) := by decide +kernel
theorem dX12_end_1 : decode cX12_end 1 = .ok (.iconst 0, 1) := by decide +kernel
theorem dX12_end_2 : decode cX12_end 2 = .ok (.putfield 122, 3) := by decide +kernel
theorem dX12_end_5 : decode cX12_end 5 = .ok (.iload_n 1, 1) := by decide +kernel
theorem dX12_end_6 : decode cX12_end 6 = .ok (.ifCond .lt 11, 3) := by decide +kernel
theorem dX12_end_9 : decode cX12_end 9 = .ok (.iload_n 1, 1) := by decide +kernel
theorem dX12_end_10 : decode cX12_end 10 = .ok (.aload_n 0, 1) := by decide +kernel
theorem dX12_end_11 : decode cX12_end 11 = .ok (.getfield 127, 3) := by decide +kernel
theorem dX12_end_14 : decode cX12_end 14 = .ok (.if_icmp .le 5, 3) := by decide +kernel
theorem dX12_end_17 : decode cX12_end 17 = .ok (.iconst 0, 1) := by decide +kernel
theorem dX12_end_18 : decode cX12_end 18 = .ok (.ireturn, 1) := by decide +kernel
theorem dX12_end_19 : decode cX12_end 19 = .ok (.aload_n 0, 1) := by decide +kernel
theorem dX12_end_20 : decode cX12_end 20 = .ok (.iload_n 1, 1) := by decide +kernel
theorem dX12_end_21 : decode cX12_end 21 = .ok (.putfield 127, 3) := by decide +kernel
theorem dX12_end_24 : decode cX12_end 24 = .ok (.iconst 1, 1) := by decide +kernel
theorem dX12_end_25 : decode cX12_end 25 = .ok (.ireturn, 1) := by decide +kernel
theorem dX12_use_0 : decode cX12_use 0 = .ok (.aload_n 0, 1) := by decide +kernel
theorem dX12_use_1 : decode cX12_use 1 = .ok (.aload_n 0, 1) := by decide +kernel
theorem dX12_use_2 : decode cX12_use 2 = .ok (.getfield 127, 3) := by decide +kernel
theorem dX12_use_5 : decode cX12_use 5 = .ok (.putfield 134, 3) := by decide +kernel
theorem dX12_use_8 : decode cX12_use 8 = .ok (.aload_n 0, 1) := by decide +kernel
theorem dX12_use_9 : decode cX12_use 9 = .ok (.iconst 0, 1) := by decide +kernel
theorem dX12_use_10 : decode cX12_use 10 = .ok (.putfield 127, 3) := by decide +kernel
theorem dX12_use_13 : decode cX12_use 13 = .ok (.aload_n 0, 1) := by decide +kernel
theorem dX12_use_14 : decode cX12_use 14 = .ok (.iconst 0, 1) := by decide +kernel
theorem dX12_use_15 : decode cX12_use 15 = .ok (.putfield 137, 3) := by decide +kernel
theorem dX12_use_18 : decode cX12_use 18 = .ok (.return_, 1) := by decide +kernel
theorem dX12_fault_0 : decode cX12_fault 0 = .ok (.aload_n 0, 1) := by decide +kernel
theorem dX12_fault_1 : decode cX12_fault 1 = .ok (.iconst 0, 1) := by decide +kernel
theorem dX12_fault_2 : decode cX12_fault 2 = .ok (.putfield 122, 3) := by decide +kernel
theorem dX12_fault_5 : decode cX12_fault 5 = .ok (.aload_n 0, 1) := by decide +kernel
theorem dX12_fault_6 : decode cX12_fault 6 = .ok (.getfield 23, 3) := by decide +kernel
theorem dX12_fault_9 : decode cX12_fault 9 = .ok (.ireturn, 1) := by decide +kernel
theorem dX12_isLetter_0 : decode cX12_isLetter 0 = .ok (.iload_n 0, 1) := by decide +kernel
theorem dX12_isLetter_1 : decode cX12_isLetter 1 = .ok (.bipush 97, 2) := by decide +kernel
theorem dX12_isLetter_3 : decode cX12_isLetter 3 = .ok (.if_icmp .lt 13, 3) := by decide +kernel
theorem dX12_isLetter_6 : decode cX12_isLetter 6 = .ok (.iload_n 0, 1) := by decide +kernel
theorem dX12_isLetter_7 : decode cX12_isLetter 7 = .ok (.bipush 122, 2) := by decide +kernel
theorem dX12_isLetter_9 : decode cX12_isLetter 9 = .ok (.if_icmp .gt 7, 3) := by decide +kernel
theorem dX12_isLetter_12 : decode cX12_isLetter 12 = .ok (.iconst 1, 1) := by decide +kernel
theorem dX12_isLetter_13 : decode cX12_isLetter 13 = .ok (.goto 4, 3) := by decide +kernel
theorem dX12_isLetter_16 : decode cX12_isLetter 16 = .ok (.iconst 0, 1) := by decide +kernel
theorem dX12_isLetter_17 : decode cX12_isLetter 17 = .ok (.ireturn, 1) := by decide +kernel
theorem dX12_readWord_0 : decode cX12_readWord 0 = .ok (.iconst 1, 1) := by decide +kernel
theorem dX12_readWord_1 : decode cX12_readWord 1 = .ok (.istore 4, 2) := by decide +kernel
theorem dX12_readWord_3 : decode cX12_readWord 3 = .ok (.iload 4, 2) := by decide +kernel
theorem dX12_readWord_5 : decode cX12_readWord 5 = .ok (.ifCond .eq 262, 3) := by decide +kernel
theorem dX12_readWord_8 : decode cX12_readWord 8 = .ok (.iload_n 1, 1) := by decide +kernel
theorem dX12_readWord_9 : decode cX12_readWord 9 = .ok (.aload_n 0, 1) := by decide +kernel
theorem dX12_readWord_10 : decode cX12_readWord 10 = .ok (.getfield 36, 3) := by decide +kernel
theorem dX12_readWord_13 : decode cX12_readWord 13 = .ok (.aload_n 0, 1) := by decide +kernel
theorem dX12_readWord_14 : decode cX12_readWord 14 = .ok (.getfield 140, 3) := by decide +kernel
theorem dX12_readWord_17 : decode cX12_readWord 17 = .ok (.iaload, 1) := by decide +kernel
theorem dX12_readWord_18 : decode cX12_readWord 18 = .ok (.iadd, 1) := by decide +kernel
theorem dX12_readWord_19 : decode cX12_readWord 19 = .ok (.istore 5, 2) := by decide +kernel
theorem dX12_readWord_21 : decode cX12_readWord 21 = .ok (.iload_n 3, 1) := by decide +kernel
theorem dX12_readWord_22 : decode cX12_readWord 22 = .ok (.aload_n 0, 1) := by decide +kernel
theorem dX12_readWord_23 : decode cX12_readWord 23 = .ok (.getfield 36, 3) := by decide +kernel
theorem dX12_readWord_26 : decode cX12_readWord 26 = .ok (.aload_n 0, 1) := by decide +kernel
theorem dX12_readWord_27 : decode cX12_readWord 27 = .ok (.getfield 140, 3) := by decide +kernel
theorem dX12_readWord_30 : decode cX12_readWord 30 = .ok (.iaload, 1) := by decide +kernel
theorem dX12_readWord_31 : decode cX12_readWord 31 = .ok (.iadd, 1) := by decide +kernel
theorem dX12_readWord_32 : decode cX12_readWord 32 = .ok (.bipush 40, 2) := by decide +kernel
theorem dX12_readWord_34 : decode cX12_readWord 34 = .ok (.if_icmp .ne 13, 3) := by decide +kernel
theorem dX12_readWord_37 : decode cX12_readWord 37 = .ok (.aload_n 0, 1) := by decide +kernel
theorem dX12_readWord_38 : decode cX12_readWord 38 = .ok (.aload_n 0, 1) := by decide +kernel
theorem dX12_readWord_39 : decode cX12_readWord 39 = .ok (.getfield 137, 3) := by decide +kernel
theorem dX12_readWord_42 : decode cX12_readWord 42 = .ok (.putfield 23, 3) := by decide +kernel
theorem dX12_readWord_45 : decode cX12_readWord 45 = .ok (.iconst 0, 1) := by decide +kernel
theorem dX12_readWord_46 : decode cX12_readWord 46 = .ok (.ireturn, 1) := by decide +kernel
theorem dX12_readWord_47 : decode cX12_readWord 47 = .ok (.aload_n 0, 1) := by decide +kernel
theorem dX12_readWord_48 : decode cX12_readWord 48 = .ok (.getfield 27, 3) := by decide +kernel
theorem dX12_readWord_51 : decode cX12_readWord 51 = .ok (.iload 5, 2) := by decide +kernel
theorem dX12_readWord_53 : decode cX12_readWord 53 = .ok (.iload_n 2, 1) := by decide +kernel
theorem dX12_readWord_54 : decode cX12_readWord 54 = .ok (.iastore, 1) := by decide +kernel
theorem dX12_readWord_55 : decode cX12_readWord 55 = .ok (.aload_n 0, 1) := by decide +kernel
theorem dX12_readWord_56 : decode cX12_readWord 56 = .ok (.getfield 30, 3) := by decide +kernel
theorem dX12_readWord_59 : decode cX12_readWord 59 = .ok (.iload 5, 2) := by decide +kernel
theorem dX12_readWord_61 : decode cX12_readWord 61 = .ok (.iconst 0, 1) := by decide +kernel
theorem dX12_readWord_62 : decode cX12_readWord 62 = .ok (.iastore, 1) := by decide +kernel
theorem dX12_readWord_63 : decode cX12_readWord 63 = .ok (.aload_n 0, 1) := by decide +kernel
theorem dX12_readWord_64 : decode cX12_readWord 64 = .ok (.getfield 137, 3) := by decide +kernel
theorem dX12_readWord_67 : decode cX12_readWord 67 = .ok (.aload_n 0, 1) := by decide +kernel
theorem dX12_readWord_68 : decode cX12_readWord 68 = .ok (.getfield 134, 3) := by decide +kernel
theorem dX12_readWord_71 : decode cX12_readWord 71 = .ok (.if_icmp .ge 94, 3) := by decide +kernel
theorem dX12_readWord_74 : decode cX12_readWord 74 = .ok (.aload_n 0, 1) := by decide +kernel
theorem dX12_readWord_75 : decode cX12_readWord 75 = .ok (.getfield 20, 3) := by decide +kernel
theorem dX12_readWord_78 : decode cX12_readWord 78 = .ok (.aload_n 0, 1) := by decide +kernel
theorem dX12_readWord_79 : decode cX12_readWord 79 = .ok (.getfield 137, 3) := by decide +kernel
theorem dX12_readWord_82 : decode cX12_readWord 82 = .ok (.iaload, 1) := by decide +kernel
theorem dX12_readWord_83 : decode cX12_readWord 83 = .ok (.invokestatic 143, 3) := by decide +kernel
theorem dX12_readWord_86 : decode cX12_readWord 86 = .ok (.ifCond .eq 79, 3) := by decide +kernel
theorem dX12_readWord_89 : decode cX12_readWord 89 = .ok (.aload_n 0, 1) := by decide +kernel
theorem dX12_readWord_90 : decode cX12_readWord 90 = .ok (.getfield 30, 3) := by decide +kernel
theorem dX12_readWord_93 : decode cX12_readWord 93 = .ok (.iload 5, 2) := by decide +kernel
theorem dX12_readWord_95 : decode cX12_readWord 95 = .ok (.iaload, 1) := by decide +kernel
theorem dX12_readWord_96 : decode cX12_readWord 96 = .ok (.bipush 12, 2) := by decide +kernel
theorem dX12_readWord_98 : decode cX12_readWord 98 = .ok (.if_icmp .ne 13, 3) := by decide +kernel
theorem dX12_readWord_101 : decode cX12_readWord 101 = .ok (.aload_n 0, 1) := by decide +kernel
theorem dX12_readWord_102 : decode cX12_readWord 102 = .ok (.aload_n 0, 1) := by decide +kernel
theorem dX12_readWord_103 : decode cX12_readWord 103 = .ok (.getfield 137, 3) := by decide +kernel
theorem dX12_readWord_106 : decode cX12_readWord 106 = .ok (.putfield 23, 3) := by decide +kernel
theorem dX12_readWord_109 : decode cX12_readWord 109 = .ok (.iconst 0, 1) := by decide +kernel
theorem dX12_readWord_110 : decode cX12_readWord 110 = .ok (.ireturn, 1) := by decide +kernel
theorem dX12_readWord_111 : decode cX12_readWord 111 = .ok (.aload_n 0, 1) := by decide +kernel
theorem dX12_readWord_112 : decode cX12_readWord 112 = .ok (.getfield 33, 3) := by decide +kernel
theorem dX12_readWord_115 : decode cX12_readWord 115 = .ok (.bipush 12, 2) := by decide +kernel
theorem dX12_readWord_117 : decode cX12_readWord 117 = .ok (.iload 5, 2) := by decide +kernel
theorem dX12_readWord_119 : decode cX12_readWord 119 = .ok (.imul, 1) := by decide +kernel
theorem dX12_readWord_120 : decode cX12_readWord 120 = .ok (.aload_n 0, 1) := by decide +kernel
theorem dX12_readWord_121 : decode cX12_readWord 121 = .ok (.getfield 30, 3) := by decide +kernel
theorem dX12_readWord_124 : decode cX12_readWord 124 = .ok (.iload 5, 2) := by decide +kernel
theorem dX12_readWord_126 : decode cX12_readWord 126 = .ok (.iaload, 1) := by decide +kernel
theorem dX12_readWord_127 : decode cX12_readWord 127 = .ok (.iadd, 1) := by decide +kernel
theorem dX12_readWord_128 : decode cX12_readWord 128 = .ok (.aload_n 0, 1) := by decide +kernel
theorem dX12_readWord_129 : decode cX12_readWord 129 = .ok (.getfield 20, 3) := by decide +kernel
theorem dX12_readWord_132 : decode cX12_readWord 132 = .ok (.aload_n 0, 1) := by decide +kernel
theorem dX12_readWord_133 : decode cX12_readWord 133 = .ok (.getfield 137, 3) := by decide +kernel
theorem dX12_readWord_136 : decode cX12_readWord 136 = .ok (.iaload, 1) := by decide +kernel
theorem dX12_readWord_137 : decode cX12_readWord 137 = .ok (.bipush 97, 2) := by decide +kernel
theorem dX12_readWord_139 : decode cX12_readWord 139 = .ok (.isub, 1) := by decide +kernel
theorem dX12_readWord_140 : decode cX12_readWord 140 = .ok (.iastore, 1) := by decide +kernel
theorem dX12_readWord_141 : decode cX12_readWord 141 = .ok (.aload_n 0, 1) := by decide +kernel
theorem dX12_readWord_142 : decode cX12_readWord 142 = .ok (.getfield 30, 3) := by decide +kernel
theorem dX12_readWord_145 : decode cX12_readWord 145 = .ok (.iload 5, 2) := by decide +kernel
theorem dX12_readWord_147 : decode cX12_readWord 147 = .ok (.dup2, 1) := by decide +kernel
theorem dX12_readWord_148 : decode cX12_readWord 148 = .ok (.iaload, 1) := by decide +kernel
theorem dX12_readWord_149 : decode cX12_readWord 149 = .ok (.iconst 1, 1) := by decide +kernel
theorem dX12_readWord_150 : decode cX12_readWord 150 = .ok (.iadd, 1) := by decide +kernel
theorem dX12_readWord_151 : decode cX12_readWord 151 = .ok (.iastore, 1) := by decide +kernel
theorem dX12_readWord_152 : decode cX12_readWord 152 = .ok (.aload_n 0, 1) := by decide +kernel
theorem dX12_readWord_153 : decode cX12_readWord 153 = .ok (.dup, 1) := by decide +kernel
theorem dX12_readWord_154 : decode cX12_readWord 154 = .ok (.getfield 137, 3) := by decide +kernel
theorem dX12_readWord_157 : decode cX12_readWord 157 = .ok (.iconst 1, 1) := by decide +kernel
theorem dX12_readWord_158 : decode cX12_readWord 158 = .ok (.iadd, 1) := by decide +kernel
theorem dX12_readWord_159 : decode cX12_readWord 159 = .ok (.putfield 137, 3) := by decide +kernel
theorem dX12_readWord_162 : decode cX12_readWord 162 = .ok (.goto (-99), 3) := by decide +kernel
theorem dX12_readWord_165 : decode cX12_readWord 165 = .ok (.aload_n 0, 1) := by decide +kernel
theorem dX12_readWord_166 : decode cX12_readWord 166 = .ok (.getfield 36, 3) := by decide +kernel
theorem dX12_readWord_169 : decode cX12_readWord 169 = .ok (.aload_n 0, 1) := by decide +kernel
theorem dX12_readWord_170 : decode cX12_readWord 170 = .ok (.getfield 140, 3) := by decide +kernel
theorem dX12_readWord_173 : decode cX12_readWord 173 = .ok (.dup2, 1) := by decide +kernel
theorem dX12_readWord_174 : decode cX12_readWord 174 = .ok (.iaload, 1) := by decide +kernel
theorem dX12_readWord_175 : decode cX12_readWord 175 = .ok (.iconst 1, 1) := by decide +kernel
theorem dX12_readWord_176 : decode cX12_readWord 176 = .ok (.iadd, 1) := by decide +kernel
theorem dX12_readWord_177 : decode cX12_readWord 177 = .ok (.iastore, 1) := by decide +kernel
theorem dX12_readWord_178 : decode cX12_readWord 178 = .ok (.aload_n 0, 1) := by decide +kernel
theorem dX12_readWord_179 : decode cX12_readWord 179 = .ok (.getfield 137, 3) := by decide +kernel
theorem dX12_readWord_182 : decode cX12_readWord 182 = .ok (.aload_n 0, 1) := by decide +kernel
theorem dX12_readWord_183 : decode cX12_readWord 183 = .ok (.getfield 134, 3) := by decide +kernel
theorem dX12_readWord_186 : decode cX12_readWord 186 = .ok (.if_icmp .ge 21, 3) := by decide +kernel
theorem dX12_readWord_189 : decode cX12_readWord 189 = .ok (.aload_n 0, 1) := by decide +kernel
theorem dX12_readWord_190 : decode cX12_readWord 190 = .ok (.getfield 20, 3) := by decide +kernel
theorem dX12_readWord_193 : decode cX12_readWord 193 = .ok (.aload_n 0, 1) := by decide +kernel
theorem dX12_readWord_194 : decode cX12_readWord 194 = .ok (.getfield 137, 3) := by decide +kernel
theorem dX12_readWord_197 : decode cX12_readWord 197 = .ok (.iaload, 1) := by decide +kernel
theorem dX12_readWord_198 : decode cX12_readWord 198 = .ok (.bipush 45, 2) := by decide +kernel
theorem dX12_readWord_200 : decode cX12_readWord 200 = .ok (.if_icmp .ne 7, 3) := by decide +kernel
theorem dX12_readWord_203 : decode cX12_readWord 203 = .ok (.iconst 1, 1) := by decide +kernel
theorem dX12_readWord_204 : decode cX12_readWord 204 = .ok (.goto 4, 3) := by decide +kernel
theorem dX12_readWord_207 : decode cX12_readWord 207 = .ok (.iconst 0, 1) := by decide +kernel
theorem dX12_readWord_208 : decode cX12_readWord 208 = .ok (.istore 4, 2) := by decide +kernel
theorem dX12_readWord_210 : decode cX12_readWord 210 = .ok (.iload 4, 2) := by decide +kernel
theorem dX12_readWord_212 : decode cX12_readWord 212 = .ok (.ifCond .ne 6, 3) := by decide +kernel
theorem dX12_readWord_215 : decode cX12_readWord 215 = .ok (.goto (-212), 3) := by decide +kernel
theorem dX12_readWord_218 : decode cX12_readWord 218 = .ok (.aload_n 0, 1) := by decide +kernel
theorem dX12_readWord_219 : decode cX12_readWord 219 = .ok (.dup, 1) := by decide +kernel
theorem dX12_readWord_220 : decode cX12_readWord 220 = .ok (.getfield 137, 3) := by decide +kernel
theorem dX12_readWord_223 : decode cX12_readWord 223 = .ok (.iconst 1, 1) := by decide +kernel
theorem dX12_readWord_224 : decode cX12_readWord 224 = .ok (.iadd, 1) := by decide +kernel
theorem dX12_readWord_225 : decode cX12_readWord 225 = .ok (.putfield 137, 3) := by decide +kernel
theorem dX12_readWord_228 : decode cX12_readWord 228 = .ok (.aload_n 0, 1) := by decide +kernel
theorem dX12_readWord_229 : decode cX12_readWord 229 = .ok (.getfield 137, 3) := by decide +kernel
theorem dX12_readWord_232 : decode cX12_readWord 232 = .ok (.aload_n 0, 1) := by decide +kernel
theorem dX12_readWord_233 : decode cX12_readWord 233 = .ok (.getfield 134, 3) := by decide +kernel
theorem dX12_readWord_236 : decode cX12_readWord 236 = .ok (.if_icmp .ge 18, 3) := by decide +kernel
theorem dX12_readWord_239 : decode cX12_readWord 239 = .ok (.aload_n 0, 1) := by decide +kernel
theorem dX12_readWord_240 : decode cX12_readWord 240 = .ok (.getfield 20, 3) := by decide +kernel
theorem dX12_readWord_243 : decode cX12_readWord 243 = .ok (.aload_n 0, 1) := by decide +kernel
theorem dX12_readWord_244 : decode cX12_readWord 244 = .ok (.getfield 137, 3) := by decide +kernel
theorem dX12_readWord_247 : decode cX12_readWord 247 = .ok (.iaload, 1) := by decide +kernel
theorem dX12_readWord_248 : decode cX12_readWord 248 = .ok (.invokestatic 143, 3) := by decide +kernel
theorem dX12_readWord_251 : decode cX12_readWord 251 = .ok (.ifCond .ne 13, 3) := by decide +kernel
theorem dX12_readWord_254 : decode cX12_readWord 254 = .ok (.aload_n 0, 1) := by decide +kernel
theorem dX12_readWord_255 : decode cX12_readWord 255 = .ok (.aload_n 0, 1) := by decide +kernel
theorem dX12_readWord_256 : decode cX12_readWord 256 = .ok (.getfield 137, 3) := by decide +kernel
theorem dX12_readWord_259 : decode cX12_readWord 259 = .ok (.putfield 23, 3) := by decide +kernel
theorem dX12_readWord_262 : decode cX12_readWord 262 = .ok (.iconst 0, 1) := by decide +kernel
theorem dX12_readWord_263 : decode cX12_readWord 263 = .ok (.ireturn, 1) := by decide +kernel
theorem dX12_readWord_264 : decode cX12_readWord 264 = .ok (.goto (-261), 3) := by decide +kernel
theorem dX12_readWord_267 : decode cX12_readWord 267 = .ok (.iconst 1, 1) := by decide +kernel
theorem dX12_readWord_268 : decode cX12_readWord 268 = .ok (.ireturn, 1) := by decide +kernel
theorem dX12_blanks_0 : decode cX12_blanks 0 = .ok (.aload_n 0, 1) := by decide +kernel
theorem dX12_blanks_1 : decode cX12_blanks 1 = .ok (.getfield 137, 3) := by decide +kernel
theorem dX12_blanks_4 : decode cX12_blanks 4 = .ok (.aload_n 0, 1) := by decide +kernel
theorem dX12_blanks_5 : decode cX12_blanks 5 = .ok (.getfield 134, 3) := by decide +kernel
theorem dX12_blanks_8 : decode cX12_blanks 8 = .ok (.if_icmp .ge 30, 3) := by decide +kernel
theorem dX12_blanks_11 : decode cX12_blanks 11 = .ok (.aload_n 0, 1) := by decide +kernel
theorem dX12_blanks_12 : decode cX12_blanks 12 = .ok (.getfield 20, 3) := by decide +kernel
theorem dX12_blanks_15 : decode cX12_blanks 15 = .ok (.aload_n 0, 1) := by decide +kernel
theorem dX12_blanks_16 : decode cX12_blanks 16 = .ok (.getfield 137, 3) := by decide +kernel
theorem dX12_blanks_19 : decode cX12_blanks 19 = .ok (.iaload, 1) := by decide +kernel
theorem dX12_blanks_20 : decode cX12_blanks 20 = .ok (.bipush 32, 2) := by decide +kernel
theorem dX12_blanks_22 : decode cX12_blanks 22 = .ok (.if_icmp .ne 16, 3) := by decide +kernel
theorem dX12_blanks_25 : decode cX12_blanks 25 = .ok (.aload_n 0, 1) := by decide +kernel
theorem dX12_blanks_26 : decode cX12_blanks 26 = .ok (.dup, 1) := by decide +kernel
theorem dX12_blanks_27 : decode cX12_blanks 27 = .ok (.getfield 137, 3) := by decide +kernel
theorem dX12_blanks_30 : decode cX12_blanks 30 = .ok (.iconst 1, 1) := by decide +kernel
theorem dX12_blanks_31 : decode cX12_blanks 31 = .ok (.iadd, 1) := by decide +kernel
theorem dX12_blanks_32 : decode cX12_blanks 32 = .ok (.putfield 137, 3) := by decide +kernel
theorem dX12_blanks_35 : decode cX12_blanks 35 = .ok (.goto (-35), 3) := by decide +kernel
theorem dX12_blanks_38 : decode cX12_blanks 38 = .ok (.return_, 1) := by decide +kernel
theorem dX12_readStory_0 : decode cX12_readStory 0 = .ok (.aload_n 0, 1) := by decide +kernel
theorem dX12_readStory_1 : decode cX12_readStory 1 = .ok (.iconst 0, 1) := by decide +kernel
theorem dX12_readStory_2 : decode cX12_readStory 2 = .ok (.putfield 140, 3) := by decide +kernel
theorem dX12_readStory_5 : decode cX12_readStory 5 = .ok (.aload_n 0, 1) := by decide +kernel
theorem dX12_readStory_6 : decode cX12_readStory 6 = .ok (.getfield 36, 3) := by decide +kernel
theorem dX12_readStory_9 : decode cX12_readStory 9 = .ok (.iconst 0, 1) := by decide +kernel
theorem dX12_readStory_10 : decode cX12_readStory 10 = .ok (.iconst 0, 1) := by decide +kernel
theorem dX12_readStory_11 : decode cX12_readStory 11 = .ok (.iastore, 1) := by decide +kernel
theorem dX12_readStory_12 : decode cX12_readStory 12 = .ok (.aload_n 0, 1) := by decide +kernel
theorem dX12_readStory_13 : decode cX12_readStory 13 = .ok (.getfield 39, 3) := by decide +kernel
theorem dX12_readStory_16 : decode cX12_readStory 16 = .ok (.iconst 0, 1) := by decide +kernel
theorem dX12_readStory_17 : decode cX12_readStory 17 = .ok (.iconst 0, 1) := by decide +kernel
theorem dX12_readStory_18 : decode cX12_readStory 18 = .ok (.iastore, 1) := by decide +kernel
theorem dX12_readStory_19 : decode cX12_readStory 19 = .ok (.aload_n 0, 1) := by decide +kernel
theorem dX12_readStory_20 : decode cX12_readStory 20 = .ok (.invokevirtual 147, 3) := by decide +kernel
theorem dX12_readStory_23 : decode cX12_readStory 23 = .ok (.aload_n 0, 1) := by decide +kernel
theorem dX12_readStory_24 : decode cX12_readStory 24 = .ok (.getfield 137, 3) := by decide +kernel
theorem dX12_readStory_27 : decode cX12_readStory 27 = .ok (.aload_n 0, 1) := by decide +kernel
theorem dX12_readStory_28 : decode cX12_readStory 28 = .ok (.getfield 134, 3) := by decide +kernel
theorem dX12_readStory_31 : decode cX12_readStory 31 = .ok (.if_icmp .ge 225, 3) := by decide +kernel
theorem dX12_readStory_34 : decode cX12_readStory 34 = .ok (.aload_n 0, 1) := by decide +kernel
theorem dX12_readStory_35 : decode cX12_readStory 35 = .ok (.getfield 20, 3) := by decide +kernel
theorem dX12_readStory_38 : decode cX12_readStory 38 = .ok (.aload_n 0, 1) := by decide +kernel
theorem dX12_readStory_39 : decode cX12_readStory 39 = .ok (.getfield 137, 3) := by decide +kernel
theorem dX12_readStory_42 : decode cX12_readStory 42 = .ok (.iaload, 1) := by decide +kernel
theorem dX12_readStory_43 : decode cX12_readStory 43 = .ok (.istore_n 1, 1) := by decide +kernel
theorem dX12_readStory_44 : decode cX12_readStory 44 = .ok (.iload_n 1, 1) := by decide +kernel
theorem dX12_readStory_45 : decode cX12_readStory 45 = .ok (.invokestatic 143, 3) := by decide +kernel
theorem dX12_readStory_48 : decode cX12_readStory 48 = .ok (.ifCond .eq 122, 3) := by decide +kernel
theorem dX12_readStory_51 : decode cX12_readStory 51 = .ok (.aload_n 0, 1) := by decide +kernel
theorem dX12_readStory_52 : decode cX12_readStory 52 = .ok (.getfield 39, 3) := by decide +kernel
theorem dX12_readStory_55 : decode cX12_readStory 55 = .ok (.aload_n 0, 1) := by decide +kernel
theorem dX12_readStory_56 : decode cX12_readStory 56 = .ok (.getfield 140, 3) := by decide +kernel
theorem dX12_readStory_59 : decode cX12_readStory 59 = .ok (.iaload, 1) := by decide +kernel
theorem dX12_readStory_60 : decode cX12_readStory 60 = .ok (.bipush 24, 2) := by decide +kernel
theorem dX12_readStory_62 : decode cX12_readStory 62 = .ok (.if_icmp .ne 13, 3) := by decide +kernel
theorem dX12_readStory_65 : decode cX12_readStory 65 = .ok (.aload_n 0, 1) := by decide +kernel
theorem dX12_readStory_66 : decode cX12_readStory 66 = .ok (.aload_n 0, 1) := by decide +kernel
theorem dX12_readStory_67 : decode cX12_readStory 67 = .ok (.getfield 137, 3) := by decide +kernel
theorem dX12_readStory_70 : decode cX12_readStory 70 = .ok (.putfield 23, 3) := by decide +kernel
theorem dX12_readStory_73 : decode cX12_readStory 73 = .ok (.iconst 0, 1) := by decide +kernel
theorem dX12_readStory_74 : decode cX12_readStory 74 = .ok (.ireturn, 1) := by decide +kernel
theorem dX12_readStory_75 : decode cX12_readStory 75 = .ok (.aload_n 0, 1) := by decide +kernel
theorem dX12_readStory_76 : decode cX12_readStory 76 = .ok (.bipush 40, 2) := by decide +kernel
theorem dX12_readStory_78 : decode cX12_readStory 78 = .ok (.aload_n 0, 1) := by decide +kernel
theorem dX12_readStory_79 : decode cX12_readStory 79 = .ok (.getfield 140, 3) := by decide +kernel
theorem dX12_readStory_82 : decode cX12_readStory 82 = .ok (.imul, 1) := by decide +kernel
theorem dX12_readStory_83 : decode cX12_readStory 83 = .ok (.aload_n 0, 1) := by decide +kernel
theorem dX12_readStory_84 : decode cX12_readStory 84 = .ok (.getfield 39, 3) := by decide +kernel
theorem dX12_readStory_87 : decode cX12_readStory 87 = .ok (.aload_n 0, 1) := by decide +kernel
theorem dX12_readStory_88 : decode cX12_readStory 88 = .ok (.getfield 140, 3) := by decide +kernel
theorem dX12_readStory_91 : decode cX12_readStory 91 = .ok (.iaload, 1) := by decide +kernel
theorem dX12_readStory_92 : decode cX12_readStory 92 = .ok (.iconst 0, 1) := by decide +kernel
theorem dX12_readStory_93 : decode cX12_readStory 93 = .ok (.invokevirtual 150, 3) := by decide +kernel
theorem dX12_readStory_96 : decode cX12_readStory 96 = .ok (.ifCond .ne 5, 3) := by decide +kernel
theorem dX12_readStory_99 : decode cX12_readStory 99 = .ok (.iconst 0, 1) := by decide +kernel
theorem dX12_readStory_100 : decode cX12_readStory 100 = .ok (.ireturn, 1) := by decide +kernel
theorem dX12_readStory_101 : decode cX12_readStory 101 = .ok (.aload_n 0, 1) := by decide +kernel
theorem dX12_readStory_102 : decode cX12_readStory 102 = .ok (.getfield 39, 3) := by decide +kernel
theorem dX12_readStory_105 : decode cX12_readStory 105 = .ok (.aload_n 0, 1) := by decide +kernel
theorem dX12_readStory_106 : decode cX12_readStory 106 = .ok (.getfield 140, 3) := by decide +kernel
theorem dX12_readStory_109 : decode cX12_readStory 109 = .ok (.dup2, 1) := by decide +kernel
theorem dX12_readStory_110 : decode cX12_readStory 110 = .ok (.iaload, 1) := by decide +kernel
theorem dX12_readStory_111 : decode cX12_readStory 111 = .ok (.iconst 1, 1) := by decide +kernel
theorem dX12_readStory_112 : decode cX12_readStory 112 = .ok (.iadd, 1) := by decide +kernel
theorem dX12_readStory_113 : decode cX12_readStory 113 = .ok (.iastore, 1) := by decide +kernel
theorem dX12_readStory_114 : decode cX12_readStory 114 = .ok (.aload_n 0, 1) := by decide +kernel
theorem dX12_readStory_115 : decode cX12_readStory 115 = .ok (.getfield 137, 3) := by decide +kernel
theorem dX12_readStory_118 : decode cX12_readStory 118 = .ok (.aload_n 0, 1) := by decide +kernel
theorem dX12_readStory_119 : decode cX12_readStory 119 = .ok (.getfield 134, 3) := by decide +kernel
theorem dX12_readStory_122 : decode cX12_readStory 122 = .ok (.if_icmp .ge 41, 3) := by decide +kernel
theorem dX12_readStory_125 : decode cX12_readStory 125 = .ok (.aload_n 0, 1) := by decide +kernel
theorem dX12_readStory_126 : decode cX12_readStory 126 = .ok (.getfield 20, 3) := by decide +kernel
theorem dX12_readStory_129 : decode cX12_readStory 129 = .ok (.aload_n 0, 1) := by decide +kernel
theorem dX12_readStory_130 : decode cX12_readStory 130 = .ok (.getfield 137, 3) := by decide +kernel
theorem dX12_readStory_133 : decode cX12_readStory 133 = .ok (.iaload, 1) := by decide +kernel
theorem dX12_readStory_134 : decode cX12_readStory 134 = .ok (.bipush 32, 2) := by decide +kernel
theorem dX12_readStory_136 : decode cX12_readStory 136 = .ok (.if_icmp .eq 27, 3) := by decide +kernel
theorem dX12_readStory_139 : decode cX12_readStory 139 = .ok (.aload_n 0, 1) := by decide +kernel
theorem dX12_readStory_140 : decode cX12_readStory 140 = .ok (.getfield 20, 3) := by decide +kernel
theorem dX12_readStory_143 : decode cX12_readStory 143 = .ok (.aload_n 0, 1) := by decide +kernel
theorem dX12_readStory_144 : decode cX12_readStory 144 = .ok (.getfield 137, 3) := by decide +kernel
theorem dX12_readStory_147 : decode cX12_readStory 147 = .ok (.iaload, 1) := by decide +kernel
theorem dX12_readStory_148 : decode cX12_readStory 148 = .ok (.bipush 47, 2) := by decide +kernel
theorem dX12_readStory_150 : decode cX12_readStory 150 = .ok (.if_icmp .eq 13, 3) := by decide +kernel
theorem dX12_readStory_153 : decode cX12_readStory 153 = .ok (.aload_n 0, 1) := by decide +kernel
theorem dX12_readStory_154 : decode cX12_readStory 154 = .ok (.aload_n 0, 1) := by decide +kernel
theorem dX12_readStory_155 : decode cX12_readStory 155 = .ok (.getfield 137, 3) := by decide +kernel
theorem dX12_readStory_158 : decode cX12_readStory 158 = .ok (.putfield 23, 3) := by decide +kernel
theorem dX12_readStory_161 : decode cX12_readStory 161 = .ok (.iconst 0, 1) := by decide +kernel
theorem dX12_readStory_162 : decode cX12_readStory 162 = .ok (.ireturn, 1) := by decide +kernel
theorem dX12_readStory_163 : decode cX12_readStory 163 = .ok (.aload_n 0, 1) := by decide +kernel
theorem dX12_readStory_164 : decode cX12_readStory 164 = .ok (.invokevirtual 147, 3) := by decide +kernel
theorem dX12_readStory_167 : decode cX12_readStory 167 = .ok (.goto 86, 3) := by decide +kernel
theorem dX12_readStory_170 : decode cX12_readStory 170 = .ok (.iload_n 1, 1) := by decide +kernel
theorem dX12_readStory_171 : decode cX12_readStory 171 = .ok (.bipush 47, 2) := by decide +kernel
theorem dX12_readStory_173 : decode cX12_readStory 173 = .ok (.if_icmp .ne 70, 3) := by decide +kernel
theorem dX12_readStory_176 : decode cX12_readStory 176 = .ok (.aload_n 0, 1) := by decide +kernel
theorem dX12_readStory_177 : decode cX12_readStory 177 = .ok (.getfield 39, 3) := by decide +kernel
theorem dX12_readStory_180 : decode cX12_readStory 180 = .ok (.aload_n 0, 1) := by decide +kernel
theorem dX12_readStory_181 : decode cX12_readStory 181 = .ok (.getfield 140, 3) := by decide +kernel
theorem dX12_readStory_184 : decode cX12_readStory 184 = .ok (.iaload, 1) := by decide +kernel
theorem dX12_readStory_185 : decode cX12_readStory 185 = .ok (.ifCond .le 58, 3) := by decide +kernel
theorem dX12_readStory_188 : decode cX12_readStory 188 = .ok (.aload_n 0, 1) := by decide +kernel
theorem dX12_readStory_189 : decode cX12_readStory 189 = .ok (.getfield 140, 3) := by decide +kernel
theorem dX12_readStory_192 : decode cX12_readStory 192 = .ok (.iconst 4, 1) := by decide +kernel
theorem dX12_readStory_193 : decode cX12_readStory 193 = .ok (.if_icmp .ge 50, 3) := by decide +kernel
theorem dX12_readStory_196 : decode cX12_readStory 196 = .ok (.aload_n 0, 1) := by decide +kernel
theorem dX12_readStory_197 : decode cX12_readStory 197 = .ok (.dup, 1) := by decide +kernel
theorem dX12_readStory_198 : decode cX12_readStory 198 = .ok (.getfield 140, 3) := by decide +kernel
theorem dX12_readStory_201 : decode cX12_readStory 201 = .ok (.iconst 1, 1) := by decide +kernel
theorem dX12_readStory_202 : decode cX12_readStory 202 = .ok (.iadd, 1) := by decide +kernel
theorem dX12_readStory_203 : decode cX12_readStory 203 = .ok (.putfield 140, 3) := by decide +kernel
theorem dX12_readStory_206 : decode cX12_readStory 206 = .ok (.aload_n 0, 1) := by decide +kernel
theorem dX12_readStory_207 : decode cX12_readStory 207 = .ok (.getfield 36, 3) := by decide +kernel
theorem dX12_readStory_210 : decode cX12_readStory 210 = .ok (.aload_n 0, 1) := by decide +kernel
theorem dX12_readStory_211 : decode cX12_readStory 211 = .ok (.getfield 140, 3) := by decide +kernel
theorem dX12_readStory_214 : decode cX12_readStory 214 = .ok (.iconst 0, 1) := by decide +kernel
theorem dX12_readStory_215 : decode cX12_readStory 215 = .ok (.iastore, 1) := by decide +kernel
theorem dX12_readStory_216 : decode cX12_readStory 216 = .ok (.aload_n 0, 1) := by decide +kernel
theorem dX12_readStory_217 : decode cX12_readStory 217 = .ok (.getfield 39, 3) := by decide +kernel
theorem dX12_readStory_220 : decode cX12_readStory 220 = .ok (.aload_n 0, 1) := by decide +kernel
theorem dX12_readStory_221 : decode cX12_readStory 221 = .ok (.getfield 140, 3) := by decide +kernel
theorem dX12_readStory_224 : decode cX12_readStory 224 = .ok (.iconst 0, 1) := by decide +kernel
theorem dX12_readStory_225 : decode cX12_readStory 225 = .ok (.iastore, 1) := by decide +kernel
theorem dX12_readStory_226 : decode cX12_readStory 226 = .ok (.aload_n 0, 1) := by decide +kernel
theorem dX12_readStory_227 : decode cX12_readStory 227 = .ok (.dup, 1) := by decide +kernel
theorem dX12_readStory_228 : decode cX12_readStory 228 = .ok (.getfield 137, 3) := by decide +kernel
theorem dX12_readStory_231 : decode cX12_readStory 231 = .ok (.iconst 1, 1) := by decide +kernel
theorem dX12_readStory_232 : decode cX12_readStory 232 = .ok (.iadd, 1) := by decide +kernel
theorem dX12_readStory_233 : decode cX12_readStory 233 = .ok (.putfield 137, 3) := by decide +kernel
theorem dX12_readStory_236 : decode cX12_readStory 236 = .ok (.aload_n 0, 1) := by decide +kernel
theorem dX12_readStory_237 : decode cX12_readStory 237 = .ok (.invokevirtual 147, 3) := by decide +kernel
theorem dX12_readStory_240 : decode cX12_readStory 240 = .ok (.goto 13, 3) := by decide +kernel
theorem dX12_readStory_243 : decode cX12_readStory 243 = .ok (.aload_n 0, 1) := by decide +kernel
theorem dX12_readStory_244 : decode cX12_readStory 244 = .ok (.aload_n 0, 1) := by decide +kernel
theorem dX12_readStory_245 : decode cX12_readStory 245 = .ok (.getfield 137, 3) := by decide +kernel
theorem dX12_readStory_248 : decode cX12_readStory 248 = .ok (.putfield 23, 3) := by decide +kernel
theorem dX12_readStory_251 : decode cX12_readStory 251 = .ok (.iconst 0, 1) := by decide +kernel
theorem dX12_readStory_252 : decode cX12_readStory 252 = .ok (.ireturn, 1) := by decide +kernel
theorem dX12_readStory_253 : decode cX12_readStory 253 = .ok (.goto (-230), 3) := by decide +kernel
theorem dX12_readStory_256 : decode cX12_readStory 256 = .ok (.aload_n 0, 1) := by decide +kernel
theorem dX12_readStory_257 : decode cX12_readStory 257 = .ok (.getfield 39, 3) := by decide +kernel
theorem dX12_readStory_260 : decode cX12_readStory 260 = .ok (.aload_n 0, 1) := by decide +kernel
theorem dX12_readStory_261 : decode cX12_readStory 261 = .ok (.getfield 140, 3) := by decide +kernel
theorem dX12_readStory_264 : decode cX12_readStory 264 = .ok (.iaload, 1) := by decide +kernel
theorem dX12_readStory_265 : decode cX12_readStory 265 = .ok (.ifCond .ne 11, 3) := by decide +kernel
theorem dX12_readStory_268 : decode cX12_readStory 268 = .ok (.aload_n 0, 1) := by decide +kernel
theorem dX12_readStory_269 : decode cX12_readStory 269 = .ok (.aload_n 0, 1) := by decide +kernel
theorem dX12_readStory_270 : decode cX12_readStory 270 = .ok (.getfield 134, 3) := by decide +kernel
theorem dX12_readStory_273 : decode cX12_readStory 273 = .ok (.putfield 23, 3) := by decide +kernel
theorem dX12_readStory_276 : decode cX12_readStory 276 = .ok (.aload_n 0, 1) := by decide +kernel
theorem dX12_readStory_277 : decode cX12_readStory 277 = .ok (.getfield 23, 3) := by decide +kernel
theorem dX12_readStory_280 : decode cX12_readStory 280 = .ok (.iconst (-1), 1) := by decide +kernel
theorem dX12_readStory_281 : decode cX12_readStory 281 = .ok (.if_icmp .ne 7, 3) := by decide +kernel
theorem dX12_readStory_284 : decode cX12_readStory 284 = .ok (.iconst 1, 1) := by decide +kernel
theorem dX12_readStory_285 : decode cX12_readStory 285 = .ok (.goto 4, 3) := by decide +kernel
theorem dX12_readStory_288 : decode cX12_readStory 288 = .ok (.iconst 0, 1) := by decide +kernel
theorem dX12_readStory_289 : decode cX12_readStory 289 = .ok (.ireturn, 1) := by decide +kernel
theorem dX12_story_0 : decode cX12_story 0 = .ok (.aload_n 0, 1) := by decide +kernel
theorem dX12_story_1 : decode cX12_story 1 = .ok (.invokevirtual 154, 3) := by decide +kernel
theorem dX12_story_4 : decode cX12_story 4 = .ok (.aload_n 0, 1) := by decide +kernel
theorem dX12_story_5 : decode cX12_story 5 = .ok (.iload_n 1, 1) := by decide +kernel
theorem dX12_story_6 : decode cX12_story 6 = .ok (.iconst 0, 1) := by decide +kernel
theorem dX12_story_7 : decode cX12_story 7 = .ok (.iconst 1, 1) := by decide +kernel
theorem dX12_story_8 : decode cX12_story 8 = .ok (.invokestatic 157, 3) := by decide +kernel
theorem dX12_story_11 : decode cX12_story 11 = .ok (.ifCond .ne 7, 3) := by decide +kernel
theorem dX12_story_14 : decode cX12_story 14 = .ok (.iconst 1, 1) := by decide +kernel
theorem dX12_story_15 : decode cX12_story 15 = .ok (.goto 19, 3) := by decide +kernel
theorem dX12_story_18 : decode cX12_story 18 = .ok (.iload_n 2, 1) := by decide +kernel
theorem dX12_story_19 : decode cX12_story 19 = .ok (.iconst 0, 1) := by decide +kernel
theorem dX12_story_20 : decode cX12_story 20 = .ok (.sipush 600, 3) := by decide +kernel
theorem dX12_story_23 : decode cX12_story 23 = .ok (.invokestatic 157, 3) := by decide +kernel
theorem dX12_story_26 : decode cX12_story 26 = .ok (.ifCond .ne 7, 3) := by decide +kernel
theorem dX12_story_29 : decode cX12_story 29 = .ok (.iconst 2, 1) := by decide +kernel
theorem dX12_story_30 : decode cX12_story 30 = .ok (.goto 4, 3) := by decide +kernel
theorem dX12_story_33 : decode cX12_story 33 = .ok (.iconst 0, 1) := by decide +kernel
theorem dX12_story_34 : decode cX12_story 34 = .ok (.putfield 122, 3) := by decide +kernel
theorem dX12_story_37 : decode cX12_story 37 = .ok (.aload_n 0, 1) := by decide +kernel
theorem dX12_story_38 : decode cX12_story 38 = .ok (.getfield 122, 3) := by decide +kernel
theorem dX12_story_41 : decode cX12_story 41 = .ok (.ifCond .le 5, 3) := by decide +kernel
theorem dX12_story_44 : decode cX12_story 44 = .ok (.iconst 0, 1) := by decide +kernel
theorem dX12_story_45 : decode cX12_story 45 = .ok (.ireturn, 1) := by decide +kernel
theorem dX12_story_46 : decode cX12_story 46 = .ok (.aload_n 0, 1) := by decide +kernel
theorem dX12_story_47 : decode cX12_story 47 = .ok (.iconst (-1), 1) := by decide +kernel
theorem dX12_story_48 : decode cX12_story 48 = .ok (.putfield 23, 3) := by decide +kernel
theorem dX12_story_51 : decode cX12_story 51 = .ok (.aload_n 0, 1) := by decide +kernel
theorem dX12_story_52 : decode cX12_story 52 = .ok (.invokevirtual 160, 3) := by decide +kernel
theorem dX12_story_55 : decode cX12_story 55 = .ok (.ifCond .ne 11, 3) := by decide +kernel
theorem dX12_story_58 : decode cX12_story 58 = .ok (.aload_n 0, 1) := by decide +kernel
theorem dX12_story_59 : decode cX12_story 59 = .ok (.iconst 2, 1) := by decide +kernel
theorem dX12_story_60 : decode cX12_story 60 = .ok (.putfield 122, 3) := by decide +kernel
theorem dX12_story_63 : decode cX12_story 63 = .ok (.goto 19, 3) := by decide +kernel
theorem dX12_story_66 : decode cX12_story 66 = .ok (.aload_n 0, 1) := by decide +kernel
theorem dX12_story_67 : decode cX12_story 67 = .ok (.getfield 8, 3) := by decide +kernel
theorem dX12_story_70 : decode cX12_story 70 = .ok (.iconst 1, 1) := by decide +kernel
theorem dX12_story_71 : decode cX12_story 71 = .ok (.iaload, 1) := by decide +kernel
theorem dX12_story_72 : decode cX12_story 72 = .ok (.bipush 20, 2) := by decide +kernel
theorem dX12_story_74 : decode cX12_story 74 = .ok (.if_icmp .ne 8, 3) := by decide +kernel
theorem dX12_story_77 : decode cX12_story 77 = .ok (.aload_n 0, 1) := by decide +kernel
theorem dX12_story_78 : decode cX12_story 78 = .ok (.iconst 3, 1) := by decide +kernel
theorem dX12_story_79 : decode cX12_story 79 = .ok (.putfield 122, 3) := by decide +kernel
theorem dX12_story_82 : decode cX12_story 82 = .ok (.aload_n 0, 1) := by decide +kernel
theorem dX12_story_83 : decode cX12_story 83 = .ok (.getfield 122, 3) := by decide +kernel
theorem dX12_story_86 : decode cX12_story 86 = .ok (.ifCond .le 5, 3) := by decide +kernel
theorem dX12_story_89 : decode cX12_story 89 = .ok (.iconst 0, 1) := by decide +kernel
theorem dX12_story_90 : decode cX12_story 90 = .ok (.ireturn, 1) := by decide +kernel
theorem dX12_story_91 : decode cX12_story 91 = .ok (.aload_n 0, 1) := by decide +kernel
theorem dX12_story_92 : decode cX12_story 92 = .ok (.getfield 8, 3) := by decide +kernel
theorem dX12_story_95 : decode cX12_story 95 = .ok (.iconst 1, 1) := by decide +kernel
theorem dX12_story_96 : decode cX12_story 96 = .ok (.iaload, 1) := by decide +kernel
theorem dX12_story_97 : decode cX12_story 97 = .ok (.istore_n 3, 1) := by decide +kernel
theorem dX12_story_98 : decode cX12_story 98 = .ok (.aload_n 0, 1) := by decide +kernel
theorem dX12_story_99 : decode cX12_story 99 = .ok (.getfield 8, 3) := by decide +kernel
theorem dX12_story_102 : decode cX12_story 102 = .ok (.bipush 70, 2) := by decide +kernel
theorem dX12_story_104 : decode cX12_story 104 = .ok (.iload_n 3, 1) := by decide +kernel
theorem dX12_story_105 : decode cX12_story 105 = .ok (.iadd, 1) := by decide +kernel
theorem dX12_story_106 : decode cX12_story 106 = .ok (.iload_n 1, 1) := by decide +kernel
theorem dX12_story_107 : decode cX12_story 107 = .ok (.iastore, 1) := by decide +kernel
theorem dX12_story_108 : decode cX12_story 108 = .ok (.aload_n 0, 1) := by decide +kernel
theorem dX12_story_109 : decode cX12_story 109 = .ok (.getfield 8, 3) := by decide +kernel
theorem dX12_story_112 : decode cX12_story 112 = .ok (.bipush 90, 2) := by decide +kernel
theorem dX12_story_114 : decode cX12_story 114 = .ok (.iload_n 3, 1) := by decide +kernel
theorem dX12_story_115 : decode cX12_story 115 = .ok (.iadd, 1) := by decide +kernel
theorem dX12_story_116 : decode cX12_story 116 = .ok (.iload_n 2, 1) := by decide +kernel
theorem dX12_story_117 : decode cX12_story 117 = .ok (.iastore, 1) := by decide +kernel
theorem dX12_story_118 : decode cX12_story 118 = .ok (.aload_n 0, 1) := by decide +kernel
theorem dX12_story_119 : decode cX12_story 119 = .ok (.getfield 8, 3) := by decide +kernel
theorem dX12_story_122 : decode cX12_story 122 = .ok (.bipush 110, 2) := by decide +kernel
theorem dX12_story_124 : decode cX12_story 124 = .ok (.iload_n 3, 1) := by decide +kernel
theorem dX12_story_125 : decode cX12_story 125 = .ok (.iadd, 1) := by decide +kernel
theorem dX12_story_126 : decode cX12_story 126 = .ok (.aload_n 0, 1) := by decide +kernel
theorem dX12_story_127 : decode cX12_story 127 = .ok (.getfield 140, 3) := by decide +kernel
theorem dX12_story_130 : decode cX12_story 130 = .ok (.iconst 1, 1) := by decide +kernel
theorem dX12_story_131 : decode cX12_story 131 = .ok (.iadd, 1) := by decide +kernel
theorem dX12_story_132 : decode cX12_story 132 = .ok (.iastore, 1) := by decide +kernel
theorem dX12_story_133 : decode cX12_story 133 = .ok (.iconst 0, 1) := by decide +kernel
theorem dX12_story_134 : decode cX12_story 134 = .ok (.istore 4, 2) := by decide +kernel
theorem dX12_story_136 : decode cX12_story 136 = .ok (.iload 4, 2) := by decide +kernel
theorem dX12_story_138 : decode cX12_story 138 = .ok (.aload_n 0, 1) := by decide +kernel
theorem dX12_story_139 : decode cX12_story 139 = .ok (.getfield 140, 3) := by decide +kernel
theorem dX12_story_142 : decode cX12_story 142 = .ok (.if_icmp .gt 180, 3) := by decide +kernel
theorem dX12_story_145 : decode cX12_story 145 = .ok (.iconst 5, 1) := by decide +kernel
theorem dX12_story_146 : decode cX12_story 146 = .ok (.iload_n 3, 1) := by decide +kernel
theorem dX12_story_147 : decode cX12_story 147 = .ok (.imul, 1) := by decide +kernel
theorem dX12_story_148 : decode cX12_story 148 = .ok (.iload 4, 2) := by decide +kernel
theorem dX12_story_150 : decode cX12_story 150 = .ok (.iadd, 1) := by decide +kernel
theorem dX12_story_151 : decode cX12_story 151 = .ok (.invokestatic 164, 3) := by decide +kernel
theorem dX12_story_154 : decode cX12_story 154 = .ok (.istore 5, 2) := by decide +kernel
theorem dX12_story_156 : decode cX12_story 156 = .ok (.aload_n 0, 1) := by decide +kernel
theorem dX12_story_157 : decode cX12_story 157 = .ok (.getfield 8, 3) := by decide +kernel
theorem dX12_story_160 : decode cX12_story 160 = .ok (.iload 5, 2) := by decide +kernel
theorem dX12_story_162 : decode cX12_story 162 = .ok (.iconst 0, 1) := by decide +kernel
theorem dX12_story_163 : decode cX12_story 163 = .ok (.iadd, 1) := by decide +kernel
theorem dX12_story_164 : decode cX12_story 164 = .ok (.aload_n 0, 1) := by decide +kernel
theorem dX12_story_165 : decode cX12_story 165 = .ok (.getfield 39, 3) := by decide +kernel
theorem dX12_story_168 : decode cX12_story 168 = .ok (.iload 4, 2) := by decide +kernel
theorem dX12_story_170 : decode cX12_story 170 = .ok (.iaload, 1) := by decide +kernel
theorem dX12_story_171 : decode cX12_story 171 = .ok (.iastore, 1) := by decide +kernel
theorem dX12_story_172 : decode cX12_story 172 = .ok (.aload_n 0, 1) := by decide +kernel
theorem dX12_story_173 : decode cX12_story 173 = .ok (.getfield 8, 3) := by decide +kernel
theorem dX12_story_176 : decode cX12_story 176 = .ok (.iload 5, 2) := by decide +kernel
theorem dX12_story_178 : decode cX12_story 178 = .ok (.iconst 1, 1) := by decide +kernel
theorem dX12_story_179 : decode cX12_story 179 = .ok (.iadd, 1) := by decide +kernel
theorem dX12_story_180 : decode cX12_story 180 = .ok (.aload_n 0, 1) := by decide +kernel
theorem dX12_story_181 : decode cX12_story 181 = .ok (.getfield 36, 3) := by decide +kernel
theorem dX12_story_184 : decode cX12_story 184 = .ok (.iload 4, 2) := by decide +kernel
theorem dX12_story_186 : decode cX12_story 186 = .ok (.iaload, 1) := by decide +kernel
theorem dX12_story_187 : decode cX12_story 187 = .ok (.iastore, 1) := by decide +kernel
theorem dX12_story_188 : decode cX12_story 188 = .ok (.iconst 0, 1) := by decide +kernel
theorem dX12_story_189 : decode cX12_story 189 = .ok (.istore 6, 2) := by decide +kernel
theorem dX12_story_191 : decode cX12_story 191 = .ok (.iload 6, 2) := by decide +kernel
theorem dX12_story_193 : decode cX12_story 193 = .ok (.aload_n 0, 1) := by decide +kernel
theorem dX12_story_194 : decode cX12_story 194 = .ok (.getfield 36, 3) := by decide +kernel
theorem dX12_story_197 : decode cX12_story 197 = .ok (.iload 4, 2) := by decide +kernel
theorem dX12_story_199 : decode cX12_story 199 = .ok (.iaload, 1) := by decide +kernel
theorem dX12_story_200 : decode cX12_story 200 = .ok (.if_icmp .ge 116, 3) := by decide +kernel
theorem dX12_story_203 : decode cX12_story 203 = .ok (.aload_n 0, 1) := by decide +kernel
theorem dX12_story_204 : decode cX12_story 204 = .ok (.getfield 8, 3) := by decide +kernel
theorem dX12_story_207 : decode cX12_story 207 = .ok (.iload 5, 2) := by decide +kernel
theorem dX12_story_209 : decode cX12_story 209 = .ok (.bipush 85, 2) := by decide +kernel
theorem dX12_story_211 : decode cX12_story 211 = .ok (.iadd, 1) := by decide +kernel
theorem dX12_story_212 : decode cX12_story 212 = .ok (.iload 6, 2) := by decide +kernel
theorem dX12_story_214 : decode cX12_story 214 = .ok (.iadd, 1) := by decide +kernel
theorem dX12_story_215 : decode cX12_story 215 = .ok (.aload_n 0, 1) := by decide +kernel
theorem dX12_story_216 : decode cX12_story 216 = .ok (.getfield 27, 3) := by decide +kernel
theorem dX12_story_219 : decode cX12_story 219 = .ok (.bipush 40, 2) := by decide +kernel
theorem dX12_story_221 : decode cX12_story 221 = .ok (.iload 4, 2) := by decide +kernel
theorem dX12_story_223 : decode cX12_story 223 = .ok (.imul, 1) := by decide +kernel
theorem dX12_story_224 : decode cX12_story 224 = .ok (.iload 6, 2) := by decide +kernel
theorem dX12_story_226 : decode cX12_story 226 = .ok (.iadd, 1) := by decide +kernel
theorem dX12_story_227 : decode cX12_story 227 = .ok (.iaload, 1) := by decide +kernel
theorem dX12_story_228 : decode cX12_story 228 = .ok (.iastore, 1) := by decide +kernel
theorem dX12_story_229 : decode cX12_story 229 = .ok (.aload_n 0, 1) := by decide +kernel
theorem dX12_story_230 : decode cX12_story 230 = .ok (.getfield 8, 3) := by decide +kernel
theorem dX12_story_233 : decode cX12_story 233 = .ok (.iload 5, 2) := by decide +kernel
theorem dX12_story_235 : decode cX12_story 235 = .ok (.bipush 125, 2) := by decide +kernel
theorem dX12_story_237 : decode cX12_story 237 = .ok (.iadd, 1) := by decide +kernel
theorem dX12_story_238 : decode cX12_story 238 = .ok (.iload 6, 2) := by decide +kernel
theorem dX12_story_240 : decode cX12_story 240 = .ok (.iadd, 1) := by decide +kernel
theorem dX12_story_241 : decode cX12_story 241 = .ok (.aload_n 0, 1) := by decide +kernel
theorem dX12_story_242 : decode cX12_story 242 = .ok (.getfield 30, 3) := by decide +kernel
theorem dX12_story_245 : decode cX12_story 245 = .ok (.bipush 40, 2) := by decide +kernel
theorem dX12_story_247 : decode cX12_story 247 = .ok (.iload 4, 2) := by decide +kernel
theorem dX12_story_249 : decode cX12_story 249 = .ok (.imul, 1) := by decide +kernel
theorem dX12_story_250 : decode cX12_story 250 = .ok (.iload 6, 2) := by decide +kernel
theorem dX12_story_252 : decode cX12_story 252 = .ok (.iadd, 1) := by decide +kernel
theorem dX12_story_253 : decode cX12_story 253 = .ok (.iaload, 1) := by decide +kernel
theorem dX12_story_254 : decode cX12_story 254 = .ok (.iastore, 1) := by decide +kernel
theorem dX12_story_255 : decode cX12_story 255 = .ok (.iconst 0, 1) := by decide +kernel
theorem dX12_story_256 : decode cX12_story 256 = .ok (.istore 7, 2) := by decide +kernel
theorem dX12_story_258 : decode cX12_story 258 = .ok (.iload 7, 2) := by decide +kernel
theorem dX12_story_260 : decode cX12_story 260 = .ok (.bipush 12, 2) := by decide +kernel
theorem dX12_story_262 : decode cX12_story 262 = .ok (.if_icmp .ge 48, 3) := by decide +kernel
theorem dX12_story_265 : decode cX12_story 265 = .ok (.aload_n 0, 1) := by decide +kernel
theorem dX12_story_266 : decode cX12_story 266 = .ok (.getfield 8, 3) := by decide +kernel
theorem dX12_story_269 : decode cX12_story 269 = .ok (.iload 5, 2) := by decide +kernel
theorem dX12_story_271 : decode cX12_story 271 = .ok (.sipush 165, 3) := by decide +kernel
theorem dX12_story_274 : decode cX12_story 274 = .ok (.iadd, 1) := by decide +kernel
theorem dX12_story_275 : decode cX12_story 275 = .ok (.bipush 12, 2) := by decide +kernel
theorem dX12_story_277 : decode cX12_story 277 = .ok (.iload 6, 2) := by decide +kernel
theorem dX12_story_279 : decode cX12_story 279 = .ok (.imul, 1) := by decide +kernel
theorem dX12_story_280 : decode cX12_story 280 = .ok (.iadd, 1) := by decide +kernel
theorem dX12_story_281 : decode cX12_story 281 = .ok (.iload 7, 2) := by decide +kernel
theorem dX12_story_283 : decode cX12_story 283 = .ok (.iadd, 1) := by decide +kernel
theorem dX12_story_284 : decode cX12_story 284 = .ok (.aload_n 0, 1) := by decide +kernel
theorem dX12_story_285 : decode cX12_story 285 = .ok (.getfield 33, 3) := by decide +kernel
theorem dX12_story_288 : decode cX12_story 288 = .ok (.bipush 12, 2) := by decide +kernel
theorem dX12_story_290 : decode cX12_story 290 = .ok (.bipush 40, 2) := by decide +kernel
theorem dX12_story_292 : decode cX12_story 292 = .ok (.iload 4, 2) := by decide +kernel
theorem dX12_story_294 : decode cX12_story 294 = .ok (.imul, 1) := by decide +kernel
theorem dX12_story_295 : decode cX12_story 295 = .ok (.iload 6, 2) := by decide +kernel
theorem dX12_story_297 : decode cX12_story 297 = .ok (.iadd, 1) := by decide +kernel
theorem dX12_story_298 : decode cX12_story 298 = .ok (.imul, 1) := by decide +kernel
theorem dX12_story_299 : decode cX12_story 299 = .ok (.iload 7, 2) := by decide +kernel
theorem dX12_story_301 : decode cX12_story 301 = .ok (.iadd, 1) := by decide +kernel
theorem dX12_story_302 : decode cX12_story 302 = .ok (.iaload, 1) := by decide +kernel
theorem dX12_story_303 : decode cX12_story 303 = .ok (.iastore, 1) := by decide +kernel
theorem dX12_story_304 : decode cX12_story 304 = .ok (.iinc 7 1, 3) := by decide +kernel
theorem dX12_story_307 : decode cX12_story 307 = .ok (.goto (-49), 3) := by decide +kernel
theorem dX12_story_310 : decode cX12_story 310 = .ok (.iinc 6 1, 3) := by decide +kernel
theorem dX12_story_313 : decode cX12_story 313 = .ok (.goto (-122), 3) := by decide +kernel
theorem dX12_story_316 : decode cX12_story 316 = .ok (.iinc 4 1, 3) := by decide +kernel
theorem dX12_story_319 : decode cX12_story 319 = .ok (.goto (-183), 3) := by decide +kernel
theorem dX12_story_322 : decode cX12_story 322 = .ok (.aload_n 0, 1) := by decide +kernel
theorem dX12_story_323 : decode cX12_story 323 = .ok (.getfield 8, 3) := by decide +kernel
theorem dX12_story_326 : decode cX12_story 326 = .ok (.iconst 1, 1) := by decide +kernel
theorem dX12_story_327 : decode cX12_story 327 = .ok (.dup2, 1) := by decide +kernel
theorem dX12_story_328 : decode cX12_story 328 = .ok (.iaload, 1) := by decide +kernel
theorem dX12_story_329 : decode cX12_story 329 = .ok (.iconst 1, 1) := by decide +kernel
theorem dX12_story_330 : decode cX12_story 330 = .ok (.iadd, 1) := by decide +kernel
theorem dX12_story_331 : decode cX12_story 331 = .ok (.iastore, 1) := by decide +kernel
theorem dX12_story_332 : decode cX12_story 332 = .ok (.iload_n 3, 1) := by decide +kernel
theorem dX12_story_333 : decode cX12_story 333 = .ok (.ireturn, 1) := by decide +kernel
theorem dX12_width_0 : decode cX12_width 0 = .ok (.aload_n 0, 1) := by decide +kernel
theorem dX12_width_1 : decode cX12_width 1 = .ok (.iload_n 1, 1) := by decide +kernel
theorem dX12_width_2 : decode cX12_width 2 = .ok (.iconst 0, 1) := by decide +kernel
theorem dX12_width_3 : decode cX12_width 3 = .ok (.iconst 1, 1) := by decide +kernel
theorem dX12_width_4 : decode cX12_width 4 = .ok (.invokestatic 157, 3) := by decide +kernel
theorem dX12_width_7 : decode cX12_width 7 = .ok (.ifCond .eq 13, 3) := by decide +kernel
theorem dX12_width_10 : decode cX12_width 10 = .ok (.iload_n 2, 1) := by decide +kernel
theorem dX12_width_11 : decode cX12_width 11 = .ok (.iconst 0, 1) := by decide +kernel
theorem dX12_width_12 : decode cX12_width 12 = .ok (.bipush 26, 2) := by decide +kernel
theorem dX12_width_14 : decode cX12_width 14 = .ok (.invokestatic 157, 3) := by decide +kernel
theorem dX12_width_17 : decode cX12_width 17 = .ok (.ifCond .ne 7, 3) := by decide +kernel
theorem dX12_width_20 : decode cX12_width 20 = .ok (.iconst 1, 1) := by decide +kernel
theorem dX12_width_21 : decode cX12_width 21 = .ok (.goto 18, 3) := by decide +kernel
theorem dX12_width_24 : decode cX12_width 24 = .ok (.iload_n 3, 1) := by decide +kernel
theorem dX12_width_25 : decode cX12_width 25 = .ok (.iconst 1, 1) := by decide +kernel
theorem dX12_width_26 : decode cX12_width 26 = .ok (.bipush 20, 2) := by decide +kernel
theorem dX12_width_28 : decode cX12_width 28 = .ok (.invokestatic 157, 3) := by decide +kernel
theorem dX12_width_31 : decode cX12_width 31 = .ok (.ifCond .ne 7, 3) := by decide +kernel
theorem dX12_width_34 : decode cX12_width 34 = .ok (.iconst 2, 1) := by decide +kernel
theorem dX12_width_35 : decode cX12_width 35 = .ok (.goto 4, 3) := by decide +kernel
theorem dX12_width_38 : decode cX12_width 38 = .ok (.iconst 0, 1) := by decide +kernel
theorem dX12_width_39 : decode cX12_width 39 = .ok (.putfield 122, 3) := by decide +kernel
theorem dX12_width_42 : decode cX12_width 42 = .ok (.aload_n 0, 1) := by decide +kernel
theorem dX12_width_43 : decode cX12_width 43 = .ok (.getfield 122, 3) := by decide +kernel
theorem dX12_width_46 : decode cX12_width 46 = .ok (.ifCond .ne 18, 3) := by decide +kernel
theorem dX12_width_49 : decode cX12_width 49 = .ok (.aload_n 0, 1) := by decide +kernel
theorem dX12_width_50 : decode cX12_width 50 = .ok (.getfield 8, 3) := by decide +kernel
theorem dX12_width_53 : decode cX12_width 53 = .ok (.bipush 16, 2) := by decide +kernel
theorem dX12_width_55 : decode cX12_width 55 = .ok (.bipush 27, 2) := by decide +kernel
theorem dX12_width_57 : decode cX12_width 57 = .ok (.iload_n 1, 1) := by decide +kernel
theorem dX12_width_58 : decode cX12_width 58 = .ok (.imul, 1) := by decide +kernel
theorem dX12_width_59 : decode cX12_width 59 = .ok (.iadd, 1) := by decide +kernel
theorem dX12_width_60 : decode cX12_width 60 = .ok (.iload_n 2, 1) := by decide +kernel
theorem dX12_width_61 : decode cX12_width 61 = .ok (.iadd, 1) := by decide +kernel
theorem dX12_width_62 : decode cX12_width 62 = .ok (.iload_n 3, 1) := by decide +kernel
theorem dX12_width_63 : decode cX12_width 63 = .ok (.iastore, 1) := by decide +kernel
theorem dX12_width_64 : decode cX12_width 64 = .ok (.return_, 1) := by decide +kernel
theorem dX12_wordEnd_0 : decode cX12_wordEnd 0 = .ok (.aload_n 0, 1) := by decide +kernel
theorem dX12_wordEnd_1 : decode cX12_wordEnd 1 = .ok (.getfield 137, 3) := by decide +kernel
theorem dX12_wordEnd_4 : decode cX12_wordEnd 4 = .ok (.istore_n 1, 1) := by decide +kernel
theorem dX12_wordEnd_5 : decode cX12_wordEnd 5 = .ok (.iload_n 1, 1) := by decide +kernel
theorem dX12_wordEnd_6 : decode cX12_wordEnd 6 = .ok (.aload_n 0, 1) := by decide +kernel
theorem dX12_wordEnd_7 : decode cX12_wordEnd 7 = .ok (.getfield 134, 3) := by decide +kernel
theorem dX12_wordEnd_10 : decode cX12_wordEnd 10 = .ok (.if_icmp .ge 21, 3) := by decide +kernel
theorem dX12_wordEnd_13 : decode cX12_wordEnd 13 = .ok (.aload_n 0, 1) := by decide +kernel
theorem dX12_wordEnd_14 : decode cX12_wordEnd 14 = .ok (.getfield 20, 3) := by decide +kernel
theorem dX12_wordEnd_17 : decode cX12_wordEnd 17 = .ok (.iload_n 1, 1) := by decide +kernel
theorem dX12_wordEnd_18 : decode cX12_wordEnd 18 = .ok (.iaload, 1) := by decide +kernel
theorem dX12_wordEnd_19 : decode cX12_wordEnd 19 = .ok (.invokestatic 143, 3) := by decide +kernel
theorem dX12_wordEnd_22 : decode cX12_wordEnd 22 = .ok (.ifCond .eq 9, 3) := by decide +kernel
theorem dX12_wordEnd_25 : decode cX12_wordEnd 25 = .ok (.iinc 1 1, 3) := by decide +kernel
theorem dX12_wordEnd_28 : decode cX12_wordEnd 28 = .ok (.goto (-23), 3) := by decide +kernel
theorem dX12_wordEnd_31 : decode cX12_wordEnd 31 = .ok (.iload_n 1, 1) := by decide +kernel
theorem dX12_wordEnd_32 : decode cX12_wordEnd 32 = .ok (.ireturn, 1) := by decide +kernel
theorem dX12_takes_0 : decode cX12_takes 0 = .ok (.aload_n 0, 1) := by decide +kernel
theorem dX12_takes_1 : decode cX12_takes 1 = .ok (.invokevirtual 147, 3) := by decide +kernel
theorem dX12_takes_4 : decode cX12_takes 4 = .ok (.aload_n 0, 1) := by decide +kernel
theorem dX12_takes_5 : decode cX12_takes 5 = .ok (.invokevirtual 168, 3) := by decide +kernel
theorem dX12_takes_8 : decode cX12_takes 8 = .ok (.aload_n 0, 1) := by decide +kernel
theorem dX12_takes_9 : decode cX12_takes 9 = .ok (.getfield 137, 3) := by decide +kernel
theorem dX12_takes_12 : decode cX12_takes 12 = .ok (.isub, 1) := by decide +kernel
theorem dX12_takes_13 : decode cX12_takes 13 = .ok (.aload_n 1, 1) := by decide +kernel
theorem dX12_takes_14 : decode cX12_takes 14 = .ok (.invokevirtual 172, 3) := by decide +kernel
theorem dX12_takes_17 : decode cX12_takes 17 = .ok (.if_icmp .ne 7, 3) := by decide +kernel
theorem dX12_takes_20 : decode cX12_takes 20 = .ok (.iconst 1, 1) := by decide +kernel
theorem dX12_takes_21 : decode cX12_takes 21 = .ok (.goto 4, 3) := by decide +kernel
theorem dX12_takes_24 : decode cX12_takes 24 = .ok (.iconst 0, 1) := by decide +kernel
theorem dX12_takes_25 : decode cX12_takes 25 = .ok (.istore_n 2, 1) := by decide +kernel
theorem dX12_takes_26 : decode cX12_takes 26 = .ok (.iconst 0, 1) := by decide +kernel
theorem dX12_takes_27 : decode cX12_takes 27 = .ok (.istore_n 3, 1) := by decide +kernel
theorem dX12_takes_28 : decode cX12_takes 28 = .ok (.iload_n 3, 1) := by decide +kernel
theorem dX12_takes_29 : decode cX12_takes 29 = .ok (.aload_n 1, 1) := by decide +kernel
theorem dX12_takes_30 : decode cX12_takes 30 = .ok (.invokevirtual 172, 3) := by decide +kernel
theorem dX12_takes_33 : decode cX12_takes 33 = .ok (.if_icmp .ge 38, 3) := by decide +kernel
theorem dX12_takes_36 : decode cX12_takes 36 = .ok (.iload_n 2, 1) := by decide +kernel
theorem dX12_takes_37 : decode cX12_takes 37 = .ok (.ifCond .eq 34, 3) := by decide +kernel
theorem dX12_takes_40 : decode cX12_takes 40 = .ok (.aload_n 0, 1) := by decide +kernel
theorem dX12_takes_41 : decode cX12_takes 41 = .ok (.getfield 20, 3) := by decide +kernel
theorem dX12_takes_44 : decode cX12_takes 44 = .ok (.aload_n 0, 1) := by decide +kernel
theorem dX12_takes_45 : decode cX12_takes 45 = .ok (.getfield 137, 3) := by decide +kernel
theorem dX12_takes_48 : decode cX12_takes 48 = .ok (.iload_n 3, 1) := by decide +kernel
theorem dX12_takes_49 : decode cX12_takes 49 = .ok (.iadd, 1) := by decide +kernel
theorem dX12_takes_50 : decode cX12_takes 50 = .ok (.iaload, 1) := by decide +kernel
theorem dX12_takes_51 : decode cX12_takes 51 = .ok (.aload_n 1, 1) := by decide +kernel
theorem dX12_takes_52 : decode cX12_takes 52 = .ok (.iload_n 3, 1) := by decide +kernel
theorem dX12_takes_53 : decode cX12_takes 53 = .ok (.invokevirtual 177, 3) := by decide +kernel
theorem dX12_takes_56 : decode cX12_takes 56 = .ok (.if_icmp .ne 7, 3) := by decide +kernel
theorem dX12_takes_59 : decode cX12_takes 59 = .ok (.iconst 1, 1) := by decide +kernel
theorem dX12_takes_60 : decode cX12_takes 60 = .ok (.goto 4, 3) := by decide +kernel
theorem dX12_takes_63 : decode cX12_takes 63 = .ok (.iconst 0, 1) := by decide +kernel
theorem dX12_takes_64 : decode cX12_takes 64 = .ok (.istore_n 2, 1) := by decide +kernel
theorem dX12_takes_65 : decode cX12_takes 65 = .ok (.iinc 3 1, 3) := by decide +kernel
theorem dX12_takes_68 : decode cX12_takes 68 = .ok (.goto (-40), 3) := by decide +kernel
theorem dX12_takes_71 : decode cX12_takes 71 = .ok (.iload_n 2, 1) := by decide +kernel
theorem dX12_takes_72 : decode cX12_takes 72 = .ok (.ifCond .eq 16, 3) := by decide +kernel
theorem dX12_takes_75 : decode cX12_takes 75 = .ok (.aload_n 0, 1) := by decide +kernel
theorem dX12_takes_76 : decode cX12_takes 76 = .ok (.dup, 1) := by decide +kernel
theorem dX12_takes_77 : decode cX12_takes 77 = .ok (.getfield 137, 3) := by decide +kernel
theorem dX12_takes_80 : decode cX12_takes 80 = .ok (.aload_n 1, 1) := by decide +kernel
theorem dX12_takes_81 : decode cX12_takes 81 = .ok (.invokevirtual 172, 3) := by decide +kernel
theorem dX12_takes_84 : decode cX12_takes 84 = .ok (.iadd, 1) := by decide +kernel
theorem dX12_takes_85 : decode cX12_takes 85 = .ok (.putfield 137, 3) := by decide +kernel
theorem dX12_takes_88 : decode cX12_takes 88 = .ok (.iload_n 2, 1) := by decide +kernel
theorem dX12_takes_89 : decode cX12_takes 89 = .ok (.ireturn, 1) := by decide +kernel
theorem dX12_fails_0 : decode cX12_fails 0 = .ok (.aload_n 0, 1) := by decide +kernel
theorem dX12_fails_1 : decode cX12_fails 1 = .ok (.aload_n 0, 1) := by decide +kernel
theorem dX12_fails_2 : decode cX12_fails 2 = .ok (.getfield 137, 3) := by decide +kernel
theorem dX12_fails_5 : decode cX12_fails 5 = .ok (.putfield 23, 3) := by decide +kernel
theorem dX12_fails_8 : decode cX12_fails 8 = .ok (.iconst 0, 1) := by decide +kernel
theorem dX12_fails_9 : decode cX12_fails 9 = .ok (.ireturn, 1) := by decide +kernel
theorem dX12_readNumber_0 : decode cX12_readNumber 0 = .ok (.aload_n 0, 1) := by decide +kernel
theorem dX12_readNumber_1 : decode cX12_readNumber 1 = .ok (.invokevirtual 147, 3) := by decide +kernel
theorem dX12_readNumber_4 : decode cX12_readNumber 4 = .ok (.aload_n 0, 1) := by decide +kernel
theorem dX12_readNumber_5 : decode cX12_readNumber 5 = .ok (.getfield 137, 3) := by decide +kernel
theorem dX12_readNumber_8 : decode cX12_readNumber 8 = .ok (.istore_n 3, 1) := by decide +kernel
theorem dX12_readNumber_9 : decode cX12_readNumber 9 = .ok (.aload_n 0, 1) := by decide +kernel
theorem dX12_readNumber_10 : decode cX12_readNumber 10 = .ok (.iconst 0, 1) := by decide +kernel
theorem dX12_readNumber_11 : decode cX12_readNumber 11 = .ok (.putfield 181, 3) := by decide +kernel
theorem dX12_readNumber_14 : decode cX12_readNumber 14 = .ok (.aload_n 0, 1) := by decide +kernel
theorem dX12_readNumber_15 : decode cX12_readNumber 15 = .ok (.getfield 137, 3) := by decide +kernel
theorem dX12_readNumber_18 : decode cX12_readNumber 18 = .ok (.aload_n 0, 1) := by decide +kernel
theorem dX12_readNumber_19 : decode cX12_readNumber 19 = .ok (.getfield 134, 3) := by decide +kernel
theorem dX12_readNumber_22 : decode cX12_readNumber 22 = .ok (.if_icmp .ge 78, 3) := by decide +kernel
theorem dX12_readNumber_25 : decode cX12_readNumber 25 = .ok (.aload_n 0, 1) := by decide +kernel
theorem dX12_readNumber_26 : decode cX12_readNumber 26 = .ok (.getfield 20, 3) := by decide +kernel
theorem dX12_readNumber_29 : decode cX12_readNumber 29 = .ok (.aload_n 0, 1) := by decide +kernel
theorem dX12_readNumber_30 : decode cX12_readNumber 30 = .ok (.getfield 137, 3) := by decide +kernel
theorem dX12_readNumber_33 : decode cX12_readNumber 33 = .ok (.iaload, 1) := by decide +kernel
theorem dX12_readNumber_34 : decode cX12_readNumber 34 = .ok (.bipush 48, 2) := by decide +kernel
theorem dX12_readNumber_36 : decode cX12_readNumber 36 = .ok (.if_icmp .lt 64, 3) := by decide +kernel
theorem dX12_readNumber_39 : decode cX12_readNumber 39 = .ok (.aload_n 0, 1) := by decide +kernel
theorem dX12_readNumber_40 : decode cX12_readNumber 40 = .ok (.getfield 20, 3) := by decide +kernel
theorem dX12_readNumber_43 : decode cX12_readNumber 43 = .ok (.aload_n 0, 1) := by decide +kernel
theorem dX12_readNumber_44 : decode cX12_readNumber 44 = .ok (.getfield 137, 3) := by decide +kernel
theorem dX12_readNumber_47 : decode cX12_readNumber 47 = .ok (.iaload, 1) := by decide +kernel
theorem dX12_readNumber_48 : decode cX12_readNumber 48 = .ok (.bipush 57, 2) := by decide +kernel
theorem dX12_readNumber_50 : decode cX12_readNumber 50 = .ok (.if_icmp .gt 50, 3) := by decide +kernel
theorem dX12_readNumber_53 : decode cX12_readNumber 53 = .ok (.aload_n 0, 1) := by decide +kernel
theorem dX12_readNumber_54 : decode cX12_readNumber 54 = .ok (.getfield 137, 3) := by decide +kernel
theorem dX12_readNumber_57 : decode cX12_readNumber 57 = .ok (.iload_n 3, 1) := by decide +kernel
theorem dX12_readNumber_58 : decode cX12_readNumber 58 = .ok (.isub, 1) := by decide +kernel
theorem dX12_readNumber_59 : decode cX12_readNumber 59 = .ok (.iconst 4, 1) := by decide +kernel
theorem dX12_readNumber_60 : decode cX12_readNumber 60 = .ok (.if_icmp .ge 27, 3) := by decide +kernel
theorem dX12_readNumber_63 : decode cX12_readNumber 63 = .ok (.aload_n 0, 1) := by decide +kernel
theorem dX12_readNumber_64 : decode cX12_readNumber 64 = .ok (.bipush 10, 2) := by decide +kernel
theorem dX12_readNumber_66 : decode cX12_readNumber 66 = .ok (.aload_n 0, 1) := by decide +kernel
theorem dX12_readNumber_67 : decode cX12_readNumber 67 = .ok (.getfield 181, 3) := by decide +kernel
theorem dX12_readNumber_70 : decode cX12_readNumber 70 = .ok (.imul, 1) := by decide +kernel
theorem dX12_readNumber_71 : decode cX12_readNumber 71 = .ok (.aload_n 0, 1) := by decide +kernel
theorem dX12_readNumber_72 : decode cX12_readNumber 72 = .ok (.getfield 20, 3) := by decide +kernel
theorem dX12_readNumber_75 : decode cX12_readNumber 75 = .ok (.aload_n 0, 1) := by decide +kernel
theorem dX12_readNumber_76 : decode cX12_readNumber 76 = .ok (.getfield 137, 3) := by decide +kernel
theorem dX12_readNumber_79 : decode cX12_readNumber 79 = .ok (.iaload, 1) := by decide +kernel
theorem dX12_readNumber_80 : decode cX12_readNumber 80 = .ok (.iadd, 1) := by decide +kernel
theorem dX12_readNumber_81 : decode cX12_readNumber 81 = .ok (.bipush 48, 2) := by decide +kernel
theorem dX12_readNumber_83 : decode cX12_readNumber 83 = .ok (.isub, 1) := by decide +kernel
theorem dX12_readNumber_84 : decode cX12_readNumber 84 = .ok (.putfield 181, 3) := by decide +kernel
theorem dX12_readNumber_87 : decode cX12_readNumber 87 = .ok (.aload_n 0, 1) := by decide +kernel
theorem dX12_readNumber_88 : decode cX12_readNumber 88 = .ok (.dup, 1) := by decide +kernel
theorem dX12_readNumber_89 : decode cX12_readNumber 89 = .ok (.getfield 137, 3) := by decide +kernel
theorem dX12_readNumber_92 : decode cX12_readNumber 92 = .ok (.iconst 1, 1) := by decide +kernel
theorem dX12_readNumber_93 : decode cX12_readNumber 93 = .ok (.iadd, 1) := by decide +kernel
theorem dX12_readNumber_94 : decode cX12_readNumber 94 = .ok (.putfield 137, 3) := by decide +kernel
theorem dX12_readNumber_97 : decode cX12_readNumber 97 = .ok (.goto (-83), 3) := by decide +kernel
theorem dX12_readNumber_100 : decode cX12_readNumber 100 = .ok (.aload_n 0, 1) := by decide +kernel
theorem dX12_readNumber_101 : decode cX12_readNumber 101 = .ok (.getfield 137, 3) := by decide +kernel
theorem dX12_readNumber_104 : decode cX12_readNumber 104 = .ok (.iload_n 3, 1) := by decide +kernel
theorem dX12_readNumber_105 : decode cX12_readNumber 105 = .ok (.if_icmp .le 29, 3) := by decide +kernel
theorem dX12_readNumber_108 : decode cX12_readNumber 108 = .ok (.aload_n 0, 1) := by decide +kernel
theorem dX12_readNumber_109 : decode cX12_readNumber 109 = .ok (.getfield 137, 3) := by decide +kernel
theorem dX12_readNumber_112 : decode cX12_readNumber 112 = .ok (.iload_n 3, 1) := by decide +kernel
theorem dX12_readNumber_113 : decode cX12_readNumber 113 = .ok (.isub, 1) := by decide +kernel
theorem dX12_readNumber_114 : decode cX12_readNumber 114 = .ok (.iconst 4, 1) := by decide +kernel
theorem dX12_readNumber_115 : decode cX12_readNumber 115 = .ok (.if_icmp .gt 19, 3) := by decide +kernel
theorem dX12_readNumber_118 : decode cX12_readNumber 118 = .ok (.aload_n 0, 1) := by decide +kernel
theorem dX12_readNumber_119 : decode cX12_readNumber 119 = .ok (.getfield 181, 3) := by decide +kernel
theorem dX12_readNumber_122 : decode cX12_readNumber 122 = .ok (.iload_n 1, 1) := by decide +kernel
theorem dX12_readNumber_123 : decode cX12_readNumber 123 = .ok (.iload_n 2, 1) := by decide +kernel
theorem dX12_readNumber_124 : decode cX12_readNumber 124 = .ok (.invokestatic 157, 3) := by decide +kernel
theorem dX12_readNumber_127 : decode cX12_readNumber 127 = .ok (.ifCond .eq 7, 3) := by decide +kernel
theorem dX12_readNumber_130 : decode cX12_readNumber 130 = .ok (.iconst 1, 1) := by decide +kernel
theorem dX12_readNumber_131 : decode cX12_readNumber 131 = .ok (.goto 4, 3) := by decide +kernel
theorem dX12_readNumber_134 : decode cX12_readNumber 134 = .ok (.iconst 0, 1) := by decide +kernel
theorem dX12_readNumber_135 : decode cX12_readNumber 135 = .ok (.istore 4, 2) := by decide +kernel
theorem dX12_readNumber_137 : decode cX12_readNumber 137 = .ok (.iload 4, 2) := by decide +kernel
theorem dX12_readNumber_139 : decode cX12_readNumber 139 = .ok (.ifCond .ne 8, 3) := by decide +kernel
theorem dX12_readNumber_142 : decode cX12_readNumber 142 = .ok (.aload_n 0, 1) := by decide +kernel
theorem dX12_readNumber_143 : decode cX12_readNumber 143 = .ok (.iload_n 3, 1) := by decide +kernel
theorem dX12_readNumber_144 : decode cX12_readNumber 144 = .ok (.putfield 23, 3) := by decide +kernel
theorem dX12_readNumber_147 : decode cX12_readNumber 147 = .ok (.iload 4, 2) := by decide +kernel
theorem dX12_readNumber_149 : decode cX12_readNumber 149 = .ok (.ireturn, 1) := by decide +kernel
theorem dX12_act_0 : decode cX12_act 0 = .ok (.aload_n 0, 1) := by decide +kernel
theorem dX12_act_1 : decode cX12_act 1 = .ok (.getfield 42, 3) := by decide +kernel
theorem dX12_act_4 : decode cX12_act 4 = .ok (.aload_n 0, 1) := by decide +kernel
theorem dX12_act_5 : decode cX12_act 5 = .ok (.getfield 184, 3) := by decide +kernel
theorem dX12_act_8 : decode cX12_act 8 = .ok (.iload_n 1, 1) := by decide +kernel
theorem dX12_act_9 : decode cX12_act 9 = .ok (.iastore, 1) := by decide +kernel
theorem dX12_act_10 : decode cX12_act 10 = .ok (.aload_n 0, 1) := by decide +kernel
theorem dX12_act_11 : decode cX12_act 11 = .ok (.dup, 1) := by decide +kernel
theorem dX12_act_12 : decode cX12_act 12 = .ok (.getfield 184, 3) := by decide +kernel
theorem dX12_act_15 : decode cX12_act 15 = .ok (.iconst 1, 1) := by decide +kernel
theorem dX12_act_16 : decode cX12_act 16 = .ok (.iadd, 1) := by decide +kernel
theorem dX12_act_17 : decode cX12_act 17 = .ok (.putfield 184, 3) := by decide +kernel
theorem dX12_act_20 : decode cX12_act 20 = .ok (.return_, 1) := by decide +kernel
theorem dX12_tagHere_0 : decode cX12_tagHere 0 = .ok (.aload_n 0, 1) := by decide +kernel
theorem dX12_tagHere_1 : decode cX12_tagHere 1 = .ok (.ldc 187, 2) := by decide +kernel
theorem dX12_tagHere_3 : decode cX12_tagHere 3 = .ok (.invokevirtual 189, 3) := by decide +kernel
theorem dX12_tagHere_6 : decode cX12_tagHere 6 = .ok (.ifCond .eq 7, 3) := by decide +kernel
theorem dX12_tagHere_9 : decode cX12_tagHere 9 = .ok (.iconst 0, 1) := by decide +kernel
theorem dX12_tagHere_10 : decode cX12_tagHere 10 = .ok (.goto 30, 3) := by decide +kernel
theorem dX12_tagHere_13 : decode cX12_tagHere 13 = .ok (.aload_n 0, 1) := by decide +kernel
theorem dX12_tagHere_14 : decode cX12_tagHere 14 = .ok (.ldc 193, 2) := by decide +kernel
theorem dX12_tagHere_16 : decode cX12_tagHere 16 = .ok (.invokevirtual 189, 3) := by decide +kernel
theorem dX12_tagHere_19 : decode cX12_tagHere 19 = .ok (.ifCond .eq 7, 3) := by decide +kernel
theorem dX12_tagHere_22 : decode cX12_tagHere 22 = .ok (.iconst 1, 1) := by decide +kernel
theorem dX12_tagHere_23 : decode cX12_tagHere 23 = .ok (.goto 17, 3) := by decide +kernel
theorem dX12_tagHere_26 : decode cX12_tagHere 26 = .ok (.aload_n 0, 1) := by decide +kernel
theorem dX12_tagHere_27 : decode cX12_tagHere 27 = .ok (.ldc 195, 2) := by decide +kernel
theorem dX12_tagHere_29 : decode cX12_tagHere 29 = .ok (.invokevirtual 189, 3) := by decide +kernel
theorem dX12_tagHere_32 : decode cX12_tagHere 32 = .ok (.ifCond .eq 7, 3) := by decide +kernel
theorem dX12_tagHere_35 : decode cX12_tagHere 35 = .ok (.iconst 2, 1) := by decide +kernel
theorem dX12_tagHere_36 : decode cX12_tagHere 36 = .ok (.goto 4, 3) := by decide +kernel
theorem dX12_tagHere_39 : decode cX12_tagHere 39 = .ok (.iconst (-1), 1) := by decide +kernel
theorem dX12_tagHere_40 : decode cX12_tagHere 40 = .ok (.ireturn, 1) := by decide +kernel
theorem dX12_factHere_0 : decode cX12_factHere 0 = .ok (.aload_n 0, 1) := by decide +kernel
theorem dX12_factHere_1 : decode cX12_factHere 1 = .ok (.ldc 197, 2) := by decide +kernel
theorem dX12_factHere_3 : decode cX12_factHere 3 = .ok (.invokevirtual 189, 3) := by decide +kernel
theorem dX12_factHere_6 : decode cX12_factHere 6 = .ok (.ifCond .eq 7, 3) := by decide +kernel
theorem dX12_factHere_9 : decode cX12_factHere 9 = .ok (.iconst 0, 1) := by decide +kernel
theorem dX12_factHere_10 : decode cX12_factHere 10 = .ok (.goto 69, 3) := by decide +kernel
theorem dX12_factHere_13 : decode cX12_factHere 13 = .ok (.aload_n 0, 1) := by decide +kernel
theorem dX12_factHere_14 : decode cX12_factHere 14 = .ok (.ldc 199, 2) := by decide +kernel
theorem dX12_factHere_16 : decode cX12_factHere 16 = .ok (.invokevirtual 189, 3) := by decide +kernel
theorem dX12_factHere_19 : decode cX12_factHere 19 = .ok (.ifCond .eq 7, 3) := by decide +kernel
theorem dX12_factHere_22 : decode cX12_factHere 22 = .ok (.iconst 1, 1) := by decide +kernel
theorem dX12_factHere_23 : decode cX12_factHere 23 = .ok (.goto 56, 3) := by decide +kernel
theorem dX12_factHere_26 : decode cX12_factHere 26 = .ok (.aload_n 0, 1) := by decide +kernel
theorem dX12_factHere_27 : decode cX12_factHere 27 = .ok (.ldc 201, 2) := by decide +kernel
theorem dX12_factHere_29 : decode cX12_factHere 29 = .ok (.invokevirtual 189, 3) := by decide +kernel
theorem dX12_factHere_32 : decode cX12_factHere 32 = .ok (.ifCond .eq 7, 3) := by decide +kernel
theorem dX12_factHere_35 : decode cX12_factHere 35 = .ok (.iconst 2, 1) := by decide +kernel
theorem dX12_factHere_36 : decode cX12_factHere 36 = .ok (.goto 43, 3) := by decide +kernel
theorem dX12_factHere_39 : decode cX12_factHere 39 = .ok (.aload_n 0, 1) := by decide +kernel
theorem dX12_factHere_40 : decode cX12_factHere 40 = .ok (.ldc 203, 2) := by decide +kernel
theorem dX12_factHere_42 : decode cX12_factHere 42 = .ok (.invokevirtual 189, 3) := by decide +kernel
theorem dX12_factHere_45 : decode cX12_factHere 45 = .ok (.ifCond .eq 7, 3) := by decide +kernel
theorem dX12_factHere_48 : decode cX12_factHere 48 = .ok (.iconst 3, 1) := by decide +kernel
theorem dX12_factHere_49 : decode cX12_factHere 49 = .ok (.goto 30, 3) := by decide +kernel
theorem dX12_factHere_52 : decode cX12_factHere 52 = .ok (.aload_n 0, 1) := by decide +kernel
theorem dX12_factHere_53 : decode cX12_factHere 53 = .ok (.ldc 205, 2) := by decide +kernel
theorem dX12_factHere_55 : decode cX12_factHere 55 = .ok (.invokevirtual 189, 3) := by decide +kernel
theorem dX12_factHere_58 : decode cX12_factHere 58 = .ok (.ifCond .eq 7, 3) := by decide +kernel
theorem dX12_factHere_61 : decode cX12_factHere 61 = .ok (.iconst 4, 1) := by decide +kernel
theorem dX12_factHere_62 : decode cX12_factHere 62 = .ok (.goto 17, 3) := by decide +kernel
theorem dX12_factHere_65 : decode cX12_factHere 65 = .ok (.aload_n 0, 1) := by decide +kernel
theorem dX12_factHere_66 : decode cX12_factHere 66 = .ok (.ldc 207, 2) := by decide +kernel
theorem dX12_factHere_68 : decode cX12_factHere 68 = .ok (.invokevirtual 189, 3) := by decide +kernel
theorem dX12_factHere_71 : decode cX12_factHere 71 = .ok (.ifCond .eq 7, 3) := by decide +kernel
theorem dX12_factHere_74 : decode cX12_factHere 74 = .ok (.iconst 5, 1) := by decide +kernel
theorem dX12_factHere_75 : decode cX12_factHere 75 = .ok (.goto 4, 3) := by decide +kernel
theorem dX12_factHere_78 : decode cX12_factHere 78 = .ok (.iconst (-1), 1) := by decide +kernel
theorem dX12_factHere_79 : decode cX12_factHere 79 = .ok (.ireturn, 1) := by decide +kernel
theorem dX12_readAtom_0 : decode cX12_readAtom 0 = .ok (.aload_n 0, 1) := by decide +kernel
theorem dX12_readAtom_1 : decode cX12_readAtom 1 = .ok (.invokevirtual 147, 3) := by decide +kernel
theorem dX12_readAtom_4 : decode cX12_readAtom 4 = .ok (.aload_n 0, 1) := by decide +kernel
theorem dX12_readAtom_5 : decode cX12_readAtom 5 = .ok (.getfield 137, 3) := by decide +kernel
theorem dX12_readAtom_8 : decode cX12_readAtom 8 = .ok (.istore_n 1, 1) := by decide +kernel
theorem dX12_readAtom_9 : decode cX12_readAtom 9 = .ok (.aload_n 0, 1) := by decide +kernel
theorem dX12_readAtom_10 : decode cX12_readAtom 10 = .ok (.ldc 209, 2) := by decide +kernel
theorem dX12_readAtom_12 : decode cX12_readAtom 12 = .ok (.invokevirtual 189, 3) := by decide +kernel
theorem dX12_readAtom_15 : decode cX12_readAtom 15 = .ok (.istore_n 2, 1) := by decide +kernel
theorem dX12_readAtom_16 : decode cX12_readAtom 16 = .ok (.iload_n 2, 1) := by decide +kernel
theorem dX12_readAtom_17 : decode cX12_readAtom 17 = .ok (.ifCond .ne 32, 3) := by decide +kernel
theorem dX12_readAtom_20 : decode cX12_readAtom 20 = .ok (.aload_n 0, 1) := by decide +kernel
theorem dX12_readAtom_21 : decode cX12_readAtom 21 = .ok (.getfield 137, 3) := by decide +kernel
theorem dX12_readAtom_24 : decode cX12_readAtom 24 = .ok (.aload_n 0, 1) := by decide +kernel
theorem dX12_readAtom_25 : decode cX12_readAtom 25 = .ok (.getfield 134, 3) := by decide +kernel
theorem dX12_readAtom_28 : decode cX12_readAtom 28 = .ok (.if_icmp .ge 21, 3) := by decide +kernel
theorem dX12_readAtom_31 : decode cX12_readAtom 31 = .ok (.aload_n 0, 1) := by decide +kernel
theorem dX12_readAtom_32 : decode cX12_readAtom 32 = .ok (.getfield 20, 3) := by decide +kernel
theorem dX12_readAtom_35 : decode cX12_readAtom 35 = .ok (.aload_n 0, 1) := by decide +kernel
theorem dX12_readAtom_36 : decode cX12_readAtom 36 = .ok (.getfield 137, 3) := by decide +kernel
theorem dX12_readAtom_39 : decode cX12_readAtom 39 = .ok (.iaload, 1) := by decide +kernel
theorem dX12_readAtom_40 : decode cX12_readAtom 40 = .ok (.bipush 40, 2) := by decide +kernel
theorem dX12_readAtom_42 : decode cX12_readAtom 42 = .ok (.if_icmp .ne 7, 3) := by decide +kernel
theorem dX12_readAtom_45 : decode cX12_readAtom 45 = .ok (.iconst 1, 1) := by decide +kernel
theorem dX12_readAtom_46 : decode cX12_readAtom 46 = .ok (.goto 4, 3) := by decide +kernel
theorem dX12_readAtom_49 : decode cX12_readAtom 49 = .ok (.iconst 0, 1) := by decide +kernel
theorem dX12_readAtom_50 : decode cX12_readAtom 50 = .ok (.istore_n 3, 1) := by decide +kernel
theorem dX12_readAtom_51 : decode cX12_readAtom 51 = .ok (.iload_n 2, 1) := by decide +kernel
theorem dX12_readAtom_52 : decode cX12_readAtom 52 = .ok (.ifCond .ne 7, 3) := by decide +kernel
theorem dX12_readAtom_55 : decode cX12_readAtom 55 = .ok (.iload_n 3, 1) := by decide +kernel
theorem dX12_readAtom_56 : decode cX12_readAtom 56 = .ok (.ifCond .eq 133, 3) := by decide +kernel
theorem dX12_readAtom_59 : decode cX12_readAtom 59 = .ok (.aload_n 0, 1) := by decide +kernel
theorem dX12_readAtom_60 : decode cX12_readAtom 60 = .ok (.getfield 211, 3) := by decide +kernel
theorem dX12_readAtom_63 : decode cX12_readAtom 63 = .ok (.iconst 5, 1) := by decide +kernel
theorem dX12_readAtom_64 : decode cX12_readAtom 64 = .ok (.if_icmp .ne 10, 3) := by decide +kernel
theorem dX12_readAtom_67 : decode cX12_readAtom 67 = .ok (.aload_n 0, 1) := by decide +kernel
theorem dX12_readAtom_68 : decode cX12_readAtom 68 = .ok (.iload_n 1, 1) := by decide +kernel
theorem dX12_readAtom_69 : decode cX12_readAtom 69 = .ok (.putfield 23, 3) := by decide +kernel
theorem dX12_readAtom_72 : decode cX12_readAtom 72 = .ok (.iconst 0, 1) := by decide +kernel
theorem dX12_readAtom_73 : decode cX12_readAtom 73 = .ok (.ireturn, 1) := by decide +kernel
theorem dX12_readAtom_74 : decode cX12_readAtom 74 = .ok (.aload_n 0, 1) := by decide +kernel
theorem dX12_readAtom_75 : decode cX12_readAtom 75 = .ok (.dup, 1) := by decide +kernel
theorem dX12_readAtom_76 : decode cX12_readAtom 76 = .ok (.getfield 211, 3) := by decide +kernel
theorem dX12_readAtom_79 : decode cX12_readAtom 79 = .ok (.iconst 1, 1) := by decide +kernel
theorem dX12_readAtom_80 : decode cX12_readAtom 80 = .ok (.iadd, 1) := by decide +kernel
theorem dX12_readAtom_81 : decode cX12_readAtom 81 = .ok (.putfield 211, 3) := by decide +kernel
theorem dX12_readAtom_84 : decode cX12_readAtom 84 = .ok (.iload_n 3, 1) := by decide +kernel
theorem dX12_readAtom_85 : decode cX12_readAtom 85 = .ok (.ifCond .eq 13, 3) := by decide +kernel
theorem dX12_readAtom_88 : decode cX12_readAtom 88 = .ok (.aload_n 0, 1) := by decide +kernel
theorem dX12_readAtom_89 : decode cX12_readAtom 89 = .ok (.dup, 1) := by decide +kernel
theorem dX12_readAtom_90 : decode cX12_readAtom 90 = .ok (.getfield 137, 3) := by decide +kernel
theorem dX12_readAtom_93 : decode cX12_readAtom 93 = .ok (.iconst 1, 1) := by decide +kernel
theorem dX12_readAtom_94 : decode cX12_readAtom 94 = .ok (.iadd, 1) := by decide +kernel
theorem dX12_readAtom_95 : decode cX12_readAtom 95 = .ok (.putfield 137, 3) := by decide +kernel
theorem dX12_readAtom_98 : decode cX12_readAtom 98 = .ok (.iload_n 2, 1) := by decide +kernel
theorem dX12_readAtom_99 : decode cX12_readAtom 99 = .ok (.ifCond .eq 13, 3) := by decide +kernel
theorem dX12_readAtom_102 : decode cX12_readAtom 102 = .ok (.aload_n 0, 1) := by decide +kernel
theorem dX12_readAtom_103 : decode cX12_readAtom 103 = .ok (.invokevirtual 214, 3) := by decide +kernel
theorem dX12_readAtom_106 : decode cX12_readAtom 106 = .ok (.ifCond .ne 15, 3) := by decide +kernel
theorem dX12_readAtom_109 : decode cX12_readAtom 109 = .ok (.goto 10, 3) := by decide +kernel
theorem dX12_readAtom_112 : decode cX12_readAtom 112 = .ok (.aload_n 0, 1) := by decide +kernel
theorem dX12_readAtom_113 : decode cX12_readAtom 113 = .ok (.invokevirtual 217, 3) := by decide +kernel
theorem dX12_readAtom_116 : decode cX12_readAtom 116 = .ok (.ifCond .ne 5, 3) := by decide +kernel
theorem dX12_readAtom_119 : decode cX12_readAtom 119 = .ok (.iconst 0, 1) := by decide +kernel
theorem dX12_readAtom_120 : decode cX12_readAtom 120 = .ok (.ireturn, 1) := by decide +kernel
theorem dX12_readAtom_121 : decode cX12_readAtom 121 = .ok (.iload_n 2, 1) := by decide +kernel
theorem dX12_readAtom_122 : decode cX12_readAtom 122 = .ok (.ifCond .eq 11, 3) := by decide +kernel
theorem dX12_readAtom_125 : decode cX12_readAtom 125 = .ok (.aload_n 0, 1) := by decide +kernel
theorem dX12_readAtom_126 : decode cX12_readAtom 126 = .ok (.iconst 4, 1) := by decide +kernel
theorem dX12_readAtom_127 : decode cX12_readAtom 127 = .ok (.invokevirtual 220, 3) := by decide +kernel
theorem dX12_readAtom_130 : decode cX12_readAtom 130 = .ok (.goto 47, 3) := by decide +kernel
theorem dX12_readAtom_133 : decode cX12_readAtom 133 = .ok (.aload_n 0, 1) := by decide +kernel
theorem dX12_readAtom_134 : decode cX12_readAtom 134 = .ok (.invokevirtual 147, 3) := by decide +kernel
theorem dX12_readAtom_137 : decode cX12_readAtom 137 = .ok (.aload_n 0, 1) := by decide +kernel
theorem dX12_readAtom_138 : decode cX12_readAtom 138 = .ok (.getfield 137, 3) := by decide +kernel
theorem dX12_readAtom_141 : decode cX12_readAtom 141 = .ok (.aload_n 0, 1) := by decide +kernel
theorem dX12_readAtom_142 : decode cX12_readAtom 142 = .ok (.getfield 134, 3) := by decide +kernel
theorem dX12_readAtom_145 : decode cX12_readAtom 145 = .ok (.if_icmp .ge 17, 3) := by decide +kernel
theorem dX12_readAtom_148 : decode cX12_readAtom 148 = .ok (.aload_n 0, 1) := by decide +kernel
theorem dX12_readAtom_149 : decode cX12_readAtom 149 = .ok (.getfield 20, 3) := by decide +kernel
theorem dX12_readAtom_152 : decode cX12_readAtom 152 = .ok (.aload_n 0, 1) := by decide +kernel
theorem dX12_readAtom_153 : decode cX12_readAtom 153 = .ok (.getfield 137, 3) := by decide +kernel
theorem dX12_readAtom_156 : decode cX12_readAtom 156 = .ok (.iaload, 1) := by decide +kernel
theorem dX12_readAtom_157 : decode cX12_readAtom 157 = .ok (.bipush 41, 2) := by decide +kernel
theorem dX12_readAtom_159 : decode cX12_readAtom 159 = .ok (.if_icmp .eq 8, 3) := by decide +kernel
theorem dX12_readAtom_162 : decode cX12_readAtom 162 = .ok (.aload_n 0, 1) := by decide +kernel
theorem dX12_readAtom_163 : decode cX12_readAtom 163 = .ok (.invokevirtual 223, 3) := by decide +kernel
theorem dX12_readAtom_166 : decode cX12_readAtom 166 = .ok (.ireturn, 1) := by decide +kernel
theorem dX12_readAtom_167 : decode cX12_readAtom 167 = .ok (.aload_n 0, 1) := by decide +kernel
theorem dX12_readAtom_168 : decode cX12_readAtom 168 = .ok (.dup, 1) := by decide +kernel
theorem dX12_readAtom_169 : decode cX12_readAtom 169 = .ok (.getfield 137, 3) := by decide +kernel
theorem dX12_readAtom_172 : decode cX12_readAtom 172 = .ok (.iconst 1, 1) := by decide +kernel
theorem dX12_readAtom_173 : decode cX12_readAtom 173 = .ok (.iadd, 1) := by decide +kernel
theorem dX12_readAtom_174 : decode cX12_readAtom 174 = .ok (.putfield 137, 3) := by decide +kernel
theorem dX12_readAtom_177 : decode cX12_readAtom 177 = .ok (.aload_n 0, 1) := by decide +kernel
theorem dX12_readAtom_178 : decode cX12_readAtom 178 = .ok (.dup, 1) := by decide +kernel
theorem dX12_readAtom_179 : decode cX12_readAtom 179 = .ok (.getfield 211, 3) := by decide +kernel
theorem dX12_readAtom_182 : decode cX12_readAtom 182 = .ok (.iconst 1, 1) := by decide +kernel
theorem dX12_readAtom_183 : decode cX12_readAtom 183 = .ok (.isub, 1) := by decide +kernel
theorem dX12_readAtom_184 : decode cX12_readAtom 184 = .ok (.putfield 211, 3) := by decide +kernel
theorem dX12_readAtom_187 : decode cX12_readAtom 187 = .ok (.iconst 1, 1) := by decide +kernel
theorem dX12_readAtom_188 : decode cX12_readAtom 188 = .ok (.ireturn, 1) := by decide +kernel
theorem dX12_readAtom_189 : decode cX12_readAtom 189 = .ok (.aload_n 0, 1) := by decide +kernel
theorem dX12_readAtom_190 : decode cX12_readAtom 190 = .ok (.invokevirtual 226, 3) := by decide +kernel
theorem dX12_readAtom_193 : decode cX12_readAtom 193 = .ok (.istore 4, 2) := by decide +kernel
theorem dX12_readAtom_195 : decode cX12_readAtom 195 = .ok (.iload 4, 2) := by decide +kernel
theorem dX12_readAtom_197 : decode cX12_readAtom 197 = .ok (.iconst (-1), 1) := by decide +kernel
theorem dX12_readAtom_198 : decode cX12_readAtom 198 = .ok (.if_icmp .eq 16, 3) := by decide +kernel
theorem dX12_readAtom_201 : decode cX12_readAtom 201 = .ok (.aload_n 0, 1) := by decide +kernel
theorem dX12_readAtom_202 : decode cX12_readAtom 202 = .ok (.iconst 1, 1) := by decide +kernel
theorem dX12_readAtom_203 : decode cX12_readAtom 203 = .ok (.invokevirtual 220, 3) := by decide +kernel
theorem dX12_readAtom_206 : decode cX12_readAtom 206 = .ok (.aload_n 0, 1) := by decide +kernel
theorem dX12_readAtom_207 : decode cX12_readAtom 207 = .ok (.iload 4, 2) := by decide +kernel
theorem dX12_readAtom_209 : decode cX12_readAtom 209 = .ok (.invokevirtual 220, 3) := by decide +kernel
theorem dX12_readAtom_212 : decode cX12_readAtom 212 = .ok (.iconst 1, 1) := by decide +kernel
theorem dX12_readAtom_213 : decode cX12_readAtom 213 = .ok (.ireturn, 1) := by decide +kernel
theorem dX12_readAtom_214 : decode cX12_readAtom 214 = .ok (.aload_n 0, 1) := by decide +kernel
theorem dX12_readAtom_215 : decode cX12_readAtom 215 = .ok (.invokevirtual 229, 3) := by decide +kernel
theorem dX12_readAtom_218 : decode cX12_readAtom 218 = .ok (.istore 5, 2) := by decide +kernel
theorem dX12_readAtom_220 : decode cX12_readAtom 220 = .ok (.iload 5, 2) := by decide +kernel
theorem dX12_readAtom_222 : decode cX12_readAtom 222 = .ok (.iconst (-1), 1) := by decide +kernel
theorem dX12_readAtom_223 : decode cX12_readAtom 223 = .ok (.if_icmp .ne 8, 3) := by decide +kernel
theorem dX12_readAtom_226 : decode cX12_readAtom 226 = .ok (.aload_n 0, 1) := by decide +kernel
theorem dX12_readAtom_227 : decode cX12_readAtom 227 = .ok (.invokevirtual 223, 3) := by decide +kernel
theorem dX12_readAtom_230 : decode cX12_readAtom 230 = .ok (.ireturn, 1) := by decide +kernel
theorem dX12_readAtom_231 : decode cX12_readAtom 231 = .ok (.aload_n 0, 1) := by decide +kernel
theorem dX12_readAtom_232 : decode cX12_readAtom 232 = .ok (.invokevirtual 147, 3) := by decide +kernel
theorem dX12_readAtom_235 : decode cX12_readAtom 235 = .ok (.aload_n 0, 1) := by decide +kernel
theorem dX12_readAtom_236 : decode cX12_readAtom 236 = .ok (.getfield 137, 3) := by decide +kernel
theorem dX12_readAtom_239 : decode cX12_readAtom 239 = .ok (.aload_n 0, 1) := by decide +kernel
theorem dX12_readAtom_240 : decode cX12_readAtom 240 = .ok (.getfield 134, 3) := by decide +kernel
theorem dX12_readAtom_243 : decode cX12_readAtom 243 = .ok (.if_icmp .ge 31, 3) := by decide +kernel
theorem dX12_readAtom_246 : decode cX12_readAtom 246 = .ok (.aload_n 0, 1) := by decide +kernel
theorem dX12_readAtom_247 : decode cX12_readAtom 247 = .ok (.getfield 20, 3) := by decide +kernel
theorem dX12_readAtom_250 : decode cX12_readAtom 250 = .ok (.aload_n 0, 1) := by decide +kernel
theorem dX12_readAtom_251 : decode cX12_readAtom 251 = .ok (.getfield 137, 3) := by decide +kernel
theorem dX12_readAtom_254 : decode cX12_readAtom 254 = .ok (.iaload, 1) := by decide +kernel
theorem dX12_readAtom_255 : decode cX12_readAtom 255 = .ok (.bipush 60, 2) := by decide +kernel
theorem dX12_readAtom_257 : decode cX12_readAtom 257 = .ok (.if_icmp .eq 22, 3) := by decide +kernel
theorem dX12_readAtom_260 : decode cX12_readAtom 260 = .ok (.aload_n 0, 1) := by decide +kernel
theorem dX12_readAtom_261 : decode cX12_readAtom 261 = .ok (.getfield 20, 3) := by decide +kernel
theorem dX12_readAtom_264 : decode cX12_readAtom 264 = .ok (.aload_n 0, 1) := by decide +kernel
theorem dX12_readAtom_265 : decode cX12_readAtom 265 = .ok (.getfield 137, 3) := by decide +kernel
theorem dX12_readAtom_268 : decode cX12_readAtom 268 = .ok (.iaload, 1) := by decide +kernel
theorem dX12_readAtom_269 : decode cX12_readAtom 269 = .ok (.bipush 62, 2) := by decide +kernel
theorem dX12_readAtom_271 : decode cX12_readAtom 271 = .ok (.if_icmp .eq 8, 3) := by decide +kernel
theorem dX12_readAtom_274 : decode cX12_readAtom 274 = .ok (.aload_n 0, 1) := by decide +kernel
theorem dX12_readAtom_275 : decode cX12_readAtom 275 = .ok (.invokevirtual 223, 3) := by decide +kernel
theorem dX12_readAtom_278 : decode cX12_readAtom 278 = .ok (.ireturn, 1) := by decide +kernel
theorem dX12_readAtom_279 : decode cX12_readAtom 279 = .ok (.aload_n 0, 1) := by decide +kernel
theorem dX12_readAtom_280 : decode cX12_readAtom 280 = .ok (.getfield 20, 3) := by decide +kernel
theorem dX12_readAtom_283 : decode cX12_readAtom 283 = .ok (.aload_n 0, 1) := by decide +kernel
theorem dX12_readAtom_284 : decode cX12_readAtom 284 = .ok (.getfield 137, 3) := by decide +kernel
theorem dX12_readAtom_287 : decode cX12_readAtom 287 = .ok (.iaload, 1) := by decide +kernel
theorem dX12_readAtom_288 : decode cX12_readAtom 288 = .ok (.bipush 60, 2) := by decide +kernel
theorem dX12_readAtom_290 : decode cX12_readAtom 290 = .ok (.if_icmp .ne 7, 3) := by decide +kernel
theorem dX12_readAtom_293 : decode cX12_readAtom 293 = .ok (.iconst 2, 1) := by decide +kernel
theorem dX12_readAtom_294 : decode cX12_readAtom 294 = .ok (.goto 4, 3) := by decide +kernel
theorem dX12_readAtom_297 : decode cX12_readAtom 297 = .ok (.iconst 3, 1) := by decide +kernel
theorem dX12_readAtom_298 : decode cX12_readAtom 298 = .ok (.istore 6, 2) := by decide +kernel
theorem dX12_readAtom_300 : decode cX12_readAtom 300 = .ok (.aload_n 0, 1) := by decide +kernel
theorem dX12_readAtom_301 : decode cX12_readAtom 301 = .ok (.dup, 1) := by decide +kernel
theorem dX12_readAtom_302 : decode cX12_readAtom 302 = .ok (.getfield 137, 3) := by decide +kernel
theorem dX12_readAtom_305 : decode cX12_readAtom 305 = .ok (.iconst 1, 1) := by decide +kernel
theorem dX12_readAtom_306 : decode cX12_readAtom 306 = .ok (.iadd, 1) := by decide +kernel
theorem dX12_readAtom_307 : decode cX12_readAtom 307 = .ok (.putfield 137, 3) := by decide +kernel
theorem dX12_readAtom_310 : decode cX12_readAtom 310 = .ok (.aload_n 0, 1) := by decide +kernel
theorem dX12_readAtom_311 : decode cX12_readAtom 311 = .ok (.iconst 0, 1) := by decide +kernel
theorem dX12_readAtom_312 : decode cX12_readAtom 312 = .ok (.sipush 9999, 3) := by decide +kernel
theorem dX12_readAtom_315 : decode cX12_readAtom 315 = .ok (.invokevirtual 232, 3) := by decide +kernel
theorem dX12_readAtom_318 : decode cX12_readAtom 318 = .ok (.ifCond .ne 5, 3) := by decide +kernel
theorem dX12_readAtom_321 : decode cX12_readAtom 321 = .ok (.iconst 0, 1) := by decide +kernel
theorem dX12_readAtom_322 : decode cX12_readAtom 322 = .ok (.ireturn, 1) := by decide +kernel
theorem dX12_readAtom_323 : decode cX12_readAtom 323 = .ok (.aload_n 0, 1) := by decide +kernel
theorem dX12_readAtom_324 : decode cX12_readAtom 324 = .ok (.iload 6, 2) := by decide +kernel
theorem dX12_readAtom_326 : decode cX12_readAtom 326 = .ok (.invokevirtual 220, 3) := by decide +kernel
theorem dX12_readAtom_329 : decode cX12_readAtom 329 = .ok (.aload_n 0, 1) := by decide +kernel
theorem dX12_readAtom_330 : decode cX12_readAtom 330 = .ok (.iload 5, 2) := by decide +kernel
theorem dX12_readAtom_332 : decode cX12_readAtom 332 = .ok (.invokevirtual 220, 3) := by decide +kernel
theorem dX12_readAtom_335 : decode cX12_readAtom 335 = .ok (.aload_n 0, 1) := by decide +kernel
theorem dX12_readAtom_336 : decode cX12_readAtom 336 = .ok (.aload_n 0, 1) := by decide +kernel
theorem dX12_readAtom_337 : decode cX12_readAtom 337 = .ok (.getfield 181, 3) := by decide +kernel
theorem dX12_readAtom_340 : decode cX12_readAtom 340 = .ok (.invokevirtual 220, 3) := by decide +kernel
theorem dX12_readAtom_343 : decode cX12_readAtom 343 = .ok (.iconst 1, 1) := by decide +kernel
theorem dX12_readAtom_344 : decode cX12_readAtom 344 = .ok (.ireturn, 1) := by decide +kernel
theorem dX12_readAll_0 : decode cX12_readAll 0 = .ok (.aload_n 0, 1) := by decide +kernel
theorem dX12_readAll_1 : decode cX12_readAll 1 = .ok (.invokevirtual 214, 3) := by decide +kernel
theorem dX12_readAll_4 : decode cX12_readAll 4 = .ok (.ifCond .ne 5, 3) := by decide +kernel
theorem dX12_readAll_7 : decode cX12_readAll 7 = .ok (.iconst 0, 1) := by decide +kernel
theorem dX12_readAll_8 : decode cX12_readAll 8 = .ok (.ireturn, 1) := by decide +kernel
theorem dX12_readAll_9 : decode cX12_readAll 9 = .ok (.aload_n 0, 1) := by decide +kernel
theorem dX12_readAll_10 : decode cX12_readAll 10 = .ok (.ldc 236, 2) := by decide +kernel
theorem dX12_readAll_12 : decode cX12_readAll 12 = .ok (.invokevirtual 189, 3) := by decide +kernel
theorem dX12_readAll_15 : decode cX12_readAll 15 = .ok (.ifCond .eq 20, 3) := by decide +kernel
theorem dX12_readAll_18 : decode cX12_readAll 18 = .ok (.aload_n 0, 1) := by decide +kernel
theorem dX12_readAll_19 : decode cX12_readAll 19 = .ok (.invokevirtual 214, 3) := by decide +kernel
theorem dX12_readAll_22 : decode cX12_readAll 22 = .ok (.ifCond .ne 5, 3) := by decide +kernel
theorem dX12_readAll_25 : decode cX12_readAll 25 = .ok (.iconst 0, 1) := by decide +kernel
theorem dX12_readAll_26 : decode cX12_readAll 26 = .ok (.ireturn, 1) := by decide +kernel
theorem dX12_readAll_27 : decode cX12_readAll 27 = .ok (.aload_n 0, 1) := by decide +kernel
theorem dX12_readAll_28 : decode cX12_readAll 28 = .ok (.iconst 5, 1) := by decide +kernel
theorem dX12_readAll_29 : decode cX12_readAll 29 = .ok (.invokevirtual 220, 3) := by decide +kernel
theorem dX12_readAll_32 : decode cX12_readAll 32 = .ok (.goto (-23), 3) := by decide +kernel
theorem dX12_readAll_35 : decode cX12_readAll 35 = .ok (.iconst 1, 1) := by decide +kernel
theorem dX12_readAll_36 : decode cX12_readAll 36 = .ok (.ireturn, 1) := by decide +kernel
theorem dX12_readAny_0 : decode cX12_readAny 0 = .ok (.aload_n 0, 1) := by decide +kernel
theorem dX12_readAny_1 : decode cX12_readAny 1 = .ok (.invokevirtual 238, 3) := by decide +kernel
theorem dX12_readAny_4 : decode cX12_readAny 4 = .ok (.ifCond .ne 5, 3) := by decide +kernel
theorem dX12_readAny_7 : decode cX12_readAny 7 = .ok (.iconst 0, 1) := by decide +kernel
theorem dX12_readAny_8 : decode cX12_readAny 8 = .ok (.ireturn, 1) := by decide +kernel
theorem dX12_readAny_9 : decode cX12_readAny 9 = .ok (.aload_n 0, 1) := by decide +kernel
theorem dX12_readAny_10 : decode cX12_readAny 10 = .ok (.ldc 241, 2) := by decide +kernel
theorem dX12_readAny_12 : decode cX12_readAny 12 = .ok (.invokevirtual 189, 3) := by decide +kernel
theorem dX12_readAny_15 : decode cX12_readAny 15 = .ok (.ifCond .eq 21, 3) := by decide +kernel
theorem dX12_readAny_18 : decode cX12_readAny 18 = .ok (.aload_n 0, 1) := by decide +kernel
theorem dX12_readAny_19 : decode cX12_readAny 19 = .ok (.invokevirtual 238, 3) := by decide +kernel
theorem dX12_readAny_22 : decode cX12_readAny 22 = .ok (.ifCond .ne 5, 3) := by decide +kernel
theorem dX12_readAny_25 : decode cX12_readAny 25 = .ok (.iconst 0, 1) := by decide +kernel
theorem dX12_readAny_26 : decode cX12_readAny 26 = .ok (.ireturn, 1) := by decide +kernel
theorem dX12_readAny_27 : decode cX12_readAny 27 = .ok (.aload_n 0, 1) := by decide +kernel
theorem dX12_readAny_28 : decode cX12_readAny 28 = .ok (.bipush 6, 2) := by decide +kernel
theorem dX12_readAny_30 : decode cX12_readAny 30 = .ok (.invokevirtual 220, 3) := by decide +kernel
theorem dX12_readAny_33 : decode cX12_readAny 33 = .ok (.goto (-24), 3) := by decide +kernel
theorem dX12_readAny_36 : decode cX12_readAny 36 = .ok (.iconst 1, 1) := by decide +kernel
theorem dX12_readAny_37 : decode cX12_readAny 37 = .ok (.ireturn, 1) := by decide +kernel
theorem dX12_readIf_0 : decode cX12_readIf 0 = .ok (.aload_n 0, 1) := by decide +kernel
theorem dX12_readIf_1 : decode cX12_readIf 1 = .ok (.ldc 243, 2) := by decide +kernel
theorem dX12_readIf_3 : decode cX12_readIf 3 = .ok (.invokevirtual 189, 3) := by decide +kernel
theorem dX12_readIf_6 : decode cX12_readIf 6 = .ok (.ifCond .ne 20, 3) := by decide +kernel
theorem dX12_readIf_9 : decode cX12_readIf 9 = .ok (.iload_n 1, 1) := by decide +kernel
theorem dX12_readIf_10 : decode cX12_readIf 10 = .ok (.ifCond .eq 10, 3) := by decide +kernel
theorem dX12_readIf_13 : decode cX12_readIf 13 = .ok (.aload_n 0, 1) := by decide +kernel
theorem dX12_readIf_14 : decode cX12_readIf 14 = .ok (.invokevirtual 223, 3) := by decide +kernel
theorem dX12_readIf_17 : decode cX12_readIf 17 = .ok (.ifCond .eq 7, 3) := by decide +kernel
theorem dX12_readIf_20 : decode cX12_readIf 20 = .ok (.iconst 1, 1) := by decide +kernel
theorem dX12_readIf_21 : decode cX12_readIf 21 = .ok (.goto 4, 3) := by decide +kernel
theorem dX12_readIf_24 : decode cX12_readIf 24 = .ok (.iconst 0, 1) := by decide +kernel
theorem dX12_readIf_25 : decode cX12_readIf 25 = .ok (.ireturn, 1) := by decide +kernel
theorem dX12_readIf_26 : decode cX12_readIf 26 = .ok (.iconst 2, 1) := by decide +kernel
theorem dX12_readIf_27 : decode cX12_readIf 27 = .ok (.iconst 5, 1) := by decide +kernel
theorem dX12_readIf_28 : decode cX12_readIf 28 = .ok (.aload_n 0, 1) := by decide +kernel
theorem dX12_readIf_29 : decode cX12_readIf 29 = .ok (.getfield 245, 3) := by decide +kernel
theorem dX12_readIf_32 : decode cX12_readIf 32 = .ok (.imul, 1) := by decide +kernel
theorem dX12_readIf_33 : decode cX12_readIf 33 = .ok (.iadd, 1) := by decide +kernel
theorem dX12_readIf_34 : decode cX12_readIf 34 = .ok (.istore_n 2, 1) := by decide +kernel
theorem dX12_readIf_35 : decode cX12_readIf 35 = .ok (.aload_n 0, 1) := by decide +kernel
theorem dX12_readIf_36 : decode cX12_readIf 36 = .ok (.getfield 42, 3) := by decide +kernel
theorem dX12_readIf_39 : decode cX12_readIf 39 = .ok (.iload_n 2, 1) := by decide +kernel
theorem dX12_readIf_40 : decode cX12_readIf 40 = .ok (.iconst 3, 1) := by decide +kernel
theorem dX12_readIf_41 : decode cX12_readIf 41 = .ok (.iadd, 1) := by decide +kernel
theorem dX12_readIf_42 : decode cX12_readIf 42 = .ok (.aload_n 0, 1) := by decide +kernel
theorem dX12_readIf_43 : decode cX12_readIf 43 = .ok (.getfield 184, 3) := by decide +kernel
theorem dX12_readIf_46 : decode cX12_readIf 46 = .ok (.iastore, 1) := by decide +kernel
theorem dX12_readIf_47 : decode cX12_readIf 47 = .ok (.aload_n 0, 1) := by decide +kernel
theorem dX12_readIf_48 : decode cX12_readIf 48 = .ok (.invokevirtual 217, 3) := by decide +kernel
theorem dX12_readIf_51 : decode cX12_readIf 51 = .ok (.ifCond .ne 5, 3) := by decide +kernel
theorem dX12_readIf_54 : decode cX12_readIf 54 = .ok (.iconst 0, 1) := by decide +kernel
theorem dX12_readIf_55 : decode cX12_readIf 55 = .ok (.ireturn, 1) := by decide +kernel
theorem dX12_readIf_56 : decode cX12_readIf 56 = .ok (.aload_n 0, 1) := by decide +kernel
theorem dX12_readIf_57 : decode cX12_readIf 57 = .ok (.getfield 42, 3) := by decide +kernel
theorem dX12_readIf_60 : decode cX12_readIf 60 = .ok (.iload_n 2, 1) := by decide +kernel
theorem dX12_readIf_61 : decode cX12_readIf 61 = .ok (.iconst 4, 1) := by decide +kernel
theorem dX12_readIf_62 : decode cX12_readIf 62 = .ok (.iadd, 1) := by decide +kernel
theorem dX12_readIf_63 : decode cX12_readIf 63 = .ok (.aload_n 0, 1) := by decide +kernel
theorem dX12_readIf_64 : decode cX12_readIf 64 = .ok (.getfield 184, 3) := by decide +kernel
theorem dX12_readIf_67 : decode cX12_readIf 67 = .ok (.aload_n 0, 1) := by decide +kernel
theorem dX12_readIf_68 : decode cX12_readIf 68 = .ok (.getfield 42, 3) := by decide +kernel
theorem dX12_readIf_71 : decode cX12_readIf 71 = .ok (.iload_n 2, 1) := by decide +kernel
theorem dX12_readIf_72 : decode cX12_readIf 72 = .ok (.iconst 3, 1) := by decide +kernel
theorem dX12_readIf_73 : decode cX12_readIf 73 = .ok (.iadd, 1) := by decide +kernel
theorem dX12_readIf_74 : decode cX12_readIf 74 = .ok (.iaload, 1) := by decide +kernel
theorem dX12_readIf_75 : decode cX12_readIf 75 = .ok (.isub, 1) := by decide +kernel
theorem dX12_readIf_76 : decode cX12_readIf 76 = .ok (.iastore, 1) := by decide +kernel
theorem dX12_readIf_77 : decode cX12_readIf 77 = .ok (.iconst 1, 1) := by decide +kernel
theorem dX12_readIf_78 : decode cX12_readIf 78 = .ok (.ireturn, 1) := by decide +kernel
theorem dX12_readRule_0 : decode cX12_readRule 0 = .ok (.iconst 2, 1) := by decide +kernel
theorem dX12_readRule_1 : decode cX12_readRule 1 = .ok (.iconst 5, 1) := by decide +kernel
theorem dX12_readRule_2 : decode cX12_readRule 2 = .ok (.aload_n 0, 1) := by decide +kernel
theorem dX12_readRule_3 : decode cX12_readRule 3 = .ok (.getfield 245, 3) := by decide +kernel
theorem dX12_readRule_6 : decode cX12_readRule 6 = .ok (.imul, 1) := by decide +kernel
theorem dX12_readRule_7 : decode cX12_readRule 7 = .ok (.iadd, 1) := by decide +kernel
theorem dX12_readRule_8 : decode cX12_readRule 8 = .ok (.istore_n 1, 1) := by decide +kernel
theorem dX12_readRule_9 : decode cX12_readRule 9 = .ok (.iconst 0, 1) := by decide +kernel
theorem dX12_readRule_10 : decode cX12_readRule 10 = .ok (.istore_n 2, 1) := by decide +kernel
theorem dX12_readRule_11 : decode cX12_readRule 11 = .ok (.iload_n 2, 1) := by decide +kernel
theorem dX12_readRule_12 : decode cX12_readRule 12 = .ok (.iconst 5, 1) := by decide +kernel
theorem dX12_readRule_13 : decode cX12_readRule 13 = .ok (.if_icmp .ge 18, 3) := by decide +kernel
theorem dX12_readRule_16 : decode cX12_readRule 16 = .ok (.aload_n 0, 1) := by decide +kernel
theorem dX12_readRule_17 : decode cX12_readRule 17 = .ok (.getfield 42, 3) := by decide +kernel
theorem dX12_readRule_20 : decode cX12_readRule 20 = .ok (.iload_n 1, 1) := by decide +kernel
theorem dX12_readRule_21 : decode cX12_readRule 21 = .ok (.iload_n 2, 1) := by decide +kernel
theorem dX12_readRule_22 : decode cX12_readRule 22 = .ok (.iadd, 1) := by decide +kernel
theorem dX12_readRule_23 : decode cX12_readRule 23 = .ok (.iconst 0, 1) := by decide +kernel
theorem dX12_readRule_24 : decode cX12_readRule 24 = .ok (.iastore, 1) := by decide +kernel
theorem dX12_readRule_25 : decode cX12_readRule 25 = .ok (.iinc 2 1, 3) := by decide +kernel
theorem dX12_readRule_28 : decode cX12_readRule 28 = .ok (.goto (-17), 3) := by decide +kernel
theorem dX12_readRule_31 : decode cX12_readRule 31 = .ok (.aload_n 0, 1) := by decide +kernel
theorem dX12_readRule_32 : decode cX12_readRule 32 = .ok (.ldc 248, 2) := by decide +kernel
theorem dX12_readRule_34 : decode cX12_readRule 34 = .ok (.invokevirtual 189, 3) := by decide +kernel
theorem dX12_readRule_37 : decode cX12_readRule 37 = .ok (.ifCond .eq 7, 3) := by decide +kernel
theorem dX12_readRule_40 : decode cX12_readRule 40 = .ok (.iconst 0, 1) := by decide +kernel
theorem dX12_readRule_41 : decode cX12_readRule 41 = .ok (.goto 86, 3) := by decide +kernel
theorem dX12_readRule_44 : decode cX12_readRule 44 = .ok (.aload_n 0, 1) := by decide +kernel
theorem dX12_readRule_45 : decode cX12_readRule 45 = .ok (.ldc 250, 2) := by decide +kernel
theorem dX12_readRule_47 : decode cX12_readRule 47 = .ok (.invokevirtual 189, 3) := by decide +kernel
theorem dX12_readRule_50 : decode cX12_readRule 50 = .ok (.ifCond .eq 7, 3) := by decide +kernel
theorem dX12_readRule_53 : decode cX12_readRule 53 = .ok (.iconst 1, 1) := by decide +kernel
theorem dX12_readRule_54 : decode cX12_readRule 54 = .ok (.goto 73, 3) := by decide +kernel
theorem dX12_readRule_57 : decode cX12_readRule 57 = .ok (.aload_n 0, 1) := by decide +kernel
theorem dX12_readRule_58 : decode cX12_readRule 58 = .ok (.ldc 252, 2) := by decide +kernel
theorem dX12_readRule_60 : decode cX12_readRule 60 = .ok (.invokevirtual 189, 3) := by decide +kernel
theorem dX12_readRule_63 : decode cX12_readRule 63 = .ok (.ifCond .eq 7, 3) := by decide +kernel
theorem dX12_readRule_66 : decode cX12_readRule 66 = .ok (.iconst 2, 1) := by decide +kernel
theorem dX12_readRule_67 : decode cX12_readRule 67 = .ok (.goto 60, 3) := by decide +kernel
theorem dX12_readRule_70 : decode cX12_readRule 70 = .ok (.aload_n 0, 1) := by decide +kernel
theorem dX12_readRule_71 : decode cX12_readRule 71 = .ok (.ldc 254, 2) := by decide +kernel
theorem dX12_readRule_73 : decode cX12_readRule 73 = .ok (.invokevirtual 189, 3) := by decide +kernel
theorem dX12_readRule_76 : decode cX12_readRule 76 = .ok (.ifCond .eq 7, 3) := by decide +kernel
theorem dX12_readRule_79 : decode cX12_readRule 79 = .ok (.iconst 3, 1) := by decide +kernel
theorem dX12_readRule_80 : decode cX12_readRule 80 = .ok (.goto 47, 3) := by decide +kernel
theorem dX12_readRule_83 : decode cX12_readRule 83 = .ok (.aload_n 0, 1) := by decide +kernel
theorem dX12_readRule_84 : decode cX12_readRule 84 = .ok (.ldc_w 256, 3) := by decide +kernel
theorem dX12_readRule_87 : decode cX12_readRule 87 = .ok (.invokevirtual 189, 3) := by decide +kernel
theorem dX12_readRule_90 : decode cX12_readRule 90 = .ok (.ifCond .eq 7, 3) := by decide +kernel
theorem dX12_readRule_93 : decode cX12_readRule 93 = .ok (.iconst 4, 1) := by decide +kernel
theorem dX12_readRule_94 : decode cX12_readRule 94 = .ok (.goto 33, 3) := by decide +kernel
theorem dX12_readRule_97 : decode cX12_readRule 97 = .ok (.aload_n 0, 1) := by decide +kernel
theorem dX12_readRule_98 : decode cX12_readRule 98 = .ok (.ldc_w 258, 3) := by decide +kernel
theorem dX12_readRule_101 : decode cX12_readRule 101 = .ok (.invokevirtual 189, 3) := by decide +kernel
theorem dX12_readRule_104 : decode cX12_readRule 104 = .ok (.ifCond .eq 7, 3) := by decide +kernel
theorem dX12_readRule_107 : decode cX12_readRule 107 = .ok (.iconst 5, 1) := by decide +kernel
theorem dX12_readRule_108 : decode cX12_readRule 108 = .ok (.goto 19, 3) := by decide +kernel
theorem dX12_readRule_111 : decode cX12_readRule 111 = .ok (.aload_n 0, 1) := by decide +kernel
theorem dX12_readRule_112 : decode cX12_readRule 112 = .ok (.ldc_w 260, 3) := by decide +kernel
theorem dX12_readRule_115 : decode cX12_readRule 115 = .ok (.invokevirtual 189, 3) := by decide +kernel
theorem dX12_readRule_118 : decode cX12_readRule 118 = .ok (.ifCond .eq 8, 3) := by decide +kernel
theorem dX12_readRule_121 : decode cX12_readRule 121 = .ok (.bipush 6, 2) := by decide +kernel
theorem dX12_readRule_123 : decode cX12_readRule 123 = .ok (.goto 4, 3) := by decide +kernel
theorem dX12_readRule_126 : decode cX12_readRule 126 = .ok (.iconst (-1), 1) := by decide +kernel
theorem dX12_readRule_127 : decode cX12_readRule 127 = .ok (.istore_n 2, 1) := by decide +kernel
theorem dX12_readRule_128 : decode cX12_readRule 128 = .ok (.iload_n 2, 1) := by decide +kernel
theorem dX12_readRule_129 : decode cX12_readRule 129 = .ok (.iconst (-1), 1) := by decide +kernel
theorem dX12_readRule_130 : decode cX12_readRule 130 = .ok (.if_icmp .ne 8, 3) := by decide +kernel
theorem dX12_readRule_133 : decode cX12_readRule 133 = .ok (.aload_n 0, 1) := by decide +kernel
theorem dX12_readRule_134 : decode cX12_readRule 134 = .ok (.invokevirtual 223, 3) := by decide +kernel
theorem dX12_readRule_137 : decode cX12_readRule 137 = .ok (.ireturn, 1) := by decide +kernel
theorem dX12_readRule_138 : decode cX12_readRule 138 = .ok (.aload_n 0, 1) := by decide +kernel
theorem dX12_readRule_139 : decode cX12_readRule 139 = .ok (.getfield 42, 3) := by decide +kernel
theorem dX12_readRule_142 : decode cX12_readRule 142 = .ok (.iload_n 1, 1) := by decide +kernel
theorem dX12_readRule_143 : decode cX12_readRule 143 = .ok (.iload_n 2, 1) := by decide +kernel
theorem dX12_readRule_144 : decode cX12_readRule 144 = .ok (.iastore, 1) := by decide +kernel
theorem dX12_readRule_145 : decode cX12_readRule 145 = .ok (.iload_n 2, 1) := by decide +kernel
theorem dX12_readRule_146 : decode cX12_readRule 146 = .ok (.iconst 5, 1) := by decide +kernel
theorem dX12_readRule_147 : decode cX12_readRule 147 = .ok (.if_icmp .ne 9, 3) := by decide +kernel
theorem dX12_readRule_150 : decode cX12_readRule 150 = .ok (.aload_n 0, 1) := by decide +kernel
theorem dX12_readRule_151 : decode cX12_readRule 151 = .ok (.iconst 1, 1) := by decide +kernel
theorem dX12_readRule_152 : decode cX12_readRule 152 = .ok (.invokevirtual 262, 3) := by decide +kernel
theorem dX12_readRule_155 : decode cX12_readRule 155 = .ok (.ireturn, 1) := by decide +kernel
theorem dX12_readRule_156 : decode cX12_readRule 156 = .ok (.iload_n 2, 1) := by decide +kernel
theorem dX12_readRule_157 : decode cX12_readRule 157 = .ok (.ifCond .ne 8, 3) := by decide +kernel
theorem dX12_readRule_160 : decode cX12_readRule 160 = .ok (.bipush 10, 2) := by decide +kernel
theorem dX12_readRule_162 : decode cX12_readRule 162 = .ok (.goto 13, 3) := by decide +kernel
theorem dX12_readRule_165 : decode cX12_readRule 165 = .ok (.iload_n 2, 1) := by decide +kernel
theorem dX12_readRule_166 : decode cX12_readRule 166 = .ok (.iconst 1, 1) := by decide +kernel
theorem dX12_readRule_167 : decode cX12_readRule 167 = .ok (.if_icmp .ne 7, 3) := by decide +kernel
theorem dX12_readRule_170 : decode cX12_readRule 170 = .ok (.iconst 1, 1) := by decide +kernel
theorem dX12_readRule_171 : decode cX12_readRule 171 = .ok (.goto 4, 3) := by decide +kernel
theorem dX12_readRule_174 : decode cX12_readRule 174 = .ok (.iconst 0, 1) := by decide +kernel
theorem dX12_readRule_175 : decode cX12_readRule 175 = .ok (.istore_n 3, 1) := by decide +kernel
theorem dX12_readRule_176 : decode cX12_readRule 176 = .ok (.iload_n 2, 1) := by decide +kernel
theorem dX12_readRule_177 : decode cX12_readRule 177 = .ok (.ifCond .ne 9, 3) := by decide +kernel
theorem dX12_readRule_180 : decode cX12_readRule 180 = .ok (.sipush 400, 3) := by decide +kernel
theorem dX12_readRule_183 : decode cX12_readRule 183 = .ok (.goto 40, 3) := by decide +kernel
theorem dX12_readRule_186 : decode cX12_readRule 186 = .ok (.iload_n 2, 1) := by decide +kernel
theorem dX12_readRule_187 : decode cX12_readRule 187 = .ok (.iconst 1, 1) := by decide +kernel
theorem dX12_readRule_188 : decode cX12_readRule 188 = .ok (.if_icmp .ne 8, 3) := by decide +kernel
theorem dX12_readRule_191 : decode cX12_readRule 191 = .ok (.bipush 40, 2) := by decide +kernel
theorem dX12_readRule_193 : decode cX12_readRule 193 = .ok (.goto 30, 3) := by decide +kernel
theorem dX12_readRule_196 : decode cX12_readRule 196 = .ok (.iload_n 2, 1) := by decide +kernel
theorem dX12_readRule_197 : decode cX12_readRule 197 = .ok (.iconst 2, 1) := by decide +kernel
theorem dX12_readRule_198 : decode cX12_readRule 198 = .ok (.if_icmp .eq 8, 3) := by decide +kernel
theorem dX12_readRule_201 : decode cX12_readRule 201 = .ok (.iload_n 2, 1) := by decide +kernel
theorem dX12_readRule_202 : decode cX12_readRule 202 = .ok (.iconst 4, 1) := by decide +kernel
theorem dX12_readRule_203 : decode cX12_readRule 203 = .ok (.if_icmp .ne 9, 3) := by decide +kernel
theorem dX12_readRule_206 : decode cX12_readRule 206 = .ok (.sipush 999, 3) := by decide +kernel
theorem dX12_readRule_209 : decode cX12_readRule 209 = .ok (.goto 14, 3) := by decide +kernel
theorem dX12_readRule_212 : decode cX12_readRule 212 = .ok (.iload_n 2, 1) := by decide +kernel
theorem dX12_readRule_213 : decode cX12_readRule 213 = .ok (.iconst 3, 1) := by decide +kernel
theorem dX12_readRule_214 : decode cX12_readRule 214 = .ok (.if_icmp .ne 8, 3) := by decide +kernel
theorem dX12_readRule_217 : decode cX12_readRule 217 = .ok (.bipush 99, 2) := by decide +kernel
theorem dX12_readRule_219 : decode cX12_readRule 219 = .ok (.goto 4, 3) := by decide +kernel
theorem dX12_readRule_222 : decode cX12_readRule 222 = .ok (.iconst 5, 1) := by decide +kernel
theorem dX12_readRule_223 : decode cX12_readRule 223 = .ok (.istore 4, 2) := by decide +kernel
theorem dX12_readRule_225 : decode cX12_readRule 225 = .ok (.aload_n 0, 1) := by decide +kernel
theorem dX12_readRule_226 : decode cX12_readRule 226 = .ok (.iload_n 3, 1) := by decide +kernel
theorem dX12_readRule_227 : decode cX12_readRule 227 = .ok (.iload 4, 2) := by decide +kernel
theorem dX12_readRule_229 : decode cX12_readRule 229 = .ok (.invokevirtual 232, 3) := by decide +kernel
theorem dX12_readRule_232 : decode cX12_readRule 232 = .ok (.ifCond .ne 5, 3) := by decide +kernel
theorem dX12_readRule_235 : decode cX12_readRule 235 = .ok (.iconst 0, 1) := by decide +kernel
theorem dX12_readRule_236 : decode cX12_readRule 236 = .ok (.ireturn, 1) := by decide +kernel
theorem dX12_readRule_237 : decode cX12_readRule 237 = .ok (.aload_n 0, 1) := by decide +kernel
theorem dX12_readRule_238 : decode cX12_readRule 238 = .ok (.getfield 42, 3) := by decide +kernel
theorem dX12_readRule_241 : decode cX12_readRule 241 = .ok (.iload_n 1, 1) := by decide +kernel
theorem dX12_readRule_242 : decode cX12_readRule 242 = .ok (.iconst 1, 1) := by decide +kernel
theorem dX12_readRule_243 : decode cX12_readRule 243 = .ok (.iadd, 1) := by decide +kernel
theorem dX12_readRule_244 : decode cX12_readRule 244 = .ok (.aload_n 0, 1) := by decide +kernel
theorem dX12_readRule_245 : decode cX12_readRule 245 = .ok (.getfield 181, 3) := by decide +kernel
theorem dX12_readRule_248 : decode cX12_readRule 248 = .ok (.iastore, 1) := by decide +kernel
theorem dX12_readRule_249 : decode cX12_readRule 249 = .ok (.iload_n 2, 1) := by decide +kernel
theorem dX12_readRule_250 : decode cX12_readRule 250 = .ok (.ifCond .eq 8, 3) := by decide +kernel
theorem dX12_readRule_253 : decode cX12_readRule 253 = .ok (.iload_n 2, 1) := by decide +kernel
theorem dX12_readRule_254 : decode cX12_readRule 254 = .ok (.iconst 4, 1) := by decide +kernel
theorem dX12_readRule_255 : decode cX12_readRule 255 = .ok (.if_icmp .ne 9, 3) := by decide +kernel
theorem dX12_readRule_258 : decode cX12_readRule 258 = .ok (.aload_n 0, 1) := by decide +kernel
theorem dX12_readRule_259 : decode cX12_readRule 259 = .ok (.iconst 0, 1) := by decide +kernel
theorem dX12_readRule_260 : decode cX12_readRule 260 = .ok (.invokevirtual 262, 3) := by decide +kernel
theorem dX12_readRule_263 : decode cX12_readRule 263 = .ok (.ireturn, 1) := by decide +kernel
theorem dX12_readRule_264 : decode cX12_readRule 264 = .ok (.iload_n 2, 1) := by decide +kernel
theorem dX12_readRule_265 : decode cX12_readRule 265 = .ok (.bipush 6, 2) := by decide +kernel
theorem dX12_readRule_267 : decode cX12_readRule 267 = .ok (.if_icmp .ne 18, 3) := by decide +kernel
theorem dX12_readRule_270 : decode cX12_readRule 270 = .ok (.aload_n 0, 1) := by decide +kernel
theorem dX12_readRule_271 : decode cX12_readRule 271 = .ok (.ldc_w 266, 3) := by decide +kernel
theorem dX12_readRule_274 : decode cX12_readRule 274 = .ok (.invokevirtual 189, 3) := by decide +kernel
theorem dX12_readRule_277 : decode cX12_readRule 277 = .ok (.ifCond .ne 8, 3) := by decide +kernel
theorem dX12_readRule_280 : decode cX12_readRule 280 = .ok (.aload_n 0, 1) := by decide +kernel
theorem dX12_readRule_281 : decode cX12_readRule 281 = .ok (.invokevirtual 223, 3) := by decide +kernel
theorem dX12_readRule_284 : decode cX12_readRule 284 = .ok (.ireturn, 1) := by decide +kernel
theorem dX12_readRule_285 : decode cX12_readRule 285 = .ok (.iload_n 2, 1) := by decide +kernel
theorem dX12_readRule_286 : decode cX12_readRule 286 = .ok (.iconst 1, 1) := by decide +kernel
theorem dX12_readRule_287 : decode cX12_readRule 287 = .ok (.if_icmp .eq 11, 3) := by decide +kernel
theorem dX12_readRule_290 : decode cX12_readRule 290 = .ok (.iload_n 2, 1) := by decide +kernel
theorem dX12_readRule_291 : decode cX12_readRule 291 = .ok (.bipush 6, 2) := by decide +kernel
theorem dX12_readRule_293 : decode cX12_readRule 293 = .ok (.if_icmp .eq 5, 3) := by decide +kernel
theorem dX12_readRule_296 : decode cX12_readRule 296 = .ok (.iconst 1, 1) := by decide +kernel
theorem dX12_readRule_297 : decode cX12_readRule 297 = .ok (.ireturn, 1) := by decide +kernel
theorem dX12_readRule_298 : decode cX12_readRule 298 = .ok (.aload_n 0, 1) := by decide +kernel
theorem dX12_readRule_299 : decode cX12_readRule 299 = .ok (.iload_n 2, 1) := by decide +kernel
theorem dX12_readRule_300 : decode cX12_readRule 300 = .ok (.iconst 1, 1) := by decide +kernel
theorem dX12_readRule_301 : decode cX12_readRule 301 = .ok (.if_icmp .ne 14, 3) := by decide +kernel
theorem dX12_readRule_304 : decode cX12_readRule 304 = .ok (.aload_n 0, 1) := by decide +kernel
theorem dX12_readRule_305 : decode cX12_readRule 305 = .ok (.getfield 42, 3) := by decide +kernel
theorem dX12_readRule_308 : decode cX12_readRule 308 = .ok (.iload_n 1, 1) := by decide +kernel
theorem dX12_readRule_309 : decode cX12_readRule 309 = .ok (.iconst 1, 1) := by decide +kernel
theorem dX12_readRule_310 : decode cX12_readRule 310 = .ok (.iadd, 1) := by decide +kernel
theorem dX12_readRule_311 : decode cX12_readRule 311 = .ok (.iaload, 1) := by decide +kernel
theorem dX12_readRule_312 : decode cX12_readRule 312 = .ok (.goto 4, 3) := by decide +kernel
theorem dX12_readRule_315 : decode cX12_readRule 315 = .ok (.iconst 0, 1) := by decide +kernel
theorem dX12_readRule_316 : decode cX12_readRule 316 = .ok (.iload_n 2, 1) := by decide +kernel
theorem dX12_readRule_317 : decode cX12_readRule 317 = .ok (.iconst 1, 1) := by decide +kernel
theorem dX12_readRule_318 : decode cX12_readRule 318 = .ok (.if_icmp .ne 8, 3) := by decide +kernel
theorem dX12_readRule_321 : decode cX12_readRule 321 = .ok (.bipush 40, 2) := by decide +kernel
theorem dX12_readRule_323 : decode cX12_readRule 323 = .ok (.goto 6, 3) := by decide +kernel
theorem dX12_readRule_326 : decode cX12_readRule 326 = .ok (.sipush 600, 3) := by decide +kernel
theorem dX12_readRule_329 : decode cX12_readRule 329 = .ok (.invokevirtual 232, 3) := by decide +kernel
theorem dX12_readRule_332 : decode cX12_readRule 332 = .ok (.ifCond .ne 5, 3) := by decide +kernel
theorem dX12_readRule_335 : decode cX12_readRule 335 = .ok (.iconst 0, 1) := by decide +kernel
theorem dX12_readRule_336 : decode cX12_readRule 336 = .ok (.ireturn, 1) := by decide +kernel
theorem dX12_readRule_337 : decode cX12_readRule 337 = .ok (.aload_n 0, 1) := by decide +kernel
theorem dX12_readRule_338 : decode cX12_readRule 338 = .ok (.getfield 42, 3) := by decide +kernel
theorem dX12_readRule_341 : decode cX12_readRule 341 = .ok (.iload_n 1, 1) := by decide +kernel
theorem dX12_readRule_342 : decode cX12_readRule 342 = .ok (.iconst 2, 1) := by decide +kernel
theorem dX12_readRule_343 : decode cX12_readRule 343 = .ok (.iadd, 1) := by decide +kernel
theorem dX12_readRule_344 : decode cX12_readRule 344 = .ok (.aload_n 0, 1) := by decide +kernel
theorem dX12_readRule_345 : decode cX12_readRule 345 = .ok (.getfield 181, 3) := by decide +kernel
theorem dX12_readRule_348 : decode cX12_readRule 348 = .ok (.iastore, 1) := by decide +kernel
theorem dX12_readRule_349 : decode cX12_readRule 349 = .ok (.iconst 1, 1) := by decide +kernel
theorem dX12_readRule_350 : decode cX12_readRule 350 = .ok (.ireturn, 1) := by decide +kernel
theorem dX12_readStyle_0 : decode cX12_readStyle 0 = .ok (.aload_n 0, 1) := by decide +kernel
theorem dX12_readStyle_1 : decode cX12_readStyle 1 = .ok (.iconst 0, 1) := by decide +kernel
theorem dX12_readStyle_2 : decode cX12_readStyle 2 = .ok (.putfield 245, 3) := by decide +kernel
theorem dX12_readStyle_5 : decode cX12_readStyle 5 = .ok (.aload_n 0, 1) := by decide +kernel
theorem dX12_readStyle_6 : decode cX12_readStyle 6 = .ok (.bipush 62, 2) := by decide +kernel
theorem dX12_readStyle_8 : decode cX12_readStyle 8 = .ok (.putfield 184, 3) := by decide +kernel
theorem dX12_readStyle_11 : decode cX12_readStyle 11 = .ok (.aload_n 0, 1) := by decide +kernel
theorem dX12_readStyle_12 : decode cX12_readStyle 12 = .ok (.iconst 0, 1) := by decide +kernel
theorem dX12_readStyle_13 : decode cX12_readStyle 13 = .ok (.putfield 211, 3) := by decide +kernel
theorem dX12_readStyle_16 : decode cX12_readStyle 16 = .ok (.aload_n 0, 1) := by decide +kernel
theorem dX12_readStyle_17 : decode cX12_readStyle 17 = .ok (.invokevirtual 147, 3) := by decide +kernel
theorem dX12_readStyle_20 : decode cX12_readStyle 20 = .ok (.aload_n 0, 1) := by decide +kernel
theorem dX12_readStyle_21 : decode cX12_readStyle 21 = .ok (.getfield 137, 3) := by decide +kernel
theorem dX12_readStyle_24 : decode cX12_readStyle 24 = .ok (.aload_n 0, 1) := by decide +kernel
theorem dX12_readStyle_25 : decode cX12_readStyle 25 = .ok (.getfield 134, 3) := by decide +kernel
theorem dX12_readStyle_28 : decode cX12_readStyle 28 = .ok (.if_icmp .ge 7, 3) := by decide +kernel
theorem dX12_readStyle_31 : decode cX12_readStyle 31 = .ok (.iconst 1, 1) := by decide +kernel
theorem dX12_readStyle_32 : decode cX12_readStyle 32 = .ok (.goto 4, 3) := by decide +kernel
theorem dX12_readStyle_35 : decode cX12_readStyle 35 = .ok (.iconst 0, 1) := by decide +kernel
theorem dX12_readStyle_36 : decode cX12_readStyle 36 = .ok (.istore_n 1, 1) := by decide +kernel
theorem dX12_readStyle_37 : decode cX12_readStyle 37 = .ok (.iload_n 1, 1) := by decide +kernel
theorem dX12_readStyle_38 : decode cX12_readStyle 38 = .ok (.ifCond .eq 108, 3) := by decide +kernel
theorem dX12_readStyle_41 : decode cX12_readStyle 41 = .ok (.aload_n 0, 1) := by decide +kernel
theorem dX12_readStyle_42 : decode cX12_readStyle 42 = .ok (.invokevirtual 147, 3) := by decide +kernel
theorem dX12_readStyle_45 : decode cX12_readStyle 45 = .ok (.aload_n 0, 1) := by decide +kernel
theorem dX12_readStyle_46 : decode cX12_readStyle 46 = .ok (.getfield 245, 3) := by decide +kernel
theorem dX12_readStyle_49 : decode cX12_readStyle 49 = .ok (.bipush 12, 2) := by decide +kernel
theorem dX12_readStyle_51 : decode cX12_readStyle 51 = .ok (.if_icmp .ne 8, 3) := by decide +kernel
theorem dX12_readStyle_54 : decode cX12_readStyle 54 = .ok (.aload_n 0, 1) := by decide +kernel
theorem dX12_readStyle_55 : decode cX12_readStyle 55 = .ok (.invokevirtual 223, 3) := by decide +kernel
theorem dX12_readStyle_58 : decode cX12_readStyle 58 = .ok (.ireturn, 1) := by decide +kernel
theorem dX12_readStyle_59 : decode cX12_readStyle 59 = .ok (.aload_n 0, 1) := by decide +kernel
theorem dX12_readStyle_60 : decode cX12_readStyle 60 = .ok (.invokevirtual 267, 3) := by decide +kernel
theorem dX12_readStyle_63 : decode cX12_readStyle 63 = .ok (.ifCond .ne 5, 3) := by decide +kernel
theorem dX12_readStyle_66 : decode cX12_readStyle 66 = .ok (.iconst 0, 1) := by decide +kernel
theorem dX12_readStyle_67 : decode cX12_readStyle 67 = .ok (.ireturn, 1) := by decide +kernel
theorem dX12_readStyle_68 : decode cX12_readStyle 68 = .ok (.aload_n 0, 1) := by decide +kernel
theorem dX12_readStyle_69 : decode cX12_readStyle 69 = .ok (.dup, 1) := by decide +kernel
theorem dX12_readStyle_70 : decode cX12_readStyle 70 = .ok (.getfield 245, 3) := by decide +kernel
theorem dX12_readStyle_73 : decode cX12_readStyle 73 = .ok (.iconst 1, 1) := by decide +kernel
theorem dX12_readStyle_74 : decode cX12_readStyle 74 = .ok (.iadd, 1) := by decide +kernel
theorem dX12_readStyle_75 : decode cX12_readStyle 75 = .ok (.putfield 245, 3) := by decide +kernel
theorem dX12_readStyle_78 : decode cX12_readStyle 78 = .ok (.aload_n 0, 1) := by decide +kernel
theorem dX12_readStyle_79 : decode cX12_readStyle 79 = .ok (.invokevirtual 147, 3) := by decide +kernel
theorem dX12_readStyle_82 : decode cX12_readStyle 82 = .ok (.aload_n 0, 1) := by decide +kernel
theorem dX12_readStyle_83 : decode cX12_readStyle 83 = .ok (.getfield 137, 3) := by decide +kernel
theorem dX12_readStyle_86 : decode cX12_readStyle 86 = .ok (.aload_n 0, 1) := by decide +kernel
theorem dX12_readStyle_87 : decode cX12_readStyle 87 = .ok (.getfield 134, 3) := by decide +kernel
theorem dX12_readStyle_90 : decode cX12_readStyle 90 = .ok (.if_icmp .ge 21, 3) := by decide +kernel
theorem dX12_readStyle_93 : decode cX12_readStyle 93 = .ok (.aload_n 0, 1) := by decide +kernel
theorem dX12_readStyle_94 : decode cX12_readStyle 94 = .ok (.getfield 20, 3) := by decide +kernel
theorem dX12_readStyle_97 : decode cX12_readStyle 97 = .ok (.aload_n 0, 1) := by decide +kernel
theorem dX12_readStyle_98 : decode cX12_readStyle 98 = .ok (.getfield 137, 3) := by decide +kernel
theorem dX12_readStyle_101 : decode cX12_readStyle 101 = .ok (.iaload, 1) := by decide +kernel
theorem dX12_readStyle_102 : decode cX12_readStyle 102 = .ok (.bipush 59, 2) := by decide +kernel
theorem dX12_readStyle_104 : decode cX12_readStyle 104 = .ok (.if_icmp .ne 7, 3) := by decide +kernel
theorem dX12_readStyle_107 : decode cX12_readStyle 107 = .ok (.iconst 1, 1) := by decide +kernel
theorem dX12_readStyle_108 : decode cX12_readStyle 108 = .ok (.goto 4, 3) := by decide +kernel
theorem dX12_readStyle_111 : decode cX12_readStyle 111 = .ok (.iconst 0, 1) := by decide +kernel
theorem dX12_readStyle_112 : decode cX12_readStyle 112 = .ok (.istore_n 1, 1) := by decide +kernel
theorem dX12_readStyle_113 : decode cX12_readStyle 113 = .ok (.iload_n 1, 1) := by decide +kernel
theorem dX12_readStyle_114 : decode cX12_readStyle 114 = .ok (.ifCond .eq 16, 3) := by decide +kernel
theorem dX12_readStyle_117 : decode cX12_readStyle 117 = .ok (.aload_n 0, 1) := by decide +kernel
theorem dX12_readStyle_118 : decode cX12_readStyle 118 = .ok (.dup, 1) := by decide +kernel
theorem dX12_readStyle_119 : decode cX12_readStyle 119 = .ok (.getfield 137, 3) := by decide +kernel
theorem dX12_readStyle_122 : decode cX12_readStyle 122 = .ok (.iconst 1, 1) := by decide +kernel
theorem dX12_readStyle_123 : decode cX12_readStyle 123 = .ok (.iadd, 1) := by decide +kernel
theorem dX12_readStyle_124 : decode cX12_readStyle 124 = .ok (.putfield 137, 3) := by decide +kernel
theorem dX12_readStyle_127 : decode cX12_readStyle 127 = .ok (.goto (-90), 3) := by decide +kernel
theorem dX12_readStyle_130 : decode cX12_readStyle 130 = .ok (.aload_n 0, 1) := by decide +kernel
theorem dX12_readStyle_131 : decode cX12_readStyle 131 = .ok (.getfield 137, 3) := by decide +kernel
theorem dX12_readStyle_134 : decode cX12_readStyle 134 = .ok (.aload_n 0, 1) := by decide +kernel
theorem dX12_readStyle_135 : decode cX12_readStyle 135 = .ok (.getfield 134, 3) := by decide +kernel
theorem dX12_readStyle_138 : decode cX12_readStyle 138 = .ok (.if_icmp .ge (-101), 3) := by decide +kernel
theorem dX12_readStyle_141 : decode cX12_readStyle 141 = .ok (.aload_n 0, 1) := by decide +kernel
theorem dX12_readStyle_142 : decode cX12_readStyle 142 = .ok (.invokevirtual 223, 3) := by decide +kernel
theorem dX12_readStyle_145 : decode cX12_readStyle 145 = .ok (.ireturn, 1) := by decide +kernel
theorem dX12_readStyle_146 : decode cX12_readStyle 146 = .ok (.iconst 1, 1) := by decide +kernel
theorem dX12_readStyle_147 : decode cX12_readStyle 147 = .ok (.ireturn, 1) := by decide +kernel
theorem dX12_style_0 : decode cX12_style 0 = .ok (.aload_n 0, 1) := by decide +kernel
theorem dX12_style_1 : decode cX12_style 1 = .ok (.invokevirtual 154, 3) := by decide +kernel
theorem dX12_style_4 : decode cX12_style 4 = .ok (.aload_n 0, 1) := by decide +kernel
theorem dX12_style_5 : decode cX12_style 5 = .ok (.iload_n 1, 1) := by decide +kernel
theorem dX12_style_6 : decode cX12_style 6 = .ok (.aload_n 0, 1) := by decide +kernel
theorem dX12_style_7 : decode cX12_style 7 = .ok (.getfield 8, 3) := by decide +kernel
theorem dX12_style_10 : decode cX12_style 10 = .ok (.iconst 0, 1) := by decide +kernel
theorem dX12_style_11 : decode cX12_style 11 = .ok (.iaload, 1) := by decide +kernel
theorem dX12_style_12 : decode cX12_style 12 = .ok (.sipush 600, 3) := by decide +kernel
theorem dX12_style_15 : decode cX12_style 15 = .ok (.invokestatic 157, 3) := by decide +kernel
theorem dX12_style_18 : decode cX12_style 18 = .ok (.ifCond .ne 7, 3) := by decide +kernel
theorem dX12_style_21 : decode cX12_style 21 = .ok (.iconst 1, 1) := by decide +kernel
theorem dX12_style_22 : decode cX12_style 22 = .ok (.goto 4, 3) := by decide +kernel
theorem dX12_style_25 : decode cX12_style 25 = .ok (.iconst 0, 1) := by decide +kernel
theorem dX12_style_26 : decode cX12_style 26 = .ok (.putfield 122, 3) := by decide +kernel
theorem dX12_style_29 : decode cX12_style 29 = .ok (.aload_n 0, 1) := by decide +kernel
theorem dX12_style_30 : decode cX12_style 30 = .ok (.getfield 122, 3) := by decide +kernel
theorem dX12_style_33 : decode cX12_style 33 = .ok (.ifCond .le 5, 3) := by decide +kernel
theorem dX12_style_36 : decode cX12_style 36 = .ok (.iconst 0, 1) := by decide +kernel
theorem dX12_style_37 : decode cX12_style 37 = .ok (.ireturn, 1) := by decide +kernel
theorem dX12_style_38 : decode cX12_style 38 = .ok (.aload_n 0, 1) := by decide +kernel
theorem dX12_style_39 : decode cX12_style 39 = .ok (.iconst (-1), 1) := by decide +kernel
theorem dX12_style_40 : decode cX12_style 40 = .ok (.putfield 23, 3) := by decide +kernel
theorem dX12_style_43 : decode cX12_style 43 = .ok (.aload_n 0, 1) := by decide +kernel
theorem dX12_style_44 : decode cX12_style 44 = .ok (.invokevirtual 270, 3) := by decide +kernel
theorem dX12_style_47 : decode cX12_style 47 = .ok (.ifCond .ne 11, 3) := by decide +kernel
theorem dX12_style_50 : decode cX12_style 50 = .ok (.aload_n 0, 1) := by decide +kernel
theorem dX12_style_51 : decode cX12_style 51 = .ok (.iconst 1, 1) := by decide +kernel
theorem dX12_style_52 : decode cX12_style 52 = .ok (.putfield 122, 3) := by decide +kernel
theorem dX12_style_55 : decode cX12_style 55 = .ok (.goto 19, 3) := by decide +kernel
theorem dX12_style_58 : decode cX12_style 58 = .ok (.aload_n 0, 1) := by decide +kernel
theorem dX12_style_59 : decode cX12_style 59 = .ok (.getfield 8, 3) := by decide +kernel
theorem dX12_style_62 : decode cX12_style 62 = .ok (.iconst 2, 1) := by decide +kernel
theorem dX12_style_63 : decode cX12_style 63 = .ok (.iaload, 1) := by decide +kernel
theorem dX12_style_64 : decode cX12_style 64 = .ok (.bipush 10, 2) := by decide +kernel
theorem dX12_style_66 : decode cX12_style 66 = .ok (.if_icmp .ne 8, 3) := by decide +kernel
theorem dX12_style_69 : decode cX12_style 69 = .ok (.aload_n 0, 1) := by decide +kernel
theorem dX12_style_70 : decode cX12_style 70 = .ok (.iconst 2, 1) := by decide +kernel
theorem dX12_style_71 : decode cX12_style 71 = .ok (.putfield 122, 3) := by decide +kernel
theorem dX12_style_74 : decode cX12_style 74 = .ok (.aload_n 0, 1) := by decide +kernel
theorem dX12_style_75 : decode cX12_style 75 = .ok (.getfield 122, 3) := by decide +kernel
theorem dX12_style_78 : decode cX12_style 78 = .ok (.ifCond .le 5, 3) := by decide +kernel
theorem dX12_style_81 : decode cX12_style 81 = .ok (.iconst 0, 1) := by decide +kernel
theorem dX12_style_82 : decode cX12_style 82 = .ok (.ireturn, 1) := by decide +kernel
theorem dX12_style_83 : decode cX12_style 83 = .ok (.ldc_w 273, 3) := by decide +kernel
theorem dX12_style_86 : decode cX12_style 86 = .ok (.sipush 562, 3) := by decide +kernel
theorem dX12_style_89 : decode cX12_style 89 = .ok (.aload_n 0, 1) := by decide +kernel
theorem dX12_style_90 : decode cX12_style 90 = .ok (.getfield 8, 3) := by decide +kernel
theorem dX12_style_93 : decode cX12_style 93 = .ok (.iconst 2, 1) := by decide +kernel
theorem dX12_style_94 : decode cX12_style 94 = .ok (.iaload, 1) := by decide +kernel
theorem dX12_style_95 : decode cX12_style 95 = .ok (.imul, 1) := by decide +kernel
theorem dX12_style_96 : decode cX12_style 96 = .ok (.iadd, 1) := by decide +kernel
theorem dX12_style_97 : decode cX12_style 97 = .ok (.istore_n 2, 1) := by decide +kernel
theorem dX12_style_98 : decode cX12_style 98 = .ok (.iconst 2, 1) := by decide +kernel
theorem dX12_style_99 : decode cX12_style 99 = .ok (.istore_n 3, 1) := by decide +kernel
theorem dX12_style_100 : decode cX12_style 100 = .ok (.iload_n 3, 1) := by decide +kernel
theorem dX12_style_101 : decode cX12_style 101 = .ok (.aload_n 0, 1) := by decide +kernel
theorem dX12_style_102 : decode cX12_style 102 = .ok (.getfield 184, 3) := by decide +kernel
theorem dX12_style_105 : decode cX12_style 105 = .ok (.if_icmp .ge 23, 3) := by decide +kernel
theorem dX12_style_108 : decode cX12_style 108 = .ok (.aload_n 0, 1) := by decide +kernel
theorem dX12_style_109 : decode cX12_style 109 = .ok (.getfield 8, 3) := by decide +kernel
theorem dX12_style_112 : decode cX12_style 112 = .ok (.iload_n 2, 1) := by decide +kernel
theorem dX12_style_113 : decode cX12_style 113 = .ok (.iload_n 3, 1) := by decide +kernel
theorem dX12_style_114 : decode cX12_style 114 = .ok (.iadd, 1) := by decide +kernel
theorem dX12_style_115 : decode cX12_style 115 = .ok (.aload_n 0, 1) := by decide +kernel
theorem dX12_style_116 : decode cX12_style 116 = .ok (.getfield 42, 3) := by decide +kernel
theorem dX12_style_119 : decode cX12_style 119 = .ok (.iload_n 3, 1) := by decide +kernel
theorem dX12_style_120 : decode cX12_style 120 = .ok (.iaload, 1) := by decide +kernel
theorem dX12_style_121 : decode cX12_style 121 = .ok (.iastore, 1) := by decide +kernel
theorem dX12_style_122 : decode cX12_style 122 = .ok (.iinc 3 1, 3) := by decide +kernel
theorem dX12_style_125 : decode cX12_style 125 = .ok (.goto (-25), 3) := by decide +kernel
theorem dX12_style_128 : decode cX12_style 128 = .ok (.aload_n 0, 1) := by decide +kernel
theorem dX12_style_129 : decode cX12_style 129 = .ok (.getfield 8, 3) := by decide +kernel
theorem dX12_style_132 : decode cX12_style 132 = .ok (.iload_n 2, 1) := by decide +kernel
theorem dX12_style_133 : decode cX12_style 133 = .ok (.iload_n 1, 1) := by decide +kernel
theorem dX12_style_134 : decode cX12_style 134 = .ok (.iastore, 1) := by decide +kernel
theorem dX12_style_135 : decode cX12_style 135 = .ok (.aload_n 0, 1) := by decide +kernel
theorem dX12_style_136 : decode cX12_style 136 = .ok (.getfield 8, 3) := by decide +kernel
theorem dX12_style_139 : decode cX12_style 139 = .ok (.iload_n 2, 1) := by decide +kernel
theorem dX12_style_140 : decode cX12_style 140 = .ok (.iconst 1, 1) := by decide +kernel
theorem dX12_style_141 : decode cX12_style 141 = .ok (.iadd, 1) := by decide +kernel
theorem dX12_style_142 : decode cX12_style 142 = .ok (.aload_n 0, 1) := by decide +kernel
theorem dX12_style_143 : decode cX12_style 143 = .ok (.getfield 245, 3) := by decide +kernel
theorem dX12_style_146 : decode cX12_style 146 = .ok (.iastore, 1) := by decide +kernel
theorem dX12_style_147 : decode cX12_style 147 = .ok (.aload_n 0, 1) := by decide +kernel
theorem dX12_style_148 : decode cX12_style 148 = .ok (.getfield 8, 3) := by decide +kernel
theorem dX12_style_151 : decode cX12_style 151 = .ok (.iconst 2, 1) := by decide +kernel
theorem dX12_style_152 : decode cX12_style 152 = .ok (.dup2, 1) := by decide +kernel
theorem dX12_style_153 : decode cX12_style 153 = .ok (.iaload, 1) := by decide +kernel
theorem dX12_style_154 : decode cX12_style 154 = .ok (.iconst 1, 1) := by decide +kernel
theorem dX12_style_155 : decode cX12_style 155 = .ok (.iadd, 1) := by decide +kernel
theorem dX12_style_156 : decode cX12_style 156 = .ok (.iastore, 1) := by decide +kernel
theorem dX12_style_157 : decode cX12_style 157 = .ok (.aload_n 0, 1) := by decide +kernel
theorem dX12_style_158 : decode cX12_style 158 = .ok (.getfield 245, 3) := by decide +kernel
theorem dX12_style_161 : decode cX12_style 161 = .ok (.ireturn, 1) := by decide +kernel
theorem dX12_styleOf_0 : decode cX12_styleOf 0 = .ok (.iconst (-1), 1) := by decide +kernel
theorem dX12_styleOf_1 : decode cX12_styleOf 1 = .ok (.istore_n 2, 1) := by decide +kernel
theorem dX12_styleOf_2 : decode cX12_styleOf 2 = .ok (.iconst 0, 1) := by decide +kernel
theorem dX12_styleOf_3 : decode cX12_styleOf 3 = .ok (.istore_n 3, 1) := by decide +kernel
theorem dX12_styleOf_4 : decode cX12_styleOf 4 = .ok (.iload_n 3, 1) := by decide +kernel
theorem dX12_styleOf_5 : decode cX12_styleOf 5 = .ok (.aload_n 0, 1) := by decide +kernel
theorem dX12_styleOf_6 : decode cX12_styleOf 6 = .ok (.getfield 8, 3) := by decide +kernel
theorem dX12_styleOf_9 : decode cX12_styleOf 9 = .ok (.iconst 2, 1) := by decide +kernel
theorem dX12_styleOf_10 : decode cX12_styleOf 10 = .ok (.iaload, 1) := by decide +kernel
theorem dX12_styleOf_11 : decode cX12_styleOf 11 = .ok (.if_icmp .ge 55, 3) := by decide +kernel
theorem dX12_styleOf_14 : decode cX12_styleOf 14 = .ok (.ldc_w 273, 3) := by decide +kernel
theorem dX12_styleOf_17 : decode cX12_styleOf 17 = .ok (.sipush 562, 3) := by decide +kernel
theorem dX12_styleOf_20 : decode cX12_styleOf 20 = .ok (.iload_n 3, 1) := by decide +kernel
theorem dX12_styleOf_21 : decode cX12_styleOf 21 = .ok (.imul, 1) := by decide +kernel
theorem dX12_styleOf_22 : decode cX12_styleOf 22 = .ok (.iadd, 1) := by decide +kernel
theorem dX12_styleOf_23 : decode cX12_styleOf 23 = .ok (.istore 4, 2) := by decide +kernel
theorem dX12_styleOf_25 : decode cX12_styleOf 25 = .ok (.aload_n 0, 1) := by decide +kernel
theorem dX12_styleOf_26 : decode cX12_styleOf 26 = .ok (.getfield 8, 3) := by decide +kernel
theorem dX12_styleOf_29 : decode cX12_styleOf 29 = .ok (.iload 4, 2) := by decide +kernel
theorem dX12_styleOf_31 : decode cX12_styleOf 31 = .ok (.iaload, 1) := by decide +kernel
theorem dX12_styleOf_32 : decode cX12_styleOf 32 = .ok (.iload_n 1, 1) := by decide +kernel
theorem dX12_styleOf_33 : decode cX12_styleOf 33 = .ok (.if_icmp .gt 27, 3) := by decide +kernel
theorem dX12_styleOf_36 : decode cX12_styleOf 36 = .ok (.iload_n 2, 1) := by decide +kernel
theorem dX12_styleOf_37 : decode cX12_styleOf 37 = .ok (.iconst (-1), 1) := by decide +kernel
theorem dX12_styleOf_38 : decode cX12_styleOf 38 = .ok (.if_icmp .eq 19, 3) := by decide +kernel
theorem dX12_styleOf_41 : decode cX12_styleOf 41 = .ok (.aload_n 0, 1) := by decide +kernel
theorem dX12_styleOf_42 : decode cX12_styleOf 42 = .ok (.getfield 8, 3) := by decide +kernel
theorem dX12_styleOf_45 : decode cX12_styleOf 45 = .ok (.iload 4, 2) := by decide +kernel
theorem dX12_styleOf_47 : decode cX12_styleOf 47 = .ok (.iaload, 1) := by decide +kernel
theorem dX12_styleOf_48 : decode cX12_styleOf 48 = .ok (.aload_n 0, 1) := by decide +kernel
theorem dX12_styleOf_49 : decode cX12_styleOf 49 = .ok (.getfield 8, 3) := by decide +kernel
theorem dX12_styleOf_52 : decode cX12_styleOf 52 = .ok (.iload_n 2, 1) := by decide +kernel
theorem dX12_styleOf_53 : decode cX12_styleOf 53 = .ok (.iaload, 1) := by decide +kernel
theorem dX12_styleOf_54 : decode cX12_styleOf 54 = .ok (.if_icmp .lt 6, 3) := by decide +kernel
theorem dX12_styleOf_57 : decode cX12_styleOf 57 = .ok (.iload 4, 2) := by decide +kernel
theorem dX12_styleOf_59 : decode cX12_styleOf 59 = .ok (.istore_n 2, 1) := by decide +kernel
theorem dX12_styleOf_60 : decode cX12_styleOf 60 = .ok (.iinc 3 1, 3) := by decide +kernel
theorem dX12_styleOf_63 : decode cX12_styleOf 63 = .ok (.goto (-59), 3) := by decide +kernel
theorem dX12_styleOf_66 : decode cX12_styleOf 66 = .ok (.iload_n 2, 1) := by decide +kernel
theorem dX12_styleOf_67 : decode cX12_styleOf 67 = .ok (.ireturn, 1) := by decide +kernel
theorem dX12_holds_0 : decode cX12_holds 0 = .ok (.aload_n 0, 1) := by decide +kernel
theorem dX12_holds_1 : decode cX12_holds 1 = .ok (.getfield 8, 3) := by decide +kernel
theorem dX12_holds_4 : decode cX12_holds 4 = .ok (.iload_n 1, 1) := by decide +kernel
theorem dX12_holds_5 : decode cX12_holds 5 = .ok (.iconst 2, 1) := by decide +kernel
theorem dX12_holds_6 : decode cX12_holds 6 = .ok (.iadd, 1) := by decide +kernel
theorem dX12_holds_7 : decode cX12_holds 7 = .ok (.iconst 5, 1) := by decide +kernel
theorem dX12_holds_8 : decode cX12_holds 8 = .ok (.iload_n 2, 1) := by decide +kernel
theorem dX12_holds_9 : decode cX12_holds 9 = .ok (.imul, 1) := by decide +kernel
theorem dX12_holds_10 : decode cX12_holds 10 = .ok (.iadd, 1) := by decide +kernel
theorem dX12_holds_11 : decode cX12_holds 11 = .ok (.iconst 3, 1) := by decide +kernel
theorem dX12_holds_12 : decode cX12_holds 12 = .ok (.iadd, 1) := by decide +kernel
theorem dX12_holds_13 : decode cX12_holds 13 = .ok (.iaload, 1) := by decide +kernel
theorem dX12_holds_14 : decode cX12_holds 14 = .ok (.istore_n 3, 1) := by decide +kernel
theorem dX12_holds_15 : decode cX12_holds 15 = .ok (.aload_n 0, 1) := by decide +kernel
theorem dX12_holds_16 : decode cX12_holds 16 = .ok (.getfield 8, 3) := by decide +kernel
theorem dX12_holds_19 : decode cX12_holds 19 = .ok (.iload_n 1, 1) := by decide +kernel
theorem dX12_holds_20 : decode cX12_holds 20 = .ok (.iconst 2, 1) := by decide +kernel
theorem dX12_holds_21 : decode cX12_holds 21 = .ok (.iadd, 1) := by decide +kernel
theorem dX12_holds_22 : decode cX12_holds 22 = .ok (.iconst 5, 1) := by decide +kernel
theorem dX12_holds_23 : decode cX12_holds 23 = .ok (.iload_n 2, 1) := by decide +kernel
theorem dX12_holds_24 : decode cX12_holds 24 = .ok (.imul, 1) := by decide +kernel
theorem dX12_holds_25 : decode cX12_holds 25 = .ok (.iadd, 1) := by decide +kernel
theorem dX12_holds_26 : decode cX12_holds 26 = .ok (.iconst 4, 1) := by decide +kernel
theorem dX12_holds_27 : decode cX12_holds 27 = .ok (.iadd, 1) := by decide +kernel
theorem dX12_holds_28 : decode cX12_holds 28 = .ok (.iaload, 1) := by decide +kernel
theorem dX12_holds_29 : decode cX12_holds 29 = .ok (.istore 4, 2) := by decide +kernel
theorem dX12_holds_31 : decode cX12_holds 31 = .ok (.iload 4, 2) := by decide +kernel
theorem dX12_holds_33 : decode cX12_holds 33 = .ok (.ifCond .ne 5, 3) := by decide +kernel
theorem dX12_holds_36 : decode cX12_holds 36 = .ok (.iconst 1, 1) := by decide +kernel
theorem dX12_holds_37 : decode cX12_holds 37 = .ok (.ireturn, 1) := by decide +kernel
theorem dX12_holds_38 : decode cX12_holds 38 = .ok (.aload_n 0, 1) := by decide +kernel
theorem dX12_holds_39 : decode cX12_holds 39 = .ok (.iconst 0, 1) := by decide +kernel
theorem dX12_holds_40 : decode cX12_holds 40 = .ok (.putfield 274, 3) := by decide +kernel
theorem dX12_holds_43 : decode cX12_holds 43 = .ok (.iconst 0, 1) := by decide +kernel
theorem dX12_holds_44 : decode cX12_holds 44 = .ok (.istore 5, 2) := by decide +kernel
theorem dX12_holds_46 : decode cX12_holds 46 = .ok (.iload 5, 2) := by decide +kernel
theorem dX12_holds_48 : decode cX12_holds 48 = .ok (.iload 4, 2) := by decide +kernel
theorem dX12_holds_50 : decode cX12_holds 50 = .ok (.if_icmp .ge 310, 3) := by decide +kernel
theorem dX12_holds_53 : decode cX12_holds 53 = .ok (.aload_n 0, 1) := by decide +kernel
theorem dX12_holds_54 : decode cX12_holds 54 = .ok (.getfield 8, 3) := by decide +kernel
theorem dX12_holds_57 : decode cX12_holds 57 = .ok (.iload_n 1, 1) := by decide +kernel
theorem dX12_holds_58 : decode cX12_holds 58 = .ok (.iload_n 3, 1) := by decide +kernel
theorem dX12_holds_59 : decode cX12_holds 59 = .ok (.iadd, 1) := by decide +kernel
theorem dX12_holds_60 : decode cX12_holds 60 = .ok (.iload 5, 2) := by decide +kernel
theorem dX12_holds_62 : decode cX12_holds 62 = .ok (.iadd, 1) := by decide +kernel
theorem dX12_holds_63 : decode cX12_holds 63 = .ok (.iaload, 1) := by decide +kernel
theorem dX12_holds_64 : decode cX12_holds 64 = .ok (.istore 6, 2) := by decide +kernel
theorem dX12_holds_66 : decode cX12_holds 66 = .ok (.iload 6, 2) := by decide +kernel
theorem dX12_holds_68 : decode cX12_holds 68 = .ok (.iconst 1, 1) := by decide +kernel
theorem dX12_holds_69 : decode cX12_holds 69 = .ok (.if_icmp .ne 46, 3) := by decide +kernel
theorem dX12_holds_72 : decode cX12_holds 72 = .ok (.aload_n 0, 1) := by decide +kernel
theorem dX12_holds_73 : decode cX12_holds 73 = .ok (.getfield 52, 3) := by decide +kernel
theorem dX12_holds_76 : decode cX12_holds 76 = .ok (.aload_n 0, 1) := by decide +kernel
theorem dX12_holds_77 : decode cX12_holds 77 = .ok (.getfield 274, 3) := by decide +kernel
theorem dX12_holds_80 : decode cX12_holds 80 = .ok (.aload_n 0, 1) := by decide +kernel
theorem dX12_holds_81 : decode cX12_holds 81 = .ok (.getfield 45, 3) := by decide +kernel
theorem dX12_holds_84 : decode cX12_holds 84 = .ok (.aload_n 0, 1) := by decide +kernel
theorem dX12_holds_85 : decode cX12_holds 85 = .ok (.getfield 8, 3) := by decide +kernel
theorem dX12_holds_88 : decode cX12_holds 88 = .ok (.iload_n 1, 1) := by decide +kernel
theorem dX12_holds_89 : decode cX12_holds 89 = .ok (.iload_n 3, 1) := by decide +kernel
theorem dX12_holds_90 : decode cX12_holds 90 = .ok (.iadd, 1) := by decide +kernel
theorem dX12_holds_91 : decode cX12_holds 91 = .ok (.iload 5, 2) := by decide +kernel
theorem dX12_holds_93 : decode cX12_holds 93 = .ok (.iadd, 1) := by decide +kernel
theorem dX12_holds_94 : decode cX12_holds 94 = .ok (.iconst 1, 1) := by decide +kernel
theorem dX12_holds_95 : decode cX12_holds 95 = .ok (.iadd, 1) := by decide +kernel
theorem dX12_holds_96 : decode cX12_holds 96 = .ok (.iaload, 1) := by decide +kernel
theorem dX12_holds_97 : decode cX12_holds 97 = .ok (.baload, 1) := by decide +kernel
theorem dX12_holds_98 : decode cX12_holds 98 = .ok (.bastore, 1) := by decide +kernel
theorem dX12_holds_99 : decode cX12_holds 99 = .ok (.aload_n 0, 1) := by decide +kernel
theorem dX12_holds_100 : decode cX12_holds 100 = .ok (.dup, 1) := by decide +kernel
theorem dX12_holds_101 : decode cX12_holds 101 = .ok (.getfield 274, 3) := by decide +kernel
theorem dX12_holds_104 : decode cX12_holds 104 = .ok (.iconst 1, 1) := by decide +kernel
theorem dX12_holds_105 : decode cX12_holds 105 = .ok (.iadd, 1) := by decide +kernel
theorem dX12_holds_106 : decode cX12_holds 106 = .ok (.putfield 274, 3) := by decide +kernel
theorem dX12_holds_109 : decode cX12_holds 109 = .ok (.iinc 5 2, 3) := by decide +kernel
theorem dX12_holds_112 : decode cX12_holds 112 = .ok (.goto 245, 3) := by decide +kernel
theorem dX12_holds_115 : decode cX12_holds 115 = .ok (.iload 6, 2) := by decide +kernel
theorem dX12_holds_117 : decode cX12_holds 117 = .ok (.iconst 2, 1) := by decide +kernel
theorem dX12_holds_118 : decode cX12_holds 118 = .ok (.if_icmp .eq 9, 3) := by decide +kernel
theorem dX12_holds_121 : decode cX12_holds 121 = .ok (.iload 6, 2) := by decide +kernel
theorem dX12_holds_123 : decode cX12_holds 123 = .ok (.iconst 3, 1) := by decide +kernel
theorem dX12_holds_124 : decode cX12_holds 124 = .ok (.if_icmp .ne 96, 3) := by decide +kernel
theorem dX12_holds_127 : decode cX12_holds 127 = .ok (.aload_n 0, 1) := by decide +kernel
theorem dX12_holds_128 : decode cX12_holds 128 = .ok (.getfield 49, 3) := by decide +kernel
theorem dX12_holds_131 : decode cX12_holds 131 = .ok (.aload_n 0, 1) := by decide +kernel
theorem dX12_holds_132 : decode cX12_holds 132 = .ok (.getfield 8, 3) := by decide +kernel
theorem dX12_holds_135 : decode cX12_holds 135 = .ok (.iload_n 1, 1) := by decide +kernel
theorem dX12_holds_136 : decode cX12_holds 136 = .ok (.iload_n 3, 1) := by decide +kernel
theorem dX12_holds_137 : decode cX12_holds 137 = .ok (.iadd, 1) := by decide +kernel
theorem dX12_holds_138 : decode cX12_holds 138 = .ok (.iload 5, 2) := by decide +kernel
theorem dX12_holds_140 : decode cX12_holds 140 = .ok (.iadd, 1) := by decide +kernel
theorem dX12_holds_141 : decode cX12_holds 141 = .ok (.iconst 1, 1) := by decide +kernel
theorem dX12_holds_142 : decode cX12_holds 142 = .ok (.iadd, 1) := by decide +kernel
theorem dX12_holds_143 : decode cX12_holds 143 = .ok (.iaload, 1) := by decide +kernel
theorem dX12_holds_144 : decode cX12_holds 144 = .ok (.iaload, 1) := by decide +kernel
theorem dX12_holds_145 : decode cX12_holds 145 = .ok (.istore 7, 2) := by decide +kernel
theorem dX12_holds_147 : decode cX12_holds 147 = .ok (.aload_n 0, 1) := by decide +kernel
theorem dX12_holds_148 : decode cX12_holds 148 = .ok (.getfield 8, 3) := by decide +kernel
theorem dX12_holds_151 : decode cX12_holds 151 = .ok (.iload_n 1, 1) := by decide +kernel
theorem dX12_holds_152 : decode cX12_holds 152 = .ok (.iload_n 3, 1) := by decide +kernel
theorem dX12_holds_153 : decode cX12_holds 153 = .ok (.iadd, 1) := by decide +kernel
theorem dX12_holds_154 : decode cX12_holds 154 = .ok (.iload 5, 2) := by decide +kernel
theorem dX12_holds_156 : decode cX12_holds 156 = .ok (.iadd, 1) := by decide +kernel
theorem dX12_holds_157 : decode cX12_holds 157 = .ok (.iconst 2, 1) := by decide +kernel
theorem dX12_holds_158 : decode cX12_holds 158 = .ok (.iadd, 1) := by decide +kernel
theorem dX12_holds_159 : decode cX12_holds 159 = .ok (.iaload, 1) := by decide +kernel
theorem dX12_holds_160 : decode cX12_holds 160 = .ok (.istore 8, 2) := by decide +kernel
theorem dX12_holds_162 : decode cX12_holds 162 = .ok (.aload_n 0, 1) := by decide +kernel
