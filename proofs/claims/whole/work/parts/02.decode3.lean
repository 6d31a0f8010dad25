theorem dX7_layEnds_75 : decode cX7_layEnds 75 = .ok (.laload, 1) := by decide +kernel
theorem dX7_layEnds_76 : decode cX7_layEnds 76 = .ok (.lload 4, 2) := by decide +kernel
theorem dX7_layEnds_78 : decode cX7_layEnds 78 = .ok (.lmul, 1) := by decide +kernel
theorem dX7_layEnds_79 : decode cX7_layEnds 79 = .ok (.lastore, 1) := by decide +kernel
theorem dX7_layEnds_80 : decode cX7_layEnds 80 = .ok (.aload_n 0, 1) := by decide +kernel
theorem dX7_layEnds_81 : decode cX7_layEnds 81 = .ok (.getfield 68, 3) := by decide +kernel
theorem dX7_layEnds_84 : decode cX7_layEnds 84 = .ok (.iload_n 1, 1) := by decide +kernel
theorem dX7_layEnds_85 : decode cX7_layEnds 85 = .ok (.iconst 1, 1) := by decide +kernel
theorem dX7_layEnds_86 : decode cX7_layEnds 86 = .ok (.iadd, 1) := by decide +kernel
theorem dX7_layEnds_87 : decode cX7_layEnds 87 = .ok (.aload_n 0, 1) := by decide +kernel
theorem dX7_layEnds_88 : decode cX7_layEnds 88 = .ok (.getfield 59, 3) := by decide +kernel
theorem dX7_layEnds_91 : decode cX7_layEnds 91 = .ok (.iload 7, 2) := by decide +kernel
theorem dX7_layEnds_93 : decode cX7_layEnds 93 = .ok (.laload, 1) := by decide +kernel
theorem dX7_layEnds_94 : decode cX7_layEnds 94 = .ok (.lload 4, 2) := by decide +kernel
theorem dX7_layEnds_96 : decode cX7_layEnds 96 = .ok (.lmul, 1) := by decide +kernel
theorem dX7_layEnds_97 : decode cX7_layEnds 97 = .ok (.lastore, 1) := by decide +kernel
theorem dX7_layEnds_98 : decode cX7_layEnds 98 = .ok (.return_, 1) := by decide +kernel
theorem dX7_sideOf_0 : decode cX7_sideOf 0 = .ok (.aload_n 0, 1) := by decide +kernel
theorem dX7_sideOf_1 : decode cX7_sideOf 1 = .ok (.getfield 65, 3) := by decide +kernel
theorem dX7_sideOf_4 : decode cX7_sideOf 4 = .ok (.iload_n 1, 1) := by decide +kernel
theorem dX7_sideOf_5 : decode cX7_sideOf 5 = .ok (.laload, 1) := by decide +kernel
theorem dX7_sideOf_6 : decode cX7_sideOf 6 = .ok (.aload_n 0, 1) := by decide +kernel
theorem dX7_sideOf_7 : decode cX7_sideOf 7 = .ok (.getfield 68, 3) := by decide +kernel
theorem dX7_sideOf_10 : decode cX7_sideOf 10 = .ok (.iload_n 1, 1) := by decide +kernel
theorem dX7_sideOf_11 : decode cX7_sideOf 11 = .ok (.laload, 1) := by decide +kernel
theorem dX7_sideOf_12 : decode cX7_sideOf 12 = .ok (.aload_n 0, 1) := by decide +kernel
theorem dX7_sideOf_13 : decode cX7_sideOf 13 = .ok (.getfield 65, 3) := by decide +kernel
theorem dX7_sideOf_16 : decode cX7_sideOf 16 = .ok (.iload_n 1, 1) := by decide +kernel
theorem dX7_sideOf_17 : decode cX7_sideOf 17 = .ok (.iconst 1, 1) := by decide +kernel
theorem dX7_sideOf_18 : decode cX7_sideOf 18 = .ok (.iadd, 1) := by decide +kernel
theorem dX7_sideOf_19 : decode cX7_sideOf 19 = .ok (.laload, 1) := by decide +kernel
theorem dX7_sideOf_20 : decode cX7_sideOf 20 = .ok (.aload_n 0, 1) := by decide +kernel
theorem dX7_sideOf_21 : decode cX7_sideOf 21 = .ok (.getfield 68, 3) := by decide +kernel
theorem dX7_sideOf_24 : decode cX7_sideOf 24 = .ok (.iload_n 1, 1) := by decide +kernel
theorem dX7_sideOf_25 : decode cX7_sideOf 25 = .ok (.iconst 1, 1) := by decide +kernel
theorem dX7_sideOf_26 : decode cX7_sideOf 26 = .ok (.iadd, 1) := by decide +kernel
theorem dX7_sideOf_27 : decode cX7_sideOf 27 = .ok (.laload, 1) := by decide +kernel
theorem dX7_sideOf_28 : decode cX7_sideOf 28 = .ok (.aload_n 0, 1) := by decide +kernel
theorem dX7_sideOf_29 : decode cX7_sideOf 29 = .ok (.getfield 65, 3) := by decide +kernel
theorem dX7_sideOf_32 : decode cX7_sideOf 32 = .ok (.iload_n 2, 1) := by decide +kernel
theorem dX7_sideOf_33 : decode cX7_sideOf 33 = .ok (.laload, 1) := by decide +kernel
theorem dX7_sideOf_34 : decode cX7_sideOf 34 = .ok (.aload_n 0, 1) := by decide +kernel
theorem dX7_sideOf_35 : decode cX7_sideOf 35 = .ok (.getfield 68, 3) := by decide +kernel
theorem dX7_sideOf_38 : decode cX7_sideOf 38 = .ok (.iload_n 2, 1) := by decide +kernel
theorem dX7_sideOf_39 : decode cX7_sideOf 39 = .ok (.laload, 1) := by decide +kernel
theorem dX7_sideOf_40 : decode cX7_sideOf 40 = .ok (.invokestatic 164, 3) := by decide +kernel
theorem dX7_sideOf_43 : decode cX7_sideOf 43 = .ok (.ireturn, 1) := by decide +kernel
theorem dX7_isOnSegment_0 : decode cX7_isOnSegment 0 = .ok (.aload_n 0, 1) := by decide +kernel
theorem dX7_isOnSegment_1 : decode cX7_isOnSegment 1 = .ok (.getfield 65, 3) := by decide +kernel
theorem dX7_isOnSegment_4 : decode cX7_isOnSegment 4 = .ok (.iload_n 1, 1) := by decide +kernel
theorem dX7_isOnSegment_5 : decode cX7_isOnSegment 5 = .ok (.laload, 1) := by decide +kernel
theorem dX7_isOnSegment_6 : decode cX7_isOnSegment 6 = .ok (.aload_n 0, 1) := by decide +kernel
theorem dX7_isOnSegment_7 : decode cX7_isOnSegment 7 = .ok (.getfield 68, 3) := by decide +kernel
theorem dX7_isOnSegment_10 : decode cX7_isOnSegment 10 = .ok (.iload_n 1, 1) := by decide +kernel
theorem dX7_isOnSegment_11 : decode cX7_isOnSegment 11 = .ok (.laload, 1) := by decide +kernel
theorem dX7_isOnSegment_12 : decode cX7_isOnSegment 12 = .ok (.aload_n 0, 1) := by decide +kernel
theorem dX7_isOnSegment_13 : decode cX7_isOnSegment 13 = .ok (.getfield 65, 3) := by decide +kernel
theorem dX7_isOnSegment_16 : decode cX7_isOnSegment 16 = .ok (.iload_n 1, 1) := by decide +kernel
theorem dX7_isOnSegment_17 : decode cX7_isOnSegment 17 = .ok (.iconst 1, 1) := by decide +kernel
theorem dX7_isOnSegment_18 : decode cX7_isOnSegment 18 = .ok (.iadd, 1) := by decide +kernel
theorem dX7_isOnSegment_19 : decode cX7_isOnSegment 19 = .ok (.laload, 1) := by decide +kernel
theorem dX7_isOnSegment_20 : decode cX7_isOnSegment 20 = .ok (.aload_n 0, 1) := by decide +kernel
theorem dX7_isOnSegment_21 : decode cX7_isOnSegment 21 = .ok (.getfield 68, 3) := by decide +kernel
theorem dX7_isOnSegment_24 : decode cX7_isOnSegment 24 = .ok (.iload_n 1, 1) := by decide +kernel
theorem dX7_isOnSegment_25 : decode cX7_isOnSegment 25 = .ok (.iconst 1, 1) := by decide +kernel
theorem dX7_isOnSegment_26 : decode cX7_isOnSegment 26 = .ok (.iadd, 1) := by decide +kernel
theorem dX7_isOnSegment_27 : decode cX7_isOnSegment 27 = .ok (.laload, 1) := by decide +kernel
theorem dX7_isOnSegment_28 : decode cX7_isOnSegment 28 = .ok (.aload_n 0, 1) := by decide +kernel
theorem dX7_isOnSegment_29 : decode cX7_isOnSegment 29 = .ok (.getfield 65, 3) := by decide +kernel
theorem dX7_isOnSegment_32 : decode cX7_isOnSegment 32 = .ok (.iload_n 2, 1) := by decide +kernel
theorem dX7_isOnSegment_33 : decode cX7_isOnSegment 33 = .ok (.laload, 1) := by decide +kernel
theorem dX7_isOnSegment_34 : decode cX7_isOnSegment 34 = .ok (.aload_n 0, 1) := by decide +kernel
theorem dX7_isOnSegment_35 : decode cX7_isOnSegment 35 = .ok (.getfield 68, 3) := by decide +kernel
theorem dX7_isOnSegment_38 : decode cX7_isOnSegment 38 = .ok (.iload_n 2, 1) := by decide +kernel
theorem dX7_isOnSegment_39 : decode cX7_isOnSegment 39 = .ok (.laload, 1) := by decide +kernel
theorem dX7_isOnSegment_40 : decode cX7_isOnSegment 40 = .ok (.invokestatic 172, 3) := by decide +kernel
theorem dX7_isOnSegment_43 : decode cX7_isOnSegment 43 = .ok (.ireturn, 1) := by decide +kernel
theorem dX7_doMeet_0 : decode cX7_doMeet 0 = .ok (.aload_n 0, 1) := by decide +kernel
theorem dX7_doMeet_1 : decode cX7_doMeet 1 = .ok (.iconst 0, 1) := by decide +kernel
theorem dX7_doMeet_2 : decode cX7_doMeet 2 = .ok (.iconst 2, 1) := by decide +kernel
theorem dX7_doMeet_3 : decode cX7_doMeet 3 = .ok (.invokevirtual 176, 3) := by decide +kernel
theorem dX7_doMeet_6 : decode cX7_doMeet 6 = .ok (.ifCond .ne 30, 3) := by decide +kernel
theorem dX7_doMeet_9 : decode cX7_doMeet 9 = .ok (.aload_n 0, 1) := by decide +kernel
theorem dX7_doMeet_10 : decode cX7_doMeet 10 = .ok (.iconst 0, 1) := by decide +kernel
theorem dX7_doMeet_11 : decode cX7_doMeet 11 = .ok (.iconst 3, 1) := by decide +kernel
theorem dX7_doMeet_12 : decode cX7_doMeet 12 = .ok (.invokevirtual 176, 3) := by decide +kernel
theorem dX7_doMeet_15 : decode cX7_doMeet 15 = .ok (.ifCond .ne 21, 3) := by decide +kernel
theorem dX7_doMeet_18 : decode cX7_doMeet 18 = .ok (.aload_n 0, 1) := by decide +kernel
theorem dX7_doMeet_19 : decode cX7_doMeet 19 = .ok (.iconst 2, 1) := by decide +kernel
theorem dX7_doMeet_20 : decode cX7_doMeet 20 = .ok (.iconst 0, 1) := by decide +kernel
theorem dX7_doMeet_21 : decode cX7_doMeet 21 = .ok (.invokevirtual 176, 3) := by decide +kernel
theorem dX7_doMeet_24 : decode cX7_doMeet 24 = .ok (.ifCond .ne 12, 3) := by decide +kernel
theorem dX7_doMeet_27 : decode cX7_doMeet 27 = .ok (.aload_n 0, 1) := by decide +kernel
theorem dX7_doMeet_28 : decode cX7_doMeet 28 = .ok (.iconst 2, 1) := by decide +kernel
theorem dX7_doMeet_29 : decode cX7_doMeet 29 = .ok (.iconst 1, 1) := by decide +kernel
theorem dX7_doMeet_30 : decode cX7_doMeet 30 = .ok (.invokevirtual 176, 3) := by decide +kernel
theorem dX7_doMeet_33 : decode cX7_doMeet 33 = .ok (.ifCond .eq 7, 3) := by decide +kernel
theorem dX7_doMeet_36 : decode cX7_doMeet 36 = .ok (.iconst 1, 1) := by decide +kernel
theorem dX7_doMeet_37 : decode cX7_doMeet 37 = .ok (.goto 4, 3) := by decide +kernel
theorem dX7_doMeet_40 : decode cX7_doMeet 40 = .ok (.iconst 0, 1) := by decide +kernel
theorem dX7_doMeet_41 : decode cX7_doMeet 41 = .ok (.istore_n 1, 1) := by decide +kernel
theorem dX7_doMeet_42 : decode cX7_doMeet 42 = .ok (.iload_n 1, 1) := by decide +kernel
theorem dX7_doMeet_43 : decode cX7_doMeet 43 = .ok (.ifCond .ne 35, 3) := by decide +kernel
theorem dX7_doMeet_46 : decode cX7_doMeet 46 = .ok (.aload_n 0, 1) := by decide +kernel
theorem dX7_doMeet_47 : decode cX7_doMeet 47 = .ok (.iconst 0, 1) := by decide +kernel
theorem dX7_doMeet_48 : decode cX7_doMeet 48 = .ok (.iconst 2, 1) := by decide +kernel
theorem dX7_doMeet_49 : decode cX7_doMeet 49 = .ok (.invokevirtual 179, 3) := by decide +kernel
theorem dX7_doMeet_52 : decode cX7_doMeet 52 = .ok (.aload_n 0, 1) := by decide +kernel
theorem dX7_doMeet_53 : decode cX7_doMeet 53 = .ok (.iconst 0, 1) := by decide +kernel
theorem dX7_doMeet_54 : decode cX7_doMeet 54 = .ok (.iconst 3, 1) := by decide +kernel
theorem dX7_doMeet_55 : decode cX7_doMeet 55 = .ok (.invokevirtual 179, 3) := by decide +kernel
theorem dX7_doMeet_58 : decode cX7_doMeet 58 = .ok (.imul, 1) := by decide +kernel
theorem dX7_doMeet_59 : decode cX7_doMeet 59 = .ok (.ifCond .ge 23, 3) := by decide +kernel
theorem dX7_doMeet_62 : decode cX7_doMeet 62 = .ok (.aload_n 0, 1) := by decide +kernel
theorem dX7_doMeet_63 : decode cX7_doMeet 63 = .ok (.iconst 2, 1) := by decide +kernel
theorem dX7_doMeet_64 : decode cX7_doMeet 64 = .ok (.iconst 0, 1) := by decide +kernel
theorem dX7_doMeet_65 : decode cX7_doMeet 65 = .ok (.invokevirtual 179, 3) := by decide +kernel
theorem dX7_doMeet_68 : decode cX7_doMeet 68 = .ok (.aload_n 0, 1) := by decide +kernel
theorem dX7_doMeet_69 : decode cX7_doMeet 69 = .ok (.iconst 2, 1) := by decide +kernel
theorem dX7_doMeet_70 : decode cX7_doMeet 70 = .ok (.iconst 1, 1) := by decide +kernel
theorem dX7_doMeet_71 : decode cX7_doMeet 71 = .ok (.invokevirtual 179, 3) := by decide +kernel
theorem dX7_doMeet_74 : decode cX7_doMeet 74 = .ok (.imul, 1) := by decide +kernel
theorem dX7_doMeet_75 : decode cX7_doMeet 75 = .ok (.ifCond .ge 7, 3) := by decide +kernel
theorem dX7_doMeet_78 : decode cX7_doMeet 78 = .ok (.iconst 1, 1) := by decide +kernel
theorem dX7_doMeet_79 : decode cX7_doMeet 79 = .ok (.goto 4, 3) := by decide +kernel
theorem dX7_doMeet_82 : decode cX7_doMeet 82 = .ok (.iconst 0, 1) := by decide +kernel
theorem dX7_doMeet_83 : decode cX7_doMeet 83 = .ok (.ireturn, 1) := by decide +kernel
theorem dX7_crossingsNow_0 : decode cX7_crossingsNow 0 = .ok (.iconst 0, 1) := by decide +kernel
theorem dX7_crossingsNow_1 : decode cX7_crossingsNow 1 = .ok (.istore_n 3, 1) := by decide +kernel
theorem dX7_crossingsNow_2 : decode cX7_crossingsNow 2 = .ok (.iconst 0, 1) := by decide +kernel
theorem dX7_crossingsNow_3 : decode cX7_crossingsNow 3 = .ok (.istore 4, 2) := by decide +kernel
theorem dX7_crossingsNow_5 : decode cX7_crossingsNow 5 = .ok (.iload 4, 2) := by decide +kernel
theorem dX7_crossingsNow_7 : decode cX7_crossingsNow 7 = .ok (.aload_n 0, 1) := by decide +kernel
theorem dX7_crossingsNow_8 : decode cX7_crossingsNow 8 = .ok (.getfield 19, 3) := by decide +kernel
theorem dX7_crossingsNow_11 : decode cX7_crossingsNow 11 = .ok (.iload_n 1, 1) := by decide +kernel
theorem dX7_crossingsNow_12 : decode cX7_crossingsNow 12 = .ok (.iaload, 1) := by decide +kernel
theorem dX7_crossingsNow_13 : decode cX7_crossingsNow 13 = .ok (.if_icmp .ge 74, 3) := by decide +kernel
theorem dX7_crossingsNow_16 : decode cX7_crossingsNow 16 = .ok (.iconst 0, 1) := by decide +kernel
theorem dX7_crossingsNow_17 : decode cX7_crossingsNow 17 = .ok (.istore 5, 2) := by decide +kernel
theorem dX7_crossingsNow_19 : decode cX7_crossingsNow 19 = .ok (.iload 5, 2) := by decide +kernel
theorem dX7_crossingsNow_21 : decode cX7_crossingsNow 21 = .ok (.aload_n 0, 1) := by decide +kernel
theorem dX7_crossingsNow_22 : decode cX7_crossingsNow 22 = .ok (.getfield 19, 3) := by decide +kernel
theorem dX7_crossingsNow_25 : decode cX7_crossingsNow 25 = .ok (.iload_n 2, 1) := by decide +kernel
theorem dX7_crossingsNow_26 : decode cX7_crossingsNow 26 = .ok (.iaload, 1) := by decide +kernel
theorem dX7_crossingsNow_27 : decode cX7_crossingsNow 27 = .ok (.if_icmp .ge 54, 3) := by decide +kernel
theorem dX7_crossingsNow_30 : decode cX7_crossingsNow 30 = .ok (.aload_n 0, 1) := by decide +kernel
theorem dX7_crossingsNow_31 : decode cX7_crossingsNow 31 = .ok (.iconst 0, 1) := by decide +kernel
theorem dX7_crossingsNow_32 : decode cX7_crossingsNow 32 = .ok (.iload_n 1, 1) := by decide +kernel
theorem dX7_crossingsNow_33 : decode cX7_crossingsNow 33 = .ok (.iload 4, 2) := by decide +kernel
theorem dX7_crossingsNow_35 : decode cX7_crossingsNow 35 = .ok (.aload_n 0, 1) := by decide +kernel
theorem dX7_crossingsNow_36 : decode cX7_crossingsNow 36 = .ok (.getfield 49, 3) := by decide +kernel
theorem dX7_crossingsNow_39 : decode cX7_crossingsNow 39 = .ok (.iload_n 2, 1) := by decide +kernel
theorem dX7_crossingsNow_40 : decode cX7_crossingsNow 40 = .ok (.iaload, 1) := by decide +kernel
theorem dX7_crossingsNow_41 : decode cX7_crossingsNow 41 = .ok (.i2l, 1) := by decide +kernel
theorem dX7_crossingsNow_42 : decode cX7_crossingsNow 42 = .ok (.invokevirtual 183, 3) := by decide +kernel
theorem dX7_crossingsNow_45 : decode cX7_crossingsNow 45 = .ok (.aload_n 0, 1) := by decide +kernel
theorem dX7_crossingsNow_46 : decode cX7_crossingsNow 46 = .ok (.iconst 2, 1) := by decide +kernel
theorem dX7_crossingsNow_47 : decode cX7_crossingsNow 47 = .ok (.iload_n 2, 1) := by decide +kernel
theorem dX7_crossingsNow_48 : decode cX7_crossingsNow 48 = .ok (.iload 5, 2) := by decide +kernel
theorem dX7_crossingsNow_50 : decode cX7_crossingsNow 50 = .ok (.aload_n 0, 1) := by decide +kernel
theorem dX7_crossingsNow_51 : decode cX7_crossingsNow 51 = .ok (.getfield 49, 3) := by decide +kernel
theorem dX7_crossingsNow_54 : decode cX7_crossingsNow 54 = .ok (.iload_n 1, 1) := by decide +kernel
theorem dX7_crossingsNow_55 : decode cX7_crossingsNow 55 = .ok (.iaload, 1) := by decide +kernel
theorem dX7_crossingsNow_56 : decode cX7_crossingsNow 56 = .ok (.i2l, 1) := by decide +kernel
theorem dX7_crossingsNow_57 : decode cX7_crossingsNow 57 = .ok (.invokevirtual 183, 3) := by decide +kernel
theorem dX7_crossingsNow_60 : decode cX7_crossingsNow 60 = .ok (.iload_n 3, 1) := by decide +kernel
theorem dX7_crossingsNow_61 : decode cX7_crossingsNow 61 = .ok (.aload_n 0, 1) := by decide +kernel
theorem dX7_crossingsNow_62 : decode cX7_crossingsNow 62 = .ok (.invokevirtual 187, 3) := by decide +kernel
theorem dX7_crossingsNow_65 : decode cX7_crossingsNow 65 = .ok (.ifCond .eq 7, 3) := by decide +kernel
theorem dX7_crossingsNow_68 : decode cX7_crossingsNow 68 = .ok (.iconst 1, 1) := by decide +kernel
theorem dX7_crossingsNow_69 : decode cX7_crossingsNow 69 = .ok (.goto 4, 3) := by decide +kernel
theorem dX7_crossingsNow_72 : decode cX7_crossingsNow 72 = .ok (.iconst 0, 1) := by decide +kernel
theorem dX7_crossingsNow_73 : decode cX7_crossingsNow 73 = .ok (.iadd, 1) := by decide +kernel
theorem dX7_crossingsNow_74 : decode cX7_crossingsNow 74 = .ok (.istore_n 3, 1) := by decide +kernel
theorem dX7_crossingsNow_75 : decode cX7_crossingsNow 75 = .ok (.iinc 5 1, 3) := by decide +kernel
theorem dX7_crossingsNow_78 : decode cX7_crossingsNow 78 = .ok (.goto (-59), 3) := by decide +kernel
theorem dX7_crossingsNow_81 : decode cX7_crossingsNow 81 = .ok (.iinc 4 1, 3) := by decide +kernel
theorem dX7_crossingsNow_84 : decode cX7_crossingsNow 84 = .ok (.goto (-79), 3) := by decide +kernel
theorem dX7_crossingsNow_87 : decode cX7_crossingsNow 87 = .ok (.iload_n 3, 1) := by decide +kernel
theorem dX7_crossingsNow_88 : decode cX7_crossingsNow 88 = .ok (.ireturn, 1) := by decide +kernel
theorem dX7_twoBarred_0 : decode cX7_twoBarred 0 = .ok (.aload_n 0, 1) := by decide +kernel
theorem dX7_twoBarred_1 : decode cX7_twoBarred 1 = .ok (.iload_n 1, 1) := by decide +kernel
theorem dX7_twoBarred_2 : decode cX7_twoBarred 2 = .ok (.invokevirtual 93, 3) := by decide +kernel
theorem dX7_twoBarred_5 : decode cX7_twoBarred 5 = .ok (.ifCond .ne 11, 3) := by decide +kernel
theorem dX7_twoBarred_8 : decode cX7_twoBarred 8 = .ok (.aload_n 0, 1) := by decide +kernel
theorem dX7_twoBarred_9 : decode cX7_twoBarred 9 = .ok (.iload_n 2, 1) := by decide +kernel
theorem dX7_twoBarred_10 : decode cX7_twoBarred 10 = .ok (.invokevirtual 93, 3) := by decide +kernel
theorem dX7_twoBarred_13 : decode cX7_twoBarred 13 = .ok (.ifCond .eq 7, 3) := by decide +kernel
theorem dX7_twoBarred_16 : decode cX7_twoBarred 16 = .ok (.iconst (-1), 1) := by decide +kernel
theorem dX7_twoBarred_17 : decode cX7_twoBarred 17 = .ok (.goto 21, 3) := by decide +kernel
theorem dX7_twoBarred_20 : decode cX7_twoBarred 20 = .ok (.iload_n 3, 1) := by decide +kernel
theorem dX7_twoBarred_21 : decode cX7_twoBarred 21 = .ok (.invokestatic 107, 3) := by decide +kernel
theorem dX7_twoBarred_24 : decode cX7_twoBarred 24 = .ok (.ifCond .eq 8, 3) := by decide +kernel
theorem dX7_twoBarred_27 : decode cX7_twoBarred 27 = .ok (.iload_n 1, 1) := by decide +kernel
theorem dX7_twoBarred_28 : decode cX7_twoBarred 28 = .ok (.iload_n 2, 1) := by decide +kernel
theorem dX7_twoBarred_29 : decode cX7_twoBarred 29 = .ok (.if_icmp .ne 8, 3) := by decide +kernel
theorem dX7_twoBarred_32 : decode cX7_twoBarred 32 = .ok (.bipush (-3), 2) := by decide +kernel
theorem dX7_twoBarred_34 : decode cX7_twoBarred 34 = .ok (.goto 4, 3) := by decide +kernel
theorem dX7_twoBarred_37 : decode cX7_twoBarred 37 = .ok (.iconst 0, 1) := by decide +kernel
theorem dX7_twoBarred_38 : decode cX7_twoBarred 38 = .ok (.ireturn, 1) := by decide +kernel
theorem dX7_crossings_0 : decode cX7_crossings 0 = .ok (.aload_n 0, 1) := by decide +kernel
theorem dX7_crossings_1 : decode cX7_crossings 1 = .ok (.iload_n 1, 1) := by decide +kernel
theorem dX7_crossings_2 : decode cX7_crossings 2 = .ok (.iload_n 2, 1) := by decide +kernel
theorem dX7_crossings_3 : decode cX7_crossings 3 = .ok (.iload_n 3, 1) := by decide +kernel
theorem dX7_crossings_4 : decode cX7_crossings 4 = .ok (.invokevirtual 191, 3) := by decide +kernel
theorem dX7_crossings_7 : decode cX7_crossings 7 = .ok (.istore 4, 2) := by decide +kernel
theorem dX7_crossings_9 : decode cX7_crossings 9 = .ok (.iload 4, 2) := by decide +kernel
theorem dX7_crossings_11 : decode cX7_crossings 11 = .ok (.ifCond .ge 6, 3) := by decide +kernel
theorem dX7_crossings_14 : decode cX7_crossings 14 = .ok (.iload 4, 2) := by decide +kernel
theorem dX7_crossings_16 : decode cX7_crossings 16 = .ok (.ireturn, 1) := by decide +kernel
theorem dX7_crossings_17 : decode cX7_crossings 17 = .ok (.aload_n 0, 1) := by decide +kernel
theorem dX7_crossings_18 : decode cX7_crossings 18 = .ok (.iload_n 3, 1) := by decide +kernel
theorem dX7_crossings_19 : decode cX7_crossings 19 = .ok (.invokevirtual 135, 3) := by decide +kernel
theorem dX7_crossings_22 : decode cX7_crossings 22 = .ok (.aload_n 0, 1) := by decide +kernel
theorem dX7_crossings_23 : decode cX7_crossings 23 = .ok (.iload_n 1, 1) := by decide +kernel
theorem dX7_crossings_24 : decode cX7_crossings 24 = .ok (.iload_n 2, 1) := by decide +kernel
theorem dX7_crossings_25 : decode cX7_crossings 25 = .ok (.invokevirtual 195, 3) := by decide +kernel
theorem dX7_crossings_28 : decode cX7_crossings 28 = .ok (.ireturn, 1) := by decide +kernel
theorem dX7_nextCrossing_0 : decode cX7_nextCrossing 0 = .ok (.aload_n 0, 1) := by decide +kernel
theorem dX7_nextCrossing_1 : decode cX7_nextCrossing 1 = .ok (.iload_n 1, 1) := by decide +kernel
theorem dX7_nextCrossing_2 : decode cX7_nextCrossing 2 = .ok (.iload_n 2, 1) := by decide +kernel
theorem dX7_nextCrossing_3 : decode cX7_nextCrossing 3 = .ok (.iload_n 3, 1) := by decide +kernel
theorem dX7_nextCrossing_4 : decode cX7_nextCrossing 4 = .ok (.invokevirtual 191, 3) := by decide +kernel
theorem dX7_nextCrossing_7 : decode cX7_nextCrossing 7 = .ok (.istore 4, 2) := by decide +kernel
theorem dX7_nextCrossing_9 : decode cX7_nextCrossing 9 = .ok (.iload 4, 2) := by decide +kernel
theorem dX7_nextCrossing_11 : decode cX7_nextCrossing 11 = .ok (.ifCond .ge 6, 3) := by decide +kernel
theorem dX7_nextCrossing_14 : decode cX7_nextCrossing 14 = .ok (.iload 4, 2) := by decide +kernel
theorem dX7_nextCrossing_16 : decode cX7_nextCrossing 16 = .ok (.ireturn, 1) := by decide +kernel
theorem dX7_nextCrossing_17 : decode cX7_nextCrossing 17 = .ok (.iload_n 3, 1) := by decide +kernel
theorem dX7_nextCrossing_18 : decode cX7_nextCrossing 18 = .ok (.istore 5, 2) := by decide +kernel
theorem dX7_nextCrossing_20 : decode cX7_nextCrossing 20 = .ok (.iload 5, 2) := by decide +kernel
theorem dX7_nextCrossing_22 : decode cX7_nextCrossing 22 = .ok (.bipush 100, 2) := by decide +kernel
theorem dX7_nextCrossing_24 : decode cX7_nextCrossing 24 = .ok (.if_icmp .ge 27, 3) := by decide +kernel
theorem dX7_nextCrossing_27 : decode cX7_nextCrossing 27 = .ok (.aload_n 0, 1) := by decide +kernel
theorem dX7_nextCrossing_28 : decode cX7_nextCrossing 28 = .ok (.iload 5, 2) := by decide +kernel
theorem dX7_nextCrossing_30 : decode cX7_nextCrossing 30 = .ok (.invokevirtual 135, 3) := by decide +kernel
theorem dX7_nextCrossing_33 : decode cX7_nextCrossing 33 = .ok (.aload_n 0, 1) := by decide +kernel
theorem dX7_nextCrossing_34 : decode cX7_nextCrossing 34 = .ok (.iload_n 1, 1) := by decide +kernel
theorem dX7_nextCrossing_35 : decode cX7_nextCrossing 35 = .ok (.iload_n 2, 1) := by decide +kernel
theorem dX7_nextCrossing_36 : decode cX7_nextCrossing 36 = .ok (.invokevirtual 195, 3) := by decide +kernel
theorem dX7_nextCrossing_39 : decode cX7_nextCrossing 39 = .ok (.ifCond .le 6, 3) := by decide +kernel
theorem dX7_nextCrossing_42 : decode cX7_nextCrossing 42 = .ok (.iload 5, 2) := by decide +kernel
theorem dX7_nextCrossing_44 : decode cX7_nextCrossing 44 = .ok (.ireturn, 1) := by decide +kernel
theorem dX7_nextCrossing_45 : decode cX7_nextCrossing 45 = .ok (.iinc 5 1, 3) := by decide +kernel
theorem dX7_nextCrossing_48 : decode cX7_nextCrossing 48 = .ok (.goto (-28), 3) := by decide +kernel
theorem dX7_nextCrossing_51 : decode cX7_nextCrossing 51 = .ok (.bipush (-5), 2) := by decide +kernel
theorem dX7_nextCrossing_53 : decode cX7_nextCrossing 53 = .ok (.ireturn, 1) := by decide +kernel
theorem dX7_isWithin_0 : decode cX7_isWithin 0 = .ok (.aload_n 0, 1) := by decide +kernel
theorem dX7_isWithin_1 : decode cX7_isWithin 1 = .ok (.iload_n 1, 1) := by decide +kernel
theorem dX7_isWithin_2 : decode cX7_isWithin 2 = .ok (.iconst 1, 1) := by decide +kernel
theorem dX7_isWithin_3 : decode cX7_isWithin 3 = .ok (.invokevirtual 149, 3) := by decide +kernel
theorem dX7_isWithin_6 : decode cX7_isWithin 6 = .ok (.aload_n 0, 1) := by decide +kernel
theorem dX7_isWithin_7 : decode cX7_isWithin 7 = .ok (.iload_n 1, 1) := by decide +kernel
theorem dX7_isWithin_8 : decode cX7_isWithin 8 = .ok (.iconst 0, 1) := by decide +kernel
theorem dX7_isWithin_9 : decode cX7_isWithin 9 = .ok (.invokevirtual 149, 3) := by decide +kernel
theorem dX7_isWithin_12 : decode cX7_isWithin 12 = .ok (.lneg, 1) := by decide +kernel
theorem dX7_isWithin_13 : decode cX7_isWithin 13 = .ok (.invokestatic 142, 3) := by decide +kernel
theorem dX7_isWithin_16 : decode cX7_isWithin 16 = .ok (.lstore 6, 2) := by decide +kernel
theorem dX7_isWithin_18 : decode cX7_isWithin 18 = .ok (.aload_n 0, 1) := by decide +kernel
theorem dX7_isWithin_19 : decode cX7_isWithin 19 = .ok (.iload_n 1, 1) := by decide +kernel
theorem dX7_isWithin_20 : decode cX7_isWithin 20 = .ok (.iconst 3, 1) := by decide +kernel
theorem dX7_isWithin_21 : decode cX7_isWithin 21 = .ok (.invokevirtual 149, 3) := by decide +kernel
theorem dX7_isWithin_24 : decode cX7_isWithin 24 = .ok (.aload_n 0, 1) := by decide +kernel
theorem dX7_isWithin_25 : decode cX7_isWithin 25 = .ok (.iload_n 1, 1) := by decide +kernel
theorem dX7_isWithin_26 : decode cX7_isWithin 26 = .ok (.iconst 2, 1) := by decide +kernel
theorem dX7_isWithin_27 : decode cX7_isWithin 27 = .ok (.invokevirtual 149, 3) := by decide +kernel
theorem dX7_isWithin_30 : decode cX7_isWithin 30 = .ok (.lneg, 1) := by decide +kernel
theorem dX7_isWithin_31 : decode cX7_isWithin 31 = .ok (.invokestatic 142, 3) := by decide +kernel
theorem dX7_isWithin_34 : decode cX7_isWithin 34 = .ok (.lstore 8, 2) := by decide +kernel
theorem dX7_isWithin_36 : decode cX7_isWithin 36 = .ok (.lload 6, 2) := by decide +kernel
theorem dX7_isWithin_38 : decode cX7_isWithin 38 = .ok (.aload_n 0, 1) := by decide +kernel
theorem dX7_isWithin_39 : decode cX7_isWithin 39 = .ok (.getfield 80, 3) := by decide +kernel
theorem dX7_isWithin_42 : decode cX7_isWithin 42 = .ok (.i2l, 1) := by decide +kernel
theorem dX7_isWithin_43 : decode cX7_isWithin 43 = .ok (.lmul, 1) := by decide +kernel
theorem dX7_isWithin_44 : decode cX7_isWithin 44 = .ok (.lload_n 2, 1) := by decide +kernel
theorem dX7_isWithin_45 : decode cX7_isWithin 45 = .ok (.aload_n 0, 1) := by decide +kernel
theorem dX7_isWithin_46 : decode cX7_isWithin 46 = .ok (.getfield 49, 3) := by decide +kernel
theorem dX7_isWithin_49 : decode cX7_isWithin 49 = .ok (.iload_n 1, 1) := by decide +kernel
theorem dX7_isWithin_50 : decode cX7_isWithin 50 = .ok (.iaload, 1) := by decide +kernel
theorem dX7_isWithin_51 : decode cX7_isWithin 51 = .ok (.i2l, 1) := by decide +kernel
theorem dX7_isWithin_52 : decode cX7_isWithin 52 = .ok (.lmul, 1) := by decide +kernel
theorem dX7_isWithin_53 : decode cX7_isWithin 53 = .ok (.lcmp, 1) := by decide +kernel
theorem dX7_isWithin_54 : decode cX7_isWithin 54 = .ok (.ifCond .gt 29, 3) := by decide +kernel
theorem dX7_isWithin_57 : decode cX7_isWithin 57 = .ok (.lload 8, 2) := by decide +kernel
theorem dX7_isWithin_59 : decode cX7_isWithin 59 = .ok (.aload_n 0, 1) := by decide +kernel
theorem dX7_isWithin_60 : decode cX7_isWithin 60 = .ok (.getfield 80, 3) := by decide +kernel
theorem dX7_isWithin_63 : decode cX7_isWithin 63 = .ok (.i2l, 1) := by decide +kernel
theorem dX7_isWithin_64 : decode cX7_isWithin 64 = .ok (.lmul, 1) := by decide +kernel
theorem dX7_isWithin_65 : decode cX7_isWithin 65 = .ok (.lload 4, 2) := by decide +kernel
theorem dX7_isWithin_67 : decode cX7_isWithin 67 = .ok (.aload_n 0, 1) := by decide +kernel
theorem dX7_isWithin_68 : decode cX7_isWithin 68 = .ok (.getfield 49, 3) := by decide +kernel
theorem dX7_isWithin_71 : decode cX7_isWithin 71 = .ok (.iload_n 1, 1) := by decide +kernel
theorem dX7_isWithin_72 : decode cX7_isWithin 72 = .ok (.iaload, 1) := by decide +kernel
theorem dX7_isWithin_73 : decode cX7_isWithin 73 = .ok (.i2l, 1) := by decide +kernel
theorem dX7_isWithin_74 : decode cX7_isWithin 74 = .ok (.lmul, 1) := by decide +kernel
theorem dX7_isWithin_75 : decode cX7_isWithin 75 = .ok (.lcmp, 1) := by decide +kernel
theorem dX7_isWithin_76 : decode cX7_isWithin 76 = .ok (.ifCond .gt 7, 3) := by decide +kernel
theorem dX7_isWithin_79 : decode cX7_isWithin 79 = .ok (.iconst 1, 1) := by decide +kernel
theorem dX7_isWithin_80 : decode cX7_isWithin 80 = .ok (.goto 4, 3) := by decide +kernel
theorem dX7_isWithin_83 : decode cX7_isWithin 83 = .ok (.iconst 0, 1) := by decide +kernel
theorem dX7_isWithin_84 : decode cX7_isWithin 84 = .ok (.ireturn, 1) := by decide +kernel
theorem dX7_within_0 : decode cX7_within 0 = .ok (.iload_n 1, 1) := by decide +kernel
theorem dX7_within_1 : decode cX7_within 1 = .ok (.iconst 0, 1) := by decide +kernel
theorem dX7_within_2 : decode cX7_within 2 = .ok (.sipush 20000, 3) := by decide +kernel
theorem dX7_within_5 : decode cX7_within 5 = .ok (.invokestatic 89, 3) := by decide +kernel
theorem dX7_within_8 : decode cX7_within 8 = .ok (.ifCond .eq 21, 3) := by decide +kernel
theorem dX7_within_11 : decode cX7_within 11 = .ok (.iload_n 2, 1) := by decide +kernel
theorem dX7_within_12 : decode cX7_within 12 = .ok (.iconst 0, 1) := by decide +kernel
theorem dX7_within_13 : decode cX7_within 13 = .ok (.sipush 20000, 3) := by decide +kernel
theorem dX7_within_16 : decode cX7_within 16 = .ok (.invokestatic 89, 3) := by decide +kernel
theorem dX7_within_19 : decode cX7_within 19 = .ok (.ifCond .eq 10, 3) := by decide +kernel
theorem dX7_within_22 : decode cX7_within 22 = .ok (.iload_n 3, 1) := by decide +kernel
theorem dX7_within_23 : decode cX7_within 23 = .ok (.invokestatic 107, 3) := by decide +kernel
theorem dX7_within_26 : decode cX7_within 26 = .ok (.ifCond .ne 6, 3) := by decide +kernel
theorem dX7_within_29 : decode cX7_within 29 = .ok (.bipush (-3), 2) := by decide +kernel
theorem dX7_within_31 : decode cX7_within 31 = .ok (.ireturn, 1) := by decide +kernel
theorem dX7_within_32 : decode cX7_within 32 = .ok (.aload_n 0, 1) := by decide +kernel
theorem dX7_within_33 : decode cX7_within 33 = .ok (.iload_n 3, 1) := by decide +kernel
theorem dX7_within_34 : decode cX7_within 34 = .ok (.invokevirtual 135, 3) := by decide +kernel
theorem dX7_within_37 : decode cX7_within 37 = .ok (.iconst 0, 1) := by decide +kernel
theorem dX7_within_38 : decode cX7_within 38 = .ok (.istore 4, 2) := by decide +kernel
theorem dX7_within_40 : decode cX7_within 40 = .ok (.iconst 0, 1) := by decide +kernel
theorem dX7_within_41 : decode cX7_within 41 = .ok (.istore 5, 2) := by decide +kernel
theorem dX7_within_43 : decode cX7_within 43 = .ok (.iload 5, 2) := by decide +kernel
theorem dX7_within_45 : decode cX7_within 45 = .ok (.aload_n 0, 1) := by decide +kernel
theorem dX7_within_46 : decode cX7_within 46 = .ok (.getfield 86, 3) := by decide +kernel
theorem dX7_within_49 : decode cX7_within 49 = .ok (.if_icmp .ge 35, 3) := by decide +kernel
theorem dX7_within_52 : decode cX7_within 52 = .ok (.iload 4, 2) := by decide +kernel
theorem dX7_within_54 : decode cX7_within 54 = .ok (.aload_n 0, 1) := by decide +kernel
theorem dX7_within_55 : decode cX7_within 55 = .ok (.iload 5, 2) := by decide +kernel
theorem dX7_within_57 : decode cX7_within 57 = .ok (.iload_n 1, 1) := by decide +kernel
theorem dX7_within_58 : decode cX7_within 58 = .ok (.i2l, 1) := by decide +kernel
theorem dX7_within_59 : decode cX7_within 59 = .ok (.iload_n 2, 1) := by decide +kernel
theorem dX7_within_60 : decode cX7_within 60 = .ok (.i2l, 1) := by decide +kernel
theorem dX7_within_61 : decode cX7_within 61 = .ok (.invokevirtual 198, 3) := by decide +kernel
theorem dX7_within_64 : decode cX7_within 64 = .ok (.ifCond .eq 10, 3) := by decide +kernel
theorem dX7_within_67 : decode cX7_within 67 = .ok (.iconst 1, 1) := by decide +kernel
theorem dX7_within_68 : decode cX7_within 68 = .ok (.iload 5, 2) := by decide +kernel
theorem dX7_within_70 : decode cX7_within 70 = .ok (.ishl, 1) := by decide +kernel
theorem dX7_within_71 : decode cX7_within 71 = .ok (.goto 4, 3) := by decide +kernel
theorem dX7_within_74 : decode cX7_within 74 = .ok (.iconst 0, 1) := by decide +kernel
theorem dX7_within_75 : decode cX7_within 75 = .ok (.ior, 1) := by decide +kernel
theorem dX7_within_76 : decode cX7_within 76 = .ok (.istore 4, 2) := by decide +kernel
theorem dX7_within_78 : decode cX7_within 78 = .ok (.iinc 5 1, 3) := by decide +kernel
theorem dX7_within_81 : decode cX7_within 81 = .ok (.goto (-38), 3) := by decide +kernel
theorem dX7_within_84 : decode cX7_within 84 = .ok (.iload 4, 2) := by decide +kernel
theorem dX7_within_86 : decode cX7_within 86 = .ok (.ireturn, 1) := by decide +kernel
theorem dX7_highest_0 : decode cX7_highest 0 = .ok (.iload_n 1, 1) := by decide +kernel
theorem dX7_highest_1 : decode cX7_highest 1 = .ok (.invokestatic 107, 3) := by decide +kernel
theorem dX7_highest_4 : decode cX7_highest 4 = .ok (.ifCond .ne 6, 3) := by decide +kernel
theorem dX7_highest_7 : decode cX7_highest 7 = .ok (.bipush (-3), 2) := by decide +kernel
theorem dX7_highest_9 : decode cX7_highest 9 = .ok (.ireturn, 1) := by decide +kernel
theorem dX7_highest_10 : decode cX7_highest 10 = .ok (.aload_n 0, 1) := by decide +kernel
theorem dX7_highest_11 : decode cX7_highest 11 = .ok (.iload_n 1, 1) := by decide +kernel
theorem dX7_highest_12 : decode cX7_highest 12 = .ok (.invokevirtual 135, 3) := by decide +kernel
theorem dX7_highest_15 : decode cX7_highest 15 = .ok (.bipush (-5), 2) := by decide +kernel
theorem dX7_highest_17 : decode cX7_highest 17 = .ok (.istore_n 2, 1) := by decide +kernel
theorem dX7_highest_18 : decode cX7_highest 18 = .ok (.iconst 0, 1) := by decide +kernel
theorem dX7_highest_19 : decode cX7_highest 19 = .ok (.istore_n 3, 1) := by decide +kernel
theorem dX7_highest_20 : decode cX7_highest 20 = .ok (.iload_n 3, 1) := by decide +kernel
theorem dX7_highest_21 : decode cX7_highest 21 = .ok (.aload_n 0, 1) := by decide +kernel
theorem dX7_highest_22 : decode cX7_highest 22 = .ok (.getfield 86, 3) := by decide +kernel
theorem dX7_highest_25 : decode cX7_highest 25 = .ok (.if_icmp .ge 63, 3) := by decide +kernel
theorem dX7_highest_28 : decode cX7_highest 28 = .ok (.iload_n 2, 1) := by decide +kernel
theorem dX7_highest_29 : decode cX7_highest 29 = .ok (.ifCond .lt 35, 3) := by decide +kernel
theorem dX7_highest_32 : decode cX7_highest 32 = .ok (.aload_n 0, 1) := by decide +kernel
theorem dX7_highest_33 : decode cX7_highest 33 = .ok (.iload_n 3, 1) := by decide +kernel
theorem dX7_highest_34 : decode cX7_highest 34 = .ok (.iconst 5, 1) := by decide +kernel
theorem dX7_highest_35 : decode cX7_highest 35 = .ok (.invokevirtual 149, 3) := by decide +kernel
theorem dX7_highest_38 : decode cX7_highest 38 = .ok (.aload_n 0, 1) := by decide +kernel
theorem dX7_highest_39 : decode cX7_highest 39 = .ok (.getfield 49, 3) := by decide +kernel
theorem dX7_highest_42 : decode cX7_highest 42 = .ok (.iload_n 2, 1) := by decide +kernel
theorem dX7_highest_43 : decode cX7_highest 43 = .ok (.iaload, 1) := by decide +kernel
theorem dX7_highest_44 : decode cX7_highest 44 = .ok (.i2l, 1) := by decide +kernel
theorem dX7_highest_45 : decode cX7_highest 45 = .ok (.lmul, 1) := by decide +kernel
theorem dX7_highest_46 : decode cX7_highest 46 = .ok (.aload_n 0, 1) := by decide +kernel
theorem dX7_highest_47 : decode cX7_highest 47 = .ok (.iload_n 2, 1) := by decide +kernel
theorem dX7_highest_48 : decode cX7_highest 48 = .ok (.iconst 5, 1) := by decide +kernel
theorem dX7_highest_49 : decode cX7_highest 49 = .ok (.invokevirtual 149, 3) := by decide +kernel
theorem dX7_highest_52 : decode cX7_highest 52 = .ok (.aload_n 0, 1) := by decide +kernel
theorem dX7_highest_53 : decode cX7_highest 53 = .ok (.getfield 49, 3) := by decide +kernel
theorem dX7_highest_56 : decode cX7_highest 56 = .ok (.iload_n 3, 1) := by decide +kernel
theorem dX7_highest_57 : decode cX7_highest 57 = .ok (.iaload, 1) := by decide +kernel
theorem dX7_highest_58 : decode cX7_highest 58 = .ok (.i2l, 1) := by decide +kernel
theorem dX7_highest_59 : decode cX7_highest 59 = .ok (.lmul, 1) := by decide +kernel
theorem dX7_highest_60 : decode cX7_highest 60 = .ok (.lcmp, 1) := by decide +kernel
theorem dX7_highest_61 : decode cX7_highest 61 = .ok (.ifCond .le 7, 3) := by decide +kernel
theorem dX7_highest_64 : decode cX7_highest 64 = .ok (.iconst 1, 1) := by decide +kernel
theorem dX7_highest_65 : decode cX7_highest 65 = .ok (.goto 4, 3) := by decide +kernel
theorem dX7_highest_68 : decode cX7_highest 68 = .ok (.iconst 0, 1) := by decide +kernel
theorem dX7_highest_69 : decode cX7_highest 69 = .ok (.istore 4, 2) := by decide +kernel
theorem dX7_highest_71 : decode cX7_highest 71 = .ok (.iload 4, 2) := by decide +kernel
theorem dX7_highest_73 : decode cX7_highest 73 = .ok (.ifCond .eq 7, 3) := by decide +kernel
theorem dX7_highest_76 : decode cX7_highest 76 = .ok (.iload_n 3, 1) := by decide +kernel
theorem dX7_highest_77 : decode cX7_highest 77 = .ok (.goto 4, 3) := by decide +kernel
theorem dX7_highest_80 : decode cX7_highest 80 = .ok (.iload_n 2, 1) := by decide +kernel
theorem dX7_highest_81 : decode cX7_highest 81 = .ok (.istore_n 2, 1) := by decide +kernel
theorem dX7_highest_82 : decode cX7_highest 82 = .ok (.iinc 3 1, 3) := by decide +kernel
theorem dX7_highest_85 : decode cX7_highest 85 = .ok (.goto (-65), 3) := by decide +kernel
theorem dX7_highest_88 : decode cX7_highest 88 = .ok (.iload_n 2, 1) := by decide +kernel
theorem dX7_highest_89 : decode cX7_highest 89 = .ok (.ireturn, 1) := by decide +kernel
theorem dX7_planeFor_0 : decode cX7_planeFor 0 = .ok (.aload_n 0, 1) := by decide +kernel
theorem dX7_planeFor_1 : decode cX7_planeFor 1 = .ok (.iload_n 1, 1) := by decide +kernel
theorem dX7_planeFor_2 : decode cX7_planeFor 2 = .ok (.invokevirtual 93, 3) := by decide +kernel
theorem dX7_planeFor_5 : decode cX7_planeFor 5 = .ok (.ifCond .eq 5, 3) := by decide +kernel
theorem dX7_planeFor_8 : decode cX7_planeFor 8 = .ok (.iconst (-1), 1) := by decide +kernel
theorem dX7_planeFor_9 : decode cX7_planeFor 9 = .ok (.ireturn, 1) := by decide +kernel
theorem dX7_planeFor_10 : decode cX7_planeFor 10 = .ok (.iload_n 2, 1) := by decide +kernel
theorem dX7_planeFor_11 : decode cX7_planeFor 11 = .ok (.invokestatic 107, 3) := by decide +kernel
theorem dX7_planeFor_14 : decode cX7_planeFor 14 = .ok (.ifCond .eq 13, 3) := by decide +kernel
theorem dX7_planeFor_17 : decode cX7_planeFor 17 = .ok (.iload_n 3, 1) := by decide +kernel
theorem dX7_planeFor_18 : decode cX7_planeFor 18 = .ok (.iconst 0, 1) := by decide +kernel
theorem dX7_planeFor_19 : decode cX7_planeFor 19 = .ok (.ldc 202, 2) := by decide +kernel
theorem dX7_planeFor_21 : decode cX7_planeFor 21 = .ok (.invokestatic 89, 3) := by decide +kernel
theorem dX7_planeFor_24 : decode cX7_planeFor 24 = .ok (.ifCond .ne 6, 3) := by decide +kernel
theorem dX7_planeFor_27 : decode cX7_planeFor 27 = .ok (.bipush (-3), 2) := by decide +kernel
theorem dX7_planeFor_29 : decode cX7_planeFor 29 = .ok (.ireturn, 1) := by decide +kernel
theorem dX7_planeFor_30 : decode cX7_planeFor 30 = .ok (.aload_n 0, 1) := by decide +kernel
theorem dX7_planeFor_31 : decode cX7_planeFor 31 = .ok (.iload_n 2, 1) := by decide +kernel
theorem dX7_planeFor_32 : decode cX7_planeFor 32 = .ok (.invokevirtual 135, 3) := by decide +kernel
theorem dX7_planeFor_35 : decode cX7_planeFor 35 = .ok (.aload_n 0, 1) := by decide +kernel
theorem dX7_planeFor_36 : decode cX7_planeFor 36 = .ok (.iload_n 1, 1) := by decide +kernel
theorem dX7_planeFor_37 : decode cX7_planeFor 37 = .ok (.iconst 5, 1) := by decide +kernel
theorem dX7_planeFor_38 : decode cX7_planeFor 38 = .ok (.invokevirtual 149, 3) := by decide +kernel
theorem dX7_planeFor_41 : decode cX7_planeFor 41 = .ok (.aload_n 0, 1) := by decide +kernel
theorem dX7_planeFor_42 : decode cX7_planeFor 42 = .ok (.getfield 80, 3) := by decide +kernel
theorem dX7_planeFor_45 : decode cX7_planeFor 45 = .ok (.i2l, 1) := by decide +kernel
theorem dX7_planeFor_46 : decode cX7_planeFor 46 = .ok (.lmul, 1) := by decide +kernel
theorem dX7_planeFor_47 : decode cX7_planeFor 47 = .ok (.lstore 4, 2) := by decide +kernel
theorem dX7_planeFor_49 : decode cX7_planeFor 49 = .ok (.aload_n 0, 1) := by decide +kernel
theorem dX7_planeFor_50 : decode cX7_planeFor 50 = .ok (.getfield 80, 3) := by decide +kernel
theorem dX7_planeFor_53 : decode cX7_planeFor 53 = .ok (.istore 6, 2) := by decide +kernel
theorem dX7_planeFor_55 : decode cX7_planeFor 55 = .ok (.iload 6, 2) := by decide +kernel
theorem dX7_planeFor_57 : decode cX7_planeFor 57 = .ok (.ifCond .le 24, 3) := by decide +kernel
theorem dX7_planeFor_60 : decode cX7_planeFor 60 = .ok (.lload 4, 2) := by decide +kernel
theorem dX7_planeFor_62 : decode cX7_planeFor 62 = .ok (.iload_n 3, 1) := by decide +kernel
theorem dX7_planeFor_63 : decode cX7_planeFor 63 = .ok (.i2l, 1) := by decide +kernel
theorem dX7_planeFor_64 : decode cX7_planeFor 64 = .ok (.iload 6, 2) := by decide +kernel
theorem dX7_planeFor_66 : decode cX7_planeFor 66 = .ok (.i2l, 1) := by decide +kernel
theorem dX7_planeFor_67 : decode cX7_planeFor 67 = .ok (.lmul, 1) := by decide +kernel
theorem dX7_planeFor_68 : decode cX7_planeFor 68 = .ok (.lcmp, 1) := by decide +kernel
theorem dX7_planeFor_69 : decode cX7_planeFor 69 = .ok (.ifCond .lt 6, 3) := by decide +kernel
theorem dX7_planeFor_72 : decode cX7_planeFor 72 = .ok (.iload 6, 2) := by decide +kernel
theorem dX7_planeFor_74 : decode cX7_planeFor 74 = .ok (.ireturn, 1) := by decide +kernel
theorem dX7_planeFor_75 : decode cX7_planeFor 75 = .ok (.iinc 6 (-1), 3) := by decide +kernel
theorem dX7_planeFor_78 : decode cX7_planeFor 78 = .ok (.goto (-23), 3) := by decide +kernel
theorem dX7_planeFor_81 : decode cX7_planeFor 81 = .ok (.bipush (-5), 2) := by decide +kernel
theorem dX7_planeFor_83 : decode cX7_planeFor 83 = .ok (.ireturn, 1) := by decide +kernel
theorem dX7_activeOf_0 : decode cX7_activeOf 0 = .ok (.iconst 0, 1) := by decide +kernel
theorem dX7_activeOf_1 : decode cX7_activeOf 1 = .ok (.istore_n 3, 1) := by decide +kernel
theorem dX7_activeOf_2 : decode cX7_activeOf 2 = .ok (.iconst 0, 1) := by decide +kernel
theorem dX7_activeOf_3 : decode cX7_activeOf 3 = .ok (.istore 4, 2) := by decide +kernel
theorem dX7_activeOf_5 : decode cX7_activeOf 5 = .ok (.iload 4, 2) := by decide +kernel
theorem dX7_activeOf_7 : decode cX7_activeOf 7 = .ok (.aload_n 0, 1) := by decide +kernel
theorem dX7_activeOf_8 : decode cX7_activeOf 8 = .ok (.getfield 101, 3) := by decide +kernel
theorem dX7_activeOf_11 : decode cX7_activeOf 11 = .ok (.if_icmp .ge 75, 3) := by decide +kernel
theorem dX7_activeOf_14 : decode cX7_activeOf 14 = .ok (.aload_n 0, 1) := by decide +kernel
theorem dX7_activeOf_15 : decode cX7_activeOf 15 = .ok (.getfield 31, 3) := by decide +kernel
theorem dX7_activeOf_18 : decode cX7_activeOf 18 = .ok (.iload 4, 2) := by decide +kernel
theorem dX7_activeOf_20 : decode cX7_activeOf 20 = .ok (.iaload, 1) := by decide +kernel
theorem dX7_activeOf_21 : decode cX7_activeOf 21 = .ok (.iload_n 2, 1) := by decide +kernel
theorem dX7_activeOf_22 : decode cX7_activeOf 22 = .ok (.if_icmp .ne 18, 3) := by decide +kernel
theorem dX7_activeOf_25 : decode cX7_activeOf 25 = .ok (.aload_n 0, 1) := by decide +kernel
theorem dX7_activeOf_26 : decode cX7_activeOf 26 = .ok (.getfield 34, 3) := by decide +kernel
theorem dX7_activeOf_29 : decode cX7_activeOf 29 = .ok (.iload 4, 2) := by decide +kernel
theorem dX7_activeOf_31 : decode cX7_activeOf 31 = .ok (.iaload, 1) := by decide +kernel
theorem dX7_activeOf_32 : decode cX7_activeOf 32 = .ok (.iload_n 1, 1) := by decide +kernel
theorem dX7_activeOf_33 : decode cX7_activeOf 33 = .ok (.if_icmp .ne 7, 3) := by decide +kernel
theorem dX7_activeOf_36 : decode cX7_activeOf 36 = .ok (.iconst 1, 1) := by decide +kernel
theorem dX7_activeOf_37 : decode cX7_activeOf 37 = .ok (.goto 4, 3) := by decide +kernel
theorem dX7_activeOf_40 : decode cX7_activeOf 40 = .ok (.iconst 0, 1) := by decide +kernel
theorem dX7_activeOf_41 : decode cX7_activeOf 41 = .ok (.istore 5, 2) := by decide +kernel
theorem dX7_activeOf_43 : decode cX7_activeOf 43 = .ok (.iload_n 3, 1) := by decide +kernel
theorem dX7_activeOf_44 : decode cX7_activeOf 44 = .ok (.iload 5, 2) := by decide +kernel
theorem dX7_activeOf_46 : decode cX7_activeOf 46 = .ok (.ifCond .ne 7, 3) := by decide +kernel
theorem dX7_activeOf_49 : decode cX7_activeOf 49 = .ok (.iconst 0, 1) := by decide +kernel
theorem dX7_activeOf_50 : decode cX7_activeOf 50 = .ok (.goto 28, 3) := by decide +kernel
theorem dX7_activeOf_53 : decode cX7_activeOf 53 = .ok (.aload_n 0, 1) := by decide +kernel
theorem dX7_activeOf_54 : decode cX7_activeOf 54 = .ok (.getfield 37, 3) := by decide +kernel
theorem dX7_activeOf_57 : decode cX7_activeOf 57 = .ok (.iload 4, 2) := by decide +kernel
theorem dX7_activeOf_59 : decode cX7_activeOf 59 = .ok (.iaload, 1) := by decide +kernel
theorem dX7_activeOf_60 : decode cX7_activeOf 60 = .ok (.ifCond .ge 9, 3) := by decide +kernel
theorem dX7_activeOf_63 : decode cX7_activeOf 63 = .ok (.sipush 256, 3) := by decide +kernel
theorem dX7_activeOf_66 : decode cX7_activeOf 66 = .ok (.goto 12, 3) := by decide +kernel
theorem dX7_activeOf_69 : decode cX7_activeOf 69 = .ok (.iconst 1, 1) := by decide +kernel
theorem dX7_activeOf_70 : decode cX7_activeOf 70 = .ok (.aload_n 0, 1) := by decide +kernel
theorem dX7_activeOf_71 : decode cX7_activeOf 71 = .ok (.getfield 37, 3) := by decide +kernel
theorem dX7_activeOf_74 : decode cX7_activeOf 74 = .ok (.iload 4, 2) := by decide +kernel
theorem dX7_activeOf_76 : decode cX7_activeOf 76 = .ok (.iaload, 1) := by decide +kernel
theorem dX7_activeOf_77 : decode cX7_activeOf 77 = .ok (.ishl, 1) := by decide +kernel
theorem dX7_activeOf_78 : decode cX7_activeOf 78 = .ok (.ior, 1) := by decide +kernel
theorem dX7_activeOf_79 : decode cX7_activeOf 79 = .ok (.istore_n 3, 1) := by decide +kernel
theorem dX7_activeOf_80 : decode cX7_activeOf 80 = .ok (.iinc 4 1, 3) := by decide +kernel
theorem dX7_activeOf_83 : decode cX7_activeOf 83 = .ok (.goto (-78), 3) := by decide +kernel
theorem dX7_activeOf_86 : decode cX7_activeOf 86 = .ok (.iload_n 3, 1) := by decide +kernel
theorem dX7_activeOf_87 : decode cX7_activeOf 87 = .ok (.ireturn, 1) := by decide +kernel
theorem dX7_bits_0 : decode cX7_bits 0 = .ok (.iconst 0, 1) := by decide +kernel
theorem dX7_bits_1 : decode cX7_bits 1 = .ok (.istore_n 1, 1) := by decide +kernel
theorem dX7_bits_2 : decode cX7_bits 2 = .ok (.iload_n 0, 1) := by decide +kernel
theorem dX7_bits_3 : decode cX7_bits 3 = .ok (.istore_n 2, 1) := by decide +kernel
theorem dX7_bits_4 : decode cX7_bits 4 = .ok (.iload_n 2, 1) := by decide +kernel
theorem dX7_bits_5 : decode cX7_bits 5 = .ok (.ifCond .le 16, 3) := by decide +kernel
theorem dX7_bits_8 : decode cX7_bits 8 = .ok (.iload_n 1, 1) := by decide +kernel
theorem dX7_bits_9 : decode cX7_bits 9 = .ok (.iload_n 2, 1) := by decide +kernel
theorem dX7_bits_10 : decode cX7_bits 10 = .ok (.iconst 1, 1) := by decide +kernel
theorem dX7_bits_11 : decode cX7_bits 11 = .ok (.iand, 1) := by decide +kernel
theorem dX7_bits_12 : decode cX7_bits 12 = .ok (.iadd, 1) := by decide +kernel
theorem dX7_bits_13 : decode cX7_bits 13 = .ok (.istore_n 1, 1) := by decide +kernel
theorem dX7_bits_14 : decode cX7_bits 14 = .ok (.iload_n 2, 1) := by decide +kernel
theorem dX7_bits_15 : decode cX7_bits 15 = .ok (.iconst 1, 1) := by decide +kernel
theorem dX7_bits_16 : decode cX7_bits 16 = .ok (.ishr, 1) := by decide +kernel
theorem dX7_bits_17 : decode cX7_bits 17 = .ok (.istore_n 2, 1) := by decide +kernel
theorem dX7_bits_18 : decode cX7_bits 18 = .ok (.goto (-14), 3) := by decide +kernel
theorem dX7_bits_21 : decode cX7_bits 21 = .ok (.iload_n 1, 1) := by decide +kernel
theorem dX7_bits_22 : decode cX7_bits 22 = .ok (.ireturn, 1) := by decide +kernel
theorem dX7_handsOf_0 : decode cX7_handsOf 0 = .ok (.aload_n 0, 1) := by decide +kernel
theorem dX7_handsOf_1 : decode cX7_handsOf 1 = .ok (.iload_n 1, 1) := by decide +kernel
theorem dX7_handsOf_2 : decode cX7_handsOf 2 = .ok (.iload_n 2, 1) := by decide +kernel
theorem dX7_handsOf_3 : decode cX7_handsOf 3 = .ok (.invokevirtual 203, 3) := by decide +kernel
theorem dX7_handsOf_6 : decode cX7_handsOf 6 = .ok (.istore_n 3, 1) := by decide +kernel
theorem dX7_handsOf_7 : decode cX7_handsOf 7 = .ok (.iload_n 3, 1) := by decide +kernel
theorem dX7_handsOf_8 : decode cX7_handsOf 8 = .ok (.istore 4, 2) := by decide +kernel
theorem dX7_handsOf_10 : decode cX7_handsOf 10 = .ok (.iconst 0, 1) := by decide +kernel
theorem dX7_handsOf_11 : decode cX7_handsOf 11 = .ok (.istore 5, 2) := by decide +kernel
theorem dX7_handsOf_13 : decode cX7_handsOf 13 = .ok (.aload_n 0, 1) := by decide +kernel
theorem dX7_handsOf_14 : decode cX7_handsOf 14 = .ok (.getfield 19, 3) := by decide +kernel
theorem dX7_handsOf_17 : decode cX7_handsOf 17 = .ok (.iload_n 1, 1) := by decide +kernel
theorem dX7_handsOf_18 : decode cX7_handsOf 18 = .ok (.iaload, 1) := by decide +kernel
theorem dX7_handsOf_19 : decode cX7_handsOf 19 = .ok (.iconst 1, 1) := by decide +kernel
theorem dX7_handsOf_20 : decode cX7_handsOf 20 = .ok (.isub, 1) := by decide +kernel
theorem dX7_handsOf_21 : decode cX7_handsOf 21 = .ok (.istore 6, 2) := by decide +kernel
theorem dX7_handsOf_23 : decode cX7_handsOf 23 = .ok (.iload 6, 2) := by decide +kernel
theorem dX7_handsOf_25 : decode cX7_handsOf 25 = .ok (.ifCond .lt 92, 3) := by decide +kernel
theorem dX7_handsOf_28 : decode cX7_handsOf 28 = .ok (.aload_n 0, 1) := by decide +kernel
theorem dX7_handsOf_29 : decode cX7_handsOf 29 = .ok (.getfield 22, 3) := by decide +kernel
theorem dX7_handsOf_32 : decode cX7_handsOf 32 = .ok (.bipush 8, 2) := by decide +kernel
theorem dX7_handsOf_34 : decode cX7_handsOf 34 = .ok (.iload_n 1, 1) := by decide +kernel
theorem dX7_handsOf_35 : decode cX7_handsOf 35 = .ok (.imul, 1) := by decide +kernel
theorem dX7_handsOf_36 : decode cX7_handsOf 36 = .ok (.iload 6, 2) := by decide +kernel
theorem dX7_handsOf_38 : decode cX7_handsOf 38 = .ok (.iadd, 1) := by decide +kernel
theorem dX7_handsOf_39 : decode cX7_handsOf 39 = .ok (.iaload, 1) := by decide +kernel
theorem dX7_handsOf_40 : decode cX7_handsOf 40 = .ok (.istore 7, 2) := by decide +kernel
theorem dX7_handsOf_42 : decode cX7_handsOf 42 = .ok (.iload 4, 2) := by decide +kernel
theorem dX7_handsOf_44 : decode cX7_handsOf 44 = .ok (.iload 6, 2) := by decide +kernel
theorem dX7_handsOf_46 : decode cX7_handsOf 46 = .ok (.ishr, 1) := by decide +kernel
theorem dX7_handsOf_47 : decode cX7_handsOf 47 = .ok (.iconst 1, 1) := by decide +kernel
theorem dX7_handsOf_48 : decode cX7_handsOf 48 = .ok (.iand, 1) := by decide +kernel
theorem dX7_handsOf_49 : decode cX7_handsOf 49 = .ok (.iconst 1, 1) := by decide +kernel
theorem dX7_handsOf_50 : decode cX7_handsOf 50 = .ok (.if_icmp .ne 23, 3) := by decide +kernel
theorem dX7_handsOf_53 : decode cX7_handsOf 53 = .ok (.iload 7, 2) := by decide +kernel
theorem dX7_handsOf_55 : decode cX7_handsOf 55 = .ok (.ifCond .lt 18, 3) := by decide +kernel
theorem dX7_handsOf_58 : decode cX7_handsOf 58 = .ok (.iload 4, 2) := by decide +kernel
theorem dX7_handsOf_60 : decode cX7_handsOf 60 = .ok (.iload 7, 2) := by decide +kernel
theorem dX7_handsOf_62 : decode cX7_handsOf 62 = .ok (.ishr, 1) := by decide +kernel
theorem dX7_handsOf_63 : decode cX7_handsOf 63 = .ok (.iconst 1, 1) := by decide +kernel
theorem dX7_handsOf_64 : decode cX7_handsOf 64 = .ok (.iand, 1) := by decide +kernel
theorem dX7_handsOf_65 : decode cX7_handsOf 65 = .ok (.iconst 1, 1) := by decide +kernel
theorem dX7_handsOf_66 : decode cX7_handsOf 66 = .ok (.if_icmp .ne 7, 3) := by decide +kernel
theorem dX7_handsOf_69 : decode cX7_handsOf 69 = .ok (.iconst 1, 1) := by decide +kernel
theorem dX7_handsOf_70 : decode cX7_handsOf 70 = .ok (.goto 4, 3) := by decide +kernel
theorem dX7_handsOf_73 : decode cX7_handsOf 73 = .ok (.iconst 0, 1) := by decide +kernel
theorem dX7_handsOf_74 : decode cX7_handsOf 74 = .ok (.istore 8, 2) := by decide +kernel
theorem dX7_handsOf_76 : decode cX7_handsOf 76 = .ok (.iload 4, 2) := by decide +kernel
theorem dX7_handsOf_78 : decode cX7_handsOf 78 = .ok (.iload 8, 2) := by decide +kernel
theorem dX7_handsOf_80 : decode cX7_handsOf 80 = .ok (.ifCond .eq 12, 3) := by decide +kernel
theorem dX7_handsOf_83 : decode cX7_handsOf 83 = .ok (.iconst 1, 1) := by decide +kernel
theorem dX7_handsOf_84 : decode cX7_handsOf 84 = .ok (.iload 7, 2) := by decide +kernel
theorem dX7_handsOf_86 : decode cX7_handsOf 86 = .ok (.ishl, 1) := by decide +kernel
theorem dX7_handsOf_87 : decode cX7_handsOf 87 = .ok (.iconst (-1), 1) := by decide +kernel
theorem dX7_handsOf_88 : decode cX7_handsOf 88 = .ok (.ixor, 1) := by decide +kernel
theorem dX7_handsOf_89 : decode cX7_handsOf 89 = .ok (.goto 4, 3) := by decide +kernel
theorem dX7_handsOf_92 : decode cX7_handsOf 92 = .ok (.iconst (-1), 1) := by decide +kernel
theorem dX7_handsOf_93 : decode cX7_handsOf 93 = .ok (.iand, 1) := by decide +kernel
theorem dX7_handsOf_94 : decode cX7_handsOf 94 = .ok (.istore 4, 2) := by decide +kernel
theorem dX7_handsOf_96 : decode cX7_handsOf 96 = .ok (.iload 5, 2) := by decide +kernel
theorem dX7_handsOf_98 : decode cX7_handsOf 98 = .ok (.iload 8, 2) := by decide +kernel
theorem dX7_handsOf_100 : decode cX7_handsOf 100 = .ok (.ifCond .eq 7, 3) := by decide +kernel
theorem dX7_handsOf_103 : decode cX7_handsOf 103 = .ok (.iconst 1, 1) := by decide +kernel
theorem dX7_handsOf_104 : decode cX7_handsOf 104 = .ok (.goto 4, 3) := by decide +kernel
theorem dX7_handsOf_107 : decode cX7_handsOf 107 = .ok (.iconst 0, 1) := by decide +kernel
theorem dX7_handsOf_108 : decode cX7_handsOf 108 = .ok (.iadd, 1) := by decide +kernel
theorem dX7_handsOf_109 : decode cX7_handsOf 109 = .ok (.istore 5, 2) := by decide +kernel
theorem dX7_handsOf_111 : decode cX7_handsOf 111 = .ok (.iinc 6 (-1), 3) := by decide +kernel
theorem dX7_handsOf_114 : decode cX7_handsOf 114 = .ok (.goto (-91), 3) := by decide +kernel
theorem dX7_handsOf_117 : decode cX7_handsOf 117 = .ok (.iload_n 3, 1) := by decide +kernel
theorem dX7_handsOf_118 : decode cX7_handsOf 118 = .ok (.invokestatic 206, 3) := by decide +kernel
theorem dX7_handsOf_121 : decode cX7_handsOf 121 = .ok (.iload 5, 2) := by decide +kernel
theorem dX7_handsOf_123 : decode cX7_handsOf 123 = .ok (.isub, 1) := by decide +kernel
theorem dX7_handsOf_124 : decode cX7_handsOf 124 = .ok (.ireturn, 1) := by decide +kernel
theorem dX7_handsIn_0 : decode cX7_handsIn 0 = .ok (.iconst 0, 1) := by decide +kernel
theorem dX7_handsIn_1 : decode cX7_handsIn 1 = .ok (.istore_n 2, 1) := by decide +kernel
theorem dX7_handsIn_2 : decode cX7_handsIn 2 = .ok (.iconst 0, 1) := by decide +kernel
theorem dX7_handsIn_3 : decode cX7_handsIn 3 = .ok (.istore_n 3, 1) := by decide +kernel
theorem dX7_handsIn_4 : decode cX7_handsIn 4 = .ok (.iload_n 3, 1) := by decide +kernel
theorem dX7_handsIn_5 : decode cX7_handsIn 5 = .ok (.aload_n 0, 1) := by decide +kernel
theorem dX7_handsIn_6 : decode cX7_handsIn 6 = .ok (.getfield 86, 3) := by decide +kernel
theorem dX7_handsIn_9 : decode cX7_handsIn 9 = .ok (.if_icmp .ge 18, 3) := by decide +kernel
theorem dX7_handsIn_12 : decode cX7_handsIn 12 = .ok (.iload_n 2, 1) := by decide +kernel
theorem dX7_handsIn_13 : decode cX7_handsIn 13 = .ok (.aload_n 0, 1) := by decide +kernel
theorem dX7_handsIn_14 : decode cX7_handsIn 14 = .ok (.iload_n 3, 1) := by decide +kernel
theorem dX7_handsIn_15 : decode cX7_handsIn 15 = .ok (.iload_n 1, 1) := by decide +kernel
theorem dX7_handsIn_16 : decode cX7_handsIn 16 = .ok (.invokevirtual 209, 3) := by decide +kernel
theorem dX7_handsIn_19 : decode cX7_handsIn 19 = .ok (.iadd, 1) := by decide +kernel
theorem dX7_handsIn_20 : decode cX7_handsIn 20 = .ok (.istore_n 2, 1) := by decide +kernel
theorem dX7_handsIn_21 : decode cX7_handsIn 21 = .ok (.iinc 3 1, 3) := by decide +kernel
theorem dX7_handsIn_24 : decode cX7_handsIn 24 = .ok (.goto (-20), 3) := by decide +kernel
theorem dX7_handsIn_27 : decode cX7_handsIn 27 = .ok (.iload_n 2, 1) := by decide +kernel
theorem dX7_handsIn_28 : decode cX7_handsIn 28 = .ok (.ireturn, 1) := by decide +kernel
theorem dX7_hands_0 : decode cX7_hands 0 = .ok (.iload_n 1, 1) := by decide +kernel
theorem dX7_hands_1 : decode cX7_hands 1 = .ok (.invokestatic 107, 3) := by decide +kernel
theorem dX7_hands_4 : decode cX7_hands 4 = .ok (.ifCond .eq 11, 3) := by decide +kernel
theorem dX7_hands_7 : decode cX7_hands 7 = .ok (.aload_n 0, 1) := by decide +kernel
theorem dX7_hands_8 : decode cX7_hands 8 = .ok (.iload_n 1, 1) := by decide +kernel
theorem dX7_hands_9 : decode cX7_hands 9 = .ok (.invokevirtual 212, 3) := by decide +kernel
theorem dX7_hands_12 : decode cX7_hands 12 = .ok (.goto 5, 3) := by decide +kernel
theorem dX7_hands_15 : decode cX7_hands 15 = .ok (.bipush (-3), 2) := by decide +kernel
theorem dX7_hands_17 : decode cX7_hands 17 = .ok (.ireturn, 1) := by decide +kernel
theorem dX7_busiestBeat_0 : decode cX7_busiestBeat 0 = .ok (.aload_n 0, 1) := by decide +kernel
theorem dX7_busiestBeat_1 : decode cX7_busiestBeat 1 = .ok (.getfield 101, 3) := by decide +kernel
theorem dX7_busiestBeat_4 : decode cX7_busiestBeat 4 = .ok (.ifCond .ne 6, 3) := by decide +kernel
theorem dX7_busiestBeat_7 : decode cX7_busiestBeat 7 = .ok (.bipush (-5), 2) := by decide +kernel
theorem dX7_busiestBeat_9 : decode cX7_busiestBeat 9 = .ok (.ireturn, 1) := by decide +kernel
theorem dX7_busiestBeat_10 : decode cX7_busiestBeat 10 = .ok (.iconst 0, 1) := by decide +kernel
theorem dX7_busiestBeat_11 : decode cX7_busiestBeat 11 = .ok (.istore_n 1, 1) := by decide +kernel
theorem dX7_busiestBeat_12 : decode cX7_busiestBeat 12 = .ok (.iconst 0, 1) := by decide +kernel
theorem dX7_busiestBeat_13 : decode cX7_busiestBeat 13 = .ok (.istore_n 2, 1) := by decide +kernel
theorem dX7_busiestBeat_14 : decode cX7_busiestBeat 14 = .ok (.iconst 0, 1) := by decide +kernel
theorem dX7_busiestBeat_15 : decode cX7_busiestBeat 15 = .ok (.istore_n 3, 1) := by decide +kernel
theorem dX7_busiestBeat_16 : decode cX7_busiestBeat 16 = .ok (.iload_n 3, 1) := by decide +kernel
theorem dX7_busiestBeat_17 : decode cX7_busiestBeat 17 = .ok (.bipush 100, 2) := by decide +kernel
theorem dX7_busiestBeat_19 : decode cX7_busiestBeat 19 = .ok (.if_icmp .ge 41, 3) := by decide +kernel
theorem dX7_busiestBeat_22 : decode cX7_busiestBeat 22 = .ok (.aload_n 0, 1) := by decide +kernel
theorem dX7_busiestBeat_23 : decode cX7_busiestBeat 23 = .ok (.iload_n 3, 1) := by decide +kernel
theorem dX7_busiestBeat_24 : decode cX7_busiestBeat 24 = .ok (.invokevirtual 212, 3) := by decide +kernel
theorem dX7_busiestBeat_27 : decode cX7_busiestBeat 27 = .ok (.istore 4, 2) := by decide +kernel
theorem dX7_busiestBeat_29 : decode cX7_busiestBeat 29 = .ok (.iload 4, 2) := by decide +kernel
theorem dX7_busiestBeat_31 : decode cX7_busiestBeat 31 = .ok (.iload_n 2, 1) := by decide +kernel
theorem dX7_busiestBeat_32 : decode cX7_busiestBeat 32 = .ok (.if_icmp .le 7, 3) := by decide +kernel
theorem dX7_busiestBeat_35 : decode cX7_busiestBeat 35 = .ok (.iload_n 3, 1) := by decide +kernel
theorem dX7_busiestBeat_36 : decode cX7_busiestBeat 36 = .ok (.goto 4, 3) := by decide +kernel
theorem dX7_busiestBeat_39 : decode cX7_busiestBeat 39 = .ok (.iload_n 1, 1) := by decide +kernel
theorem dX7_busiestBeat_40 : decode cX7_busiestBeat 40 = .ok (.istore_n 1, 1) := by decide +kernel
theorem dX7_busiestBeat_41 : decode cX7_busiestBeat 41 = .ok (.iload 4, 2) := by decide +kernel
theorem dX7_busiestBeat_43 : decode cX7_busiestBeat 43 = .ok (.iload_n 2, 1) := by decide +kernel
theorem dX7_busiestBeat_44 : decode cX7_busiestBeat 44 = .ok (.if_icmp .le 8, 3) := by decide +kernel
theorem dX7_busiestBeat_47 : decode cX7_busiestBeat 47 = .ok (.iload 4, 2) := by decide +kernel
theorem dX7_busiestBeat_49 : decode cX7_busiestBeat 49 = .ok (.goto 4, 3) := by decide +kernel
theorem dX7_busiestBeat_52 : decode cX7_busiestBeat 52 = .ok (.iload_n 2, 1) := by decide +kernel
theorem dX7_busiestBeat_53 : decode cX7_busiestBeat 53 = .ok (.istore_n 2, 1) := by decide +kernel
theorem dX7_busiestBeat_54 : decode cX7_busiestBeat 54 = .ok (.iinc 3 1, 3) := by decide +kernel
theorem dX7_busiestBeat_57 : decode cX7_busiestBeat 57 = .ok (.goto (-41), 3) := by decide +kernel
theorem dX7_busiestBeat_60 : decode cX7_busiestBeat 60 = .ok (.iload_n 1, 1) := by decide +kernel
theorem dX7_busiestBeat_61 : decode cX7_busiestBeat 61 = .ok (.ireturn, 1) := by decide +kernel
theorem dX7_activeRods_0 : decode cX7_activeRods 0 = .ok (.aload_n 0, 1) := by decide +kernel
theorem dX7_activeRods_1 : decode cX7_activeRods 1 = .ok (.iload_n 1, 1) := by decide +kernel
theorem dX7_activeRods_2 : decode cX7_activeRods 2 = .ok (.invokevirtual 93, 3) := by decide +kernel
theorem dX7_activeRods_5 : decode cX7_activeRods 5 = .ok (.ifCond .eq 5, 3) := by decide +kernel
theorem dX7_activeRods_8 : decode cX7_activeRods 8 = .ok (.iconst (-1), 1) := by decide +kernel
theorem dX7_activeRods_9 : decode cX7_activeRods 9 = .ok (.ireturn, 1) := by decide +kernel
theorem dX7_activeRods_10 : decode cX7_activeRods 10 = .ok (.iload_n 2, 1) := by decide +kernel
theorem dX7_activeRods_11 : decode cX7_activeRods 11 = .ok (.invokestatic 107, 3) := by decide +kernel
theorem dX7_activeRods_14 : decode cX7_activeRods 14 = .ok (.ifCond .eq 15, 3) := by decide +kernel
theorem dX7_activeRods_17 : decode cX7_activeRods 17 = .ok (.aload_n 0, 1) := by decide +kernel
theorem dX7_activeRods_18 : decode cX7_activeRods 18 = .ok (.iload_n 1, 1) := by decide +kernel
theorem dX7_activeRods_19 : decode cX7_activeRods 19 = .ok (.iload_n 2, 1) := by decide +kernel
theorem dX7_activeRods_20 : decode cX7_activeRods 20 = .ok (.invokevirtual 203, 3) := by decide +kernel
theorem dX7_activeRods_23 : decode cX7_activeRods 23 = .ok (.invokestatic 206, 3) := by decide +kernel
theorem dX7_activeRods_26 : decode cX7_activeRods 26 = .ok (.goto 5, 3) := by decide +kernel
theorem dX7_activeRods_29 : decode cX7_activeRods 29 = .ok (.bipush (-3), 2) := by decide +kernel
theorem dX7_activeRods_31 : decode cX7_activeRods 31 = .ok (.ireturn, 1) := by decide +kernel
theorem dX7_addScene_0 : decode cX7_addScene 0 = .ok (.iload_n 1, 1) := by decide +kernel
theorem dX7_addScene_1 : decode cX7_addScene 1 = .ok (.iconst 0, 1) := by decide +kernel
theorem dX7_addScene_2 : decode cX7_addScene 2 = .ok (.bipush 63, 2) := by decide +kernel
theorem dX7_addScene_4 : decode cX7_addScene 4 = .ok (.invokestatic 89, 3) := by decide +kernel
theorem dX7_addScene_7 : decode cX7_addScene 7 = .ok (.ifCond .ne 6, 3) := by decide +kernel
theorem dX7_addScene_10 : decode cX7_addScene 10 = .ok (.bipush (-3), 2) := by decide +kernel
theorem dX7_addScene_12 : decode cX7_addScene 12 = .ok (.ireturn, 1) := by decide +kernel
theorem dX7_addScene_13 : decode cX7_addScene 13 = .ok (.aload_n 0, 1) := by decide +kernel
theorem dX7_addScene_14 : decode cX7_addScene 14 = .ok (.getfield 104, 3) := by decide +kernel
theorem dX7_addScene_17 : decode cX7_addScene 17 = .ok (.bipush 8, 2) := by decide +kernel
theorem dX7_addScene_19 : decode cX7_addScene 19 = .ok (.if_icmp .ne 6, 3) := by decide +kernel
theorem dX7_addScene_22 : decode cX7_addScene 22 = .ok (.bipush (-4), 2) := by decide +kernel
theorem dX7_addScene_24 : decode cX7_addScene 24 = .ok (.ireturn, 1) := by decide +kernel
theorem dX7_addScene_25 : decode cX7_addScene 25 = .ok (.aload_n 0, 1) := by decide +kernel
theorem dX7_addScene_26 : decode cX7_addScene 26 = .ok (.getfield 71, 3) := by decide +kernel
theorem dX7_addScene_29 : decode cX7_addScene 29 = .ok (.aload_n 0, 1) := by decide +kernel
theorem dX7_addScene_30 : decode cX7_addScene 30 = .ok (.getfield 104, 3) := by decide +kernel
theorem dX7_addScene_33 : decode cX7_addScene 33 = .ok (.iload_n 1, 1) := by decide +kernel
theorem dX7_addScene_34 : decode cX7_addScene 34 = .ok (.iastore, 1) := by decide +kernel
theorem dX7_addScene_35 : decode cX7_addScene 35 = .ok (.aload_n 0, 1) := by decide +kernel
theorem dX7_addScene_36 : decode cX7_addScene 36 = .ok (.dup, 1) := by decide +kernel
theorem dX7_addScene_37 : decode cX7_addScene 37 = .ok (.getfield 104, 3) := by decide +kernel
theorem dX7_addScene_40 : decode cX7_addScene 40 = .ok (.iconst 1, 1) := by decide +kernel
theorem dX7_addScene_41 : decode cX7_addScene 41 = .ok (.iadd, 1) := by decide +kernel
theorem dX7_addScene_42 : decode cX7_addScene 42 = .ok (.putfield 104, 3) := by decide +kernel
theorem dX7_addScene_45 : decode cX7_addScene 45 = .ok (.aload_n 0, 1) := by decide +kernel
theorem dX7_addScene_46 : decode cX7_addScene 46 = .ok (.getfield 104, 3) := by decide +kernel
theorem dX7_addScene_49 : decode cX7_addScene 49 = .ok (.iconst 1, 1) := by decide +kernel
theorem dX7_addScene_50 : decode cX7_addScene 50 = .ok (.isub, 1) := by decide +kernel
theorem dX7_addScene_51 : decode cX7_addScene 51 = .ok (.ireturn, 1) := by decide +kernel
theorem dX7_clearScenes_0 : decode cX7_clearScenes 0 = .ok (.aload_n 0, 1) := by decide +kernel
theorem dX7_clearScenes_1 : decode cX7_clearScenes 1 = .ok (.getfield 104, 3) := by decide +kernel
theorem dX7_clearScenes_4 : decode cX7_clearScenes 4 = .ok (.istore_n 1, 1) := by decide +kernel
theorem dX7_clearScenes_5 : decode cX7_clearScenes 5 = .ok (.aload_n 0, 1) := by decide +kernel
theorem dX7_clearScenes_6 : decode cX7_clearScenes 6 = .ok (.iconst 0, 1) := by decide +kernel
theorem dX7_clearScenes_7 : decode cX7_clearScenes 7 = .ok (.putfield 104, 3) := by decide +kernel
theorem dX7_clearScenes_10 : decode cX7_clearScenes 10 = .ok (.iload_n 1, 1) := by decide +kernel
theorem dX7_clearScenes_11 : decode cX7_clearScenes 11 = .ok (.ireturn, 1) := by decide +kernel
theorem dX7_costNow_0 : decode cX7_costNow 0 = .ok (.iconst 0, 1) := by decide +kernel
theorem dX7_costNow_1 : decode cX7_costNow 1 = .ok (.istore_n 1, 1) := by decide +kernel
theorem dX7_costNow_2 : decode cX7_costNow 2 = .ok (.iconst 1, 1) := by decide +kernel
theorem dX7_costNow_3 : decode cX7_costNow 3 = .ok (.istore_n 2, 1) := by decide +kernel
theorem dX7_costNow_4 : decode cX7_costNow 4 = .ok (.iload_n 2, 1) := by decide +kernel
theorem dX7_costNow_5 : decode cX7_costNow 5 = .ok (.aload_n 0, 1) := by decide +kernel
theorem dX7_costNow_6 : decode cX7_costNow 6 = .ok (.getfield 104, 3) := by decide +kernel
theorem dX7_costNow_9 : decode cX7_costNow 9 = .ok (.if_icmp .ge 40, 3) := by decide +kernel
theorem dX7_costNow_12 : decode cX7_costNow 12 = .ok (.iload_n 1, 1) := by decide +kernel
theorem dX7_costNow_13 : decode cX7_costNow 13 = .ok (.aload_n 0, 1) := by decide +kernel
theorem dX7_costNow_14 : decode cX7_costNow 14 = .ok (.getfield 71, 3) := by decide +kernel
theorem dX7_costNow_17 : decode cX7_costNow 17 = .ok (.aload_n 0, 1) := by decide +kernel
theorem dX7_costNow_18 : decode cX7_costNow 18 = .ok (.getfield 74, 3) := by decide +kernel
theorem dX7_costNow_21 : decode cX7_costNow 21 = .ok (.iload_n 2, 1) := by decide +kernel
theorem dX7_costNow_22 : decode cX7_costNow 22 = .ok (.iconst 1, 1) := by decide +kernel
theorem dX7_costNow_23 : decode cX7_costNow 23 = .ok (.isub, 1) := by decide +kernel
theorem dX7_costNow_24 : decode cX7_costNow 24 = .ok (.iaload, 1) := by decide +kernel
theorem dX7_costNow_25 : decode cX7_costNow 25 = .ok (.iaload, 1) := by decide +kernel
theorem dX7_costNow_26 : decode cX7_costNow 26 = .ok (.aload_n 0, 1) := by decide +kernel
theorem dX7_costNow_27 : decode cX7_costNow 27 = .ok (.getfield 71, 3) := by decide +kernel
theorem dX7_costNow_30 : decode cX7_costNow 30 = .ok (.aload_n 0, 1) := by decide +kernel
theorem dX7_costNow_31 : decode cX7_costNow 31 = .ok (.getfield 74, 3) := by decide +kernel
theorem dX7_costNow_34 : decode cX7_costNow 34 = .ok (.iload_n 2, 1) := by decide +kernel
theorem dX7_costNow_35 : decode cX7_costNow 35 = .ok (.iaload, 1) := by decide +kernel
theorem dX7_costNow_36 : decode cX7_costNow 36 = .ok (.iaload, 1) := by decide +kernel
theorem dX7_costNow_37 : decode cX7_costNow 37 = .ok (.ixor, 1) := by decide +kernel
theorem dX7_costNow_38 : decode cX7_costNow 38 = .ok (.invokestatic 206, 3) := by decide +kernel
theorem dX7_costNow_41 : decode cX7_costNow 41 = .ok (.iadd, 1) := by decide +kernel
theorem dX7_costNow_42 : decode cX7_costNow 42 = .ok (.istore_n 1, 1) := by decide +kernel
theorem dX7_costNow_43 : decode cX7_costNow 43 = .ok (.iinc 2 1, 3) := by decide +kernel
theorem dX7_costNow_46 : decode cX7_costNow 46 = .ok (.goto (-42), 3) := by decide +kernel
theorem dX7_costNow_49 : decode cX7_costNow 49 = .ok (.iload_n 1, 1) := by decide +kernel
theorem dX7_costNow_50 : decode cX7_costNow 50 = .ok (.ireturn, 1) := by decide +kernel
theorem dX7_exchange_0 : decode cX7_exchange 0 = .ok (.aload_n 0, 1) := by decide +kernel
theorem dX7_exchange_1 : decode cX7_exchange 1 = .ok (.getfield 74, 3) := by decide +kernel
theorem dX7_exchange_4 : decode cX7_exchange 4 = .ok (.iload_n 1, 1) := by decide +kernel
theorem dX7_exchange_5 : decode cX7_exchange 5 = .ok (.iaload, 1) := by decide +kernel
theorem dX7_exchange_6 : decode cX7_exchange 6 = .ok (.istore_n 3, 1) := by decide +kernel
theorem dX7_exchange_7 : decode cX7_exchange 7 = .ok (.aload_n 0, 1) := by decide +kernel
theorem dX7_exchange_8 : decode cX7_exchange 8 = .ok (.getfield 74, 3) := by decide +kernel
theorem dX7_exchange_11 : decode cX7_exchange 11 = .ok (.iload_n 1, 1) := by decide +kernel
theorem dX7_exchange_12 : decode cX7_exchange 12 = .ok (.aload_n 0, 1) := by decide +kernel
theorem dX7_exchange_13 : decode cX7_exchange 13 = .ok (.getfield 74, 3) := by decide +kernel
theorem dX7_exchange_16 : decode cX7_exchange 16 = .ok (.iload_n 2, 1) := by decide +kernel
theorem dX7_exchange_17 : decode cX7_exchange 17 = .ok (.iaload, 1) := by decide +kernel
theorem dX7_exchange_18 : decode cX7_exchange 18 = .ok (.iastore, 1) := by decide +kernel
theorem dX7_exchange_19 : decode cX7_exchange 19 = .ok (.aload_n 0, 1) := by decide +kernel
theorem dX7_exchange_20 : decode cX7_exchange 20 = .ok (.getfield 74, 3) := by decide +kernel
theorem dX7_exchange_23 : decode cX7_exchange 23 = .ok (.iload_n 2, 1) := by decide +kernel
theorem dX7_exchange_24 : decode cX7_exchange 24 = .ok (.iload_n 3, 1) := by decide +kernel
theorem dX7_exchange_25 : decode cX7_exchange 25 = .ok (.iastore, 1) := by decide +kernel
theorem dX7_exchange_26 : decode cX7_exchange 26 = .ok (.return_, 1) := by decide +kernel
theorem dX7_nextOrder_0 : decode cX7_nextOrder 0 = .ok (.aload_n 0, 1) := by decide +kernel
theorem dX7_nextOrder_1 : decode cX7_nextOrder 1 = .ok (.getfield 104, 3) := by decide +kernel
theorem dX7_nextOrder_4 : decode cX7_nextOrder 4 = .ok (.iconst 2, 1) := by decide +kernel
theorem dX7_nextOrder_5 : decode cX7_nextOrder 5 = .ok (.isub, 1) := by decide +kernel
theorem dX7_nextOrder_6 : decode cX7_nextOrder 6 = .ok (.istore_n 1, 1) := by decide +kernel
theorem dX7_nextOrder_7 : decode cX7_nextOrder 7 = .ok (.iload_n 1, 1) := by decide +kernel
theorem dX7_nextOrder_8 : decode cX7_nextOrder 8 = .ok (.ifCond .le 26, 3) := by decide +kernel
theorem dX7_nextOrder_11 : decode cX7_nextOrder 11 = .ok (.aload_n 0, 1) := by decide +kernel
theorem dX7_nextOrder_12 : decode cX7_nextOrder 12 = .ok (.getfield 74, 3) := by decide +kernel
theorem dX7_nextOrder_15 : decode cX7_nextOrder 15 = .ok (.iload_n 1, 1) := by decide +kernel
theorem dX7_nextOrder_16 : decode cX7_nextOrder 16 = .ok (.iaload, 1) := by decide +kernel
theorem dX7_nextOrder_17 : decode cX7_nextOrder 17 = .ok (.aload_n 0, 1) := by decide +kernel
theorem dX7_nextOrder_18 : decode cX7_nextOrder 18 = .ok (.getfield 74, 3) := by decide +kernel
theorem dX7_nextOrder_21 : decode cX7_nextOrder 21 = .ok (.iload_n 1, 1) := by decide +kernel
theorem dX7_nextOrder_22 : decode cX7_nextOrder 22 = .ok (.iconst 1, 1) := by decide +kernel
theorem dX7_nextOrder_23 : decode cX7_nextOrder 23 = .ok (.iadd, 1) := by decide +kernel
theorem dX7_nextOrder_24 : decode cX7_nextOrder 24 = .ok (.iaload, 1) := by decide +kernel
theorem dX7_nextOrder_25 : decode cX7_nextOrder 25 = .ok (.if_icmp .le 9, 3) := by decide +kernel
theorem dX7_nextOrder_28 : decode cX7_nextOrder 28 = .ok (.iinc 1 (-1), 3) := by decide +kernel
theorem dX7_nextOrder_31 : decode cX7_nextOrder 31 = .ok (.goto (-24), 3) := by decide +kernel
theorem dX7_nextOrder_34 : decode cX7_nextOrder 34 = .ok (.iload_n 1, 1) := by decide +kernel
theorem dX7_nextOrder_35 : decode cX7_nextOrder 35 = .ok (.ifCond .gt 5, 3) := by decide +kernel
theorem dX7_nextOrder_38 : decode cX7_nextOrder 38 = .ok (.iconst 0, 1) := by decide +kernel
theorem dX7_nextOrder_39 : decode cX7_nextOrder 39 = .ok (.ireturn, 1) := by decide +kernel
theorem dX7_nextOrder_40 : decode cX7_nextOrder 40 = .ok (.aload_n 0, 1) := by decide +kernel
theorem dX7_nextOrder_41 : decode cX7_nextOrder 41 = .ok (.getfield 104, 3) := by decide +kernel
theorem dX7_nextOrder_44 : decode cX7_nextOrder 44 = .ok (.iconst 1, 1) := by decide +kernel
theorem dX7_nextOrder_45 : decode cX7_nextOrder 45 = .ok (.isub, 1) := by decide +kernel
theorem dX7_nextOrder_46 : decode cX7_nextOrder 46 = .ok (.istore_n 2, 1) := by decide +kernel
theorem dX7_nextOrder_47 : decode cX7_nextOrder 47 = .ok (.aload_n 0, 1) := by decide +kernel
theorem dX7_nextOrder_48 : decode cX7_nextOrder 48 = .ok (.getfield 74, 3) := by decide +kernel
theorem dX7_nextOrder_51 : decode cX7_nextOrder 51 = .ok (.iload_n 2, 1) := by decide +kernel
theorem dX7_nextOrder_52 : decode cX7_nextOrder 52 = .ok (.iaload, 1) := by decide +kernel
theorem dX7_nextOrder_53 : decode cX7_nextOrder 53 = .ok (.aload_n 0, 1) := by decide +kernel
theorem dX7_nextOrder_54 : decode cX7_nextOrder 54 = .ok (.getfield 74, 3) := by decide +kernel
theorem dX7_nextOrder_57 : decode cX7_nextOrder 57 = .ok (.iload_n 1, 1) := by decide +kernel
theorem dX7_nextOrder_58 : decode cX7_nextOrder 58 = .ok (.iaload, 1) := by decide +kernel
theorem dX7_nextOrder_59 : decode cX7_nextOrder 59 = .ok (.if_icmp .ge 9, 3) := by decide +kernel
theorem dX7_nextOrder_62 : decode cX7_nextOrder 62 = .ok (.iinc 2 (-1), 3) := by decide +kernel
theorem dX7_nextOrder_65 : decode cX7_nextOrder 65 = .ok (.goto (-18), 3) := by decide +kernel
theorem dX7_nextOrder_68 : decode cX7_nextOrder 68 = .ok (.aload_n 0, 1) := by decide +kernel
theorem dX7_nextOrder_69 : decode cX7_nextOrder 69 = .ok (.iload_n 1, 1) := by decide +kernel
theorem dX7_nextOrder_70 : decode cX7_nextOrder 70 = .ok (.iload_n 2, 1) := by decide +kernel
theorem dX7_nextOrder_71 : decode cX7_nextOrder 71 = .ok (.invokevirtual 215, 3) := by decide +kernel
theorem dX7_nextOrder_74 : decode cX7_nextOrder 74 = .ok (.iload_n 1, 1) := by decide +kernel
theorem dX7_nextOrder_75 : decode cX7_nextOrder 75 = .ok (.iconst 1, 1) := by decide +kernel
theorem dX7_nextOrder_76 : decode cX7_nextOrder 76 = .ok (.iadd, 1) := by decide +kernel
theorem dX7_nextOrder_77 : decode cX7_nextOrder 77 = .ok (.istore_n 3, 1) := by decide +kernel
theorem dX7_nextOrder_78 : decode cX7_nextOrder 78 = .ok (.aload_n 0, 1) := by decide +kernel
theorem dX7_nextOrder_79 : decode cX7_nextOrder 79 = .ok (.getfield 104, 3) := by decide +kernel
theorem dX7_nextOrder_82 : decode cX7_nextOrder 82 = .ok (.iconst 1, 1) := by decide +kernel
theorem dX7_nextOrder_83 : decode cX7_nextOrder 83 = .ok (.isub, 1) := by decide +kernel
theorem dX7_nextOrder_84 : decode cX7_nextOrder 84 = .ok (.istore 4, 2) := by decide +kernel
theorem dX7_nextOrder_86 : decode cX7_nextOrder 86 = .ok (.iload 4, 2) := by decide +kernel
theorem dX7_nextOrder_88 : decode cX7_nextOrder 88 = .ok (.iload_n 3, 1) := by decide +kernel
theorem dX7_nextOrder_89 : decode cX7_nextOrder 89 = .ok (.if_icmp .le 19, 3) := by decide +kernel
theorem dX7_nextOrder_92 : decode cX7_nextOrder 92 = .ok (.aload_n 0, 1) := by decide +kernel
theorem dX7_nextOrder_93 : decode cX7_nextOrder 93 = .ok (.iload_n 3, 1) := by decide +kernel
theorem dX7_nextOrder_94 : decode cX7_nextOrder 94 = .ok (.iload 4, 2) := by decide +kernel
theorem dX7_nextOrder_96 : decode cX7_nextOrder 96 = .ok (.invokevirtual 215, 3) := by decide +kernel
theorem dX7_nextOrder_99 : decode cX7_nextOrder 99 = .ok (.iinc 3 1, 3) := by decide +kernel
theorem dX7_nextOrder_102 : decode cX7_nextOrder 102 = .ok (.iinc 4 (-1), 3) := by decide +kernel
theorem dX7_nextOrder_105 : decode cX7_nextOrder 105 = .ok (.goto (-19), 3) := by decide +kernel
theorem dX7_nextOrder_108 : decode cX7_nextOrder 108 = .ok (.iconst 1, 1) := by decide +kernel
theorem dX7_nextOrder_109 : decode cX7_nextOrder 109 = .ok (.ireturn, 1) := by decide +kernel
theorem dX7_findOrder_0 : decode cX7_findOrder 0 = .ok (.iconst 0, 1) := by decide +kernel
theorem dX7_findOrder_1 : decode cX7_findOrder 1 = .ok (.istore_n 1, 1) := by decide +kernel
theorem dX7_findOrder_2 : decode cX7_findOrder 2 = .ok (.iload_n 1, 1) := by decide +kernel
theorem dX7_findOrder_3 : decode cX7_findOrder 3 = .ok (.aload_n 0, 1) := by decide +kernel
theorem dX7_findOrder_4 : decode cX7_findOrder 4 = .ok (.getfield 104, 3) := by decide +kernel
theorem dX7_findOrder_7 : decode cX7_findOrder 7 = .ok (.if_icmp .ge 16, 3) := by decide +kernel
theorem dX7_findOrder_10 : decode cX7_findOrder 10 = .ok (.aload_n 0, 1) := by decide +kernel
theorem dX7_findOrder_11 : decode cX7_findOrder 11 = .ok (.getfield 74, 3) := by decide +kernel
theorem dX7_findOrder_14 : decode cX7_findOrder 14 = .ok (.iload_n 1, 1) := by decide +kernel
theorem dX7_findOrder_15 : decode cX7_findOrder 15 = .ok (.iload_n 1, 1) := by decide +kernel
theorem dX7_findOrder_16 : decode cX7_findOrder 16 = .ok (.iastore, 1) := by decide +kernel
theorem dX7_findOrder_17 : decode cX7_findOrder 17 = .ok (.iinc 1 1, 3) := by decide +kernel
theorem dX7_findOrder_20 : decode cX7_findOrder 20 = .ok (.goto (-18), 3) := by decide +kernel
theorem dX7_findOrder_23 : decode cX7_findOrder 23 = .ok (.iconst (-1), 1) := by decide +kernel
theorem dX7_findOrder_24 : decode cX7_findOrder 24 = .ok (.istore_n 1, 1) := by decide +kernel
theorem dX7_findOrder_25 : decode cX7_findOrder 25 = .ok (.iconst 1, 1) := by decide +kernel
theorem dX7_findOrder_26 : decode cX7_findOrder 26 = .ok (.istore_n 2, 1) := by decide +kernel
theorem dX7_findOrder_27 : decode cX7_findOrder 27 = .ok (.iload_n 2, 1) := by decide +kernel
theorem dX7_findOrder_28 : decode cX7_findOrder 28 = .ok (.ifCond .eq 90, 3) := by decide +kernel
theorem dX7_findOrder_31 : decode cX7_findOrder 31 = .ok (.aload_n 0, 1) := by decide +kernel
theorem dX7_findOrder_32 : decode cX7_findOrder 32 = .ok (.invokevirtual 219, 3) := by decide +kernel
theorem dX7_findOrder_35 : decode cX7_findOrder 35 = .ok (.istore_n 3, 1) := by decide +kernel
theorem dX7_findOrder_36 : decode cX7_findOrder 36 = .ok (.iload_n 1, 1) := by decide +kernel
theorem dX7_findOrder_37 : decode cX7_findOrder 37 = .ok (.ifCond .lt 8, 3) := by decide +kernel
theorem dX7_findOrder_40 : decode cX7_findOrder 40 = .ok (.iload_n 3, 1) := by decide +kernel
theorem dX7_findOrder_41 : decode cX7_findOrder 41 = .ok (.iload_n 1, 1) := by decide +kernel
theorem dX7_findOrder_42 : decode cX7_findOrder 42 = .ok (.if_icmp .ge 7, 3) := by decide +kernel
theorem dX7_findOrder_45 : decode cX7_findOrder 45 = .ok (.iconst 1, 1) := by decide +kernel
theorem dX7_findOrder_46 : decode cX7_findOrder 46 = .ok (.goto 4, 3) := by decide +kernel
theorem dX7_findOrder_49 : decode cX7_findOrder 49 = .ok (.iconst 0, 1) := by decide +kernel
theorem dX7_findOrder_50 : decode cX7_findOrder 50 = .ok (.istore 4, 2) := by decide +kernel
theorem dX7_findOrder_52 : decode cX7_findOrder 52 = .ok (.iconst 0, 1) := by decide +kernel
theorem dX7_findOrder_53 : decode cX7_findOrder 53 = .ok (.istore 5, 2) := by decide +kernel
theorem dX7_findOrder_55 : decode cX7_findOrder 55 = .ok (.iload 5, 2) := by decide +kernel
theorem dX7_findOrder_57 : decode cX7_findOrder 57 = .ok (.aload_n 0, 1) := by decide +kernel
theorem dX7_findOrder_58 : decode cX7_findOrder 58 = .ok (.getfield 104, 3) := by decide +kernel
theorem dX7_findOrder_61 : decode cX7_findOrder 61 = .ok (.if_icmp .ge 38, 3) := by decide +kernel
theorem dX7_findOrder_64 : decode cX7_findOrder 64 = .ok (.aload_n 0, 1) := by decide +kernel
theorem dX7_findOrder_65 : decode cX7_findOrder 65 = .ok (.getfield 77, 3) := by decide +kernel
theorem dX7_findOrder_68 : decode cX7_findOrder 68 = .ok (.iload 5, 2) := by decide +kernel
theorem dX7_findOrder_70 : decode cX7_findOrder 70 = .ok (.iload 4, 2) := by decide +kernel
theorem dX7_findOrder_72 : decode cX7_findOrder 72 = .ok (.ifCond .eq 13, 3) := by decide +kernel
theorem dX7_findOrder_75 : decode cX7_findOrder 75 = .ok (.aload_n 0, 1) := by decide +kernel
theorem dX7_findOrder_76 : decode cX7_findOrder 76 = .ok (.getfield 74, 3) := by decide +kernel
theorem dX7_findOrder_79 : decode cX7_findOrder 79 = .ok (.iload 5, 2) := by decide +kernel
theorem dX7_findOrder_81 : decode cX7_findOrder 81 = .ok (.iaload, 1) := by decide +kernel
theorem dX7_findOrder_82 : decode cX7_findOrder 82 = .ok (.goto 10, 3) := by decide +kernel
theorem dX7_findOrder_85 : decode cX7_findOrder 85 = .ok (.aload_n 0, 1) := by decide +kernel
theorem dX7_findOrder_86 : decode cX7_findOrder 86 = .ok (.getfield 77, 3) := by decide +kernel
theorem dX7_findOrder_89 : decode cX7_findOrder 89 = .ok (.iload 5, 2) := by decide +kernel
theorem dX7_findOrder_91 : decode cX7_findOrder 91 = .ok (.iaload, 1) := by decide +kernel
theorem dX7_findOrder_92 : decode cX7_findOrder 92 = .ok (.iastore, 1) := by decide +kernel
theorem dX7_findOrder_93 : decode cX7_findOrder 93 = .ok (.iinc 5 1, 3) := by decide +kernel
theorem dX7_findOrder_96 : decode cX7_findOrder 96 = .ok (.goto (-41), 3) := by decide +kernel
theorem dX7_findOrder_99 : decode cX7_findOrder 99 = .ok (.iload 4, 2) := by decide +kernel
theorem dX7_findOrder_101 : decode cX7_findOrder 101 = .ok (.ifCond .eq 7, 3) := by decide +kernel
theorem dX7_findOrder_104 : decode cX7_findOrder 104 = .ok (.iload_n 3, 1) := by decide +kernel
theorem dX7_findOrder_105 : decode cX7_findOrder 105 = .ok (.goto 4, 3) := by decide +kernel
theorem dX7_findOrder_108 : decode cX7_findOrder 108 = .ok (.iload_n 1, 1) := by decide +kernel
theorem dX7_findOrder_109 : decode cX7_findOrder 109 = .ok (.istore_n 1, 1) := by decide +kernel
theorem dX7_findOrder_110 : decode cX7_findOrder 110 = .ok (.aload_n 0, 1) := by decide +kernel
theorem dX7_findOrder_111 : decode cX7_findOrder 111 = .ok (.invokevirtual 223, 3) := by decide +kernel
theorem dX7_findOrder_114 : decode cX7_findOrder 114 = .ok (.istore_n 2, 1) := by decide +kernel
theorem dX7_findOrder_115 : decode cX7_findOrder 115 = .ok (.goto (-88), 3) := by decide +kernel
theorem dX7_findOrder_118 : decode cX7_findOrder 118 = .ok (.iload_n 1, 1) := by decide +kernel
theorem dX7_findOrder_119 : decode cX7_findOrder 119 = .ok (.ireturn, 1) := by decide +kernel
theorem dX7_bestScene_0 : decode cX7_bestScene 0 = .ok (.iload_n 1, 1) := by decide +kernel
theorem dX7_bestScene_1 : decode cX7_bestScene 1 = .ok (.ifCond .ge 6, 3) := by decide +kernel
theorem dX7_bestScene_4 : decode cX7_bestScene 4 = .ok (.bipush (-3), 2) := by decide +kernel
theorem dX7_bestScene_6 : decode cX7_bestScene 6 = .ok (.ireturn, 1) := by decide +kernel
theorem dX7_bestScene_7 : decode cX7_bestScene 7 = .ok (.aload_n 0, 1) := by decide +kernel
theorem dX7_bestScene_8 : decode cX7_bestScene 8 = .ok (.invokevirtual 226, 3) := by decide +kernel
theorem dX7_bestScene_11 : decode cX7_bestScene 11 = .ok (.pop, 1) := by decide +kernel
theorem dX7_bestScene_12 : decode cX7_bestScene 12 = .ok (.iload_n 1, 1) := by decide +kernel
theorem dX7_bestScene_13 : decode cX7_bestScene 13 = .ok (.aload_n 0, 1) := by decide +kernel
theorem dX7_bestScene_14 : decode cX7_bestScene 14 = .ok (.getfield 104, 3) := by decide +kernel
theorem dX7_bestScene_17 : decode cX7_bestScene 17 = .ok (.if_icmp .ge 12, 3) := by decide +kernel
theorem dX7_bestScene_20 : decode cX7_bestScene 20 = .ok (.aload_n 0, 1) := by decide +kernel
theorem dX7_bestScene_21 : decode cX7_bestScene 21 = .ok (.getfield 77, 3) := by decide +kernel
theorem dX7_bestScene_24 : decode cX7_bestScene 24 = .ok (.iload_n 1, 1) := by decide +kernel
theorem dX7_bestScene_25 : decode cX7_bestScene 25 = .ok (.iaload, 1) := by decide +kernel
theorem dX7_bestScene_26 : decode cX7_bestScene 26 = .ok (.goto 5, 3) := by decide +kernel
theorem dX7_bestScene_29 : decode cX7_bestScene 29 = .ok (.bipush (-5), 2) := by decide +kernel
theorem dX7_bestScene_31 : decode cX7_bestScene 31 = .ok (.ireturn, 1) := by decide +kernel
theorem dX7_bestCost_0 : decode cX7_bestCost 0 = .ok (.aload_n 0, 1) := by decide +kernel
theorem dX7_bestCost_1 : decode cX7_bestCost 1 = .ok (.invokevirtual 226, 3) := by decide +kernel
theorem dX7_bestCost_4 : decode cX7_bestCost 4 = .ok (.ireturn, 1) := by decide +kernel
theorem dJ6_bitCount_0f7a4_0 : decode cJ6_bitCount_0f7a4 0 = .ok (.iload_n 0, 1) := by decide +kernel
theorem dJ6_bitCount_0f7a4_1 : decode cJ6_bitCount_0f7a4 1 = .ok (.iload_n 0, 1) := by decide +kernel
theorem dJ6_bitCount_0f7a4_2 : decode cJ6_bitCount_0f7a4 2 = .ok (.iconst 1, 1) := by decide +kernel
theorem dJ6_bitCount_0f7a4_3 : decode cJ6_bitCount_0f7a4 3 = .ok (.iushr, 1) := by decide +kernel
theorem dJ6_bitCount_0f7a4_4 : decode cJ6_bitCount_0f7a4 4 = .ok (.ldc_w 265, 3) := by decide +kernel
theorem dJ6_bitCount_0f7a4_7 : decode cJ6_bitCount_0f7a4 7 = .ok (.iand, 1) := by decide +kernel
theorem dJ6_bitCount_0f7a4_8 : decode cJ6_bitCount_0f7a4 8 = .ok (.isub, 1) := by decide +kernel
theorem dJ6_bitCount_0f7a4_9 : decode cJ6_bitCount_0f7a4 9 = .ok (.istore_n 0, 1) := by decide +kernel
theorem dJ6_bitCount_0f7a4_10 : decode cJ6_bitCount_0f7a4 10 = .ok (.iload_n 0, 1) := by decide +kernel
theorem dJ6_bitCount_0f7a4_11 : decode cJ6_bitCount_0f7a4 11 = .ok (.ldc_w 266, 3) := by decide +kernel
theorem dJ6_bitCount_0f7a4_14 : decode cJ6_bitCount_0f7a4 14 = .ok (.iand, 1) := by decide +kernel
theorem dJ6_bitCount_0f7a4_15 : decode cJ6_bitCount_0f7a4 15 = .ok (.iload_n 0, 1) := by decide +kernel
theorem dJ6_bitCount_0f7a4_16 : decode cJ6_bitCount_0f7a4 16 = .ok (.iconst 2, 1) := by decide +kernel
theorem dJ6_bitCount_0f7a4_17 : decode cJ6_bitCount_0f7a4 17 = .ok (.iushr, 1) := by decide +kernel
theorem dJ6_bitCount_0f7a4_18 : decode cJ6_bitCount_0f7a4 18 = .ok (.ldc_w 266, 3) := by decide +kernel
theorem dJ6_bitCount_0f7a4_21 : decode cJ6_bitCount_0f7a4 21 = .ok (.iand, 1) := by decide +kernel
theorem dJ6_bitCount_0f7a4_22 : decode cJ6_bitCount_0f7a4 22 = .ok (.iadd, 1) := by decide +kernel
theorem dJ6_bitCount_0f7a4_23 : decode cJ6_bitCount_0f7a4 23 = .ok (.istore_n 0, 1) := by decide +kernel
theorem dJ6_bitCount_0f7a4_24 : decode cJ6_bitCount_0f7a4 24 = .ok (.iload_n 0, 1) := by decide +kernel
theorem dJ6_bitCount_0f7a4_25 : decode cJ6_bitCount_0f7a4 25 = .ok (.iload_n 0, 1) := by decide +kernel
theorem dJ6_bitCount_0f7a4_26 : decode cJ6_bitCount_0f7a4 26 = .ok (.iconst 4, 1) := by decide +kernel
theorem dJ6_bitCount_0f7a4_27 : decode cJ6_bitCount_0f7a4 27 = .ok (.iushr, 1) := by decide +kernel
theorem dJ6_bitCount_0f7a4_28 : decode cJ6_bitCount_0f7a4 28 = .ok (.iadd, 1) := by decide +kernel
theorem dJ6_bitCount_0f7a4_29 : decode cJ6_bitCount_0f7a4 29 = .ok (.ldc_w 267, 3) := by decide +kernel
theorem dJ6_bitCount_0f7a4_32 : decode cJ6_bitCount_0f7a4 32 = .ok (.iand, 1) := by decide +kernel
theorem dJ6_bitCount_0f7a4_33 : decode cJ6_bitCount_0f7a4 33 = .ok (.istore_n 0, 1) := by decide +kernel
theorem dJ6_bitCount_0f7a4_34 : decode cJ6_bitCount_0f7a4 34 = .ok (.iload_n 0, 1) := by decide +kernel
theorem dJ6_bitCount_0f7a4_35 : decode cJ6_bitCount_0f7a4 35 = .ok (.iload_n 0, 1) := by decide +kernel
theorem dJ6_bitCount_0f7a4_36 : decode cJ6_bitCount_0f7a4 36 = .ok (.bipush 8, 2) := by decide +kernel
theorem dJ6_bitCount_0f7a4_38 : decode cJ6_bitCount_0f7a4 38 = .ok (.iushr, 1) := by decide +kernel
theorem dJ6_bitCount_0f7a4_39 : decode cJ6_bitCount_0f7a4 39 = .ok (.iadd, 1) := by decide +kernel
theorem dJ6_bitCount_0f7a4_40 : decode cJ6_bitCount_0f7a4 40 = .ok (.istore_n 0, 1) := by decide +kernel
theorem dJ6_bitCount_0f7a4_41 : decode cJ6_bitCount_0f7a4 41 = .ok (.iload_n 0, 1) := by decide +kernel
theorem dJ6_bitCount_0f7a4_42 : decode cJ6_bitCount_0f7a4 42 = .ok (.iload_n 0, 1) := by decide +kernel
theorem dJ6_bitCount_0f7a4_43 : decode cJ6_bitCount_0f7a4 43 = .ok (.bipush 16, 2) := by decide +kernel
theorem dJ6_bitCount_0f7a4_45 : decode cJ6_bitCount_0f7a4 45 = .ok (.iushr, 1) := by decide +kernel
theorem dJ6_bitCount_0f7a4_46 : decode cJ6_bitCount_0f7a4 46 = .ok (.iadd, 1) := by decide +kernel
theorem dJ6_bitCount_0f7a4_47 : decode cJ6_bitCount_0f7a4 47 = .ok (.istore_n 0, 1) := by decide +kernel
theorem dJ6_bitCount_0f7a4_48 : decode cJ6_bitCount_0f7a4 48 = .ok (.iload_n 0, 1) := by decide +kernel
theorem dJ6_bitCount_0f7a4_49 : decode cJ6_bitCount_0f7a4 49 = .ok (.bipush 63, 2) := by decide +kernel
theorem dJ6_bitCount_0f7a4_51 : decode cJ6_bitCount_0f7a4 51 = .ok (.iand, 1) := by decide +kernel
theorem dJ6_bitCount_0f7a4_52 : decode cJ6_bitCount_0f7a4 52 = .ok (.ireturn, 1) := by decide +kernel
theorem dJ13_compare_74951_0 : decode cJ13_compare_74951 0 = .ok (.lload_n 0, 1) := by decide +kernel
theorem dJ13_compare_74951_1 : decode cJ13_compare_74951 1 = .ok (.lload_n 2, 1) := by decide +kernel
theorem dJ13_compare_74951_2 : decode cJ13_compare_74951 2 = .ok (.lcmp, 1) := by decide +kernel
theorem dJ13_compare_74951_3 : decode cJ13_compare_74951 3 = .ok (.ifCond .ge 7, 3) := by decide +kernel
theorem dJ13_compare_74951_6 : decode cJ13_compare_74951 6 = .ok (.iconst (-1), 1) := by decide +kernel
theorem dJ13_compare_74951_7 : decode cJ13_compare_74951 7 = .ok (.goto 14, 3) := by decide +kernel
theorem dJ13_compare_74951_10 : decode cJ13_compare_74951 10 = .ok (.lload_n 0, 1) := by decide +kernel
theorem dJ13_compare_74951_11 : decode cJ13_compare_74951 11 = .ok (.lload_n 2, 1) := by decide +kernel
theorem dJ13_compare_74951_12 : decode cJ13_compare_74951 12 = .ok (.lcmp, 1) := by decide +kernel
theorem dJ13_compare_74951_13 : decode cJ13_compare_74951 13 = .ok (.ifCond .ne 7, 3) := by decide +kernel
theorem dJ13_compare_74951_16 : decode cJ13_compare_74951 16 = .ok (.iconst 0, 1) := by decide +kernel
theorem dJ13_compare_74951_17 : decode cJ13_compare_74951 17 = .ok (.goto 4, 3) := by decide +kernel
theorem dJ13_compare_74951_20 : decode cJ13_compare_74951 20 = .ok (.iconst 1, 1) := by decide +kernel
theorem dJ13_compare_74951_21 : decode cJ13_compare_74951 21 = .ok (.ireturn, 1) := by decide +kernel
theorem dJ9_floorMod_7cf53_0 : decode cJ9_floorMod_7cf53 0 = .ok (.iload_n 0, 1) := by decide +kernel
theorem dJ9_floorMod_7cf53_1 : decode cJ9_floorMod_7cf53 1 = .ok (.iload_n 1, 1) := by decide +kernel
theorem dJ9_floorMod_7cf53_2 : decode cJ9_floorMod_7cf53 2 = .ok (.irem, 1) := by decide +kernel
theorem dJ9_floorMod_7cf53_3 : decode cJ9_floorMod_7cf53 3 = .ok (.istore_n 2, 1) := by decide +kernel
theorem dJ9_floorMod_7cf53_4 : decode cJ9_floorMod_7cf53 4 = .ok (.iload_n 0, 1) := by decide +kernel
theorem dJ9_floorMod_7cf53_5 : decode cJ9_floorMod_7cf53 5 = .ok (.iload_n 1, 1) := by decide +kernel
theorem dJ9_floorMod_7cf53_6 : decode cJ9_floorMod_7cf53 6 = .ok (.ixor, 1) := by decide +kernel
theorem dJ9_floorMod_7cf53_7 : decode cJ9_floorMod_7cf53 7 = .ok (.ifCond .ge 11, 3) := by decide +kernel
theorem dJ9_floorMod_7cf53_10 : decode cJ9_floorMod_7cf53 10 = .ok (.iload_n 2, 1) := by decide +kernel
theorem dJ9_floorMod_7cf53_11 : decode cJ9_floorMod_7cf53 11 = .ok (.ifCond .eq 7, 3) := by decide +kernel
theorem dJ9_floorMod_7cf53_14 : decode cJ9_floorMod_7cf53 14 = .ok (.iload_n 2, 1) := by decide +kernel
theorem dJ9_floorMod_7cf53_15 : decode cJ9_floorMod_7cf53 15 = .ok (.iload_n 1, 1) := by decide +kernel
theorem dJ9_floorMod_7cf53_16 : decode cJ9_floorMod_7cf53 16 = .ok (.iadd, 1) := by decide +kernel
theorem dJ9_floorMod_7cf53_17 : decode cJ9_floorMod_7cf53 17 = .ok (.ireturn, 1) := by decide +kernel
theorem dJ9_floorMod_7cf53_18 : decode cJ9_floorMod_7cf53 18 = .ok (.iload_n 2, 1) := by decide +kernel
theorem dJ9_floorMod_7cf53_19 : decode cJ9_floorMod_7cf53 19 = .ok (.ireturn, 1) := by decide +kernel
theorem dJ9_abs_067f4_0 : decode cJ9_abs_067f4 0 = .ok (.lload_n 0, 1) := by decide +kernel
theorem dJ9_abs_067f4_1 : decode cJ9_abs_067f4 1 = .ok (.lconst 0, 1) := by decide +kernel
theorem dJ9_abs_067f4_2 : decode cJ9_abs_067f4 2 = .ok (.lcmp, 1) := by decide +kernel
theorem dJ9_abs_067f4_3 : decode cJ9_abs_067f4 3 = .ok (.ifCond .ge 8, 3) := by decide +kernel
theorem dJ9_abs_067f4_6 : decode cJ9_abs_067f4 6 = .ok (.lload_n 0, 1) := by decide +kernel
theorem dJ9_abs_067f4_7 : decode cJ9_abs_067f4 7 = .ok (.lneg, 1) := by decide +kernel
theorem dJ9_abs_067f4_8 : decode cJ9_abs_067f4 8 = .ok (.goto 4, 3) := by decide +kernel
theorem dJ9_abs_067f4_11 : decode cJ9_abs_067f4 11 = .ok (.lload_n 0, 1) := by decide +kernel
theorem dJ9_abs_067f4_12 : decode cJ9_abs_067f4 12 = .ok (.lreturn, 1) := by decide +kernel
theorem dJ9_max_7cf53_0 : decode cJ9_max_7cf53 0 = .ok (.iload_n 0, 1) := by decide +kernel
theorem dJ9_max_7cf53_1 : decode cJ9_max_7cf53 1 = .ok (.iload_n 1, 1) := by decide +kernel
theorem dJ9_max_7cf53_2 : decode cJ9_max_7cf53 2 = .ok (.if_icmp .lt 7, 3) := by decide +kernel
theorem dJ9_max_7cf53_5 : decode cJ9_max_7cf53 5 = .ok (.iload_n 0, 1) := by decide +kernel
theorem dJ9_max_7cf53_6 : decode cJ9_max_7cf53 6 = .ok (.goto 4, 3) := by decide +kernel
theorem dJ9_max_7cf53_9 : decode cJ9_max_7cf53 9 = .ok (.iload_n 1, 1) := by decide +kernel
theorem dJ9_max_7cf53_10 : decode cJ9_max_7cf53 10 = .ok (.ireturn, 1) := by decide +kernel
theorem dJ9_max_f86c9_0 : decode cJ9_max_f86c9 0 = .ok (.lload_n 0, 1) := by decide +kernel
theorem dJ9_max_f86c9_1 : decode cJ9_max_f86c9 1 = .ok (.lload_n 2, 1) := by decide +kernel
theorem dJ9_max_f86c9_2 : decode cJ9_max_f86c9 2 = .ok (.lcmp, 1) := by decide +kernel
theorem dJ9_max_f86c9_3 : decode cJ9_max_f86c9 3 = .ok (.ifCond .lt 7, 3) := by decide +kernel
theorem dJ9_max_f86c9_6 : decode cJ9_max_f86c9 6 = .ok (.lload_n 0, 1) := by decide +kernel
theorem dJ9_max_f86c9_7 : decode cJ9_max_f86c9 7 = .ok (.goto 4, 3) := by decide +kernel
theorem dJ9_max_f86c9_10 : decode cJ9_max_f86c9 10 = .ok (.lload_n 2, 1) := by decide +kernel
theorem dJ9_max_f86c9_11 : decode cJ9_max_f86c9 11 = .ok (.lreturn, 1) := by decide +kernel
theorem dJ9_min_7cf53_0 : decode cJ9_min_7cf53 0 = .ok (.iload_n 0, 1) := by decide +kernel
theorem dJ9_min_7cf53_1 : decode cJ9_min_7cf53 1 = .ok (.iload_n 1, 1) := by decide +kernel
theorem dJ9_min_7cf53_2 : decode cJ9_min_7cf53 2 = .ok (.if_icmp .gt 7, 3) := by decide +kernel
theorem dJ9_min_7cf53_5 : decode cJ9_min_7cf53 5 = .ok (.iload_n 0, 1) := by decide +kernel
theorem dJ9_min_7cf53_6 : decode cJ9_min_7cf53 6 = .ok (.goto 4, 3) := by decide +kernel
theorem dJ9_min_7cf53_9 : decode cJ9_min_7cf53 9 = .ok (.iload_n 1, 1) := by decide +kernel
theorem dJ9_min_7cf53_10 : decode cJ9_min_7cf53 10 = .ok (.ireturn, 1) := by decide +kernel
theorem dJ9_min_f86c9_0 : decode cJ9_min_f86c9 0 = .ok (.lload_n 0, 1) := by decide +kernel
theorem dJ9_min_f86c9_1 : decode cJ9_min_f86c9 1 = .ok (.lload_n 2, 1) := by decide +kernel
theorem dJ9_min_f86c9_2 : decode cJ9_min_f86c9 2 = .ok (.lcmp, 1) := by decide +kernel
theorem dJ9_min_f86c9_3 : decode cJ9_min_f86c9 3 = .ok (.ifCond .gt 7, 3) := by decide +kernel
theorem dJ9_min_f86c9_6 : decode cJ9_min_f86c9 6 = .ok (.lload_n 0, 1) := by decide +kernel
theorem dJ9_min_f86c9_7 : decode cJ9_min_f86c9 7 = .ok (.goto 4, 3) := by decide +kernel
theorem dJ9_min_f86c9_10 : decode cJ9_min_f86c9 10 = .ok (.lload_n 2, 1) := by decide +kernel
theorem dJ9_min_f86c9_11 : decode cJ9_min_f86c9 11 = .ok (.lreturn, 1) := by decide +kernel
theorem dL_law_0 : decode cL_law 0 = .ok (.new 7, 3) := by decide +kernel
theorem dL_law_3 : decode cL_law 3 = .ok (.dup, 1) := by decide +kernel
theorem dL_law_4 : decode cL_law 4 = .ok (.invokespecial 9, 3) := by decide +kernel
theorem dL_law_7 : decode cL_law 7 = .ok (.astore_n 1, 1) := by decide +kernel
theorem dL_law_8 : decode cL_law 8 = .ok (.new 10, 3) := by decide +kernel
theorem dL_law_11 : decode cL_law 11 = .ok (.dup, 1) := by decide +kernel
theorem dL_law_12 : decode cL_law 12 = .ok (.invokespecial 12, 3) := by decide +kernel
theorem dL_law_15 : decode cL_law 15 = .ok (.astore_n 2, 1) := by decide +kernel
theorem dL_law_16 : decode cL_law 16 = .ok (.iconst 0, 1) := by decide +kernel
theorem dL_law_17 : decode cL_law 17 = .ok (.istore_n 3, 1) := by decide +kernel
theorem dL_law_18 : decode cL_law 18 = .ok (.iload_n 3, 1) := by decide +kernel
theorem dL_law_19 : decode cL_law 19 = .ok (.aload_n 0, 1) := by decide +kernel
theorem dL_law_20 : decode cL_law 20 = .ok (.arraylength, 1) := by decide +kernel
theorem dL_law_21 : decode cL_law 21 = .ok (.bipush 6, 2) := by decide +kernel
theorem dL_law_23 : decode cL_law 23 = .ok (.isub, 1) := by decide +kernel
theorem dL_law_24 : decode cL_law 24 = .ok (.if_icmp .gt 897, 3) := by decide +kernel
theorem dL_law_27 : decode cL_law 27 = .ok (.aload_n 0, 1) := by decide +kernel
theorem dL_law_28 : decode cL_law 28 = .ok (.iload_n 3, 1) := by decide +kernel
theorem dL_law_29 : decode cL_law 29 = .ok (.iaload, 1) := by decide +kernel
theorem dL_law_30 : decode cL_law 30 = .ok (.bipush 31, 2) := by decide +kernel
theorem dL_law_32 : decode cL_law 32 = .ok (.iand, 1) := by decide +kernel
theorem dL_law_33 : decode cL_law 33 = .ok (.tableswitch 882 0 21 #[103, 126, 169, 222, 245, 298, 361, 384, 438, 492, 546, 589, 632, 675, 698, 741, 764, 777, 810, 833, 846, 869], 103) := by decide +kernel
theorem dL_law_136 : decode cL_law 136 = .ok (.aload_n 1, 1) := by decide +kernel
theorem dL_law_137 : decode cL_law 137 = .ok (.aload_n 0, 1) := by decide +kernel
theorem dL_law_138 : decode cL_law 138 = .ok (.iload_n 3, 1) := by decide +kernel
theorem dL_law_139 : decode cL_law 139 = .ok (.iconst 1, 1) := by decide +kernel
theorem dL_law_140 : decode cL_law 140 = .ok (.iadd, 1) := by decide +kernel
theorem dL_law_141 : decode cL_law 141 = .ok (.iaload, 1) := by decide +kernel
theorem dL_law_142 : decode cL_law 142 = .ok (.invokevirtual 13, 3) := by decide +kernel
theorem dL_law_145 : decode cL_law 145 = .ok (.aload_n 2, 1) := by decide +kernel
theorem dL_law_146 : decode cL_law 146 = .ok (.aload_n 0, 1) := by decide +kernel
theorem dL_law_147 : decode cL_law 147 = .ok (.iload_n 3, 1) := by decide +kernel
theorem dL_law_148 : decode cL_law 148 = .ok (.iconst 1, 1) := by decide +kernel
theorem dL_law_149 : decode cL_law 149 = .ok (.iadd, 1) := by decide +kernel
theorem dL_law_150 : decode cL_law 150 = .ok (.iaload, 1) := by decide +kernel
theorem dL_law_151 : decode cL_law 151 = .ok (.invokevirtual 17, 3) := by decide +kernel
theorem dL_law_154 : decode cL_law 154 = .ok (.if_icmp .eq 761, 3) := by decide +kernel
theorem dL_law_157 : decode cL_law 157 = .ok (.iconst 0, 1) := by decide +kernel
theorem dL_law_158 : decode cL_law 158 = .ok (.ireturn, 1) := by decide +kernel
theorem dL_law_159 : decode cL_law 159 = .ok (.aload_n 1, 1) := by decide +kernel
theorem dL_law_160 : decode cL_law 160 = .ok (.aload_n 0, 1) := by decide +kernel
theorem dL_law_161 : decode cL_law 161 = .ok (.iload_n 3, 1) := by decide +kernel
theorem dL_law_162 : decode cL_law 162 = .ok (.iconst 1, 1) := by decide +kernel
theorem dL_law_163 : decode cL_law 163 = .ok (.iadd, 1) := by decide +kernel
theorem dL_law_164 : decode cL_law 164 = .ok (.iaload, 1) := by decide +kernel
theorem dL_law_165 : decode cL_law 165 = .ok (.aload_n 0, 1) := by decide +kernel
theorem dL_law_166 : decode cL_law 166 = .ok (.iload_n 3, 1) := by decide +kernel
theorem dL_law_167 : decode cL_law 167 = .ok (.iconst 2, 1) := by decide +kernel
theorem dL_law_168 : decode cL_law 168 = .ok (.iadd, 1) := by decide +kernel
theorem dL_law_169 : decode cL_law 169 = .ok (.iaload, 1) := by decide +kernel
theorem dL_law_170 : decode cL_law 170 = .ok (.aload_n 0, 1) := by decide +kernel
theorem dL_law_171 : decode cL_law 171 = .ok (.iload_n 3, 1) := by decide +kernel
theorem dL_law_172 : decode cL_law 172 = .ok (.iconst 3, 1) := by decide +kernel
theorem dL_law_173 : decode cL_law 173 = .ok (.iadd, 1) := by decide +kernel
theorem dL_law_174 : decode cL_law 174 = .ok (.iaload, 1) := by decide +kernel
theorem dL_law_175 : decode cL_law 175 = .ok (.invokevirtual 18, 3) := by decide +kernel
theorem dL_law_178 : decode cL_law 178 = .ok (.aload_n 2, 1) := by decide +kernel
theorem dL_law_179 : decode cL_law 179 = .ok (.aload_n 0, 1) := by decide +kernel
theorem dL_law_180 : decode cL_law 180 = .ok (.iload_n 3, 1) := by decide +kernel
theorem dL_law_181 : decode cL_law 181 = .ok (.iconst 1, 1) := by decide +kernel
theorem dL_law_182 : decode cL_law 182 = .ok (.iadd, 1) := by decide +kernel
theorem dL_law_183 : decode cL_law 183 = .ok (.iaload, 1) := by decide +kernel
theorem dL_law_184 : decode cL_law 184 = .ok (.aload_n 0, 1) := by decide +kernel
theorem dL_law_185 : decode cL_law 185 = .ok (.iload_n 3, 1) := by decide +kernel
theorem dL_law_186 : decode cL_law 186 = .ok (.iconst 2, 1) := by decide +kernel
theorem dL_law_187 : decode cL_law 187 = .ok (.iadd, 1) := by decide +kernel
theorem dL_law_188 : decode cL_law 188 = .ok (.iaload, 1) := by decide +kernel
theorem dL_law_189 : decode cL_law 189 = .ok (.aload_n 0, 1) := by decide +kernel
theorem dL_law_190 : decode cL_law 190 = .ok (.iload_n 3, 1) := by decide +kernel
theorem dL_law_191 : decode cL_law 191 = .ok (.iconst 3, 1) := by decide +kernel
theorem dL_law_192 : decode cL_law 192 = .ok (.iadd, 1) := by decide +kernel
theorem dL_law_193 : decode cL_law 193 = .ok (.iaload, 1) := by decide +kernel
theorem dL_law_194 : decode cL_law 194 = .ok (.invokevirtual 22, 3) := by decide +kernel
theorem dL_law_197 : decode cL_law 197 = .ok (.if_icmp .eq 718, 3) := by decide +kernel
theorem dL_law_200 : decode cL_law 200 = .ok (.iconst 0, 1) := by decide +kernel
theorem dL_law_201 : decode cL_law 201 = .ok (.ireturn, 1) := by decide +kernel
theorem dL_law_202 : decode cL_law 202 = .ok (.aload_n 1, 1) := by decide +kernel
theorem dL_law_203 : decode cL_law 203 = .ok (.aload_n 0, 1) := by decide +kernel
theorem dL_law_204 : decode cL_law 204 = .ok (.iload_n 3, 1) := by decide +kernel
theorem dL_law_205 : decode cL_law 205 = .ok (.iconst 1, 1) := by decide +kernel
theorem dL_law_206 : decode cL_law 206 = .ok (.iadd, 1) := by decide +kernel
theorem dL_law_207 : decode cL_law 207 = .ok (.iaload, 1) := by decide +kernel
theorem dL_law_208 : decode cL_law 208 = .ok (.aload_n 0, 1) := by decide +kernel
theorem dL_law_209 : decode cL_law 209 = .ok (.iload_n 3, 1) := by decide +kernel
theorem dL_law_210 : decode cL_law 210 = .ok (.iconst 2, 1) := by decide +kernel
theorem dL_law_211 : decode cL_law 211 = .ok (.iadd, 1) := by decide +kernel
theorem dL_law_212 : decode cL_law 212 = .ok (.iaload, 1) := by decide +kernel
theorem dL_law_213 : decode cL_law 213 = .ok (.aload_n 0, 1) := by decide +kernel
theorem dL_law_214 : decode cL_law 214 = .ok (.iload_n 3, 1) := by decide +kernel
theorem dL_law_215 : decode cL_law 215 = .ok (.iconst 3, 1) := by decide +kernel
theorem dL_law_216 : decode cL_law 216 = .ok (.iadd, 1) := by decide +kernel
theorem dL_law_217 : decode cL_law 217 = .ok (.iaload, 1) := by decide +kernel
theorem dL_law_218 : decode cL_law 218 = .ok (.aload_n 0, 1) := by decide +kernel
theorem dL_law_219 : decode cL_law 219 = .ok (.iload_n 3, 1) := by decide +kernel
theorem dL_law_220 : decode cL_law 220 = .ok (.iconst 4, 1) := by decide +kernel
theorem dL_law_221 : decode cL_law 221 = .ok (.iadd, 1) := by decide +kernel
theorem dL_law_222 : decode cL_law 222 = .ok (.iaload, 1) := by decide +kernel
theorem dL_law_223 : decode cL_law 223 = .ok (.invokevirtual 23, 3) := by decide +kernel
theorem dL_law_226 : decode cL_law 226 = .ok (.aload_n 2, 1) := by decide +kernel
theorem dL_law_227 : decode cL_law 227 = .ok (.aload_n 0, 1) := by decide +kernel
theorem dL_law_228 : decode cL_law 228 = .ok (.iload_n 3, 1) := by decide +kernel
theorem dL_law_229 : decode cL_law 229 = .ok (.iconst 1, 1) := by decide +kernel
theorem dL_law_230 : decode cL_law 230 = .ok (.iadd, 1) := by decide +kernel
theorem dL_law_231 : decode cL_law 231 = .ok (.iaload, 1) := by decide +kernel
theorem dL_law_232 : decode cL_law 232 = .ok (.aload_n 0, 1) := by decide +kernel
theorem dL_law_233 : decode cL_law 233 = .ok (.iload_n 3, 1) := by decide +kernel
theorem dL_law_234 : decode cL_law 234 = .ok (.iconst 2, 1) := by decide +kernel
theorem dL_law_235 : decode cL_law 235 = .ok (.iadd, 1) := by decide +kernel
theorem dL_law_236 : decode cL_law 236 = .ok (.iaload, 1) := by decide +kernel
theorem dL_law_237 : decode cL_law 237 = .ok (.aload_n 0, 1) := by decide +kernel
theorem dL_law_238 : decode cL_law 238 = .ok (.iload_n 3, 1) := by decide +kernel
theorem dL_law_239 : decode cL_law 239 = .ok (.iconst 3, 1) := by decide +kernel
theorem dL_law_240 : decode cL_law 240 = .ok (.iadd, 1) := by decide +kernel
theorem dL_law_241 : decode cL_law 241 = .ok (.iaload, 1) := by decide +kernel
theorem dL_law_242 : decode cL_law 242 = .ok (.aload_n 0, 1) := by decide +kernel
theorem dL_law_243 : decode cL_law 243 = .ok (.iload_n 3, 1) := by decide +kernel
theorem dL_law_244 : decode cL_law 244 = .ok (.iconst 4, 1) := by decide +kernel
theorem dL_law_245 : decode cL_law 245 = .ok (.iadd, 1) := by decide +kernel
theorem dL_law_246 : decode cL_law 246 = .ok (.iaload, 1) := by decide +kernel
theorem dL_law_247 : decode cL_law 247 = .ok (.invokevirtual 27, 3) := by decide +kernel
theorem dL_law_250 : decode cL_law 250 = .ok (.if_icmp .eq 665, 3) := by decide +kernel
theorem dL_law_253 : decode cL_law 253 = .ok (.iconst 0, 1) := by decide +kernel
theorem dL_law_254 : decode cL_law 254 = .ok (.ireturn, 1) := by decide +kernel
theorem dL_law_255 : decode cL_law 255 = .ok (.aload_n 1, 1) := by decide +kernel
theorem dL_law_256 : decode cL_law 256 = .ok (.aload_n 0, 1) := by decide +kernel
theorem dL_law_257 : decode cL_law 257 = .ok (.iload_n 3, 1) := by decide +kernel
theorem dL_law_258 : decode cL_law 258 = .ok (.iconst 1, 1) := by decide +kernel
theorem dL_law_259 : decode cL_law 259 = .ok (.iadd, 1) := by decide +kernel
theorem dL_law_260 : decode cL_law 260 = .ok (.iaload, 1) := by decide +kernel
theorem dL_law_261 : decode cL_law 261 = .ok (.invokevirtual 28, 3) := by decide +kernel
theorem dL_law_264 : decode cL_law 264 = .ok (.aload_n 2, 1) := by decide +kernel
theorem dL_law_265 : decode cL_law 265 = .ok (.aload_n 0, 1) := by decide +kernel
theorem dL_law_266 : decode cL_law 266 = .ok (.iload_n 3, 1) := by decide +kernel
theorem dL_law_267 : decode cL_law 267 = .ok (.iconst 1, 1) := by decide +kernel
theorem dL_law_268 : decode cL_law 268 = .ok (.iadd, 1) := by decide +kernel
theorem dL_law_269 : decode cL_law 269 = .ok (.iaload, 1) := by decide +kernel
theorem dL_law_270 : decode cL_law 270 = .ok (.invokevirtual 31, 3) := by decide +kernel
theorem dL_law_273 : decode cL_law 273 = .ok (.if_icmp .eq 642, 3) := by decide +kernel
theorem dL_law_276 : decode cL_law 276 = .ok (.iconst 0, 1) := by decide +kernel
theorem dL_law_277 : decode cL_law 277 = .ok (.ireturn, 1) := by decide +kernel
theorem dL_law_278 : decode cL_law 278 = .ok (.aload_n 1, 1) := by decide +kernel
theorem dL_law_279 : decode cL_law 279 = .ok (.aload_n 0, 1) := by decide +kernel
theorem dL_law_280 : decode cL_law 280 = .ok (.iload_n 3, 1) := by decide +kernel
theorem dL_law_281 : decode cL_law 281 = .ok (.iconst 1, 1) := by decide +kernel
theorem dL_law_282 : decode cL_law 282 = .ok (.iadd, 1) := by decide +kernel
theorem dL_law_283 : decode cL_law 283 = .ok (.iaload, 1) := by decide +kernel
theorem dL_law_284 : decode cL_law 284 = .ok (.aload_n 0, 1) := by decide +kernel
theorem dL_law_285 : decode cL_law 285 = .ok (.iload_n 3, 1) := by decide +kernel
theorem dL_law_286 : decode cL_law 286 = .ok (.iconst 2, 1) := by decide +kernel
theorem dL_law_287 : decode cL_law 287 = .ok (.iadd, 1) := by decide +kernel
theorem dL_law_288 : decode cL_law 288 = .ok (.iaload, 1) := by decide +kernel
theorem dL_law_289 : decode cL_law 289 = .ok (.aload_n 0, 1) := by decide +kernel
theorem dL_law_290 : decode cL_law 290 = .ok (.iload_n 3, 1) := by decide +kernel
theorem dL_law_291 : decode cL_law 291 = .ok (.iconst 3, 1) := by decide +kernel
theorem dL_law_292 : decode cL_law 292 = .ok (.iadd, 1) := by decide +kernel
theorem dL_law_293 : decode cL_law 293 = .ok (.iaload, 1) := by decide +kernel
theorem dL_law_294 : decode cL_law 294 = .ok (.aload_n 0, 1) := by decide +kernel
theorem dL_law_295 : decode cL_law 295 = .ok (.iload_n 3, 1) := by decide +kernel
theorem dL_law_296 : decode cL_law 296 = .ok (.iconst 4, 1) := by decide +kernel
theorem dL_law_297 : decode cL_law 297 = .ok (.iadd, 1) := by decide +kernel
theorem dL_law_298 : decode cL_law 298 = .ok (.iaload, 1) := by decide +kernel
theorem dL_law_299 : decode cL_law 299 = .ok (.invokevirtual 32, 3) := by decide +kernel
theorem dL_law_302 : decode cL_law 302 = .ok (.aload_n 2, 1) := by decide +kernel
theorem dL_law_303 : decode cL_law 303 = .ok (.aload_n 0, 1) := by decide +kernel
theorem dL_law_304 : decode cL_law 304 = .ok (.iload_n 3, 1) := by decide +kernel
theorem dL_law_305 : decode cL_law 305 = .ok (.iconst 1, 1) := by decide +kernel
theorem dL_law_306 : decode cL_law 306 = .ok (.iadd, 1) := by decide +kernel
theorem dL_law_307 : decode cL_law 307 = .ok (.iaload, 1) := by decide +kernel
theorem dL_law_308 : decode cL_law 308 = .ok (.aload_n 0, 1) := by decide +kernel
theorem dL_law_309 : decode cL_law 309 = .ok (.iload_n 3, 1) := by decide +kernel
theorem dL_law_310 : decode cL_law 310 = .ok (.iconst 2, 1) := by decide +kernel
theorem dL_law_311 : decode cL_law 311 = .ok (.iadd, 1) := by decide +kernel
theorem dL_law_312 : decode cL_law 312 = .ok (.iaload, 1) := by decide +kernel
theorem dL_law_313 : decode cL_law 313 = .ok (.aload_n 0, 1) := by decide +kernel
theorem dL_law_314 : decode cL_law 314 = .ok (.iload_n 3, 1) := by decide +kernel
theorem dL_law_315 : decode cL_law 315 = .ok (.iconst 3, 1) := by decide +kernel
theorem dL_law_316 : decode cL_law 316 = .ok (.iadd, 1) := by decide +kernel
theorem dL_law_317 : decode cL_law 317 = .ok (.iaload, 1) := by decide +kernel
theorem dL_law_318 : decode cL_law 318 = .ok (.aload_n 0, 1) := by decide +kernel
theorem dL_law_319 : decode cL_law 319 = .ok (.iload_n 3, 1) := by decide +kernel
theorem dL_law_320 : decode cL_law 320 = .ok (.iconst 4, 1) := by decide +kernel
theorem dL_law_321 : decode cL_law 321 = .ok (.iadd, 1) := by decide +kernel
theorem dL_law_322 : decode cL_law 322 = .ok (.iaload, 1) := by decide +kernel
theorem dL_law_323 : decode cL_law 323 = .ok (.invokevirtual 35, 3) := by decide +kernel
theorem dL_law_326 : decode cL_law 326 = .ok (.if_icmp .eq 589, 3) := by decide +kernel
theorem dL_law_329 : decode cL_law 329 = .ok (.iconst 0, 1) := by decide +kernel
theorem dL_law_330 : decode cL_law 330 = .ok (.ireturn, 1) := by decide +kernel
theorem dL_law_331 : decode cL_law 331 = .ok (.aload_n 1, 1) := by decide +kernel
theorem dL_law_332 : decode cL_law 332 = .ok (.aload_n 0, 1) := by decide +kernel
theorem dL_law_333 : decode cL_law 333 = .ok (.iload_n 3, 1) := by decide +kernel
theorem dL_law_334 : decode cL_law 334 = .ok (.iconst 1, 1) := by decide +kernel
theorem dL_law_335 : decode cL_law 335 = .ok (.iadd, 1) := by decide +kernel
theorem dL_law_336 : decode cL_law 336 = .ok (.iaload, 1) := by decide +kernel
theorem dL_law_337 : decode cL_law 337 = .ok (.aload_n 0, 1) := by decide +kernel
theorem dL_law_338 : decode cL_law 338 = .ok (.iload_n 3, 1) := by decide +kernel
theorem dL_law_339 : decode cL_law 339 = .ok (.iconst 2, 1) := by decide +kernel
theorem dL_law_340 : decode cL_law 340 = .ok (.iadd, 1) := by decide +kernel
theorem dL_law_341 : decode cL_law 341 = .ok (.iaload, 1) := by decide +kernel
theorem dL_law_342 : decode cL_law 342 = .ok (.aload_n 0, 1) := by decide +kernel
theorem dL_law_343 : decode cL_law 343 = .ok (.iload_n 3, 1) := by decide +kernel
theorem dL_law_344 : decode cL_law 344 = .ok (.iconst 3, 1) := by decide +kernel
theorem dL_law_345 : decode cL_law 345 = .ok (.iadd, 1) := by decide +kernel
theorem dL_law_346 : decode cL_law 346 = .ok (.iaload, 1) := by decide +kernel
theorem dL_law_347 : decode cL_law 347 = .ok (.aload_n 0, 1) := by decide +kernel
theorem dL_law_348 : decode cL_law 348 = .ok (.iload_n 3, 1) := by decide +kernel
theorem dL_law_349 : decode cL_law 349 = .ok (.iconst 4, 1) := by decide +kernel
theorem dL_law_350 : decode cL_law 350 = .ok (.iadd, 1) := by decide +kernel
theorem dL_law_351 : decode cL_law 351 = .ok (.iaload, 1) := by decide +kernel
theorem dL_law_352 : decode cL_law 352 = .ok (.aload_n 0, 1) := by decide +kernel
theorem dL_law_353 : decode cL_law 353 = .ok (.iload_n 3, 1) := by decide +kernel
theorem dL_law_354 : decode cL_law 354 = .ok (.iconst 5, 1) := by decide +kernel
theorem dL_law_355 : decode cL_law 355 = .ok (.iadd, 1) := by decide +kernel
theorem dL_law_356 : decode cL_law 356 = .ok (.iaload, 1) := by decide +kernel
theorem dL_law_357 : decode cL_law 357 = .ok (.invokevirtual 36, 3) := by decide +kernel
theorem dL_law_360 : decode cL_law 360 = .ok (.aload_n 2, 1) := by decide +kernel
theorem dL_law_361 : decode cL_law 361 = .ok (.aload_n 0, 1) := by decide +kernel
theorem dL_law_362 : decode cL_law 362 = .ok (.iload_n 3, 1) := by decide +kernel
theorem dL_law_363 : decode cL_law 363 = .ok (.iconst 1, 1) := by decide +kernel
theorem dL_law_364 : decode cL_law 364 = .ok (.iadd, 1) := by decide +kernel
theorem dL_law_365 : decode cL_law 365 = .ok (.iaload, 1) := by decide +kernel
theorem dL_law_366 : decode cL_law 366 = .ok (.aload_n 0, 1) := by decide +kernel
theorem dL_law_367 : decode cL_law 367 = .ok (.iload_n 3, 1) := by decide +kernel
theorem dL_law_368 : decode cL_law 368 = .ok (.iconst 2, 1) := by decide +kernel
theorem dL_law_369 : decode cL_law 369 = .ok (.iadd, 1) := by decide +kernel
theorem dL_law_370 : decode cL_law 370 = .ok (.iaload, 1) := by decide +kernel
theorem dL_law_371 : decode cL_law 371 = .ok (.aload_n 0, 1) := by decide +kernel
theorem dL_law_372 : decode cL_law 372 = .ok (.iload_n 3, 1) := by decide +kernel
theorem dL_law_373 : decode cL_law 373 = .ok (.iconst 3, 1) := by decide +kernel
theorem dL_law_374 : decode cL_law 374 = .ok (.iadd, 1) := by decide +kernel
theorem dL_law_375 : decode cL_law 375 = .ok (.iaload, 1) := by decide +kernel
theorem dL_law_376 : decode cL_law 376 = .ok (.aload_n 0, 1) := by decide +kernel
theorem dL_law_377 : decode cL_law 377 = .ok (.iload_n 3, 1) := by decide +kernel
theorem dL_law_378 : decode cL_law 378 = .ok (.iconst 4, 1) := by decide +kernel
theorem dL_law_379 : decode cL_law 379 = .ok (.iadd, 1) := by decide +kernel
theorem dL_law_380 : decode cL_law 380 = .ok (.iaload, 1) := by decide +kernel
theorem dL_law_381 : decode cL_law 381 = .ok (.aload_n 0, 1) := by decide +kernel
theorem dL_law_382 : decode cL_law 382 = .ok (.iload_n 3, 1) := by decide +kernel
theorem dL_law_383 : decode cL_law 383 = .ok (.iconst 5, 1) := by decide +kernel
theorem dL_law_384 : decode cL_law 384 = .ok (.iadd, 1) := by decide +kernel
theorem dL_law_385 : decode cL_law 385 = .ok (.iaload, 1) := by decide +kernel
theorem dL_law_386 : decode cL_law 386 = .ok (.invokevirtual 40, 3) := by decide +kernel
theorem dL_law_389 : decode cL_law 389 = .ok (.if_icmp .eq 526, 3) := by decide +kernel
theorem dL_law_392 : decode cL_law 392 = .ok (.iconst 0, 1) := by decide +kernel
theorem dL_law_393 : decode cL_law 393 = .ok (.ireturn, 1) := by decide +kernel
theorem dL_law_394 : decode cL_law 394 = .ok (.aload_n 1, 1) := by decide +kernel
theorem dL_law_395 : decode cL_law 395 = .ok (.aload_n 0, 1) := by decide +kernel
theorem dL_law_396 : decode cL_law 396 = .ok (.iload_n 3, 1) := by decide +kernel
theorem dL_law_397 : decode cL_law 397 = .ok (.iconst 1, 1) := by decide +kernel
theorem dL_law_398 : decode cL_law 398 = .ok (.iadd, 1) := by decide +kernel
theorem dL_law_399 : decode cL_law 399 = .ok (.iaload, 1) := by decide +kernel
theorem dL_law_400 : decode cL_law 400 = .ok (.invokevirtual 41, 3) := by decide +kernel
theorem dL_law_403 : decode cL_law 403 = .ok (.aload_n 2, 1) := by decide +kernel
theorem dL_law_404 : decode cL_law 404 = .ok (.aload_n 0, 1) := by decide +kernel
theorem dL_law_405 : decode cL_law 405 = .ok (.iload_n 3, 1) := by decide +kernel
theorem dL_law_406 : decode cL_law 406 = .ok (.iconst 1, 1) := by decide +kernel
theorem dL_law_407 : decode cL_law 407 = .ok (.iadd, 1) := by decide +kernel
theorem dL_law_408 : decode cL_law 408 = .ok (.iaload, 1) := by decide +kernel
theorem dL_law_409 : decode cL_law 409 = .ok (.invokevirtual 44, 3) := by decide +kernel
theorem dL_law_412 : decode cL_law 412 = .ok (.if_icmp .eq 503, 3) := by decide +kernel
theorem dL_law_415 : decode cL_law 415 = .ok (.iconst 0, 1) := by decide +kernel
theorem dL_law_416 : decode cL_law 416 = .ok (.ireturn, 1) := by decide +kernel
theorem dL_law_417 : decode cL_law 417 = .ok (.aload_n 1, 1) := by decide +kernel
theorem dL_law_418 : decode cL_law 418 = .ok (.aload_n 0, 1) := by decide +kernel
theorem dL_law_419 : decode cL_law 419 = .ok (.iload_n 3, 1) := by decide +kernel
theorem dL_law_420 : decode cL_law 420 = .ok (.iconst 1, 1) := by decide +kernel
theorem dL_law_421 : decode cL_law 421 = .ok (.iadd, 1) := by decide +kernel
theorem dL_law_422 : decode cL_law 422 = .ok (.iaload, 1) := by decide +kernel
theorem dL_law_423 : decode cL_law 423 = .ok (.aload_n 0, 1) := by decide +kernel
theorem dL_law_424 : decode cL_law 424 = .ok (.iload_n 3, 1) := by decide +kernel
theorem dL_law_425 : decode cL_law 425 = .ok (.iconst 2, 1) := by decide +kernel
theorem dL_law_426 : decode cL_law 426 = .ok (.iadd, 1) := by decide +kernel
theorem dL_law_427 : decode cL_law 427 = .ok (.iaload, 1) := by decide +kernel
theorem dL_law_428 : decode cL_law 428 = .ok (.aload_n 0, 1) := by decide +kernel
theorem dL_law_429 : decode cL_law 429 = .ok (.iload_n 3, 1) := by decide +kernel
theorem dL_law_430 : decode cL_law 430 = .ok (.iconst 3, 1) := by decide +kernel
theorem dL_law_431 : decode cL_law 431 = .ok (.iadd, 1) := by decide +kernel
theorem dL_law_432 : decode cL_law 432 = .ok (.iaload, 1) := by decide +kernel
theorem dL_law_433 : decode cL_law 433 = .ok (.aload_n 0, 1) := by decide +kernel
theorem dL_law_434 : decode cL_law 434 = .ok (.iload_n 3, 1) := by decide +kernel
theorem dL_law_435 : decode cL_law 435 = .ok (.iconst 4, 1) := by decide +kernel
theorem dL_law_436 : decode cL_law 436 = .ok (.iadd, 1) := by decide +kernel
theorem dL_law_437 : decode cL_law 437 = .ok (.iaload, 1) := by decide +kernel
theorem dL_law_438 : decode cL_law 438 = .ok (.invokevirtual 45, 3) := by decide +kernel
theorem dL_law_441 : decode cL_law 441 = .ok (.aload_n 2, 1) := by decide +kernel
theorem dL_law_442 : decode cL_law 442 = .ok (.aload_n 0, 1) := by decide +kernel
theorem dL_law_443 : decode cL_law 443 = .ok (.iload_n 3, 1) := by decide +kernel
theorem dL_law_444 : decode cL_law 444 = .ok (.iconst 1, 1) := by decide +kernel
theorem dL_law_445 : decode cL_law 445 = .ok (.iadd, 1) := by decide +kernel
theorem dL_law_446 : decode cL_law 446 = .ok (.iaload, 1) := by decide +kernel
theorem dL_law_447 : decode cL_law 447 = .ok (.aload_n 0, 1) := by decide +kernel
theorem dL_law_448 : decode cL_law 448 = .ok (.iload_n 3, 1) := by decide +kernel
theorem dL_law_449 : decode cL_law 449 = .ok (.iconst 2, 1) := by decide +kernel
theorem dL_law_450 : decode cL_law 450 = .ok (.iadd, 1) := by decide +kernel
theorem dL_law_451 : decode cL_law 451 = .ok (.iaload, 1) := by decide +kernel
theorem dL_law_452 : decode cL_law 452 = .ok (.aload_n 0, 1) := by decide +kernel
theorem dL_law_453 : decode cL_law 453 = .ok (.iload_n 3, 1) := by decide +kernel
theorem dL_law_454 : decode cL_law 454 = .ok (.iconst 3, 1) := by decide +kernel
theorem dL_law_455 : decode cL_law 455 = .ok (.iadd, 1) := by decide +kernel
theorem dL_law_456 : decode cL_law 456 = .ok (.iaload, 1) := by decide +kernel
theorem dL_law_457 : decode cL_law 457 = .ok (.aload_n 0, 1) := by decide +kernel
theorem dL_law_458 : decode cL_law 458 = .ok (.iload_n 3, 1) := by decide +kernel
theorem dL_law_459 : decode cL_law 459 = .ok (.iconst 4, 1) := by decide +kernel
theorem dL_law_460 : decode cL_law 460 = .ok (.iadd, 1) := by decide +kernel
theorem dL_law_461 : decode cL_law 461 = .ok (.iaload, 1) := by decide +kernel
theorem dL_law_462 : decode cL_law 462 = .ok (.invokevirtual 49, 3) := by decide +kernel
theorem dL_law_465 : decode cL_law 465 = .ok (.lcmp, 1) := by decide +kernel
theorem dL_law_466 : decode cL_law 466 = .ok (.ifCond .eq 449, 3) := by decide +kernel
theorem dL_law_469 : decode cL_law 469 = .ok (.iconst 0, 1) := by decide +kernel
theorem dL_law_470 : decode cL_law 470 = .ok (.ireturn, 1) := by decide +kernel
theorem dL_law_471 : decode cL_law 471 = .ok (.aload_n 1, 1) := by decide +kernel
theorem dL_law_472 : decode cL_law 472 = .ok (.aload_n 0, 1) := by decide +kernel
theorem dL_law_473 : decode cL_law 473 = .ok (.iload_n 3, 1) := by decide +kernel
theorem dL_law_474 : decode cL_law 474 = .ok (.iconst 1, 1) := by decide +kernel
theorem dL_law_475 : decode cL_law 475 = .ok (.iadd, 1) := by decide +kernel
theorem dL_law_476 : decode cL_law 476 = .ok (.iaload, 1) := by decide +kernel
theorem dL_law_477 : decode cL_law 477 = .ok (.aload_n 0, 1) := by decide +kernel
theorem dL_law_478 : decode cL_law 478 = .ok (.iload_n 3, 1) := by decide +kernel
theorem dL_law_479 : decode cL_law 479 = .ok (.iconst 2, 1) := by decide +kernel
theorem dL_law_480 : decode cL_law 480 = .ok (.iadd, 1) := by decide +kernel
theorem dL_law_481 : decode cL_law 481 = .ok (.iaload, 1) := by decide +kernel
theorem dL_law_482 : decode cL_law 482 = .ok (.aload_n 0, 1) := by decide +kernel
theorem dL_law_483 : decode cL_law 483 = .ok (.iload_n 3, 1) := by decide +kernel
theorem dL_law_484 : decode cL_law 484 = .ok (.iconst 3, 1) := by decide +kernel
theorem dL_law_485 : decode cL_law 485 = .ok (.iadd, 1) := by decide +kernel
theorem dL_law_486 : decode cL_law 486 = .ok (.iaload, 1) := by decide +kernel
theorem dL_law_487 : decode cL_law 487 = .ok (.aload_n 0, 1) := by decide +kernel
theorem dL_law_488 : decode cL_law 488 = .ok (.iload_n 3, 1) := by decide +kernel
theorem dL_law_489 : decode cL_law 489 = .ok (.iconst 4, 1) := by decide +kernel
theorem dL_law_490 : decode cL_law 490 = .ok (.iadd, 1) := by decide +kernel
theorem dL_law_491 : decode cL_law 491 = .ok (.iaload, 1) := by decide +kernel
theorem dL_law_492 : decode cL_law 492 = .ok (.invokevirtual 50, 3) := by decide +kernel
theorem dL_law_495 : decode cL_law 495 = .ok (.aload_n 2, 1) := by decide +kernel
theorem dL_law_496 : decode cL_law 496 = .ok (.aload_n 0, 1) := by decide +kernel
theorem dL_law_497 : decode cL_law 497 = .ok (.iload_n 3, 1) := by decide +kernel
theorem dL_law_498 : decode cL_law 498 = .ok (.iconst 1, 1) := by decide +kernel
theorem dL_law_499 : decode cL_law 499 = .ok (.iadd, 1) := by decide +kernel
theorem dL_law_500 : decode cL_law 500 = .ok (.iaload, 1) := by decide +kernel
theorem dL_law_501 : decode cL_law 501 = .ok (.aload_n 0, 1) := by decide +kernel
theorem dL_law_502 : decode cL_law 502 = .ok (.iload_n 3, 1) := by decide +kernel
theorem dL_law_503 : decode cL_law 503 = .ok (.iconst 2, 1) := by decide +kernel
theorem dL_law_504 : decode cL_law 504 = .ok (.iadd, 1) := by decide +kernel
theorem dL_law_505 : decode cL_law 505 = .ok (.iaload, 1) := by decide +kernel
theorem dL_law_506 : decode cL_law 506 = .ok (.aload_n 0, 1) := by decide +kernel
theorem dL_law_507 : decode cL_law 507 = .ok (.iload_n 3, 1) := by decide +kernel
theorem dL_law_508 : decode cL_law 508 = .ok (.iconst 3, 1) := by decide +kernel
theorem dL_law_509 : decode cL_law 509 = .ok (.iadd, 1) := by decide +kernel
theorem dL_law_510 : decode cL_law 510 = .ok (.iaload, 1) := by decide +kernel
theorem dL_law_511 : decode cL_law 511 = .ok (.aload_n 0, 1) := by decide +kernel
theorem dL_law_512 : decode cL_law 512 = .ok (.iload_n 3, 1) := by decide +kernel
theorem dL_law_513 : decode cL_law 513 = .ok (.iconst 4, 1) := by decide +kernel
theorem dL_law_514 : decode cL_law 514 = .ok (.iadd, 1) := by decide +kernel
theorem dL_law_515 : decode cL_law 515 = .ok (.iaload, 1) := by decide +kernel
theorem dL_law_516 : decode cL_law 516 = .ok (.invokevirtual 53, 3) := by decide +kernel
theorem dL_law_519 : decode cL_law 519 = .ok (.lcmp, 1) := by decide +kernel
theorem dL_law_520 : decode cL_law 520 = .ok (.ifCond .eq 395, 3) := by decide +kernel
theorem dL_law_523 : decode cL_law 523 = .ok (.iconst 0, 1) := by decide +kernel
theorem dL_law_524 : decode cL_law 524 = .ok (.ireturn, 1) := by decide +kernel
theorem dL_law_525 : decode cL_law 525 = .ok (.aload_n 1, 1) := by decide +kernel
theorem dL_law_526 : decode cL_law 526 = .ok (.aload_n 0, 1) := by decide +kernel
theorem dL_law_527 : decode cL_law 527 = .ok (.iload_n 3, 1) := by decide +kernel
theorem dL_law_528 : decode cL_law 528 = .ok (.iconst 1, 1) := by decide +kernel
theorem dL_law_529 : decode cL_law 529 = .ok (.iadd, 1) := by decide +kernel
theorem dL_law_530 : decode cL_law 530 = .ok (.iaload, 1) := by decide +kernel
theorem dL_law_531 : decode cL_law 531 = .ok (.aload_n 0, 1) := by decide +kernel
theorem dL_law_532 : decode cL_law 532 = .ok (.iload_n 3, 1) := by decide +kernel
theorem dL_law_533 : decode cL_law 533 = .ok (.iconst 2, 1) := by decide +kernel
theorem dL_law_534 : decode cL_law 534 = .ok (.iadd, 1) := by decide +kernel
theorem dL_law_535 : decode cL_law 535 = .ok (.iaload, 1) := by decide +kernel
theorem dL_law_536 : decode cL_law 536 = .ok (.aload_n 0, 1) := by decide +kernel
theorem dL_law_537 : decode cL_law 537 = .ok (.iload_n 3, 1) := by decide +kernel
theorem dL_law_538 : decode cL_law 538 = .ok (.iconst 3, 1) := by decide +kernel
theorem dL_law_539 : decode cL_law 539 = .ok (.iadd, 1) := by decide +kernel
theorem dL_law_540 : decode cL_law 540 = .ok (.iaload, 1) := by decide +kernel
theorem dL_law_541 : decode cL_law 541 = .ok (.aload_n 0, 1) := by decide +kernel
theorem dL_law_542 : decode cL_law 542 = .ok (.iload_n 3, 1) := by decide +kernel
theorem dL_law_543 : decode cL_law 543 = .ok (.iconst 4, 1) := by decide +kernel
theorem dL_law_544 : decode cL_law 544 = .ok (.iadd, 1) := by decide +kernel
theorem dL_law_545 : decode cL_law 545 = .ok (.iaload, 1) := by decide +kernel
theorem dL_law_546 : decode cL_law 546 = .ok (.invokevirtual 54, 3) := by decide +kernel
theorem dL_law_549 : decode cL_law 549 = .ok (.aload_n 2, 1) := by decide +kernel
theorem dL_law_550 : decode cL_law 550 = .ok (.aload_n 0, 1) := by decide +kernel
theorem dL_law_551 : decode cL_law 551 = .ok (.iload_n 3, 1) := by decide +kernel
theorem dL_law_552 : decode cL_law 552 = .ok (.iconst 1, 1) := by decide +kernel
theorem dL_law_553 : decode cL_law 553 = .ok (.iadd, 1) := by decide +kernel
theorem dL_law_554 : decode cL_law 554 = .ok (.iaload, 1) := by decide +kernel
theorem dL_law_555 : decode cL_law 555 = .ok (.aload_n 0, 1) := by decide +kernel
theorem dL_law_556 : decode cL_law 556 = .ok (.iload_n 3, 1) := by decide +kernel
theorem dL_law_557 : decode cL_law 557 = .ok (.iconst 2, 1) := by decide +kernel
theorem dL_law_558 : decode cL_law 558 = .ok (.iadd, 1) := by decide +kernel
theorem dL_law_559 : decode cL_law 559 = .ok (.iaload, 1) := by decide +kernel
theorem dL_law_560 : decode cL_law 560 = .ok (.aload_n 0, 1) := by decide +kernel
theorem dL_law_561 : decode cL_law 561 = .ok (.iload_n 3, 1) := by decide +kernel
theorem dL_law_562 : decode cL_law 562 = .ok (.iconst 3, 1) := by decide +kernel
theorem dL_law_563 : decode cL_law 563 = .ok (.iadd, 1) := by decide +kernel
theorem dL_law_564 : decode cL_law 564 = .ok (.iaload, 1) := by decide +kernel
theorem dL_law_565 : decode cL_law 565 = .ok (.aload_n 0, 1) := by decide +kernel
theorem dL_law_566 : decode cL_law 566 = .ok (.iload_n 3, 1) := by decide +kernel
theorem dL_law_567 : decode cL_law 567 = .ok (.iconst 4, 1) := by decide +kernel
theorem dL_law_568 : decode cL_law 568 = .ok (.iadd, 1) := by decide +kernel
theorem dL_law_569 : decode cL_law 569 = .ok (.iaload, 1) := by decide +kernel
theorem dL_law_570 : decode cL_law 570 = .ok (.invokevirtual 57, 3) := by decide +kernel
theorem dL_law_573 : decode cL_law 573 = .ok (.lcmp, 1) := by decide +kernel
theorem dL_law_574 : decode cL_law 574 = .ok (.ifCond .eq 341, 3) := by decide +kernel
theorem dL_law_577 : decode cL_law 577 = .ok (.iconst 0, 1) := by decide +kernel
theorem dL_law_578 : decode cL_law 578 = .ok (.ireturn, 1) := by decide +kernel
theorem dL_law_579 : decode cL_law 579 = .ok (.aload_n 1, 1) := by decide +kernel
theorem dL_law_580 : decode cL_law 580 = .ok (.aload_n 0, 1) := by decide +kernel
theorem dL_law_581 : decode cL_law 581 = .ok (.iload_n 3, 1) := by decide +kernel
theorem dL_law_582 : decode cL_law 582 = .ok (.iconst 1, 1) := by decide +kernel
theorem dL_law_583 : decode cL_law 583 = .ok (.iadd, 1) := by decide +kernel
theorem dL_law_584 : decode cL_law 584 = .ok (.iaload, 1) := by decide +kernel
theorem dL_law_585 : decode cL_law 585 = .ok (.aload_n 0, 1) := by decide +kernel
theorem dL_law_586 : decode cL_law 586 = .ok (.iload_n 3, 1) := by decide +kernel
theorem dL_law_587 : decode cL_law 587 = .ok (.iconst 2, 1) := by decide +kernel
theorem dL_law_588 : decode cL_law 588 = .ok (.iadd, 1) := by decide +kernel
theorem dL_law_589 : decode cL_law 589 = .ok (.iaload, 1) := by decide +kernel
theorem dL_law_590 : decode cL_law 590 = .ok (.aload_n 0, 1) := by decide +kernel
theorem dL_law_591 : decode cL_law 591 = .ok (.iload_n 3, 1) := by decide +kernel
theorem dL_law_592 : decode cL_law 592 = .ok (.iconst 3, 1) := by decide +kernel
theorem dL_law_593 : decode cL_law 593 = .ok (.iadd, 1) := by decide +kernel
theorem dL_law_594 : decode cL_law 594 = .ok (.iaload, 1) := by decide +kernel
theorem dL_law_595 : decode cL_law 595 = .ok (.invokevirtual 58, 3) := by decide +kernel
theorem dL_law_598 : decode cL_law 598 = .ok (.aload_n 2, 1) := by decide +kernel
theorem dL_law_599 : decode cL_law 599 = .ok (.aload_n 0, 1) := by decide +kernel
theorem dL_law_600 : decode cL_law 600 = .ok (.iload_n 3, 1) := by decide +kernel
theorem dL_law_601 : decode cL_law 601 = .ok (.iconst 1, 1) := by decide +kernel
theorem dL_law_602 : decode cL_law 602 = .ok (.iadd, 1) := by decide +kernel
theorem dL_law_603 : decode cL_law 603 = .ok (.iaload, 1) := by decide +kernel
theorem dL_law_604 : decode cL_law 604 = .ok (.aload_n 0, 1) := by decide +kernel
theorem dL_law_605 : decode cL_law 605 = .ok (.iload_n 3, 1) := by decide +kernel
theorem dL_law_606 : decode cL_law 606 = .ok (.iconst 2, 1) := by decide +kernel
theorem dL_law_607 : decode cL_law 607 = .ok (.iadd, 1) := by decide +kernel
theorem dL_law_608 : decode cL_law 608 = .ok (.iaload, 1) := by decide +kernel
theorem dL_law_609 : decode cL_law 609 = .ok (.aload_n 0, 1) := by decide +kernel
theorem dL_law_610 : decode cL_law 610 = .ok (.iload_n 3, 1) := by decide +kernel
theorem dL_law_611 : decode cL_law 611 = .ok (.iconst 3, 1) := by decide +kernel
theorem dL_law_612 : decode cL_law 612 = .ok (.iadd, 1) := by decide +kernel
theorem dL_law_613 : decode cL_law 613 = .ok (.iaload, 1) := by decide +kernel
theorem dL_law_614 : decode cL_law 614 = .ok (.invokevirtual 61, 3) := by decide +kernel
theorem dL_law_617 : decode cL_law 617 = .ok (.if_icmp .eq 298, 3) := by decide +kernel
theorem dL_law_620 : decode cL_law 620 = .ok (.iconst 0, 1) := by decide +kernel
theorem dL_law_621 : decode cL_law 621 = .ok (.ireturn, 1) := by decide +kernel
theorem dL_law_622 : decode cL_law 622 = .ok (.aload_n 1, 1) := by decide +kernel
theorem dL_law_623 : decode cL_law 623 = .ok (.aload_n 0, 1) := by decide +kernel
theorem dL_law_624 : decode cL_law 624 = .ok (.iload_n 3, 1) := by decide +kernel
theorem dL_law_625 : decode cL_law 625 = .ok (.iconst 1, 1) := by decide +kernel
theorem dL_law_626 : decode cL_law 626 = .ok (.iadd, 1) := by decide +kernel
theorem dL_law_627 : decode cL_law 627 = .ok (.iaload, 1) := by decide +kernel
theorem dL_law_628 : decode cL_law 628 = .ok (.aload_n 0, 1) := by decide +kernel
theorem dL_law_629 : decode cL_law 629 = .ok (.iload_n 3, 1) := by decide +kernel
theorem dL_law_630 : decode cL_law 630 = .ok (.iconst 2, 1) := by decide +kernel
theorem dL_law_631 : decode cL_law 631 = .ok (.iadd, 1) := by decide +kernel
theorem dL_law_632 : decode cL_law 632 = .ok (.iaload, 1) := by decide +kernel
theorem dL_law_633 : decode cL_law 633 = .ok (.aload_n 0, 1) := by decide +kernel
theorem dL_law_634 : decode cL_law 634 = .ok (.iload_n 3, 1) := by decide +kernel
theorem dL_law_635 : decode cL_law 635 = .ok (.iconst 3, 1) := by decide +kernel
theorem dL_law_636 : decode cL_law 636 = .ok (.iadd, 1) := by decide +kernel
theorem dL_law_637 : decode cL_law 637 = .ok (.iaload, 1) := by decide +kernel
theorem dL_law_638 : decode cL_law 638 = .ok (.invokevirtual 62, 3) := by decide +kernel
theorem dL_law_641 : decode cL_law 641 = .ok (.aload_n 2, 1) := by decide +kernel
theorem dL_law_642 : decode cL_law 642 = .ok (.aload_n 0, 1) := by decide +kernel
theorem dL_law_643 : decode cL_law 643 = .ok (.iload_n 3, 1) := by decide +kernel
theorem dL_law_644 : decode cL_law 644 = .ok (.iconst 1, 1) := by decide +kernel
theorem dL_law_645 : decode cL_law 645 = .ok (.iadd, 1) := by decide +kernel
theorem dL_law_646 : decode cL_law 646 = .ok (.iaload, 1) := by decide +kernel
theorem dL_law_647 : decode cL_law 647 = .ok (.aload_n 0, 1) := by decide +kernel
theorem dL_law_648 : decode cL_law 648 = .ok (.iload_n 3, 1) := by decide +kernel
theorem dL_law_649 : decode cL_law 649 = .ok (.iconst 2, 1) := by decide +kernel
theorem dL_law_650 : decode cL_law 650 = .ok (.iadd, 1) := by decide +kernel
theorem dL_law_651 : decode cL_law 651 = .ok (.iaload, 1) := by decide +kernel
theorem dL_law_652 : decode cL_law 652 = .ok (.aload_n 0, 1) := by decide +kernel
theorem dL_law_653 : decode cL_law 653 = .ok (.iload_n 3, 1) := by decide +kernel
theorem dL_law_654 : decode cL_law 654 = .ok (.iconst 3, 1) := by decide +kernel
theorem dL_law_655 : decode cL_law 655 = .ok (.iadd, 1) := by decide +kernel
theorem dL_law_656 : decode cL_law 656 = .ok (.iaload, 1) := by decide +kernel
theorem dL_law_657 : decode cL_law 657 = .ok (.invokevirtual 65, 3) := by decide +kernel
theorem dL_law_660 : decode cL_law 660 = .ok (.if_icmp .eq 255, 3) := by decide +kernel
theorem dL_law_663 : decode cL_law 663 = .ok (.iconst 0, 1) := by decide +kernel
theorem dL_law_664 : decode cL_law 664 = .ok (.ireturn, 1) := by decide +kernel
theorem dL_law_665 : decode cL_law 665 = .ok (.aload_n 1, 1) := by decide +kernel
theorem dL_law_666 : decode cL_law 666 = .ok (.aload_n 0, 1) := by decide +kernel
theorem dL_law_667 : decode cL_law 667 = .ok (.iload_n 3, 1) := by decide +kernel
theorem dL_law_668 : decode cL_law 668 = .ok (.iconst 1, 1) := by decide +kernel
theorem dL_law_669 : decode cL_law 669 = .ok (.iadd, 1) := by decide +kernel
theorem dL_law_670 : decode cL_law 670 = .ok (.iaload, 1) := by decide +kernel
theorem dL_law_671 : decode cL_law 671 = .ok (.aload_n 0, 1) := by decide +kernel
theorem dL_law_672 : decode cL_law 672 = .ok (.iload_n 3, 1) := by decide +kernel
theorem dL_law_673 : decode cL_law 673 = .ok (.iconst 2, 1) := by decide +kernel
theorem dL_law_674 : decode cL_law 674 = .ok (.iadd, 1) := by decide +kernel
theorem dL_law_675 : decode cL_law 675 = .ok (.iaload, 1) := by decide +kernel
theorem dL_law_676 : decode cL_law 676 = .ok (.aload_n 0, 1) := by decide +kernel
theorem dL_law_677 : decode cL_law 677 = .ok (.iload_n 3, 1) := by decide +kernel
theorem dL_law_678 : decode cL_law 678 = .ok (.iconst 3, 1) := by decide +kernel
theorem dL_law_679 : decode cL_law 679 = .ok (.iadd, 1) := by decide +kernel
theorem dL_law_680 : decode cL_law 680 = .ok (.iaload, 1) := by decide +kernel
theorem dL_law_681 : decode cL_law 681 = .ok (.invokevirtual 66, 3) := by decide +kernel
theorem dL_law_684 : decode cL_law 684 = .ok (.aload_n 2, 1) := by decide +kernel
theorem dL_law_685 : decode cL_law 685 = .ok (.aload_n 0, 1) := by decide +kernel
theorem dL_law_686 : decode cL_law 686 = .ok (.iload_n 3, 1) := by decide +kernel
theorem dL_law_687 : decode cL_law 687 = .ok (.iconst 1, 1) := by decide +kernel
theorem dL_law_688 : decode cL_law 688 = .ok (.iadd, 1) := by decide +kernel
theorem dL_law_689 : decode cL_law 689 = .ok (.iaload, 1) := by decide +kernel
theorem dL_law_690 : decode cL_law 690 = .ok (.aload_n 0, 1) := by decide +kernel
theorem dL_law_691 : decode cL_law 691 = .ok (.iload_n 3, 1) := by decide +kernel
theorem dL_law_692 : decode cL_law 692 = .ok (.iconst 2, 1) := by decide +kernel
theorem dL_law_693 : decode cL_law 693 = .ok (.iadd, 1) := by decide +kernel
theorem dL_law_694 : decode cL_law 694 = .ok (.iaload, 1) := by decide +kernel
theorem dL_law_695 : decode cL_law 695 = .ok (.aload_n 0, 1) := by decide +kernel
theorem dL_law_696 : decode cL_law 696 = .ok (.iload_n 3, 1) := by decide +kernel
theorem dL_law_697 : decode cL_law 697 = .ok (.iconst 3, 1) := by decide +kernel
theorem dL_law_698 : decode cL_law 698 = .ok (.iadd, 1) := by decide +kernel
theorem dL_law_699 : decode cL_law 699 = .ok (.iaload, 1) := by decide +kernel
theorem dL_law_700 : decode cL_law 700 = .ok (.invokevirtual 69, 3) := by decide +kernel
theorem dL_law_703 : decode cL_law 703 = .ok (.if_icmp .eq 212, 3) := by decide +kernel
theorem dL_law_706 : decode cL_law 706 = .ok (.iconst 0, 1) := by decide +kernel
theorem dL_law_707 : decode cL_law 707 = .ok (.ireturn, 1) := by decide +kernel
theorem dL_law_708 : decode cL_law 708 = .ok (.aload_n 1, 1) := by decide +kernel
theorem dL_law_709 : decode cL_law 709 = .ok (.aload_n 0, 1) := by decide +kernel
theorem dL_law_710 : decode cL_law 710 = .ok (.iload_n 3, 1) := by decide +kernel
theorem dL_law_711 : decode cL_law 711 = .ok (.iconst 1, 1) := by decide +kernel
theorem dL_law_712 : decode cL_law 712 = .ok (.iadd, 1) := by decide +kernel
theorem dL_law_713 : decode cL_law 713 = .ok (.iaload, 1) := by decide +kernel
theorem dL_law_714 : decode cL_law 714 = .ok (.invokevirtual 70, 3) := by decide +kernel
theorem dL_law_717 : decode cL_law 717 = .ok (.aload_n 2, 1) := by decide +kernel
theorem dL_law_718 : decode cL_law 718 = .ok (.aload_n 0, 1) := by decide +kernel
theorem dL_law_719 : decode cL_law 719 = .ok (.iload_n 3, 1) := by decide +kernel
theorem dL_law_720 : decode cL_law 720 = .ok (.iconst 1, 1) := by decide +kernel
theorem dL_law_721 : decode cL_law 721 = .ok (.iadd, 1) := by decide +kernel
theorem dL_law_722 : decode cL_law 722 = .ok (.iaload, 1) := by decide +kernel
theorem dL_law_723 : decode cL_law 723 = .ok (.invokevirtual 73, 3) := by decide +kernel
theorem dL_law_726 : decode cL_law 726 = .ok (.if_icmp .eq 189, 3) := by decide +kernel
theorem dL_law_729 : decode cL_law 729 = .ok (.iconst 0, 1) := by decide +kernel
theorem dL_law_730 : decode cL_law 730 = .ok (.ireturn, 1) := by decide +kernel
theorem dL_law_731 : decode cL_law 731 = .ok (.aload_n 1, 1) := by decide +kernel
theorem dL_law_732 : decode cL_law 732 = .ok (.aload_n 0, 1) := by decide +kernel
theorem dL_law_733 : decode cL_law 733 = .ok (.iload_n 3, 1) := by decide +kernel
theorem dL_law_734 : decode cL_law 734 = .ok (.iconst 1, 1) := by decide +kernel
theorem dL_law_735 : decode cL_law 735 = .ok (.iadd, 1) := by decide +kernel
theorem dL_law_736 : decode cL_law 736 = .ok (.iaload, 1) := by decide +kernel
theorem dL_law_737 : decode cL_law 737 = .ok (.aload_n 0, 1) := by decide +kernel
theorem dL_law_738 : decode cL_law 738 = .ok (.iload_n 3, 1) := by decide +kernel
theorem dL_law_739 : decode cL_law 739 = .ok (.iconst 2, 1) := by decide +kernel
theorem dL_law_740 : decode cL_law 740 = .ok (.iadd, 1) := by decide +kernel
theorem dL_law_741 : decode cL_law 741 = .ok (.iaload, 1) := by decide +kernel
theorem dL_law_742 : decode cL_law 742 = .ok (.aload_n 0, 1) := by decide +kernel
theorem dL_law_743 : decode cL_law 743 = .ok (.iload_n 3, 1) := by decide +kernel
theorem dL_law_744 : decode cL_law 744 = .ok (.iconst 3, 1) := by decide +kernel
theorem dL_law_745 : decode cL_law 745 = .ok (.iadd, 1) := by decide +kernel
theorem dL_law_746 : decode cL_law 746 = .ok (.iaload, 1) := by decide +kernel
theorem dL_law_747 : decode cL_law 747 = .ok (.invokevirtual 74, 3) := by decide +kernel
theorem dL_law_750 : decode cL_law 750 = .ok (.aload_n 2, 1) := by decide +kernel
theorem dL_law_751 : decode cL_law 751 = .ok (.aload_n 0, 1) := by decide +kernel
theorem dL_law_752 : decode cL_law 752 = .ok (.iload_n 3, 1) := by decide +kernel
theorem dL_law_753 : decode cL_law 753 = .ok (.iconst 1, 1) := by decide +kernel
theorem dL_law_754 : decode cL_law 754 = .ok (.iadd, 1) := by decide +kernel
theorem dL_law_755 : decode cL_law 755 = .ok (.iaload, 1) := by decide +kernel
theorem dL_law_756 : decode cL_law 756 = .ok (.aload_n 0, 1) := by decide +kernel
theorem dL_law_757 : decode cL_law 757 = .ok (.iload_n 3, 1) := by decide +kernel
theorem dL_law_758 : decode cL_law 758 = .ok (.iconst 2, 1) := by decide +kernel
theorem dL_law_759 : decode cL_law 759 = .ok (.iadd, 1) := by decide +kernel
theorem dL_law_760 : decode cL_law 760 = .ok (.iaload, 1) := by decide +kernel
theorem dL_law_761 : decode cL_law 761 = .ok (.aload_n 0, 1) := by decide +kernel
theorem dL_law_762 : decode cL_law 762 = .ok (.iload_n 3, 1) := by decide +kernel
theorem dL_law_763 : decode cL_law 763 = .ok (.iconst 3, 1) := by decide +kernel
theorem dL_law_764 : decode cL_law 764 = .ok (.iadd, 1) := by decide +kernel
theorem dL_law_765 : decode cL_law 765 = .ok (.iaload, 1) := by decide +kernel
theorem dL_law_766 : decode cL_law 766 = .ok (.invokevirtual 77, 3) := by decide +kernel
theorem dL_law_769 : decode cL_law 769 = .ok (.if_icmp .eq 146, 3) := by decide +kernel
theorem dL_law_772 : decode cL_law 772 = .ok (.iconst 0, 1) := by decide +kernel
theorem dL_law_773 : decode cL_law 773 = .ok (.ireturn, 1) := by decide +kernel
theorem dL_law_774 : decode cL_law 774 = .ok (.aload_n 1, 1) := by decide +kernel
theorem dL_law_775 : decode cL_law 775 = .ok (.aload_n 0, 1) := by decide +kernel
theorem dL_law_776 : decode cL_law 776 = .ok (.iload_n 3, 1) := by decide +kernel
theorem dL_law_777 : decode cL_law 777 = .ok (.iconst 1, 1) := by decide +kernel
theorem dL_law_778 : decode cL_law 778 = .ok (.iadd, 1) := by decide +kernel
theorem dL_law_779 : decode cL_law 779 = .ok (.iaload, 1) := by decide +kernel
theorem dL_law_780 : decode cL_law 780 = .ok (.invokevirtual 78, 3) := by decide +kernel
theorem dL_law_783 : decode cL_law 783 = .ok (.aload_n 2, 1) := by decide +kernel
theorem dL_law_784 : decode cL_law 784 = .ok (.aload_n 0, 1) := by decide +kernel
theorem dL_law_785 : decode cL_law 785 = .ok (.iload_n 3, 1) := by decide +kernel
theorem dL_law_786 : decode cL_law 786 = .ok (.iconst 1, 1) := by decide +kernel
theorem dL_law_787 : decode cL_law 787 = .ok (.iadd, 1) := by decide +kernel
theorem dL_law_788 : decode cL_law 788 = .ok (.iaload, 1) := by decide +kernel
theorem dL_law_789 : decode cL_law 789 = .ok (.invokevirtual 81, 3) := by decide +kernel
theorem dL_law_792 : decode cL_law 792 = .ok (.if_icmp .eq 123, 3) := by decide +kernel
theorem dL_law_795 : decode cL_law 795 = .ok (.iconst 0, 1) := by decide +kernel
theorem dL_law_796 : decode cL_law 796 = .ok (.ireturn, 1) := by decide +kernel
theorem dL_law_797 : decode cL_law 797 = .ok (.aload_n 1, 1) := by decide +kernel
theorem dL_law_798 : decode cL_law 798 = .ok (.invokevirtual 82, 3) := by decide +kernel
theorem dL_law_801 : decode cL_law 801 = .ok (.aload_n 2, 1) := by decide +kernel
theorem dL_law_802 : decode cL_law 802 = .ok (.invokevirtual 86, 3) := by decide +kernel
theorem dL_law_805 : decode cL_law 805 = .ok (.if_icmp .eq 110, 3) := by decide +kernel
theorem dL_law_808 : decode cL_law 808 = .ok (.iconst 0, 1) := by decide +kernel
theorem dL_law_809 : decode cL_law 809 = .ok (.ireturn, 1) := by decide +kernel
theorem dL_law_810 : decode cL_law 810 = .ok (.aload_n 1, 1) := by decide +kernel
theorem dL_law_811 : decode cL_law 811 = .ok (.aload_n 0, 1) := by decide +kernel
theorem dL_law_812 : decode cL_law 812 = .ok (.iload_n 3, 1) := by decide +kernel
theorem dL_law_813 : decode cL_law 813 = .ok (.iconst 1, 1) := by decide +kernel
theorem dL_law_814 : decode cL_law 814 = .ok (.iadd, 1) := by decide +kernel
theorem dL_law_815 : decode cL_law 815 = .ok (.iaload, 1) := by decide +kernel
theorem dL_law_816 : decode cL_law 816 = .ok (.aload_n 0, 1) := by decide +kernel
theorem dL_law_817 : decode cL_law 817 = .ok (.iload_n 3, 1) := by decide +kernel
theorem dL_law_818 : decode cL_law 818 = .ok (.iconst 2, 1) := by decide +kernel
theorem dL_law_819 : decode cL_law 819 = .ok (.iadd, 1) := by decide +kernel
theorem dL_law_820 : decode cL_law 820 = .ok (.iaload, 1) := by decide +kernel
theorem dL_law_821 : decode cL_law 821 = .ok (.invokevirtual 87, 3) := by decide +kernel
theorem dL_law_824 : decode cL_law 824 = .ok (.aload_n 2, 1) := by decide +kernel
theorem dL_law_825 : decode cL_law 825 = .ok (.aload_n 0, 1) := by decide +kernel
theorem dL_law_826 : decode cL_law 826 = .ok (.iload_n 3, 1) := by decide +kernel
theorem dL_law_827 : decode cL_law 827 = .ok (.iconst 1, 1) := by decide +kernel
theorem dL_law_828 : decode cL_law 828 = .ok (.iadd, 1) := by decide +kernel
theorem dL_law_829 : decode cL_law 829 = .ok (.iaload, 1) := by decide +kernel
theorem dL_law_830 : decode cL_law 830 = .ok (.aload_n 0, 1) := by decide +kernel
theorem dL_law_831 : decode cL_law 831 = .ok (.iload_n 3, 1) := by decide +kernel
theorem dL_law_832 : decode cL_law 832 = .ok (.iconst 2, 1) := by decide +kernel
theorem dL_law_833 : decode cL_law 833 = .ok (.iadd, 1) := by decide +kernel
theorem dL_law_834 : decode cL_law 834 = .ok (.iaload, 1) := by decide +kernel
theorem dL_law_835 : decode cL_law 835 = .ok (.invokevirtual 91, 3) := by decide +kernel
theorem dL_law_838 : decode cL_law 838 = .ok (.if_icmp .eq 77, 3) := by decide +kernel
theorem dL_law_841 : decode cL_law 841 = .ok (.iconst 0, 1) := by decide +kernel
theorem dL_law_842 : decode cL_law 842 = .ok (.ireturn, 1) := by decide +kernel
theorem dL_law_843 : decode cL_law 843 = .ok (.aload_n 1, 1) := by decide +kernel
theorem dL_law_844 : decode cL_law 844 = .ok (.aload_n 0, 1) := by decide +kernel
theorem dL_law_845 : decode cL_law 845 = .ok (.iload_n 3, 1) := by decide +kernel
theorem dL_law_846 : decode cL_law 846 = .ok (.iconst 1, 1) := by decide +kernel
theorem dL_law_847 : decode cL_law 847 = .ok (.iadd, 1) := by decide +kernel
theorem dL_law_848 : decode cL_law 848 = .ok (.iaload, 1) := by decide +kernel
theorem dL_law_849 : decode cL_law 849 = .ok (.invokevirtual 92, 3) := by decide +kernel
theorem dL_law_852 : decode cL_law 852 = .ok (.aload_n 2, 1) := by decide +kernel
theorem dL_law_853 : decode cL_law 853 = .ok (.aload_n 0, 1) := by decide +kernel
theorem dL_law_854 : decode cL_law 854 = .ok (.iload_n 3, 1) := by decide +kernel
theorem dL_law_855 : decode cL_law 855 = .ok (.iconst 1, 1) := by decide +kernel
theorem dL_law_856 : decode cL_law 856 = .ok (.iadd, 1) := by decide +kernel
theorem dL_law_857 : decode cL_law 857 = .ok (.iaload, 1) := by decide +kernel
theorem dL_law_858 : decode cL_law 858 = .ok (.invokevirtual 95, 3) := by decide +kernel
theorem dL_law_861 : decode cL_law 861 = .ok (.if_icmp .eq 54, 3) := by decide +kernel
theorem dL_law_864 : decode cL_law 864 = .ok (.iconst 0, 1) := by decide +kernel
theorem dL_law_865 : decode cL_law 865 = .ok (.ireturn, 1) := by decide +kernel
theorem dL_law_866 : decode cL_law 866 = .ok (.aload_n 1, 1) := by decide +kernel
theorem dL_law_867 : decode cL_law 867 = .ok (.invokevirtual 96, 3) := by decide +kernel
theorem dL_law_870 : decode cL_law 870 = .ok (.aload_n 2, 1) := by decide +kernel
theorem dL_law_871 : decode cL_law 871 = .ok (.invokevirtual 99, 3) := by decide +kernel
theorem dL_law_874 : decode cL_law 874 = .ok (.if_icmp .eq 41, 3) := by decide +kernel
theorem dL_law_877 : decode cL_law 877 = .ok (.iconst 0, 1) := by decide +kernel
theorem dL_law_878 : decode cL_law 878 = .ok (.ireturn, 1) := by decide +kernel
theorem dL_law_879 : decode cL_law 879 = .ok (.aload_n 1, 1) := by decide +kernel
theorem dL_law_880 : decode cL_law 880 = .ok (.aload_n 0, 1) := by decide +kernel
theorem dL_law_881 : decode cL_law 881 = .ok (.iload_n 3, 1) := by decide +kernel
theorem dL_law_882 : decode cL_law 882 = .ok (.iconst 1, 1) := by decide +kernel
theorem dL_law_883 : decode cL_law 883 = .ok (.iadd, 1) := by decide +kernel
theorem dL_law_884 : decode cL_law 884 = .ok (.iaload, 1) := by decide +kernel
theorem dL_law_885 : decode cL_law 885 = .ok (.invokevirtual 100, 3) := by decide +kernel
theorem dL_law_888 : decode cL_law 888 = .ok (.aload_n 2, 1) := by decide +kernel
theorem dL_law_889 : decode cL_law 889 = .ok (.aload_n 0, 1) := by decide +kernel
theorem dL_law_890 : decode cL_law 890 = .ok (.iload_n 3, 1) := by decide +kernel
theorem dL_law_891 : decode cL_law 891 = .ok (.iconst 1, 1) := by decide +kernel
theorem dL_law_892 : decode cL_law 892 = .ok (.iadd, 1) := by decide +kernel
theorem dL_law_893 : decode cL_law 893 = .ok (.iaload, 1) := by decide +kernel
theorem dL_law_894 : decode cL_law 894 = .ok (.invokevirtual 103, 3) := by decide +kernel
theorem dL_law_897 : decode cL_law 897 = .ok (.if_icmp .eq 18, 3) := by decide +kernel
theorem dL_law_900 : decode cL_law 900 = .ok (.iconst 0, 1) := by decide +kernel
theorem dL_law_901 : decode cL_law 901 = .ok (.ireturn, 1) := by decide +kernel
theorem dL_law_902 : decode cL_law 902 = .ok (.aload_n 1, 1) := by decide +kernel
theorem dL_law_903 : decode cL_law 903 = .ok (.invokevirtual 104, 3) := by decide +kernel
theorem dL_law_906 : decode cL_law 906 = .ok (.aload_n 2, 1) := by decide +kernel
theorem dL_law_907 : decode cL_law 907 = .ok (.invokevirtual 107, 3) := by decide +kernel
theorem dL_law_910 : decode cL_law 910 = .ok (.if_icmp .eq 5, 3) := by decide +kernel
theorem dL_law_913 : decode cL_law 913 = .ok (.iconst 0, 1) := by decide +kernel
theorem dL_law_914 : decode cL_law 914 = .ok (.ireturn, 1) := by decide +kernel
theorem dL_law_915 : decode cL_law 915 = .ok (.iinc 3 6, 3) := by decide +kernel
theorem dL_law_918 : decode cL_law 918 = .ok (.goto (-900), 3) := by decide +kernel
theorem dL_law_921 : decode cL_law 921 = .ok (.iconst 1, 1) := by decide +kernel
theorem dL_law_922 : decode cL_law 922 = .ok (.ireturn, 1) := by decide +kernel
