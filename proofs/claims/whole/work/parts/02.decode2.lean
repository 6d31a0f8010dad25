theorem dX6_highest_32 : decode cX6_highest 32 = .ok (.iload 5, 2) := by decide +kernel
theorem dX6_highest_34 : decode cX6_highest 34 = .ok (.aaload, 1) := by decide +kernel
theorem dX6_highest_35 : decode cX6_highest 35 = .ok (.astore 6, 2) := by decide +kernel
theorem dX6_highest_37 : decode cX6_highest 37 = .ok (.aload 6, 2) := by decide +kernel
theorem dX6_highest_39 : decode cX6_highest 39 = .ok (.ifnull 21, 3) := by decide +kernel
theorem dX6_highest_42 : decode cX6_highest 42 = .ok (.aload_n 2, 1) := by decide +kernel
theorem dX6_highest_43 : decode cX6_highest 43 = .ok (.ifnull 14, 3) := by decide +kernel
theorem dX6_highest_46 : decode cX6_highest 46 = .ok (.aload_n 0, 1) := by decide +kernel
theorem dX6_highest_47 : decode cX6_highest 47 = .ok (.aload 6, 2) := by decide +kernel
theorem dX6_highest_49 : decode cX6_highest 49 = .ok (.aload_n 2, 1) := by decide +kernel
theorem dX6_highest_50 : decode cX6_highest 50 = .ok (.iload_n 1, 1) := by decide +kernel
theorem dX6_highest_51 : decode cX6_highest 51 = .ok (.invokevirtual 179, 3) := by decide +kernel
theorem dX6_highest_54 : decode cX6_highest 54 = .ok (.ifCond .eq 6, 3) := by decide +kernel
theorem dX6_highest_57 : decode cX6_highest 57 = .ok (.aload 6, 2) := by decide +kernel
theorem dX6_highest_59 : decode cX6_highest 59 = .ok (.astore_n 2, 1) := by decide +kernel
theorem dX6_highest_60 : decode cX6_highest 60 = .ok (.iinc 5 1, 3) := by decide +kernel
theorem dX6_highest_63 : decode cX6_highest 63 = .ok (.goto (-39), 3) := by decide +kernel
theorem dX6_highest_66 : decode cX6_highest 66 = .ok (.aload_n 2, 1) := by decide +kernel
theorem dX6_highest_67 : decode cX6_highest 67 = .ok (.ifnonnull 8, 3) := by decide +kernel
theorem dX6_highest_70 : decode cX6_highest 70 = .ok (.bipush (-5), 2) := by decide +kernel
theorem dX6_highest_72 : decode cX6_highest 72 = .ok (.goto 7, 3) := by decide +kernel
theorem dX6_highest_75 : decode cX6_highest 75 = .ok (.aload_n 2, 1) := by decide +kernel
theorem dX6_highest_76 : decode cX6_highest 76 = .ok (.getfield 178, 3) := by decide +kernel
theorem dX6_highest_79 : decode cX6_highest 79 = .ok (.ireturn, 1) := by decide +kernel
theorem dX6_planeFor_0 : decode cX6_planeFor 0 = .ok (.aload_n 0, 1) := by decide +kernel
theorem dX6_planeFor_1 : decode cX6_planeFor 1 = .ok (.iload_n 1, 1) := by decide +kernel
theorem dX6_planeFor_2 : decode cX6_planeFor 2 = .ok (.invokevirtual 65, 3) := by decide +kernel
theorem dX6_planeFor_5 : decode cX6_planeFor 5 = .ok (.astore 4, 2) := by decide +kernel
theorem dX6_planeFor_7 : decode cX6_planeFor 7 = .ok (.aload 4, 2) := by decide +kernel
theorem dX6_planeFor_9 : decode cX6_planeFor 9 = .ok (.ifnonnull 5, 3) := by decide +kernel
theorem dX6_planeFor_12 : decode cX6_planeFor 12 = .ok (.iconst (-1), 1) := by decide +kernel
theorem dX6_planeFor_13 : decode cX6_planeFor 13 = .ok (.ireturn, 1) := by decide +kernel
theorem dX6_planeFor_14 : decode cX6_planeFor 14 = .ok (.iload_n 2, 1) := by decide +kernel
theorem dX6_planeFor_15 : decode cX6_planeFor 15 = .ok (.invokestatic 85, 3) := by decide +kernel
theorem dX6_planeFor_18 : decode cX6_planeFor 18 = .ok (.ifCond .eq 13, 3) := by decide +kernel
theorem dX6_planeFor_21 : decode cX6_planeFor 21 = .ok (.iload_n 3, 1) := by decide +kernel
theorem dX6_planeFor_22 : decode cX6_planeFor 22 = .ok (.iconst 0, 1) := by decide +kernel
theorem dX6_planeFor_23 : decode cX6_planeFor 23 = .ok (.ldc 183, 2) := by decide +kernel
theorem dX6_planeFor_25 : decode cX6_planeFor 25 = .ok (.invokestatic 58, 3) := by decide +kernel
theorem dX6_planeFor_28 : decode cX6_planeFor 28 = .ok (.ifCond .ne 6, 3) := by decide +kernel
theorem dX6_planeFor_31 : decode cX6_planeFor 31 = .ok (.bipush (-3), 2) := by decide +kernel
theorem dX6_planeFor_33 : decode cX6_planeFor 33 = .ok (.ireturn, 1) := by decide +kernel
theorem dX6_planeFor_34 : decode cX6_planeFor 34 = .ok (.iload_n 3, 1) := by decide +kernel
theorem dX6_planeFor_35 : decode cX6_planeFor 35 = .ok (.ifCond .ne 8, 3) := by decide +kernel
theorem dX6_planeFor_38 : decode cX6_planeFor 38 = .ok (.aload_n 0, 1) := by decide +kernel
theorem dX6_planeFor_39 : decode cX6_planeFor 39 = .ok (.getfield 9, 3) := by decide +kernel
theorem dX6_planeFor_42 : decode cX6_planeFor 42 = .ok (.ireturn, 1) := by decide +kernel
theorem dX6_planeFor_43 : decode cX6_planeFor 43 = .ok (.aload_n 0, 1) := by decide +kernel
theorem dX6_planeFor_44 : decode cX6_planeFor 44 = .ok (.getfield 41, 3) := by decide +kernel
theorem dX6_planeFor_47 : decode cX6_planeFor 47 = .ok (.aload 4, 2) := by decide +kernel
theorem dX6_planeFor_49 : decode cX6_planeFor 49 = .ok (.aload_n 0, 1) := by decide +kernel
theorem dX6_planeFor_50 : decode cX6_planeFor 50 = .ok (.getfield 27, 3) := by decide +kernel
theorem dX6_planeFor_53 : decode cX6_planeFor 53 = .ok (.iload_n 2, 1) := by decide +kernel
theorem dX6_planeFor_54 : decode cX6_planeFor 54 = .ok (.aload_n 0, 1) := by decide +kernel
theorem dX6_planeFor_55 : decode cX6_planeFor 55 = .ok (.getfield 9, 3) := by decide +kernel
theorem dX6_planeFor_58 : decode cX6_planeFor 58 = .ok (.invokevirtual 118, 3) := by decide +kernel
theorem dX6_planeFor_61 : decode cX6_planeFor 61 = .ok (.pop, 1) := by decide +kernel
theorem dX6_planeFor_62 : decode cX6_planeFor 62 = .ok (.aload_n 0, 1) := by decide +kernel
theorem dX6_planeFor_63 : decode cX6_planeFor 63 = .ok (.getfield 41, 3) := by decide +kernel
theorem dX6_planeFor_66 : decode cX6_planeFor 66 = .ok (.invokevirtual 184, 3) := by decide +kernel
theorem dX6_planeFor_69 : decode cX6_planeFor 69 = .ok (.aload_n 0, 1) := by decide +kernel
theorem dX6_planeFor_70 : decode cX6_planeFor 70 = .ok (.getfield 9, 3) := by decide +kernel
theorem dX6_planeFor_73 : decode cX6_planeFor 73 = .ok (.imul, 1) := by decide +kernel
theorem dX6_planeFor_74 : decode cX6_planeFor 74 = .ok (.iload_n 3, 1) := by decide +kernel
theorem dX6_planeFor_75 : decode cX6_planeFor 75 = .ok (.idiv, 1) := by decide +kernel
theorem dX6_planeFor_76 : decode cX6_planeFor 76 = .ok (.aload_n 0, 1) := by decide +kernel
theorem dX6_planeFor_77 : decode cX6_planeFor 77 = .ok (.getfield 9, 3) := by decide +kernel
theorem dX6_planeFor_80 : decode cX6_planeFor 80 = .ok (.invokestatic 187, 3) := by decide +kernel
theorem dX6_planeFor_83 : decode cX6_planeFor 83 = .ok (.istore 5, 2) := by decide +kernel
theorem dX6_planeFor_85 : decode cX6_planeFor 85 = .ok (.iload 5, 2) := by decide +kernel
theorem dX6_planeFor_87 : decode cX6_planeFor 87 = .ok (.iconst 1, 1) := by decide +kernel
theorem dX6_planeFor_88 : decode cX6_planeFor 88 = .ok (.if_icmp .lt 8, 3) := by decide +kernel
theorem dX6_planeFor_91 : decode cX6_planeFor 91 = .ok (.iload 5, 2) := by decide +kernel
theorem dX6_planeFor_93 : decode cX6_planeFor 93 = .ok (.goto 5, 3) := by decide +kernel
theorem dX6_planeFor_96 : decode cX6_planeFor 96 = .ok (.bipush (-5), 2) := by decide +kernel
theorem dX6_planeFor_98 : decode cX6_planeFor 98 = .ok (.ireturn, 1) := by decide +kernel
theorem dX6_hands_0 : decode cX6_hands 0 = .ok (.iload_n 1, 1) := by decide +kernel
theorem dX6_hands_1 : decode cX6_hands 1 = .ok (.invokestatic 85, 3) := by decide +kernel
theorem dX6_hands_4 : decode cX6_hands 4 = .ok (.ifCond .eq 11, 3) := by decide +kernel
theorem dX6_hands_7 : decode cX6_hands 7 = .ok (.aload_n 0, 1) := by decide +kernel
theorem dX6_hands_8 : decode cX6_hands 8 = .ok (.iload_n 1, 1) := by decide +kernel
theorem dX6_hands_9 : decode cX6_hands 9 = .ok (.invokevirtual 190, 3) := by decide +kernel
theorem dX6_hands_12 : decode cX6_hands 12 = .ok (.goto 5, 3) := by decide +kernel
theorem dX6_hands_15 : decode cX6_hands 15 = .ok (.bipush (-3), 2) := by decide +kernel
theorem dX6_hands_17 : decode cX6_hands 17 = .ok (.ireturn, 1) := by decide +kernel
theorem dX6_busiestBeat_0 : decode cX6_busiestBeat 0 = .ok (.bipush (-5), 2) := by decide +kernel
theorem dX6_busiestBeat_2 : decode cX6_busiestBeat 2 = .ok (.istore_n 1, 1) := by decide +kernel
theorem dX6_busiestBeat_3 : decode cX6_busiestBeat 3 = .ok (.iconst 0, 1) := by decide +kernel
theorem dX6_busiestBeat_4 : decode cX6_busiestBeat 4 = .ok (.istore_n 2, 1) := by decide +kernel
theorem dX6_busiestBeat_5 : decode cX6_busiestBeat 5 = .ok (.iconst 0, 1) := by decide +kernel
theorem dX6_busiestBeat_6 : decode cX6_busiestBeat 6 = .ok (.istore_n 3, 1) := by decide +kernel
theorem dX6_busiestBeat_7 : decode cX6_busiestBeat 7 = .ok (.iload_n 3, 1) := by decide +kernel
theorem dX6_busiestBeat_8 : decode cX6_busiestBeat 8 = .ok (.bipush 99, 2) := by decide +kernel
theorem dX6_busiestBeat_10 : decode cX6_busiestBeat 10 = .ok (.if_icmp .gt 42, 3) := by decide +kernel
theorem dX6_busiestBeat_13 : decode cX6_busiestBeat 13 = .ok (.aload_n 0, 1) := by decide +kernel
theorem dX6_busiestBeat_14 : decode cX6_busiestBeat 14 = .ok (.getfield 27, 3) := by decide +kernel
theorem dX6_busiestBeat_17 : decode cX6_busiestBeat 17 = .ok (.iload_n 3, 1) := by decide +kernel
theorem dX6_busiestBeat_18 : decode cX6_busiestBeat 18 = .ok (.invokevirtual 172, 3) := by decide +kernel
theorem dX6_busiestBeat_21 : decode cX6_busiestBeat 21 = .ok (.ifCond .eq 11, 3) := by decide +kernel
theorem dX6_busiestBeat_24 : decode cX6_busiestBeat 24 = .ok (.aload_n 0, 1) := by decide +kernel
theorem dX6_busiestBeat_25 : decode cX6_busiestBeat 25 = .ok (.iload_n 3, 1) := by decide +kernel
theorem dX6_busiestBeat_26 : decode cX6_busiestBeat 26 = .ok (.invokevirtual 190, 3) := by decide +kernel
theorem dX6_busiestBeat_29 : decode cX6_busiestBeat 29 = .ok (.goto 4, 3) := by decide +kernel
theorem dX6_busiestBeat_32 : decode cX6_busiestBeat 32 = .ok (.iconst 0, 1) := by decide +kernel
theorem dX6_busiestBeat_33 : decode cX6_busiestBeat 33 = .ok (.istore 4, 2) := by decide +kernel
theorem dX6_busiestBeat_35 : decode cX6_busiestBeat 35 = .ok (.iload 4, 2) := by decide +kernel
theorem dX6_busiestBeat_37 : decode cX6_busiestBeat 37 = .ok (.iload_n 2, 1) := by decide +kernel
theorem dX6_busiestBeat_38 : decode cX6_busiestBeat 38 = .ok (.if_icmp .le 8, 3) := by decide +kernel
theorem dX6_busiestBeat_41 : decode cX6_busiestBeat 41 = .ok (.iload_n 3, 1) := by decide +kernel
theorem dX6_busiestBeat_42 : decode cX6_busiestBeat 42 = .ok (.istore_n 1, 1) := by decide +kernel
theorem dX6_busiestBeat_43 : decode cX6_busiestBeat 43 = .ok (.iload 4, 2) := by decide +kernel
theorem dX6_busiestBeat_45 : decode cX6_busiestBeat 45 = .ok (.istore_n 2, 1) := by decide +kernel
theorem dX6_busiestBeat_46 : decode cX6_busiestBeat 46 = .ok (.iinc 3 1, 3) := by decide +kernel
theorem dX6_busiestBeat_49 : decode cX6_busiestBeat 49 = .ok (.goto (-42), 3) := by decide +kernel
theorem dX6_busiestBeat_52 : decode cX6_busiestBeat 52 = .ok (.iload_n 1, 1) := by decide +kernel
theorem dX6_busiestBeat_53 : decode cX6_busiestBeat 53 = .ok (.ireturn, 1) := by decide +kernel
theorem dX6_activeRods_0 : decode cX6_activeRods 0 = .ok (.aload_n 0, 1) := by decide +kernel
theorem dX6_activeRods_1 : decode cX6_activeRods 1 = .ok (.iload_n 1, 1) := by decide +kernel
theorem dX6_activeRods_2 : decode cX6_activeRods 2 = .ok (.invokevirtual 65, 3) := by decide +kernel
theorem dX6_activeRods_5 : decode cX6_activeRods 5 = .ok (.ifnonnull 5, 3) := by decide +kernel
theorem dX6_activeRods_8 : decode cX6_activeRods 8 = .ok (.iconst (-1), 1) := by decide +kernel
theorem dX6_activeRods_9 : decode cX6_activeRods 9 = .ok (.ireturn, 1) := by decide +kernel
theorem dX6_activeRods_10 : decode cX6_activeRods 10 = .ok (.iload_n 2, 1) := by decide +kernel
theorem dX6_activeRods_11 : decode cX6_activeRods 11 = .ok (.invokestatic 85, 3) := by decide +kernel
theorem dX6_activeRods_14 : decode cX6_activeRods 14 = .ok (.ifCond .eq 18, 3) := by decide +kernel
theorem dX6_activeRods_17 : decode cX6_activeRods 17 = .ok (.aload_n 0, 1) := by decide +kernel
theorem dX6_activeRods_18 : decode cX6_activeRods 18 = .ok (.getfield 27, 3) := by decide +kernel
theorem dX6_activeRods_21 : decode cX6_activeRods 21 = .ok (.iload_n 1, 1) := by decide +kernel
theorem dX6_activeRods_22 : decode cX6_activeRods 22 = .ok (.iload_n 2, 1) := by decide +kernel
theorem dX6_activeRods_23 : decode cX6_activeRods 23 = .ok (.invokevirtual 193, 3) := by decide +kernel
theorem dX6_activeRods_26 : decode cX6_activeRods 26 = .ok (.invokestatic 196, 3) := by decide +kernel
theorem dX6_activeRods_29 : decode cX6_activeRods 29 = .ok (.goto 5, 3) := by decide +kernel
theorem dX6_activeRods_32 : decode cX6_activeRods 32 = .ok (.bipush (-3), 2) := by decide +kernel
theorem dX6_activeRods_34 : decode cX6_activeRods 34 = .ok (.ireturn, 1) := by decide +kernel
theorem dX6_addScene_0 : decode cX6_addScene 0 = .ok (.iload_n 1, 1) := by decide +kernel
theorem dX6_addScene_1 : decode cX6_addScene 1 = .ok (.iconst 0, 1) := by decide +kernel
theorem dX6_addScene_2 : decode cX6_addScene 2 = .ok (.bipush 63, 2) := by decide +kernel
theorem dX6_addScene_4 : decode cX6_addScene 4 = .ok (.invokestatic 58, 3) := by decide +kernel
theorem dX6_addScene_7 : decode cX6_addScene 7 = .ok (.ifCond .ne 6, 3) := by decide +kernel
theorem dX6_addScene_10 : decode cX6_addScene 10 = .ok (.bipush (-3), 2) := by decide +kernel
theorem dX6_addScene_12 : decode cX6_addScene 12 = .ok (.ireturn, 1) := by decide +kernel
theorem dX6_addScene_13 : decode cX6_addScene 13 = .ok (.aload_n 0, 1) := by decide +kernel
theorem dX6_addScene_14 : decode cX6_addScene 14 = .ok (.getfield 34, 3) := by decide +kernel
theorem dX6_addScene_17 : decode cX6_addScene 17 = .ok (.iload_n 1, 1) := by decide +kernel
theorem dX6_addScene_18 : decode cX6_addScene 18 = .ok (.invokevirtual 201, 3) := by decide +kernel
theorem dX6_addScene_21 : decode cX6_addScene 21 = .ok (.ireturn, 1) := by decide +kernel
theorem dX6_clearScenes_0 : decode cX6_clearScenes 0 = .ok (.aload_n 0, 1) := by decide +kernel
theorem dX6_clearScenes_1 : decode cX6_clearScenes 1 = .ok (.getfield 34, 3) := by decide +kernel
theorem dX6_clearScenes_4 : decode cX6_clearScenes 4 = .ok (.getfield 80, 3) := by decide +kernel
theorem dX6_clearScenes_7 : decode cX6_clearScenes 7 = .ok (.istore_n 1, 1) := by decide +kernel
theorem dX6_clearScenes_8 : decode cX6_clearScenes 8 = .ok (.aload_n 0, 1) := by decide +kernel
theorem dX6_clearScenes_9 : decode cX6_clearScenes 9 = .ok (.getfield 34, 3) := by decide +kernel
theorem dX6_clearScenes_12 : decode cX6_clearScenes 12 = .ok (.invokevirtual 204, 3) := by decide +kernel
theorem dX6_clearScenes_15 : decode cX6_clearScenes 15 = .ok (.iload_n 1, 1) := by decide +kernel
theorem dX6_clearScenes_16 : decode cX6_clearScenes 16 = .ok (.ireturn, 1) := by decide +kernel
theorem dX6_bestScene_0 : decode cX6_bestScene 0 = .ok (.iload_n 1, 1) := by decide +kernel
theorem dX6_bestScene_1 : decode cX6_bestScene 1 = .ok (.ifCond .ge 6, 3) := by decide +kernel
theorem dX6_bestScene_4 : decode cX6_bestScene 4 = .ok (.bipush (-3), 2) := by decide +kernel
theorem dX6_bestScene_6 : decode cX6_bestScene 6 = .ok (.ireturn, 1) := by decide +kernel
theorem dX6_bestScene_7 : decode cX6_bestScene 7 = .ok (.iload_n 1, 1) := by decide +kernel
theorem dX6_bestScene_8 : decode cX6_bestScene 8 = .ok (.aload_n 0, 1) := by decide +kernel
theorem dX6_bestScene_9 : decode cX6_bestScene 9 = .ok (.getfield 34, 3) := by decide +kernel
theorem dX6_bestScene_12 : decode cX6_bestScene 12 = .ok (.getfield 80, 3) := by decide +kernel
theorem dX6_bestScene_15 : decode cX6_bestScene 15 = .ok (.if_icmp .ge 14, 3) := by decide +kernel
theorem dX6_bestScene_18 : decode cX6_bestScene 18 = .ok (.aload_n 0, 1) := by decide +kernel
theorem dX6_bestScene_19 : decode cX6_bestScene 19 = .ok (.getfield 34, 3) := by decide +kernel
theorem dX6_bestScene_22 : decode cX6_bestScene 22 = .ok (.iload_n 1, 1) := by decide +kernel
theorem dX6_bestScene_23 : decode cX6_bestScene 23 = .ok (.invokevirtual 207, 3) := by decide +kernel
theorem dX6_bestScene_26 : decode cX6_bestScene 26 = .ok (.goto 5, 3) := by decide +kernel
theorem dX6_bestScene_29 : decode cX6_bestScene 29 = .ok (.bipush (-5), 2) := by decide +kernel
theorem dX6_bestScene_31 : decode cX6_bestScene 31 = .ok (.ireturn, 1) := by decide +kernel
theorem dX6_bestCost_0 : decode cX6_bestCost 0 = .ok (.aload_n 0, 1) := by decide +kernel
theorem dX6_bestCost_1 : decode cX6_bestCost 1 = .ok (.getfield 34, 3) := by decide +kernel
theorem dX6_bestCost_4 : decode cX6_bestCost 4 = .ok (.invokevirtual 210, 3) := by decide +kernel
theorem dX6_bestCost_7 : decode cX6_bestCost 7 = .ok (.ireturn, 1) := by decide +kernel
theorem dX6_inRange_0 : decode cX6_inRange 0 = .ok (.iload_n 1, 1) := by decide +kernel
theorem dX6_inRange_1 : decode cX6_inRange 1 = .ok (.iload_n 0, 1) := by decide +kernel
theorem dX6_inRange_2 : decode cX6_inRange 2 = .ok (.if_icmp .gt 12, 3) := by decide +kernel
theorem dX6_inRange_5 : decode cX6_inRange 5 = .ok (.iload_n 0, 1) := by decide +kernel
theorem dX6_inRange_6 : decode cX6_inRange 6 = .ok (.iload_n 2, 1) := by decide +kernel
theorem dX6_inRange_7 : decode cX6_inRange 7 = .ok (.if_icmp .gt 7, 3) := by decide +kernel
theorem dX6_inRange_10 : decode cX6_inRange 10 = .ok (.iconst 1, 1) := by decide +kernel
theorem dX6_inRange_11 : decode cX6_inRange 11 = .ok (.goto 4, 3) := by decide +kernel
theorem dX6_inRange_14 : decode cX6_inRange 14 = .ok (.iconst 0, 1) := by decide +kernel
theorem dX6_inRange_15 : decode cX6_inRange 15 = .ok (.ireturn, 1) := by decide +kernel
theorem dX6_isBeat_0 : decode cX6_isBeat 0 = .ok (.iload_n 0, 1) := by decide +kernel
theorem dX6_isBeat_1 : decode cX6_isBeat 1 = .ok (.iconst 0, 1) := by decide +kernel
theorem dX6_isBeat_2 : decode cX6_isBeat 2 = .ok (.bipush 99, 2) := by decide +kernel
theorem dX6_isBeat_4 : decode cX6_isBeat 4 = .ok (.invokestatic 58, 3) := by decide +kernel
theorem dX6_isBeat_7 : decode cX6_isBeat 7 = .ok (.ireturn, 1) := by decide +kernel
theorem dX6_figureAt_0 : decode cX6_figureAt 0 = .ok (.iload_n 1, 1) := by decide +kernel
theorem dX6_figureAt_1 : decode cX6_figureAt 1 = .ok (.iconst 0, 1) := by decide +kernel
theorem dX6_figureAt_2 : decode cX6_figureAt 2 = .ok (.aload_n 0, 1) := by decide +kernel
theorem dX6_figureAt_3 : decode cX6_figureAt 3 = .ok (.getfield 15, 3) := by decide +kernel
theorem dX6_figureAt_6 : decode cX6_figureAt 6 = .ok (.iconst 1, 1) := by decide +kernel
theorem dX6_figureAt_7 : decode cX6_figureAt 7 = .ok (.isub, 1) := by decide +kernel
theorem dX6_figureAt_8 : decode cX6_figureAt 8 = .ok (.invokestatic 58, 3) := by decide +kernel
theorem dX6_figureAt_11 : decode cX6_figureAt 11 = .ok (.ifCond .eq 12, 3) := by decide +kernel
theorem dX6_figureAt_14 : decode cX6_figureAt 14 = .ok (.aload_n 0, 1) := by decide +kernel
theorem dX6_figureAt_15 : decode cX6_figureAt 15 = .ok (.getfield 20, 3) := by decide +kernel
theorem dX6_figureAt_18 : decode cX6_figureAt 18 = .ok (.iload_n 1, 1) := by decide +kernel
theorem dX6_figureAt_19 : decode cX6_figureAt 19 = .ok (.aaload, 1) := by decide +kernel
theorem dX6_figureAt_20 : decode cX6_figureAt 20 = .ok (.goto 4, 3) := by decide +kernel
theorem dX6_figureAt_23 : decode cX6_figureAt 23 = .ok (.aconst_null, 1) := by decide +kernel
theorem dX6_figureAt_24 : decode cX6_figureAt 24 = .ok (.areturn, 1) := by decide +kernel
theorem dX6_limbsOfAll_0 : decode cX6_limbsOfAll 0 = .ok (.iconst 0, 1) := by decide +kernel
theorem dX6_limbsOfAll_1 : decode cX6_limbsOfAll 1 = .ok (.istore_n 1, 1) := by decide +kernel
theorem dX6_limbsOfAll_2 : decode cX6_limbsOfAll 2 = .ok (.aload_n 0, 1) := by decide +kernel
theorem dX6_limbsOfAll_3 : decode cX6_limbsOfAll 3 = .ok (.getfield 20, 3) := by decide +kernel
theorem dX6_limbsOfAll_6 : decode cX6_limbsOfAll 6 = .ok (.astore_n 2, 1) := by decide +kernel
theorem dX6_limbsOfAll_7 : decode cX6_limbsOfAll 7 = .ok (.aload_n 2, 1) := by decide +kernel
theorem dX6_limbsOfAll_8 : decode cX6_limbsOfAll 8 = .ok (.arraylength, 1) := by decide +kernel
theorem dX6_limbsOfAll_9 : decode cX6_limbsOfAll 9 = .ok (.istore_n 3, 1) := by decide +kernel
theorem dX6_limbsOfAll_10 : decode cX6_limbsOfAll 10 = .ok (.iconst 0, 1) := by decide +kernel
theorem dX6_limbsOfAll_11 : decode cX6_limbsOfAll 11 = .ok (.istore 4, 2) := by decide +kernel
theorem dX6_limbsOfAll_13 : decode cX6_limbsOfAll 13 = .ok (.iload 4, 2) := by decide +kernel
theorem dX6_limbsOfAll_15 : decode cX6_limbsOfAll 15 = .ok (.iload_n 3, 1) := by decide +kernel
theorem dX6_limbsOfAll_16 : decode cX6_limbsOfAll 16 = .ok (.if_icmp .ge 32, 3) := by decide +kernel
theorem dX6_limbsOfAll_19 : decode cX6_limbsOfAll 19 = .ok (.aload_n 2, 1) := by decide +kernel
theorem dX6_limbsOfAll_20 : decode cX6_limbsOfAll 20 = .ok (.iload 4, 2) := by decide +kernel
theorem dX6_limbsOfAll_22 : decode cX6_limbsOfAll 22 = .ok (.aaload, 1) := by decide +kernel
theorem dX6_limbsOfAll_23 : decode cX6_limbsOfAll 23 = .ok (.astore 5, 2) := by decide +kernel
theorem dX6_limbsOfAll_25 : decode cX6_limbsOfAll 25 = .ok (.iload_n 1, 1) := by decide +kernel
theorem dX6_limbsOfAll_26 : decode cX6_limbsOfAll 26 = .ok (.aload 5, 2) := by decide +kernel
theorem dX6_limbsOfAll_28 : decode cX6_limbsOfAll 28 = .ok (.ifnonnull 7, 3) := by decide +kernel
theorem dX6_limbsOfAll_31 : decode cX6_limbsOfAll 31 = .ok (.iconst 0, 1) := by decide +kernel
theorem dX6_limbsOfAll_32 : decode cX6_limbsOfAll 32 = .ok (.goto 8, 3) := by decide +kernel
theorem dX6_limbsOfAll_35 : decode cX6_limbsOfAll 35 = .ok (.aload 5, 2) := by decide +kernel
theorem dX6_limbsOfAll_37 : decode cX6_limbsOfAll 37 = .ok (.getfield 113, 3) := by decide +kernel
theorem dX6_limbsOfAll_40 : decode cX6_limbsOfAll 40 = .ok (.iadd, 1) := by decide +kernel
theorem dX6_limbsOfAll_41 : decode cX6_limbsOfAll 41 = .ok (.istore_n 1, 1) := by decide +kernel
theorem dX6_limbsOfAll_42 : decode cX6_limbsOfAll 42 = .ok (.iinc 4 1, 3) := by decide +kernel
theorem dX6_limbsOfAll_45 : decode cX6_limbsOfAll 45 = .ok (.goto (-32), 3) := by decide +kernel
theorem dX6_limbsOfAll_48 : decode cX6_limbsOfAll 48 = .ok (.iload_n 1, 1) := by decide +kernel
theorem dX6_limbsOfAll_49 : decode cX6_limbsOfAll 49 = .ok (.ireturn, 1) := by decide +kernel
theorem dX6_handsOfAll_0 : decode cX6_handsOfAll 0 = .ok (.iconst 0, 1) := by decide +kernel
theorem dX6_handsOfAll_1 : decode cX6_handsOfAll 1 = .ok (.istore_n 2, 1) := by decide +kernel
theorem dX6_handsOfAll_2 : decode cX6_handsOfAll 2 = .ok (.aload_n 0, 1) := by decide +kernel
theorem dX6_handsOfAll_3 : decode cX6_handsOfAll 3 = .ok (.getfield 20, 3) := by decide +kernel
theorem dX6_handsOfAll_6 : decode cX6_handsOfAll 6 = .ok (.astore_n 3, 1) := by decide +kernel
theorem dX6_handsOfAll_7 : decode cX6_handsOfAll 7 = .ok (.aload_n 3, 1) := by decide +kernel
theorem dX6_handsOfAll_8 : decode cX6_handsOfAll 8 = .ok (.arraylength, 1) := by decide +kernel
theorem dX6_handsOfAll_9 : decode cX6_handsOfAll 9 = .ok (.istore 4, 2) := by decide +kernel
theorem dX6_handsOfAll_11 : decode cX6_handsOfAll 11 = .ok (.iconst 0, 1) := by decide +kernel
theorem dX6_handsOfAll_12 : decode cX6_handsOfAll 12 = .ok (.istore 5, 2) := by decide +kernel
theorem dX6_handsOfAll_14 : decode cX6_handsOfAll 14 = .ok (.iload 5, 2) := by decide +kernel
theorem dX6_handsOfAll_16 : decode cX6_handsOfAll 16 = .ok (.iload 4, 2) := by decide +kernel
theorem dX6_handsOfAll_18 : decode cX6_handsOfAll 18 = .ok (.if_icmp .ge 45, 3) := by decide +kernel
theorem dX6_handsOfAll_21 : decode cX6_handsOfAll 21 = .ok (.aload_n 3, 1) := by decide +kernel
theorem dX6_handsOfAll_22 : decode cX6_handsOfAll 22 = .ok (.iload 5, 2) := by decide +kernel
theorem dX6_handsOfAll_24 : decode cX6_handsOfAll 24 = .ok (.aaload, 1) := by decide +kernel
theorem dX6_handsOfAll_25 : decode cX6_handsOfAll 25 = .ok (.astore 6, 2) := by decide +kernel
theorem dX6_handsOfAll_27 : decode cX6_handsOfAll 27 = .ok (.iload_n 2, 1) := by decide +kernel
theorem dX6_handsOfAll_28 : decode cX6_handsOfAll 28 = .ok (.aload 6, 2) := by decide +kernel
theorem dX6_handsOfAll_30 : decode cX6_handsOfAll 30 = .ok (.ifnonnull 7, 3) := by decide +kernel
theorem dX6_handsOfAll_33 : decode cX6_handsOfAll 33 = .ok (.iconst 0, 1) := by decide +kernel
theorem dX6_handsOfAll_34 : decode cX6_handsOfAll 34 = .ok (.goto 21, 3) := by decide +kernel
theorem dX6_handsOfAll_37 : decode cX6_handsOfAll 37 = .ok (.aload 6, 2) := by decide +kernel
theorem dX6_handsOfAll_39 : decode cX6_handsOfAll 39 = .ok (.aload_n 0, 1) := by decide +kernel
theorem dX6_handsOfAll_40 : decode cX6_handsOfAll 40 = .ok (.getfield 27, 3) := by decide +kernel
theorem dX6_handsOfAll_43 : decode cX6_handsOfAll 43 = .ok (.aload 6, 2) := by decide +kernel
theorem dX6_handsOfAll_45 : decode cX6_handsOfAll 45 = .ok (.getfield 178, 3) := by decide +kernel
theorem dX6_handsOfAll_48 : decode cX6_handsOfAll 48 = .ok (.iload_n 1, 1) := by decide +kernel
theorem dX6_handsOfAll_49 : decode cX6_handsOfAll 49 = .ok (.invokevirtual 193, 3) := by decide +kernel
theorem dX6_handsOfAll_52 : decode cX6_handsOfAll 52 = .ok (.invokevirtual 213, 3) := by decide +kernel
theorem dX6_handsOfAll_55 : decode cX6_handsOfAll 55 = .ok (.iadd, 1) := by decide +kernel
theorem dX6_handsOfAll_56 : decode cX6_handsOfAll 56 = .ok (.istore_n 2, 1) := by decide +kernel
theorem dX6_handsOfAll_57 : decode cX6_handsOfAll 57 = .ok (.iinc 5 1, 3) := by decide +kernel
theorem dX6_handsOfAll_60 : decode cX6_handsOfAll 60 = .ok (.goto (-46), 3) := by decide +kernel
theorem dX6_handsOfAll_63 : decode cX6_handsOfAll 63 = .ok (.iload_n 2, 1) := by decide +kernel
theorem dX6_handsOfAll_64 : decode cX6_handsOfAll 64 = .ok (.ireturn, 1) := by decide +kernel
theorem dX6_isHigher_0 : decode cX6_isHigher 0 = .ok (.aload_n 0, 1) := by decide +kernel
theorem dX6_isHigher_1 : decode cX6_isHigher 1 = .ok (.aload_n 1, 1) := by decide +kernel
theorem dX6_isHigher_2 : decode cX6_isHigher 2 = .ok (.aload_n 2, 1) := by decide +kernel
theorem dX6_isHigher_3 : decode cX6_isHigher 3 = .ok (.iload_n 3, 1) := by decide +kernel
theorem dX6_isHigher_4 : decode cX6_isHigher 4 = .ok (.invokevirtual 143, 3) := by decide +kernel
theorem dX6_isHigher_7 : decode cX6_isHigher 7 = .ok (.aload_n 0, 1) := by decide +kernel
theorem dX6_isHigher_8 : decode cX6_isHigher 8 = .ok (.getfield 41, 3) := by decide +kernel
theorem dX6_isHigher_11 : decode cX6_isHigher 11 = .ok (.invokevirtual 184, 3) := by decide +kernel
theorem dX6_isHigher_14 : decode cX6_isHigher 14 = .ok (.aload_n 0, 1) := by decide +kernel
theorem dX6_isHigher_15 : decode cX6_isHigher 15 = .ok (.getfield 45, 3) := by decide +kernel
theorem dX6_isHigher_18 : decode cX6_isHigher 18 = .ok (.getfield 132, 3) := by decide +kernel
theorem dX6_isHigher_21 : decode cX6_isHigher 21 = .ok (.imul, 1) := by decide +kernel
theorem dX6_isHigher_22 : decode cX6_isHigher 22 = .ok (.aload_n 0, 1) := by decide +kernel
theorem dX6_isHigher_23 : decode cX6_isHigher 23 = .ok (.getfield 45, 3) := by decide +kernel
theorem dX6_isHigher_26 : decode cX6_isHigher 26 = .ok (.invokevirtual 184, 3) := by decide +kernel
theorem dX6_isHigher_29 : decode cX6_isHigher 29 = .ok (.aload_n 0, 1) := by decide +kernel
theorem dX6_isHigher_30 : decode cX6_isHigher 30 = .ok (.getfield 41, 3) := by decide +kernel
theorem dX6_isHigher_33 : decode cX6_isHigher 33 = .ok (.getfield 132, 3) := by decide +kernel
theorem dX6_isHigher_36 : decode cX6_isHigher 36 = .ok (.imul, 1) := by decide +kernel
theorem dX6_isHigher_37 : decode cX6_isHigher 37 = .ok (.if_icmp .le 7, 3) := by decide +kernel
theorem dX6_isHigher_40 : decode cX6_isHigher 40 = .ok (.iconst 1, 1) := by decide +kernel
theorem dX6_isHigher_41 : decode cX6_isHigher 41 = .ok (.goto 4, 3) := by decide +kernel
theorem dX6_isHigher_44 : decode cX6_isHigher 44 = .ok (.iconst 0, 1) := by decide +kernel
theorem dX6_isHigher_45 : decode cX6_isHigher 45 = .ok (.ireturn, 1) := by decide +kernel
theorem dX6_takePoses_0 : decode cX6_takePoses 0 = .ok (.aload_n 0, 1) := by decide +kernel
theorem dX6_takePoses_1 : decode cX6_takePoses 1 = .ok (.getfield 41, 3) := by decide +kernel
theorem dX6_takePoses_4 : decode cX6_takePoses 4 = .ok (.aload_n 1, 1) := by decide +kernel
theorem dX6_takePoses_5 : decode cX6_takePoses 5 = .ok (.aload_n 0, 1) := by decide +kernel
theorem dX6_takePoses_6 : decode cX6_takePoses 6 = .ok (.getfield 27, 3) := by decide +kernel
theorem dX6_takePoses_9 : decode cX6_takePoses 9 = .ok (.iload_n 3, 1) := by decide +kernel
theorem dX6_takePoses_10 : decode cX6_takePoses 10 = .ok (.aload_n 0, 1) := by decide +kernel
theorem dX6_takePoses_11 : decode cX6_takePoses 11 = .ok (.getfield 9, 3) := by decide +kernel
theorem dX6_takePoses_14 : decode cX6_takePoses 14 = .ok (.invokevirtual 118, 3) := by decide +kernel
theorem dX6_takePoses_17 : decode cX6_takePoses 17 = .ok (.pop, 1) := by decide +kernel
theorem dX6_takePoses_18 : decode cX6_takePoses 18 = .ok (.aload_n 0, 1) := by decide +kernel
theorem dX6_takePoses_19 : decode cX6_takePoses 19 = .ok (.getfield 45, 3) := by decide +kernel
theorem dX6_takePoses_22 : decode cX6_takePoses 22 = .ok (.aload_n 2, 1) := by decide +kernel
theorem dX6_takePoses_23 : decode cX6_takePoses 23 = .ok (.aload_n 0, 1) := by decide +kernel
theorem dX6_takePoses_24 : decode cX6_takePoses 24 = .ok (.getfield 27, 3) := by decide +kernel
theorem dX6_takePoses_27 : decode cX6_takePoses 27 = .ok (.iload_n 3, 1) := by decide +kernel
theorem dX6_takePoses_28 : decode cX6_takePoses 28 = .ok (.aload_n 0, 1) := by decide +kernel
theorem dX6_takePoses_29 : decode cX6_takePoses 29 = .ok (.getfield 9, 3) := by decide +kernel
theorem dX6_takePoses_32 : decode cX6_takePoses 32 = .ok (.invokevirtual 118, 3) := by decide +kernel
theorem dX6_takePoses_35 : decode cX6_takePoses 35 = .ok (.pop, 1) := by decide +kernel
theorem dX6_takePoses_36 : decode cX6_takePoses 36 = .ok (.return_, 1) := by decide +kernel
theorem dX6_crossingLimbs_0 : decode cX6_crossingLimbs 0 = .ok (.aload_n 0, 1) := by decide +kernel
theorem dX6_crossingLimbs_1 : decode cX6_crossingLimbs 1 = .ok (.aload_n 1, 1) := by decide +kernel
theorem dX6_crossingLimbs_2 : decode cX6_crossingLimbs 2 = .ok (.aload_n 2, 1) := by decide +kernel
theorem dX6_crossingLimbs_3 : decode cX6_crossingLimbs 3 = .ok (.iload_n 3, 1) := by decide +kernel
theorem dX6_crossingLimbs_4 : decode cX6_crossingLimbs 4 = .ok (.invokevirtual 143, 3) := by decide +kernel
theorem dX6_crossingLimbs_7 : decode cX6_crossingLimbs 7 = .ok (.iconst 0, 1) := by decide +kernel
theorem dX6_crossingLimbs_8 : decode cX6_crossingLimbs 8 = .ok (.istore 4, 2) := by decide +kernel
theorem dX6_crossingLimbs_10 : decode cX6_crossingLimbs 10 = .ok (.iconst 0, 1) := by decide +kernel
theorem dX6_crossingLimbs_11 : decode cX6_crossingLimbs 11 = .ok (.istore 5, 2) := by decide +kernel
theorem dX6_crossingLimbs_13 : decode cX6_crossingLimbs 13 = .ok (.iload 5, 2) := by decide +kernel
theorem dX6_crossingLimbs_15 : decode cX6_crossingLimbs 15 = .ok (.aload_n 1, 1) := by decide +kernel
theorem dX6_crossingLimbs_16 : decode cX6_crossingLimbs 16 = .ok (.getfield 113, 3) := by decide +kernel
theorem dX6_crossingLimbs_19 : decode cX6_crossingLimbs 19 = .ok (.if_icmp .ge 100, 3) := by decide +kernel
theorem dX6_crossingLimbs_22 : decode cX6_crossingLimbs 22 = .ok (.aload_n 0, 1) := by decide +kernel
theorem dX6_crossingLimbs_23 : decode cX6_crossingLimbs 23 = .ok (.getfield 51, 3) := by decide +kernel
theorem dX6_crossingLimbs_26 : decode cX6_crossingLimbs 26 = .ok (.aload_n 0, 1) := by decide +kernel
theorem dX6_crossingLimbs_27 : decode cX6_crossingLimbs 27 = .ok (.getfield 41, 3) := by decide +kernel
theorem dX6_crossingLimbs_30 : decode cX6_crossingLimbs 30 = .ok (.aload_n 1, 1) := by decide +kernel
theorem dX6_crossingLimbs_31 : decode cX6_crossingLimbs 31 = .ok (.iload 5, 2) := by decide +kernel
theorem dX6_crossingLimbs_33 : decode cX6_crossingLimbs 33 = .ok (.invokevirtual 216, 3) := by decide +kernel
theorem dX6_crossingLimbs_36 : decode cX6_crossingLimbs 36 = .ok (.iload 5, 2) := by decide +kernel
theorem dX6_crossingLimbs_38 : decode cX6_crossingLimbs 38 = .ok (.iconst 1, 1) := by decide +kernel
theorem dX6_crossingLimbs_39 : decode cX6_crossingLimbs 39 = .ok (.iadd, 1) := by decide +kernel
theorem dX6_crossingLimbs_40 : decode cX6_crossingLimbs 40 = .ok (.aload_n 0, 1) := by decide +kernel
theorem dX6_crossingLimbs_41 : decode cX6_crossingLimbs 41 = .ok (.getfield 45, 3) := by decide +kernel
theorem dX6_crossingLimbs_44 : decode cX6_crossingLimbs 44 = .ok (.getfield 132, 3) := by decide +kernel
theorem dX6_crossingLimbs_47 : decode cX6_crossingLimbs 47 = .ok (.invokevirtual 219, 3) := by decide +kernel
theorem dX6_crossingLimbs_50 : decode cX6_crossingLimbs 50 = .ok (.iconst 0, 1) := by decide +kernel
theorem dX6_crossingLimbs_51 : decode cX6_crossingLimbs 51 = .ok (.istore 6, 2) := by decide +kernel
theorem dX6_crossingLimbs_53 : decode cX6_crossingLimbs 53 = .ok (.iload 6, 2) := by decide +kernel
theorem dX6_crossingLimbs_55 : decode cX6_crossingLimbs 55 = .ok (.aload_n 2, 1) := by decide +kernel
theorem dX6_crossingLimbs_56 : decode cX6_crossingLimbs 56 = .ok (.getfield 113, 3) := by decide +kernel
theorem dX6_crossingLimbs_59 : decode cX6_crossingLimbs 59 = .ok (.if_icmp .ge 54, 3) := by decide +kernel
theorem dX6_crossingLimbs_62 : decode cX6_crossingLimbs 62 = .ok (.aload_n 0, 1) := by decide +kernel
theorem dX6_crossingLimbs_63 : decode cX6_crossingLimbs 63 = .ok (.getfield 55, 3) := by decide +kernel
theorem dX6_crossingLimbs_66 : decode cX6_crossingLimbs 66 = .ok (.aload_n 0, 1) := by decide +kernel
theorem dX6_crossingLimbs_67 : decode cX6_crossingLimbs 67 = .ok (.getfield 45, 3) := by decide +kernel
theorem dX6_crossingLimbs_70 : decode cX6_crossingLimbs 70 = .ok (.aload_n 2, 1) := by decide +kernel
theorem dX6_crossingLimbs_71 : decode cX6_crossingLimbs 71 = .ok (.iload 6, 2) := by decide +kernel
theorem dX6_crossingLimbs_73 : decode cX6_crossingLimbs 73 = .ok (.invokevirtual 216, 3) := by decide +kernel
theorem dX6_crossingLimbs_76 : decode cX6_crossingLimbs 76 = .ok (.iload 6, 2) := by decide +kernel
theorem dX6_crossingLimbs_78 : decode cX6_crossingLimbs 78 = .ok (.iconst 1, 1) := by decide +kernel
theorem dX6_crossingLimbs_79 : decode cX6_crossingLimbs 79 = .ok (.iadd, 1) := by decide +kernel
theorem dX6_crossingLimbs_80 : decode cX6_crossingLimbs 80 = .ok (.aload_n 0, 1) := by decide +kernel
theorem dX6_crossingLimbs_81 : decode cX6_crossingLimbs 81 = .ok (.getfield 41, 3) := by decide +kernel
theorem dX6_crossingLimbs_84 : decode cX6_crossingLimbs 84 = .ok (.getfield 132, 3) := by decide +kernel
theorem dX6_crossingLimbs_87 : decode cX6_crossingLimbs 87 = .ok (.invokevirtual 219, 3) := by decide +kernel
theorem dX6_crossingLimbs_90 : decode cX6_crossingLimbs 90 = .ok (.aload_n 0, 1) := by decide +kernel
theorem dX6_crossingLimbs_91 : decode cX6_crossingLimbs 91 = .ok (.getfield 51, 3) := by decide +kernel
theorem dX6_crossingLimbs_94 : decode cX6_crossingLimbs 94 = .ok (.aload_n 0, 1) := by decide +kernel
theorem dX6_crossingLimbs_95 : decode cX6_crossingLimbs 95 = .ok (.getfield 55, 3) := by decide +kernel
theorem dX6_crossingLimbs_98 : decode cX6_crossingLimbs 98 = .ok (.invokevirtual 223, 3) := by decide +kernel
theorem dX6_crossingLimbs_101 : decode cX6_crossingLimbs 101 = .ok (.ifCond .eq 6, 3) := by decide +kernel
theorem dX6_crossingLimbs_104 : decode cX6_crossingLimbs 104 = .ok (.iinc 4 1, 3) := by decide +kernel
theorem dX6_crossingLimbs_107 : decode cX6_crossingLimbs 107 = .ok (.iinc 6 1, 3) := by decide +kernel
theorem dX6_crossingLimbs_110 : decode cX6_crossingLimbs 110 = .ok (.goto (-57), 3) := by decide +kernel
theorem dX6_crossingLimbs_113 : decode cX6_crossingLimbs 113 = .ok (.iinc 5 1, 3) := by decide +kernel
theorem dX6_crossingLimbs_116 : decode cX6_crossingLimbs 116 = .ok (.goto (-103), 3) := by decide +kernel
theorem dX6_crossingLimbs_119 : decode cX6_crossingLimbs 119 = .ok (.iload 4, 2) := by decide +kernel
theorem dX6_crossingLimbs_121 : decode cX6_crossingLimbs 121 = .ok (.ireturn, 1) := by decide +kernel
theorem dX6_partOfFraction_0 : decode cX6_partOfFraction 0 = .ok (.lload_n 0, 1) := by decide +kernel
theorem dX6_partOfFraction_1 : decode cX6_partOfFraction 1 = .ok (.invokestatic 227, 3) := by decide +kernel
theorem dX6_partOfFraction_4 : decode cX6_partOfFraction 4 = .ok (.lload_n 2, 1) := by decide +kernel
theorem dX6_partOfFraction_5 : decode cX6_partOfFraction 5 = .ok (.invokestatic 231, 3) := by decide +kernel
theorem dX6_partOfFraction_8 : decode cX6_partOfFraction 8 = .ok (.lstore 5, 2) := by decide +kernel
theorem dX6_partOfFraction_10 : decode cX6_partOfFraction 10 = .ok (.iload 4, 2) := by decide +kernel
theorem dX6_partOfFraction_12 : decode cX6_partOfFraction 12 = .ok (.ifCond .ne 7, 3) := by decide +kernel
theorem dX6_partOfFraction_15 : decode cX6_partOfFraction 15 = .ok (.lload_n 0, 1) := by decide +kernel
theorem dX6_partOfFraction_16 : decode cX6_partOfFraction 16 = .ok (.goto 4, 3) := by decide +kernel
theorem dX6_partOfFraction_19 : decode cX6_partOfFraction 19 = .ok (.lload_n 2, 1) := by decide +kernel
theorem dX6_partOfFraction_20 : decode cX6_partOfFraction 20 = .ok (.lload 5, 2) := by decide +kernel
theorem dX6_partOfFraction_22 : decode cX6_partOfFraction 22 = .ok (.ldiv, 1) := by decide +kernel
theorem dX6_partOfFraction_23 : decode cX6_partOfFraction 23 = .ok (.lreturn, 1) := by decide +kernel
theorem dX6_commonDivisor_0 : decode cX6_commonDivisor 0 = .ok (.lload_n 0, 1) := by decide +kernel
theorem dX6_commonDivisor_1 : decode cX6_commonDivisor 1 = .ok (.lstore 4, 2) := by decide +kernel
theorem dX6_commonDivisor_3 : decode cX6_commonDivisor 3 = .ok (.lload_n 2, 1) := by decide +kernel
theorem dX6_commonDivisor_4 : decode cX6_commonDivisor 4 = .ok (.lstore 6, 2) := by decide +kernel
theorem dX6_commonDivisor_6 : decode cX6_commonDivisor 6 = .ok (.iconst 0, 1) := by decide +kernel
theorem dX6_commonDivisor_7 : decode cX6_commonDivisor 7 = .ok (.istore 8, 2) := by decide +kernel
theorem dX6_commonDivisor_9 : decode cX6_commonDivisor 9 = .ok (.iload 8, 2) := by decide +kernel
theorem dX6_commonDivisor_11 : decode cX6_commonDivisor 11 = .ok (.bipush 100, 2) := by decide +kernel
theorem dX6_commonDivisor_13 : decode cX6_commonDivisor 13 = .ok (.if_icmp .ge 31, 3) := by decide +kernel
theorem dX6_commonDivisor_16 : decode cX6_commonDivisor 16 = .ok (.lload 6, 2) := by decide +kernel
theorem dX6_commonDivisor_18 : decode cX6_commonDivisor 18 = .ok (.lconst 0, 1) := by decide +kernel
theorem dX6_commonDivisor_19 : decode cX6_commonDivisor 19 = .ok (.lcmp, 1) := by decide +kernel
theorem dX6_commonDivisor_20 : decode cX6_commonDivisor 20 = .ok (.ifCond .eq 24, 3) := by decide +kernel
theorem dX6_commonDivisor_23 : decode cX6_commonDivisor 23 = .ok (.lload 4, 2) := by decide +kernel
theorem dX6_commonDivisor_25 : decode cX6_commonDivisor 25 = .ok (.lload 6, 2) := by decide +kernel
theorem dX6_commonDivisor_27 : decode cX6_commonDivisor 27 = .ok (.lrem, 1) := by decide +kernel
theorem dX6_commonDivisor_28 : decode cX6_commonDivisor 28 = .ok (.lstore 9, 2) := by decide +kernel
theorem dX6_commonDivisor_30 : decode cX6_commonDivisor 30 = .ok (.lload 6, 2) := by decide +kernel
theorem dX6_commonDivisor_32 : decode cX6_commonDivisor 32 = .ok (.lstore 4, 2) := by decide +kernel
theorem dX6_commonDivisor_34 : decode cX6_commonDivisor 34 = .ok (.lload 9, 2) := by decide +kernel
theorem dX6_commonDivisor_36 : decode cX6_commonDivisor 36 = .ok (.lstore 6, 2) := by decide +kernel
theorem dX6_commonDivisor_38 : decode cX6_commonDivisor 38 = .ok (.iinc 8 1, 3) := by decide +kernel
theorem dX6_commonDivisor_41 : decode cX6_commonDivisor 41 = .ok (.goto (-32), 3) := by decide +kernel
theorem dX6_commonDivisor_44 : decode cX6_commonDivisor 44 = .ok (.lconst 1, 1) := by decide +kernel
theorem dX6_commonDivisor_45 : decode cX6_commonDivisor 45 = .ok (.lload 4, 2) := by decide +kernel
theorem dX6_commonDivisor_47 : decode cX6_commonDivisor 47 = .ok (.invokestatic 159, 3) := by decide +kernel
theorem dX6_commonDivisor_50 : decode cX6_commonDivisor 50 = .ok (.lreturn, 1) := by decide +kernel
theorem dX7_init_0 : decode cX7_init 0 = .ok (.aload_n 0, 1) := by decide +kernel
theorem dX7_init_1 : decode cX7_init 1 = .ok (.invokespecial 1, 3) := by decide +kernel
theorem dX7_init_4 : decode cX7_init 4 = .ok (.aload_n 0, 1) := by decide +kernel
theorem dX7_init_5 : decode cX7_init 5 = .ok (.bipush 6, 2) := by decide +kernel
theorem dX7_init_7 : decode cX7_init 7 = .ok (.newarray .int, 2) := by decide +kernel
theorem dX7_init_9 : decode cX7_init 9 = .ok (.putfield 7, 3) := by decide +kernel
theorem dX7_init_12 : decode cX7_init 12 = .ok (.aload_n 0, 1) := by decide +kernel
theorem dX7_init_13 : decode cX7_init 13 = .ok (.bipush 6, 2) := by decide +kernel
theorem dX7_init_15 : decode cX7_init 15 = .ok (.newarray .int, 2) := by decide +kernel
theorem dX7_init_17 : decode cX7_init 17 = .ok (.putfield 13, 3) := by decide +kernel
theorem dX7_init_20 : decode cX7_init 20 = .ok (.aload_n 0, 1) := by decide +kernel
theorem dX7_init_21 : decode cX7_init 21 = .ok (.bipush 6, 2) := by decide +kernel
theorem dX7_init_23 : decode cX7_init 23 = .ok (.newarray .int, 2) := by decide +kernel
theorem dX7_init_25 : decode cX7_init 25 = .ok (.putfield 16, 3) := by decide +kernel
theorem dX7_init_28 : decode cX7_init 28 = .ok (.aload_n 0, 1) := by decide +kernel
theorem dX7_init_29 : decode cX7_init 29 = .ok (.bipush 6, 2) := by decide +kernel
theorem dX7_init_31 : decode cX7_init 31 = .ok (.newarray .int, 2) := by decide +kernel
theorem dX7_init_33 : decode cX7_init 33 = .ok (.putfield 19, 3) := by decide +kernel
theorem dX7_init_36 : decode cX7_init 36 = .ok (.aload_n 0, 1) := by decide +kernel
theorem dX7_init_37 : decode cX7_init 37 = .ok (.bipush 48, 2) := by decide +kernel
theorem dX7_init_39 : decode cX7_init 39 = .ok (.newarray .int, 2) := by decide +kernel
theorem dX7_init_41 : decode cX7_init 41 = .ok (.putfield 22, 3) := by decide +kernel
theorem dX7_init_44 : decode cX7_init 44 = .ok (.aload_n 0, 1) := by decide +kernel
theorem dX7_init_45 : decode cX7_init 45 = .ok (.bipush 48, 2) := by decide +kernel
theorem dX7_init_47 : decode cX7_init 47 = .ok (.newarray .int, 2) := by decide +kernel
theorem dX7_init_49 : decode cX7_init 49 = .ok (.putfield 25, 3) := by decide +kernel
theorem dX7_init_52 : decode cX7_init 52 = .ok (.aload_n 0, 1) := by decide +kernel
theorem dX7_init_53 : decode cX7_init 53 = .ok (.bipush 48, 2) := by decide +kernel
theorem dX7_init_55 : decode cX7_init 55 = .ok (.newarray .int, 2) := by decide +kernel
theorem dX7_init_57 : decode cX7_init 57 = .ok (.putfield 28, 3) := by decide +kernel
theorem dX7_init_60 : decode cX7_init 60 = .ok (.aload_n 0, 1) := by decide +kernel
theorem dX7_init_61 : decode cX7_init 61 = .ok (.bipush 60, 2) := by decide +kernel
theorem dX7_init_63 : decode cX7_init 63 = .ok (.newarray .int, 2) := by decide +kernel
theorem dX7_init_65 : decode cX7_init 65 = .ok (.putfield 31, 3) := by decide +kernel
theorem dX7_init_68 : decode cX7_init 68 = .ok (.aload_n 0, 1) := by decide +kernel
theorem dX7_init_69 : decode cX7_init 69 = .ok (.bipush 60, 2) := by decide +kernel
theorem dX7_init_71 : decode cX7_init 71 = .ok (.newarray .int, 2) := by decide +kernel
theorem dX7_init_73 : decode cX7_init 73 = .ok (.putfield 34, 3) := by decide +kernel
theorem dX7_init_76 : decode cX7_init 76 = .ok (.aload_n 0, 1) := by decide +kernel
theorem dX7_init_77 : decode cX7_init 77 = .ok (.bipush 60, 2) := by decide +kernel
theorem dX7_init_79 : decode cX7_init 79 = .ok (.newarray .int, 2) := by decide +kernel
theorem dX7_init_81 : decode cX7_init 81 = .ok (.putfield 37, 3) := by decide +kernel
theorem dX7_init_84 : decode cX7_init 84 = .ok (.aload_n 0, 1) := by decide +kernel
theorem dX7_init_85 : decode cX7_init 85 = .ok (.bipush 60, 2) := by decide +kernel
theorem dX7_init_87 : decode cX7_init 87 = .ok (.newarray .int, 2) := by decide +kernel
theorem dX7_init_89 : decode cX7_init 89 = .ok (.putfield 40, 3) := by decide +kernel
theorem dX7_init_92 : decode cX7_init 92 = .ok (.aload_n 0, 1) := by decide +kernel
theorem dX7_init_93 : decode cX7_init 93 = .ok (.bipush 60, 2) := by decide +kernel
theorem dX7_init_95 : decode cX7_init 95 = .ok (.newarray .int, 2) := by decide +kernel
theorem dX7_init_97 : decode cX7_init 97 = .ok (.putfield 43, 3) := by decide +kernel
theorem dX7_init_100 : decode cX7_init 100 = .ok (.aload_n 0, 1) := by decide +kernel
theorem dX7_init_101 : decode cX7_init 101 = .ok (.bipush 60, 2) := by decide +kernel
theorem dX7_init_103 : decode cX7_init 103 = .ok (.newarray .int, 2) := by decide +kernel
theorem dX7_init_105 : decode cX7_init 105 = .ok (.putfield 46, 3) := by decide +kernel
theorem dX7_init_108 : decode cX7_init 108 = .ok (.aload_n 0, 1) := by decide +kernel
theorem dX7_init_109 : decode cX7_init 109 = .ok (.bipush 6, 2) := by decide +kernel
theorem dX7_init_111 : decode cX7_init 111 = .ok (.newarray .int, 2) := by decide +kernel
theorem dX7_init_113 : decode cX7_init 113 = .ok (.putfield 49, 3) := by decide +kernel
theorem dX7_init_116 : decode cX7_init 116 = .ok (.aload_n 0, 1) := by decide +kernel
theorem dX7_init_117 : decode cX7_init 117 = .ok (.bipush 48, 2) := by decide +kernel
theorem dX7_init_119 : decode cX7_init 119 = .ok (.newarray .int, 2) := by decide +kernel
theorem dX7_init_121 : decode cX7_init 121 = .ok (.putfield 52, 3) := by decide +kernel
theorem dX7_init_124 : decode cX7_init 124 = .ok (.aload_n 0, 1) := by decide +kernel
theorem dX7_init_125 : decode cX7_init 125 = .ok (.bipush 54, 2) := by decide +kernel
theorem dX7_init_127 : decode cX7_init 127 = .ok (.newarray .long, 2) := by decide +kernel
theorem dX7_init_129 : decode cX7_init 129 = .ok (.putfield 55, 3) := by decide +kernel
theorem dX7_init_132 : decode cX7_init 132 = .ok (.aload_n 0, 1) := by decide +kernel
theorem dX7_init_133 : decode cX7_init 133 = .ok (.bipush 54, 2) := by decide +kernel
theorem dX7_init_135 : decode cX7_init 135 = .ok (.newarray .long, 2) := by decide +kernel
theorem dX7_init_137 : decode cX7_init 137 = .ok (.putfield 59, 3) := by decide +kernel
theorem dX7_init_140 : decode cX7_init 140 = .ok (.aload_n 0, 1) := by decide +kernel
theorem dX7_init_141 : decode cX7_init 141 = .ok (.bipush 54, 2) := by decide +kernel
theorem dX7_init_143 : decode cX7_init 143 = .ok (.newarray .int, 2) := by decide +kernel
theorem dX7_init_145 : decode cX7_init 145 = .ok (.putfield 62, 3) := by decide +kernel
theorem dX7_init_148 : decode cX7_init 148 = .ok (.aload_n 0, 1) := by decide +kernel
theorem dX7_init_149 : decode cX7_init 149 = .ok (.iconst 4, 1) := by decide +kernel
theorem dX7_init_150 : decode cX7_init 150 = .ok (.newarray .long, 2) := by decide +kernel
theorem dX7_init_152 : decode cX7_init 152 = .ok (.putfield 65, 3) := by decide +kernel
theorem dX7_init_155 : decode cX7_init 155 = .ok (.aload_n 0, 1) := by decide +kernel
theorem dX7_init_156 : decode cX7_init 156 = .ok (.iconst 4, 1) := by decide +kernel
theorem dX7_init_157 : decode cX7_init 157 = .ok (.newarray .long, 2) := by decide +kernel
theorem dX7_init_159 : decode cX7_init 159 = .ok (.putfield 68, 3) := by decide +kernel
theorem dX7_init_162 : decode cX7_init 162 = .ok (.aload_n 0, 1) := by decide +kernel
theorem dX7_init_163 : decode cX7_init 163 = .ok (.bipush 8, 2) := by decide +kernel
theorem dX7_init_165 : decode cX7_init 165 = .ok (.newarray .int, 2) := by decide +kernel
theorem dX7_init_167 : decode cX7_init 167 = .ok (.putfield 71, 3) := by decide +kernel
theorem dX7_init_170 : decode cX7_init 170 = .ok (.aload_n 0, 1) := by decide +kernel
theorem dX7_init_171 : decode cX7_init 171 = .ok (.bipush 8, 2) := by decide +kernel
theorem dX7_init_173 : decode cX7_init 173 = .ok (.newarray .int, 2) := by decide +kernel
theorem dX7_init_175 : decode cX7_init 175 = .ok (.putfield 74, 3) := by decide +kernel
theorem dX7_init_178 : decode cX7_init 178 = .ok (.aload_n 0, 1) := by decide +kernel
theorem dX7_init_179 : decode cX7_init 179 = .ok (.bipush 8, 2) := by decide +kernel
theorem dX7_init_181 : decode cX7_init 181 = .ok (.newarray .int, 2) := by decide +kernel
theorem dX7_init_183 : decode cX7_init 183 = .ok (.putfield 77, 3) := by decide +kernel
theorem dX7_init_186 : decode cX7_init 186 = .ok (.aload_n 0, 1) := by decide +kernel
theorem dX7_init_187 : decode cX7_init 187 = .ok (.bipush 100, 2) := by decide +kernel
theorem dX7_init_189 : decode cX7_init 189 = .ok (.putfield 80, 3) := by decide +kernel
theorem dX7_init_192 : decode cX7_init 192 = .ok (.return_, 1) := by decide +kernel
theorem dX7_in_0 : decode cX7_in 0 = .ok (.iload_n 0, 1) := by decide +kernel
theorem dX7_in_1 : decode cX7_in 1 = .ok (.iload_n 1, 1) := by decide +kernel
theorem dX7_in_2 : decode cX7_in 2 = .ok (.if_icmp .lt 12, 3) := by decide +kernel
theorem dX7_in_5 : decode cX7_in 5 = .ok (.iload_n 0, 1) := by decide +kernel
theorem dX7_in_6 : decode cX7_in 6 = .ok (.iload_n 2, 1) := by decide +kernel
theorem dX7_in_7 : decode cX7_in 7 = .ok (.if_icmp .gt 7, 3) := by decide +kernel
theorem dX7_in_10 : decode cX7_in 10 = .ok (.iconst 1, 1) := by decide +kernel
theorem dX7_in_11 : decode cX7_in 11 = .ok (.goto 4, 3) := by decide +kernel
theorem dX7_in_14 : decode cX7_in 14 = .ok (.iconst 0, 1) := by decide +kernel
theorem dX7_in_15 : decode cX7_in 15 = .ok (.ireturn, 1) := by decide +kernel
theorem dX7_lost_0 : decode cX7_lost 0 = .ok (.ldc2_w 84, 3) := by decide +kernel
theorem dX7_lost_3 : decode cX7_lost 3 = .ok (.lreturn, 1) := by decide +kernel
theorem dX7_least_0 : decode cX7_least 0 = .ok (.lload_n 0, 1) := by decide +kernel
theorem dX7_least_1 : decode cX7_least 1 = .ok (.lload_n 2, 1) := by decide +kernel
theorem dX7_least_2 : decode cX7_least 2 = .ok (.lcmp, 1) := by decide +kernel
theorem dX7_least_3 : decode cX7_least 3 = .ok (.ifCond .ge 7, 3) := by decide +kernel
theorem dX7_least_6 : decode cX7_least 6 = .ok (.lload_n 0, 1) := by decide +kernel
theorem dX7_least_7 : decode cX7_least 7 = .ok (.goto 4, 3) := by decide +kernel
theorem dX7_least_10 : decode cX7_least 10 = .ok (.lload_n 2, 1) := by decide +kernel
theorem dX7_least_11 : decode cX7_least 11 = .ok (.lreturn, 1) := by decide +kernel
theorem dX7_most_0 : decode cX7_most 0 = .ok (.lload_n 0, 1) := by decide +kernel
theorem dX7_most_1 : decode cX7_most 1 = .ok (.lload_n 2, 1) := by decide +kernel
theorem dX7_most_2 : decode cX7_most 2 = .ok (.lcmp, 1) := by decide +kernel
theorem dX7_most_3 : decode cX7_most 3 = .ok (.ifCond .le 7, 3) := by decide +kernel
theorem dX7_most_6 : decode cX7_most 6 = .ok (.lload_n 0, 1) := by decide +kernel
theorem dX7_most_7 : decode cX7_most 7 = .ok (.goto 4, 3) := by decide +kernel
theorem dX7_most_10 : decode cX7_most 10 = .ok (.lload_n 2, 1) := by decide +kernel
theorem dX7_most_11 : decode cX7_most 11 = .ok (.lreturn, 1) := by decide +kernel
theorem dX7_noFigure_0 : decode cX7_noFigure 0 = .ok (.iload_n 1, 1) := by decide +kernel
theorem dX7_noFigure_1 : decode cX7_noFigure 1 = .ok (.iconst 0, 1) := by decide +kernel
theorem dX7_noFigure_2 : decode cX7_noFigure 2 = .ok (.aload_n 0, 1) := by decide +kernel
theorem dX7_noFigure_3 : decode cX7_noFigure 3 = .ok (.getfield 86, 3) := by decide +kernel
theorem dX7_noFigure_6 : decode cX7_noFigure 6 = .ok (.iconst 1, 1) := by decide +kernel
theorem dX7_noFigure_7 : decode cX7_noFigure 7 = .ok (.isub, 1) := by decide +kernel
theorem dX7_noFigure_8 : decode cX7_noFigure 8 = .ok (.invokestatic 89, 3) := by decide +kernel
theorem dX7_noFigure_11 : decode cX7_noFigure 11 = .ok (.ifCond .ne 7, 3) := by decide +kernel
theorem dX7_noFigure_14 : decode cX7_noFigure 14 = .ok (.iconst 1, 1) := by decide +kernel
theorem dX7_noFigure_15 : decode cX7_noFigure 15 = .ok (.goto 4, 3) := by decide +kernel
theorem dX7_noFigure_18 : decode cX7_noFigure 18 = .ok (.iconst 0, 1) := by decide +kernel
theorem dX7_noFigure_19 : decode cX7_noFigure 19 = .ok (.ireturn, 1) := by decide +kernel
theorem dX7_noLimb_0 : decode cX7_noLimb 0 = .ok (.iload_n 2, 1) := by decide +kernel
theorem dX7_noLimb_1 : decode cX7_noLimb 1 = .ok (.iconst 0, 1) := by decide +kernel
theorem dX7_noLimb_2 : decode cX7_noLimb 2 = .ok (.aload_n 0, 1) := by decide +kernel
theorem dX7_noLimb_3 : decode cX7_noLimb 3 = .ok (.getfield 19, 3) := by decide +kernel
theorem dX7_noLimb_6 : decode cX7_noLimb 6 = .ok (.iload_n 1, 1) := by decide +kernel
theorem dX7_noLimb_7 : decode cX7_noLimb 7 = .ok (.iaload, 1) := by decide +kernel
theorem dX7_noLimb_8 : decode cX7_noLimb 8 = .ok (.iconst 1, 1) := by decide +kernel
theorem dX7_noLimb_9 : decode cX7_noLimb 9 = .ok (.isub, 1) := by decide +kernel
theorem dX7_noLimb_10 : decode cX7_noLimb 10 = .ok (.invokestatic 89, 3) := by decide +kernel
theorem dX7_noLimb_13 : decode cX7_noLimb 13 = .ok (.ifCond .ne 7, 3) := by decide +kernel
theorem dX7_noLimb_16 : decode cX7_noLimb 16 = .ok (.iconst 1, 1) := by decide +kernel
theorem dX7_noLimb_17 : decode cX7_noLimb 17 = .ok (.goto 4, 3) := by decide +kernel
theorem dX7_noLimb_20 : decode cX7_noLimb 20 = .ok (.iconst 0, 1) := by decide +kernel
theorem dX7_noLimb_21 : decode cX7_noLimb 21 = .ok (.ireturn, 1) := by decide +kernel
theorem dX7_isBeat_0 : decode cX7_isBeat 0 = .ok (.iload_n 0, 1) := by decide +kernel
theorem dX7_isBeat_1 : decode cX7_isBeat 1 = .ok (.iconst 0, 1) := by decide +kernel
theorem dX7_isBeat_2 : decode cX7_isBeat 2 = .ok (.bipush 99, 2) := by decide +kernel
theorem dX7_isBeat_4 : decode cX7_isBeat 4 = .ok (.invokestatic 89, 3) := by decide +kernel
theorem dX7_isBeat_7 : decode cX7_isBeat 7 = .ok (.ireturn, 1) := by decide +kernel
theorem dX7_setDistance_0 : decode cX7_setDistance 0 = .ok (.iload_n 1, 1) := by decide +kernel
theorem dX7_setDistance_1 : decode cX7_setDistance 1 = .ok (.bipush 10, 2) := by decide +kernel
theorem dX7_setDistance_3 : decode cX7_setDistance 3 = .ok (.sipush 200, 3) := by decide +kernel
theorem dX7_setDistance_6 : decode cX7_setDistance 6 = .ok (.invokestatic 89, 3) := by decide +kernel
theorem dX7_setDistance_9 : decode cX7_setDistance 9 = .ok (.ifCond .ne 6, 3) := by decide +kernel
theorem dX7_setDistance_12 : decode cX7_setDistance 12 = .ok (.bipush (-3), 2) := by decide +kernel
theorem dX7_setDistance_14 : decode cX7_setDistance 14 = .ok (.ireturn, 1) := by decide +kernel
theorem dX7_setDistance_15 : decode cX7_setDistance 15 = .ok (.aload_n 0, 1) := by decide +kernel
theorem dX7_setDistance_16 : decode cX7_setDistance 16 = .ok (.getfield 80, 3) := by decide +kernel
theorem dX7_setDistance_19 : decode cX7_setDistance 19 = .ok (.istore_n 2, 1) := by decide +kernel
theorem dX7_setDistance_20 : decode cX7_setDistance 20 = .ok (.aload_n 0, 1) := by decide +kernel
theorem dX7_setDistance_21 : decode cX7_setDistance 21 = .ok (.iload_n 1, 1) := by decide +kernel
theorem dX7_setDistance_22 : decode cX7_setDistance 22 = .ok (.putfield 80, 3) := by decide +kernel
theorem dX7_setDistance_25 : decode cX7_setDistance 25 = .ok (.iload_n 2, 1) := by decide +kernel
theorem dX7_setDistance_26 : decode cX7_setDistance 26 = .ok (.ireturn, 1) := by decide +kernel
theorem dX7_addFigure_0 : decode cX7_addFigure 0 = .ok (.iload_n 1, 1) := by decide +kernel
theorem dX7_addFigure_1 : decode cX7_addFigure 1 = .ok (.bipush (-100), 2) := by decide +kernel
theorem dX7_addFigure_3 : decode cX7_addFigure 3 = .ok (.bipush 100, 2) := by decide +kernel
theorem dX7_addFigure_5 : decode cX7_addFigure 5 = .ok (.invokestatic 89, 3) := by decide +kernel
theorem dX7_addFigure_8 : decode cX7_addFigure 8 = .ok (.ifCond .eq 26, 3) := by decide +kernel
theorem dX7_addFigure_11 : decode cX7_addFigure 11 = .ok (.iload_n 2, 1) := by decide +kernel
theorem dX7_addFigure_12 : decode cX7_addFigure 12 = .ok (.bipush (-100), 2) := by decide +kernel
theorem dX7_addFigure_14 : decode cX7_addFigure 14 = .ok (.bipush 100, 2) := by decide +kernel
theorem dX7_addFigure_16 : decode cX7_addFigure 16 = .ok (.invokestatic 89, 3) := by decide +kernel
theorem dX7_addFigure_19 : decode cX7_addFigure 19 = .ok (.ifCond .eq 15, 3) := by decide +kernel
theorem dX7_addFigure_22 : decode cX7_addFigure 22 = .ok (.iload_n 3, 1) := by decide +kernel
theorem dX7_addFigure_23 : decode cX7_addFigure 23 = .ok (.iconst 1, 1) := by decide +kernel
theorem dX7_addFigure_24 : decode cX7_addFigure 24 = .ok (.aload_n 0, 1) := by decide +kernel
theorem dX7_addFigure_25 : decode cX7_addFigure 25 = .ok (.getfield 80, 3) := by decide +kernel
theorem dX7_addFigure_28 : decode cX7_addFigure 28 = .ok (.invokestatic 89, 3) := by decide +kernel
theorem dX7_addFigure_31 : decode cX7_addFigure 31 = .ok (.ifCond .ne 6, 3) := by decide +kernel
theorem dX7_addFigure_34 : decode cX7_addFigure 34 = .ok (.bipush (-3), 2) := by decide +kernel
theorem dX7_addFigure_36 : decode cX7_addFigure 36 = .ok (.ireturn, 1) := by decide +kernel
theorem dX7_addFigure_37 : decode cX7_addFigure 37 = .ok (.aload_n 0, 1) := by decide +kernel
theorem dX7_addFigure_38 : decode cX7_addFigure 38 = .ok (.getfield 86, 3) := by decide +kernel
theorem dX7_addFigure_41 : decode cX7_addFigure 41 = .ok (.bipush 6, 2) := by decide +kernel
theorem dX7_addFigure_43 : decode cX7_addFigure 43 = .ok (.if_icmp .ne 6, 3) := by decide +kernel
theorem dX7_addFigure_46 : decode cX7_addFigure 46 = .ok (.bipush (-4), 2) := by decide +kernel
theorem dX7_addFigure_48 : decode cX7_addFigure 48 = .ok (.ireturn, 1) := by decide +kernel
theorem dX7_addFigure_49 : decode cX7_addFigure 49 = .ok (.aload_n 0, 1) := by decide +kernel
theorem dX7_addFigure_50 : decode cX7_addFigure 50 = .ok (.getfield 7, 3) := by decide +kernel
theorem dX7_addFigure_53 : decode cX7_addFigure 53 = .ok (.aload_n 0, 1) := by decide +kernel
theorem dX7_addFigure_54 : decode cX7_addFigure 54 = .ok (.getfield 86, 3) := by decide +kernel
theorem dX7_addFigure_57 : decode cX7_addFigure 57 = .ok (.iload_n 1, 1) := by decide +kernel
theorem dX7_addFigure_58 : decode cX7_addFigure 58 = .ok (.iastore, 1) := by decide +kernel
theorem dX7_addFigure_59 : decode cX7_addFigure 59 = .ok (.aload_n 0, 1) := by decide +kernel
theorem dX7_addFigure_60 : decode cX7_addFigure 60 = .ok (.getfield 13, 3) := by decide +kernel
theorem dX7_addFigure_63 : decode cX7_addFigure 63 = .ok (.aload_n 0, 1) := by decide +kernel
theorem dX7_addFigure_64 : decode cX7_addFigure 64 = .ok (.getfield 86, 3) := by decide +kernel
theorem dX7_addFigure_67 : decode cX7_addFigure 67 = .ok (.iload_n 2, 1) := by decide +kernel
theorem dX7_addFigure_68 : decode cX7_addFigure 68 = .ok (.iastore, 1) := by decide +kernel
theorem dX7_addFigure_69 : decode cX7_addFigure 69 = .ok (.aload_n 0, 1) := by decide +kernel
theorem dX7_addFigure_70 : decode cX7_addFigure 70 = .ok (.getfield 16, 3) := by decide +kernel
theorem dX7_addFigure_73 : decode cX7_addFigure 73 = .ok (.aload_n 0, 1) := by decide +kernel
theorem dX7_addFigure_74 : decode cX7_addFigure 74 = .ok (.getfield 86, 3) := by decide +kernel
theorem dX7_addFigure_77 : decode cX7_addFigure 77 = .ok (.iload_n 3, 1) := by decide +kernel
theorem dX7_addFigure_78 : decode cX7_addFigure 78 = .ok (.iastore, 1) := by decide +kernel
theorem dX7_addFigure_79 : decode cX7_addFigure 79 = .ok (.aload_n 0, 1) := by decide +kernel
theorem dX7_addFigure_80 : decode cX7_addFigure 80 = .ok (.getfield 19, 3) := by decide +kernel
theorem dX7_addFigure_83 : decode cX7_addFigure 83 = .ok (.aload_n 0, 1) := by decide +kernel
theorem dX7_addFigure_84 : decode cX7_addFigure 84 = .ok (.getfield 86, 3) := by decide +kernel
theorem dX7_addFigure_87 : decode cX7_addFigure 87 = .ok (.iconst 0, 1) := by decide +kernel
theorem dX7_addFigure_88 : decode cX7_addFigure 88 = .ok (.iastore, 1) := by decide +kernel
theorem dX7_addFigure_89 : decode cX7_addFigure 89 = .ok (.aload_n 0, 1) := by decide +kernel
theorem dX7_addFigure_90 : decode cX7_addFigure 90 = .ok (.dup, 1) := by decide +kernel
theorem dX7_addFigure_91 : decode cX7_addFigure 91 = .ok (.getfield 86, 3) := by decide +kernel
theorem dX7_addFigure_94 : decode cX7_addFigure 94 = .ok (.iconst 1, 1) := by decide +kernel
theorem dX7_addFigure_95 : decode cX7_addFigure 95 = .ok (.iadd, 1) := by decide +kernel
theorem dX7_addFigure_96 : decode cX7_addFigure 96 = .ok (.putfield 86, 3) := by decide +kernel
theorem dX7_addFigure_99 : decode cX7_addFigure 99 = .ok (.aload_n 0, 1) := by decide +kernel
theorem dX7_addFigure_100 : decode cX7_addFigure 100 = .ok (.getfield 86, 3) := by decide +kernel
theorem dX7_addFigure_103 : decode cX7_addFigure 103 = .ok (.iconst 1, 1) := by decide +kernel
theorem dX7_addFigure_104 : decode cX7_addFigure 104 = .ok (.isub, 1) := by decide +kernel
theorem dX7_addFigure_105 : decode cX7_addFigure 105 = .ok (.ireturn, 1) := by decide +kernel
theorem dX7_addLimb_0 : decode cX7_addLimb 0 = .ok (.aload_n 0, 1) := by decide +kernel
theorem dX7_addLimb_1 : decode cX7_addLimb 1 = .ok (.iload_n 1, 1) := by decide +kernel
theorem dX7_addLimb_2 : decode cX7_addLimb 2 = .ok (.invokevirtual 93, 3) := by decide +kernel
theorem dX7_addLimb_5 : decode cX7_addLimb 5 = .ok (.ifCond .eq 5, 3) := by decide +kernel
theorem dX7_addLimb_8 : decode cX7_addLimb 8 = .ok (.iconst (-1), 1) := by decide +kernel
theorem dX7_addLimb_9 : decode cX7_addLimb 9 = .ok (.ireturn, 1) := by decide +kernel
theorem dX7_addLimb_10 : decode cX7_addLimb 10 = .ok (.iload_n 2, 1) := by decide +kernel
theorem dX7_addLimb_11 : decode cX7_addLimb 11 = .ok (.iconst (-1), 1) := by decide +kernel
theorem dX7_addLimb_12 : decode cX7_addLimb 12 = .ok (.if_icmp .eq 15, 3) := by decide +kernel
theorem dX7_addLimb_15 : decode cX7_addLimb 15 = .ok (.aload_n 0, 1) := by decide +kernel
theorem dX7_addLimb_16 : decode cX7_addLimb 16 = .ok (.iload_n 1, 1) := by decide +kernel
theorem dX7_addLimb_17 : decode cX7_addLimb 17 = .ok (.iload_n 2, 1) := by decide +kernel
theorem dX7_addLimb_18 : decode cX7_addLimb 18 = .ok (.invokevirtual 97, 3) := by decide +kernel
theorem dX7_addLimb_21 : decode cX7_addLimb 21 = .ok (.ifCond .eq 6, 3) := by decide +kernel
theorem dX7_addLimb_24 : decode cX7_addLimb 24 = .ok (.bipush (-2), 2) := by decide +kernel
theorem dX7_addLimb_26 : decode cX7_addLimb 26 = .ok (.ireturn, 1) := by decide +kernel
theorem dX7_addLimb_27 : decode cX7_addLimb 27 = .ok (.iload_n 3, 1) := by decide +kernel
theorem dX7_addLimb_28 : decode cX7_addLimb 28 = .ok (.iconst 1, 1) := by decide +kernel
theorem dX7_addLimb_29 : decode cX7_addLimb 29 = .ok (.bipush 20, 2) := by decide +kernel
theorem dX7_addLimb_31 : decode cX7_addLimb 31 = .ok (.invokestatic 89, 3) := by decide +kernel
theorem dX7_addLimb_34 : decode cX7_addLimb 34 = .ok (.ifCond .eq 14, 3) := by decide +kernel
theorem dX7_addLimb_37 : decode cX7_addLimb 37 = .ok (.iload 4, 2) := by decide +kernel
theorem dX7_addLimb_39 : decode cX7_addLimb 39 = .ok (.iconst 0, 1) := by decide +kernel
theorem dX7_addLimb_40 : decode cX7_addLimb 40 = .ok (.bipush 7, 2) := by decide +kernel
theorem dX7_addLimb_42 : decode cX7_addLimb 42 = .ok (.invokestatic 89, 3) := by decide +kernel
theorem dX7_addLimb_45 : decode cX7_addLimb 45 = .ok (.ifCond .ne 6, 3) := by decide +kernel
theorem dX7_addLimb_48 : decode cX7_addLimb 48 = .ok (.bipush (-3), 2) := by decide +kernel
theorem dX7_addLimb_50 : decode cX7_addLimb 50 = .ok (.ireturn, 1) := by decide +kernel
theorem dX7_addLimb_51 : decode cX7_addLimb 51 = .ok (.aload_n 0, 1) := by decide +kernel
theorem dX7_addLimb_52 : decode cX7_addLimb 52 = .ok (.getfield 19, 3) := by decide +kernel
theorem dX7_addLimb_55 : decode cX7_addLimb 55 = .ok (.iload_n 1, 1) := by decide +kernel
theorem dX7_addLimb_56 : decode cX7_addLimb 56 = .ok (.iaload, 1) := by decide +kernel
theorem dX7_addLimb_57 : decode cX7_addLimb 57 = .ok (.bipush 8, 2) := by decide +kernel
theorem dX7_addLimb_59 : decode cX7_addLimb 59 = .ok (.if_icmp .ne 6, 3) := by decide +kernel
theorem dX7_addLimb_62 : decode cX7_addLimb 62 = .ok (.bipush (-4), 2) := by decide +kernel
theorem dX7_addLimb_64 : decode cX7_addLimb 64 = .ok (.ireturn, 1) := by decide +kernel
theorem dX7_addLimb_65 : decode cX7_addLimb 65 = .ok (.bipush 8, 2) := by decide +kernel
theorem dX7_addLimb_67 : decode cX7_addLimb 67 = .ok (.iload_n 1, 1) := by decide +kernel
theorem dX7_addLimb_68 : decode cX7_addLimb 68 = .ok (.imul, 1) := by decide +kernel
theorem dX7_addLimb_69 : decode cX7_addLimb 69 = .ok (.aload_n 0, 1) := by decide +kernel
theorem dX7_addLimb_70 : decode cX7_addLimb 70 = .ok (.getfield 19, 3) := by decide +kernel
theorem dX7_addLimb_73 : decode cX7_addLimb 73 = .ok (.iload_n 1, 1) := by decide +kernel
theorem dX7_addLimb_74 : decode cX7_addLimb 74 = .ok (.iaload, 1) := by decide +kernel
theorem dX7_addLimb_75 : decode cX7_addLimb 75 = .ok (.iadd, 1) := by decide +kernel
theorem dX7_addLimb_76 : decode cX7_addLimb 76 = .ok (.istore 5, 2) := by decide +kernel
theorem dX7_addLimb_78 : decode cX7_addLimb 78 = .ok (.aload_n 0, 1) := by decide +kernel
theorem dX7_addLimb_79 : decode cX7_addLimb 79 = .ok (.getfield 22, 3) := by decide +kernel
theorem dX7_addLimb_82 : decode cX7_addLimb 82 = .ok (.iload 5, 2) := by decide +kernel
theorem dX7_addLimb_84 : decode cX7_addLimb 84 = .ok (.iload_n 2, 1) := by decide +kernel
theorem dX7_addLimb_85 : decode cX7_addLimb 85 = .ok (.iastore, 1) := by decide +kernel
theorem dX7_addLimb_86 : decode cX7_addLimb 86 = .ok (.aload_n 0, 1) := by decide +kernel
theorem dX7_addLimb_87 : decode cX7_addLimb 87 = .ok (.getfield 25, 3) := by decide +kernel
theorem dX7_addLimb_90 : decode cX7_addLimb 90 = .ok (.iload 5, 2) := by decide +kernel
theorem dX7_addLimb_92 : decode cX7_addLimb 92 = .ok (.iload_n 3, 1) := by decide +kernel
theorem dX7_addLimb_93 : decode cX7_addLimb 93 = .ok (.iastore, 1) := by decide +kernel
theorem dX7_addLimb_94 : decode cX7_addLimb 94 = .ok (.aload_n 0, 1) := by decide +kernel
theorem dX7_addLimb_95 : decode cX7_addLimb 95 = .ok (.getfield 28, 3) := by decide +kernel
theorem dX7_addLimb_98 : decode cX7_addLimb 98 = .ok (.iload 5, 2) := by decide +kernel
theorem dX7_addLimb_100 : decode cX7_addLimb 100 = .ok (.iload 4, 2) := by decide +kernel
theorem dX7_addLimb_102 : decode cX7_addLimb 102 = .ok (.iastore, 1) := by decide +kernel
theorem dX7_addLimb_103 : decode cX7_addLimb 103 = .ok (.aload_n 0, 1) := by decide +kernel
theorem dX7_addLimb_104 : decode cX7_addLimb 104 = .ok (.getfield 19, 3) := by decide +kernel
theorem dX7_addLimb_107 : decode cX7_addLimb 107 = .ok (.iload_n 1, 1) := by decide +kernel
theorem dX7_addLimb_108 : decode cX7_addLimb 108 = .ok (.dup2, 1) := by decide +kernel
theorem dX7_addLimb_109 : decode cX7_addLimb 109 = .ok (.iaload, 1) := by decide +kernel
theorem dX7_addLimb_110 : decode cX7_addLimb 110 = .ok (.iconst 1, 1) := by decide +kernel
theorem dX7_addLimb_111 : decode cX7_addLimb 111 = .ok (.iadd, 1) := by decide +kernel
theorem dX7_addLimb_112 : decode cX7_addLimb 112 = .ok (.iastore, 1) := by decide +kernel
theorem dX7_addLimb_113 : decode cX7_addLimb 113 = .ok (.aload_n 0, 1) := by decide +kernel
theorem dX7_addLimb_114 : decode cX7_addLimb 114 = .ok (.getfield 19, 3) := by decide +kernel
theorem dX7_addLimb_117 : decode cX7_addLimb 117 = .ok (.iload_n 1, 1) := by decide +kernel
theorem dX7_addLimb_118 : decode cX7_addLimb 118 = .ok (.iaload, 1) := by decide +kernel
theorem dX7_addLimb_119 : decode cX7_addLimb 119 = .ok (.iconst 1, 1) := by decide +kernel
theorem dX7_addLimb_120 : decode cX7_addLimb 120 = .ok (.isub, 1) := by decide +kernel
theorem dX7_addLimb_121 : decode cX7_addLimb 121 = .ok (.ireturn, 1) := by decide +kernel
theorem dX7_count_0 : decode cX7_count 0 = .ok (.iconst 0, 1) := by decide +kernel
theorem dX7_count_1 : decode cX7_count 1 = .ok (.istore_n 2, 1) := by decide +kernel
theorem dX7_count_2 : decode cX7_count 2 = .ok (.iconst 0, 1) := by decide +kernel
theorem dX7_count_3 : decode cX7_count 3 = .ok (.istore_n 3, 1) := by decide +kernel
theorem dX7_count_4 : decode cX7_count 4 = .ok (.iload_n 3, 1) := by decide +kernel
theorem dX7_count_5 : decode cX7_count 5 = .ok (.aload_n 0, 1) := by decide +kernel
theorem dX7_count_6 : decode cX7_count 6 = .ok (.getfield 86, 3) := by decide +kernel
theorem dX7_count_9 : decode cX7_count 9 = .ok (.if_icmp .ge 18, 3) := by decide +kernel
theorem dX7_count_12 : decode cX7_count 12 = .ok (.iload_n 2, 1) := by decide +kernel
theorem dX7_count_13 : decode cX7_count 13 = .ok (.aload_n 0, 1) := by decide +kernel
theorem dX7_count_14 : decode cX7_count 14 = .ok (.getfield 19, 3) := by decide +kernel
theorem dX7_count_17 : decode cX7_count 17 = .ok (.iload_n 3, 1) := by decide +kernel
theorem dX7_count_18 : decode cX7_count 18 = .ok (.iaload, 1) := by decide +kernel
theorem dX7_count_19 : decode cX7_count 19 = .ok (.iadd, 1) := by decide +kernel
theorem dX7_count_20 : decode cX7_count 20 = .ok (.istore_n 2, 1) := by decide +kernel
theorem dX7_count_21 : decode cX7_count 21 = .ok (.iinc 3 1, 3) := by decide +kernel
theorem dX7_count_24 : decode cX7_count 24 = .ok (.goto (-20), 3) := by decide +kernel
theorem dX7_count_27 : decode cX7_count 27 = .ok (.iload_n 1, 1) := by decide +kernel
theorem dX7_count_28 : decode cX7_count 28 = .ok (.ifCond .ne 10, 3) := by decide +kernel
theorem dX7_count_31 : decode cX7_count 31 = .ok (.aload_n 0, 1) := by decide +kernel
theorem dX7_count_32 : decode cX7_count 32 = .ok (.getfield 86, 3) := by decide +kernel
theorem dX7_count_35 : decode cX7_count 35 = .ok (.goto 38, 3) := by decide +kernel
theorem dX7_count_38 : decode cX7_count 38 = .ok (.iload_n 1, 1) := by decide +kernel
theorem dX7_count_39 : decode cX7_count 39 = .ok (.iconst 1, 1) := by decide +kernel
theorem dX7_count_40 : decode cX7_count 40 = .ok (.if_icmp .ne 10, 3) := by decide +kernel
theorem dX7_count_43 : decode cX7_count 43 = .ok (.aload_n 0, 1) := by decide +kernel
theorem dX7_count_44 : decode cX7_count 44 = .ok (.getfield 101, 3) := by decide +kernel
theorem dX7_count_47 : decode cX7_count 47 = .ok (.goto 26, 3) := by decide +kernel
theorem dX7_count_50 : decode cX7_count 50 = .ok (.iload_n 1, 1) := by decide +kernel
theorem dX7_count_51 : decode cX7_count 51 = .ok (.iconst 2, 1) := by decide +kernel
theorem dX7_count_52 : decode cX7_count 52 = .ok (.if_icmp .ne 10, 3) := by decide +kernel
theorem dX7_count_55 : decode cX7_count 55 = .ok (.aload_n 0, 1) := by decide +kernel
theorem dX7_count_56 : decode cX7_count 56 = .ok (.getfield 104, 3) := by decide +kernel
theorem dX7_count_59 : decode cX7_count 59 = .ok (.goto 14, 3) := by decide +kernel
theorem dX7_count_62 : decode cX7_count 62 = .ok (.iload_n 1, 1) := by decide +kernel
theorem dX7_count_63 : decode cX7_count 63 = .ok (.iconst 3, 1) := by decide +kernel
theorem dX7_count_64 : decode cX7_count 64 = .ok (.if_icmp .ne 7, 3) := by decide +kernel
theorem dX7_count_67 : decode cX7_count 67 = .ok (.iload_n 2, 1) := by decide +kernel
theorem dX7_count_68 : decode cX7_count 68 = .ok (.goto 5, 3) := by decide +kernel
theorem dX7_count_71 : decode cX7_count 71 = .ok (.bipush (-3), 2) := by decide +kernel
theorem dX7_count_73 : decode cX7_count 73 = .ok (.ireturn, 1) := by decide +kernel
theorem dX7_addMove_0 : decode cX7_addMove 0 = .ok (.aload_n 0, 1) := by decide +kernel
theorem dX7_addMove_1 : decode cX7_addMove 1 = .ok (.getfield 101, 3) := by decide +kernel
theorem dX7_addMove_4 : decode cX7_addMove 4 = .ok (.bipush 60, 2) := by decide +kernel
theorem dX7_addMove_6 : decode cX7_addMove 6 = .ok (.if_icmp .ne 6, 3) := by decide +kernel
theorem dX7_addMove_9 : decode cX7_addMove 9 = .ok (.bipush (-4), 2) := by decide +kernel
theorem dX7_addMove_11 : decode cX7_addMove 11 = .ok (.ireturn, 1) := by decide +kernel
theorem dX7_addMove_12 : decode cX7_addMove 12 = .ok (.aload_n 0, 1) := by decide +kernel
theorem dX7_addMove_13 : decode cX7_addMove 13 = .ok (.getfield 31, 3) := by decide +kernel
theorem dX7_addMove_16 : decode cX7_addMove 16 = .ok (.aload_n 0, 1) := by decide +kernel
theorem dX7_addMove_17 : decode cX7_addMove 17 = .ok (.getfield 101, 3) := by decide +kernel
theorem dX7_addMove_20 : decode cX7_addMove 20 = .ok (.iload_n 1, 1) := by decide +kernel
theorem dX7_addMove_21 : decode cX7_addMove 21 = .ok (.iastore, 1) := by decide +kernel
theorem dX7_addMove_22 : decode cX7_addMove 22 = .ok (.aload_n 0, 1) := by decide +kernel
theorem dX7_addMove_23 : decode cX7_addMove 23 = .ok (.getfield 34, 3) := by decide +kernel
theorem dX7_addMove_26 : decode cX7_addMove 26 = .ok (.aload_n 0, 1) := by decide +kernel
theorem dX7_addMove_27 : decode cX7_addMove 27 = .ok (.getfield 101, 3) := by decide +kernel
theorem dX7_addMove_30 : decode cX7_addMove 30 = .ok (.iload_n 2, 1) := by decide +kernel
theorem dX7_addMove_31 : decode cX7_addMove 31 = .ok (.iastore, 1) := by decide +kernel
theorem dX7_addMove_32 : decode cX7_addMove 32 = .ok (.aload_n 0, 1) := by decide +kernel
theorem dX7_addMove_33 : decode cX7_addMove 33 = .ok (.getfield 37, 3) := by decide +kernel
theorem dX7_addMove_36 : decode cX7_addMove 36 = .ok (.aload_n 0, 1) := by decide +kernel
theorem dX7_addMove_37 : decode cX7_addMove 37 = .ok (.getfield 101, 3) := by decide +kernel
theorem dX7_addMove_40 : decode cX7_addMove 40 = .ok (.iload_n 3, 1) := by decide +kernel
theorem dX7_addMove_41 : decode cX7_addMove 41 = .ok (.iastore, 1) := by decide +kernel
theorem dX7_addMove_42 : decode cX7_addMove 42 = .ok (.aload_n 0, 1) := by decide +kernel
theorem dX7_addMove_43 : decode cX7_addMove 43 = .ok (.getfield 40, 3) := by decide +kernel
theorem dX7_addMove_46 : decode cX7_addMove 46 = .ok (.aload_n 0, 1) := by decide +kernel
theorem dX7_addMove_47 : decode cX7_addMove 47 = .ok (.getfield 101, 3) := by decide +kernel
theorem dX7_addMove_50 : decode cX7_addMove 50 = .ok (.iload 4, 2) := by decide +kernel
theorem dX7_addMove_52 : decode cX7_addMove 52 = .ok (.iastore, 1) := by decide +kernel
theorem dX7_addMove_53 : decode cX7_addMove 53 = .ok (.aload_n 0, 1) := by decide +kernel
theorem dX7_addMove_54 : decode cX7_addMove 54 = .ok (.getfield 43, 3) := by decide +kernel
theorem dX7_addMove_57 : decode cX7_addMove 57 = .ok (.aload_n 0, 1) := by decide +kernel
theorem dX7_addMove_58 : decode cX7_addMove 58 = .ok (.getfield 101, 3) := by decide +kernel
theorem dX7_addMove_61 : decode cX7_addMove 61 = .ok (.iload 5, 2) := by decide +kernel
theorem dX7_addMove_63 : decode cX7_addMove 63 = .ok (.iastore, 1) := by decide +kernel
theorem dX7_addMove_64 : decode cX7_addMove 64 = .ok (.aload_n 0, 1) := by decide +kernel
theorem dX7_addMove_65 : decode cX7_addMove 65 = .ok (.getfield 46, 3) := by decide +kernel
theorem dX7_addMove_68 : decode cX7_addMove 68 = .ok (.aload_n 0, 1) := by decide +kernel
theorem dX7_addMove_69 : decode cX7_addMove 69 = .ok (.getfield 101, 3) := by decide +kernel
theorem dX7_addMove_72 : decode cX7_addMove 72 = .ok (.iload 6, 2) := by decide +kernel
theorem dX7_addMove_74 : decode cX7_addMove 74 = .ok (.iastore, 1) := by decide +kernel
theorem dX7_addMove_75 : decode cX7_addMove 75 = .ok (.aload_n 0, 1) := by decide +kernel
theorem dX7_addMove_76 : decode cX7_addMove 76 = .ok (.dup, 1) := by decide +kernel
theorem dX7_addMove_77 : decode cX7_addMove 77 = .ok (.getfield 101, 3) := by decide +kernel
theorem dX7_addMove_80 : decode cX7_addMove 80 = .ok (.iconst 1, 1) := by decide +kernel
theorem dX7_addMove_81 : decode cX7_addMove 81 = .ok (.iadd, 1) := by decide +kernel
theorem dX7_addMove_82 : decode cX7_addMove 82 = .ok (.putfield 101, 3) := by decide +kernel
theorem dX7_addMove_85 : decode cX7_addMove 85 = .ok (.aload_n 0, 1) := by decide +kernel
theorem dX7_addMove_86 : decode cX7_addMove 86 = .ok (.getfield 101, 3) := by decide +kernel
theorem dX7_addMove_89 : decode cX7_addMove 89 = .ok (.iconst 1, 1) := by decide +kernel
theorem dX7_addMove_90 : decode cX7_addMove 90 = .ok (.isub, 1) := by decide +kernel
theorem dX7_addMove_91 : decode cX7_addMove 91 = .ok (.ireturn, 1) := by decide +kernel
theorem dX7_addTurn_0 : decode cX7_addTurn 0 = .ok (.aload_n 0, 1) := by decide +kernel
theorem dX7_addTurn_1 : decode cX7_addTurn 1 = .ok (.iload_n 2, 1) := by decide +kernel
theorem dX7_addTurn_2 : decode cX7_addTurn 2 = .ok (.invokevirtual 93, 3) := by decide +kernel
theorem dX7_addTurn_5 : decode cX7_addTurn 5 = .ok (.ifCond .eq 5, 3) := by decide +kernel
theorem dX7_addTurn_8 : decode cX7_addTurn 8 = .ok (.iconst (-1), 1) := by decide +kernel
theorem dX7_addTurn_9 : decode cX7_addTurn 9 = .ok (.ireturn, 1) := by decide +kernel
theorem dX7_addTurn_10 : decode cX7_addTurn 10 = .ok (.aload_n 0, 1) := by decide +kernel
theorem dX7_addTurn_11 : decode cX7_addTurn 11 = .ok (.iload_n 2, 1) := by decide +kernel
theorem dX7_addTurn_12 : decode cX7_addTurn 12 = .ok (.iload_n 3, 1) := by decide +kernel
theorem dX7_addTurn_13 : decode cX7_addTurn 13 = .ok (.invokevirtual 97, 3) := by decide +kernel
theorem dX7_addTurn_16 : decode cX7_addTurn 16 = .ok (.ifCond .eq 6, 3) := by decide +kernel
theorem dX7_addTurn_19 : decode cX7_addTurn 19 = .ok (.bipush (-2), 2) := by decide +kernel
theorem dX7_addTurn_21 : decode cX7_addTurn 21 = .ok (.ireturn, 1) := by decide +kernel
theorem dX7_addTurn_22 : decode cX7_addTurn 22 = .ok (.iload_n 1, 1) := by decide +kernel
theorem dX7_addTurn_23 : decode cX7_addTurn 23 = .ok (.invokestatic 107, 3) := by decide +kernel
theorem dX7_addTurn_26 : decode cX7_addTurn 26 = .ok (.ifCond .eq 20, 3) := by decide +kernel
theorem dX7_addTurn_29 : decode cX7_addTurn 29 = .ok (.iload 4, 2) := by decide +kernel
theorem dX7_addTurn_31 : decode cX7_addTurn 31 = .ok (.bipush (-7), 2) := by decide +kernel
theorem dX7_addTurn_33 : decode cX7_addTurn 33 = .ok (.bipush 7, 2) := by decide +kernel
theorem dX7_addTurn_35 : decode cX7_addTurn 35 = .ok (.invokestatic 89, 3) := by decide +kernel
theorem dX7_addTurn_38 : decode cX7_addTurn 38 = .ok (.ifCond .eq 8, 3) := by decide +kernel
theorem dX7_addTurn_41 : decode cX7_addTurn 41 = .ok (.iload 4, 2) := by decide +kernel
theorem dX7_addTurn_43 : decode cX7_addTurn 43 = .ok (.ifCond .ne 6, 3) := by decide +kernel
theorem dX7_addTurn_46 : decode cX7_addTurn 46 = .ok (.bipush (-3), 2) := by decide +kernel
theorem dX7_addTurn_48 : decode cX7_addTurn 48 = .ok (.ireturn, 1) := by decide +kernel
theorem dX7_addTurn_49 : decode cX7_addTurn 49 = .ok (.aload_n 0, 1) := by decide +kernel
theorem dX7_addTurn_50 : decode cX7_addTurn 50 = .ok (.iload_n 1, 1) := by decide +kernel
theorem dX7_addTurn_51 : decode cX7_addTurn 51 = .ok (.iload_n 2, 1) := by decide +kernel
theorem dX7_addTurn_52 : decode cX7_addTurn 52 = .ok (.iload_n 3, 1) := by decide +kernel
theorem dX7_addTurn_53 : decode cX7_addTurn 53 = .ok (.iload 4, 2) := by decide +kernel
theorem dX7_addTurn_55 : decode cX7_addTurn 55 = .ok (.iconst 0, 1) := by decide +kernel
theorem dX7_addTurn_56 : decode cX7_addTurn 56 = .ok (.iconst 0, 1) := by decide +kernel
theorem dX7_addTurn_57 : decode cX7_addTurn 57 = .ok (.invokevirtual 110, 3) := by decide +kernel
theorem dX7_addTurn_60 : decode cX7_addTurn 60 = .ok (.ireturn, 1) := by decide +kernel
theorem dX7_addShift_0 : decode cX7_addShift 0 = .ok (.aload_n 0, 1) := by decide +kernel
theorem dX7_addShift_1 : decode cX7_addShift 1 = .ok (.iload_n 2, 1) := by decide +kernel
theorem dX7_addShift_2 : decode cX7_addShift 2 = .ok (.invokevirtual 93, 3) := by decide +kernel
theorem dX7_addShift_5 : decode cX7_addShift 5 = .ok (.ifCond .eq 5, 3) := by decide +kernel
theorem dX7_addShift_8 : decode cX7_addShift 8 = .ok (.iconst (-1), 1) := by decide +kernel
theorem dX7_addShift_9 : decode cX7_addShift 9 = .ok (.ireturn, 1) := by decide +kernel
theorem dX7_addShift_10 : decode cX7_addShift 10 = .ok (.iload_n 1, 1) := by decide +kernel
theorem dX7_addShift_11 : decode cX7_addShift 11 = .ok (.invokestatic 107, 3) := by decide +kernel
theorem dX7_addShift_14 : decode cX7_addShift 14 = .ok (.ifCond .eq 38, 3) := by decide +kernel
theorem dX7_addShift_17 : decode cX7_addShift 17 = .ok (.iload_n 3, 1) := by decide +kernel
theorem dX7_addShift_18 : decode cX7_addShift 18 = .ok (.bipush (-50), 2) := by decide +kernel
theorem dX7_addShift_20 : decode cX7_addShift 20 = .ok (.bipush 50, 2) := by decide +kernel
theorem dX7_addShift_22 : decode cX7_addShift 22 = .ok (.invokestatic 89, 3) := by decide +kernel
theorem dX7_addShift_25 : decode cX7_addShift 25 = .ok (.ifCond .eq 27, 3) := by decide +kernel
theorem dX7_addShift_28 : decode cX7_addShift 28 = .ok (.iload 4, 2) := by decide +kernel
theorem dX7_addShift_30 : decode cX7_addShift 30 = .ok (.bipush (-50), 2) := by decide +kernel
theorem dX7_addShift_32 : decode cX7_addShift 32 = .ok (.bipush 50, 2) := by decide +kernel
theorem dX7_addShift_34 : decode cX7_addShift 34 = .ok (.invokestatic 89, 3) := by decide +kernel
theorem dX7_addShift_37 : decode cX7_addShift 37 = .ok (.ifCond .eq 15, 3) := by decide +kernel
theorem dX7_addShift_40 : decode cX7_addShift 40 = .ok (.iload 5, 2) := by decide +kernel
theorem dX7_addShift_42 : decode cX7_addShift 42 = .ok (.bipush (-100), 2) := by decide +kernel
theorem dX7_addShift_44 : decode cX7_addShift 44 = .ok (.bipush 100, 2) := by decide +kernel
theorem dX7_addShift_46 : decode cX7_addShift 46 = .ok (.invokestatic 89, 3) := by decide +kernel
theorem dX7_addShift_49 : decode cX7_addShift 49 = .ok (.ifCond .ne 6, 3) := by decide +kernel
theorem dX7_addShift_52 : decode cX7_addShift 52 = .ok (.bipush (-3), 2) := by decide +kernel
theorem dX7_addShift_54 : decode cX7_addShift 54 = .ok (.ireturn, 1) := by decide +kernel
theorem dX7_addShift_55 : decode cX7_addShift 55 = .ok (.aload_n 0, 1) := by decide +kernel
theorem dX7_addShift_56 : decode cX7_addShift 56 = .ok (.iload_n 1, 1) := by decide +kernel
theorem dX7_addShift_57 : decode cX7_addShift 57 = .ok (.iload_n 2, 1) := by decide +kernel
theorem dX7_addShift_58 : decode cX7_addShift 58 = .ok (.iconst (-1), 1) := by decide +kernel
theorem dX7_addShift_59 : decode cX7_addShift 59 = .ok (.iload_n 3, 1) := by decide +kernel
theorem dX7_addShift_60 : decode cX7_addShift 60 = .ok (.iload 4, 2) := by decide +kernel
theorem dX7_addShift_62 : decode cX7_addShift 62 = .ok (.iload 5, 2) := by decide +kernel
theorem dX7_addShift_64 : decode cX7_addShift 64 = .ok (.invokevirtual 110, 3) := by decide +kernel
theorem dX7_addShift_67 : decode cX7_addShift 67 = .ok (.ireturn, 1) := by decide +kernel
theorem dX7_removeMoves_0 : decode cX7_removeMoves 0 = .ok (.iload_n 1, 1) := by decide +kernel
theorem dX7_removeMoves_1 : decode cX7_removeMoves 1 = .ok (.iconst 0, 1) := by decide +kernel
theorem dX7_removeMoves_2 : decode cX7_removeMoves 2 = .ok (.aload_n 0, 1) := by decide +kernel
theorem dX7_removeMoves_3 : decode cX7_removeMoves 3 = .ok (.getfield 101, 3) := by decide +kernel
theorem dX7_removeMoves_6 : decode cX7_removeMoves 6 = .ok (.invokestatic 89, 3) := by decide +kernel
theorem dX7_removeMoves_9 : decode cX7_removeMoves 9 = .ok (.ifCond .ne 6, 3) := by decide +kernel
theorem dX7_removeMoves_12 : decode cX7_removeMoves 12 = .ok (.bipush (-3), 2) := by decide +kernel
theorem dX7_removeMoves_14 : decode cX7_removeMoves 14 = .ok (.ireturn, 1) := by decide +kernel
theorem dX7_removeMoves_15 : decode cX7_removeMoves 15 = .ok (.aload_n 0, 1) := by decide +kernel
theorem dX7_removeMoves_16 : decode cX7_removeMoves 16 = .ok (.dup, 1) := by decide +kernel
theorem dX7_removeMoves_17 : decode cX7_removeMoves 17 = .ok (.getfield 101, 3) := by decide +kernel
theorem dX7_removeMoves_20 : decode cX7_removeMoves 20 = .ok (.iload_n 1, 1) := by decide +kernel
theorem dX7_removeMoves_21 : decode cX7_removeMoves 21 = .ok (.isub, 1) := by decide +kernel
theorem dX7_removeMoves_22 : decode cX7_removeMoves 22 = .ok (.putfield 101, 3) := by decide +kernel
theorem dX7_removeMoves_25 : decode cX7_removeMoves 25 = .ok (.aload_n 0, 1) := by decide +kernel
theorem dX7_removeMoves_26 : decode cX7_removeMoves 26 = .ok (.getfield 101, 3) := by decide +kernel
theorem dX7_removeMoves_29 : decode cX7_removeMoves 29 = .ok (.ireturn, 1) := by decide +kernel
theorem dX7_inStage_0 : decode cX7_inStage 0 = .ok (.iload_n 1, 1) := by decide +kernel
theorem dX7_inStage_1 : decode cX7_inStage 1 = .ok (.iconst 1, 1) := by decide +kernel
theorem dX7_inStage_2 : decode cX7_inStage 2 = .ok (.if_icmp .ge 7, 3) := by decide +kernel
theorem dX7_inStage_5 : decode cX7_inStage 5 = .ok (.iconst 1, 1) := by decide +kernel
theorem dX7_inStage_6 : decode cX7_inStage 6 = .ok (.goto 19, 3) := by decide +kernel
theorem dX7_inStage_9 : decode cX7_inStage 9 = .ok (.iload_n 1, 1) := by decide +kernel
theorem dX7_inStage_10 : decode cX7_inStage 10 = .ok (.aload_n 0, 1) := by decide +kernel
theorem dX7_inStage_11 : decode cX7_inStage 11 = .ok (.getfield 80, 3) := by decide +kernel
theorem dX7_inStage_14 : decode cX7_inStage 14 = .ok (.if_icmp .le 10, 3) := by decide +kernel
theorem dX7_inStage_17 : decode cX7_inStage 17 = .ok (.aload_n 0, 1) := by decide +kernel
theorem dX7_inStage_18 : decode cX7_inStage 18 = .ok (.getfield 80, 3) := by decide +kernel
theorem dX7_inStage_21 : decode cX7_inStage 21 = .ok (.goto 4, 3) := by decide +kernel
theorem dX7_inStage_24 : decode cX7_inStage 24 = .ok (.iload_n 1, 1) := by decide +kernel
theorem dX7_inStage_25 : decode cX7_inStage 25 = .ok (.ireturn, 1) := by decide +kernel
theorem dX7_doMove_0 : decode cX7_doMove 0 = .ok (.aload_n 0, 1) := by decide +kernel
theorem dX7_doMove_1 : decode cX7_doMove 1 = .ok (.getfield 34, 3) := by decide +kernel
theorem dX7_doMove_4 : decode cX7_doMove 4 = .ok (.iload_n 1, 1) := by decide +kernel
theorem dX7_doMove_5 : decode cX7_doMove 5 = .ok (.iaload, 1) := by decide +kernel
theorem dX7_doMove_6 : decode cX7_doMove 6 = .ok (.istore_n 2, 1) := by decide +kernel
theorem dX7_doMove_7 : decode cX7_doMove 7 = .ok (.aload_n 0, 1) := by decide +kernel
theorem dX7_doMove_8 : decode cX7_doMove 8 = .ok (.getfield 37, 3) := by decide +kernel
theorem dX7_doMove_11 : decode cX7_doMove 11 = .ok (.iload_n 1, 1) := by decide +kernel
theorem dX7_doMove_12 : decode cX7_doMove 12 = .ok (.iaload, 1) := by decide +kernel
theorem dX7_doMove_13 : decode cX7_doMove 13 = .ok (.ifCond .lt 41, 3) := by decide +kernel
theorem dX7_doMove_16 : decode cX7_doMove 16 = .ok (.bipush 8, 2) := by decide +kernel
theorem dX7_doMove_18 : decode cX7_doMove 18 = .ok (.iload_n 2, 1) := by decide +kernel
theorem dX7_doMove_19 : decode cX7_doMove 19 = .ok (.imul, 1) := by decide +kernel
theorem dX7_doMove_20 : decode cX7_doMove 20 = .ok (.aload_n 0, 1) := by decide +kernel
theorem dX7_doMove_21 : decode cX7_doMove 21 = .ok (.getfield 37, 3) := by decide +kernel
theorem dX7_doMove_24 : decode cX7_doMove 24 = .ok (.iload_n 1, 1) := by decide +kernel
theorem dX7_doMove_25 : decode cX7_doMove 25 = .ok (.iaload, 1) := by decide +kernel
theorem dX7_doMove_26 : decode cX7_doMove 26 = .ok (.iadd, 1) := by decide +kernel
theorem dX7_doMove_27 : decode cX7_doMove 27 = .ok (.istore_n 3, 1) := by decide +kernel
theorem dX7_doMove_28 : decode cX7_doMove 28 = .ok (.aload_n 0, 1) := by decide +kernel
theorem dX7_doMove_29 : decode cX7_doMove 29 = .ok (.getfield 52, 3) := by decide +kernel
theorem dX7_doMove_32 : decode cX7_doMove 32 = .ok (.iload_n 3, 1) := by decide +kernel
theorem dX7_doMove_33 : decode cX7_doMove 33 = .ok (.aload_n 0, 1) := by decide +kernel
theorem dX7_doMove_34 : decode cX7_doMove 34 = .ok (.getfield 52, 3) := by decide +kernel
theorem dX7_doMove_37 : decode cX7_doMove 37 = .ok (.iload_n 3, 1) := by decide +kernel
theorem dX7_doMove_38 : decode cX7_doMove 38 = .ok (.iaload, 1) := by decide +kernel
theorem dX7_doMove_39 : decode cX7_doMove 39 = .ok (.aload_n 0, 1) := by decide +kernel
theorem dX7_doMove_40 : decode cX7_doMove 40 = .ok (.getfield 40, 3) := by decide +kernel
theorem dX7_doMove_43 : decode cX7_doMove 43 = .ok (.iload_n 1, 1) := by decide +kernel
theorem dX7_doMove_44 : decode cX7_doMove 44 = .ok (.iaload, 1) := by decide +kernel
theorem dX7_doMove_45 : decode cX7_doMove 45 = .ok (.iadd, 1) := by decide +kernel
theorem dX7_doMove_46 : decode cX7_doMove 46 = .ok (.bipush 8, 2) := by decide +kernel
theorem dX7_doMove_48 : decode cX7_doMove 48 = .ok (.iadd, 1) := by decide +kernel
theorem dX7_doMove_49 : decode cX7_doMove 49 = .ok (.bipush 8, 2) := by decide +kernel
theorem dX7_doMove_51 : decode cX7_doMove 51 = .ok (.irem, 1) := by decide +kernel
theorem dX7_doMove_52 : decode cX7_doMove 52 = .ok (.iastore, 1) := by decide +kernel
theorem dX7_doMove_53 : decode cX7_doMove 53 = .ok (.return_, 1) := by decide +kernel
theorem dX7_doMove_54 : decode cX7_doMove 54 = .ok (.aload_n 0, 1) := by decide +kernel
theorem dX7_doMove_55 : decode cX7_doMove 55 = .ok (.getfield 55, 3) := by decide +kernel
theorem dX7_doMove_58 : decode cX7_doMove 58 = .ok (.bipush 9, 2) := by decide +kernel
theorem dX7_doMove_60 : decode cX7_doMove 60 = .ok (.iload_n 2, 1) := by decide +kernel
theorem dX7_doMove_61 : decode cX7_doMove 61 = .ok (.imul, 1) := by decide +kernel
theorem dX7_doMove_62 : decode cX7_doMove 62 = .ok (.dup2, 1) := by decide +kernel
theorem dX7_doMove_63 : decode cX7_doMove 63 = .ok (.laload, 1) := by decide +kernel
theorem dX7_doMove_64 : decode cX7_doMove 64 = .ok (.aload_n 0, 1) := by decide +kernel
theorem dX7_doMove_65 : decode cX7_doMove 65 = .ok (.getfield 40, 3) := by decide +kernel
theorem dX7_doMove_68 : decode cX7_doMove 68 = .ok (.iload_n 1, 1) := by decide +kernel
theorem dX7_doMove_69 : decode cX7_doMove 69 = .ok (.iaload, 1) := by decide +kernel
theorem dX7_doMove_70 : decode cX7_doMove 70 = .ok (.i2l, 1) := by decide +kernel
theorem dX7_doMove_71 : decode cX7_doMove 71 = .ok (.ladd, 1) := by decide +kernel
theorem dX7_doMove_72 : decode cX7_doMove 72 = .ok (.lastore, 1) := by decide +kernel
theorem dX7_doMove_73 : decode cX7_doMove 73 = .ok (.aload_n 0, 1) := by decide +kernel
theorem dX7_doMove_74 : decode cX7_doMove 74 = .ok (.getfield 59, 3) := by decide +kernel
theorem dX7_doMove_77 : decode cX7_doMove 77 = .ok (.bipush 9, 2) := by decide +kernel
theorem dX7_doMove_79 : decode cX7_doMove 79 = .ok (.iload_n 2, 1) := by decide +kernel
theorem dX7_doMove_80 : decode cX7_doMove 80 = .ok (.imul, 1) := by decide +kernel
theorem dX7_doMove_81 : decode cX7_doMove 81 = .ok (.dup2, 1) := by decide +kernel
theorem dX7_doMove_82 : decode cX7_doMove 82 = .ok (.laload, 1) := by decide +kernel
theorem dX7_doMove_83 : decode cX7_doMove 83 = .ok (.aload_n 0, 1) := by decide +kernel
theorem dX7_doMove_84 : decode cX7_doMove 84 = .ok (.getfield 43, 3) := by decide +kernel
theorem dX7_doMove_87 : decode cX7_doMove 87 = .ok (.iload_n 1, 1) := by decide +kernel
theorem dX7_doMove_88 : decode cX7_doMove 88 = .ok (.iaload, 1) := by decide +kernel
theorem dX7_doMove_89 : decode cX7_doMove 89 = .ok (.i2l, 1) := by decide +kernel
theorem dX7_doMove_90 : decode cX7_doMove 90 = .ok (.ladd, 1) := by decide +kernel
theorem dX7_doMove_91 : decode cX7_doMove 91 = .ok (.lastore, 1) := by decide +kernel
theorem dX7_doMove_92 : decode cX7_doMove 92 = .ok (.aload_n 0, 1) := by decide +kernel
theorem dX7_doMove_93 : decode cX7_doMove 93 = .ok (.getfield 49, 3) := by decide +kernel
theorem dX7_doMove_96 : decode cX7_doMove 96 = .ok (.iload_n 2, 1) := by decide +kernel
theorem dX7_doMove_97 : decode cX7_doMove 97 = .ok (.aload_n 0, 1) := by decide +kernel
theorem dX7_doMove_98 : decode cX7_doMove 98 = .ok (.aload_n 0, 1) := by decide +kernel
theorem dX7_doMove_99 : decode cX7_doMove 99 = .ok (.getfield 49, 3) := by decide +kernel
theorem dX7_doMove_102 : decode cX7_doMove 102 = .ok (.iload_n 2, 1) := by decide +kernel
theorem dX7_doMove_103 : decode cX7_doMove 103 = .ok (.iaload, 1) := by decide +kernel
theorem dX7_doMove_104 : decode cX7_doMove 104 = .ok (.aload_n 0, 1) := by decide +kernel
theorem dX7_doMove_105 : decode cX7_doMove 105 = .ok (.getfield 46, 3) := by decide +kernel
theorem dX7_doMove_108 : decode cX7_doMove 108 = .ok (.iload_n 1, 1) := by decide +kernel
theorem dX7_doMove_109 : decode cX7_doMove 109 = .ok (.iaload, 1) := by decide +kernel
theorem dX7_doMove_110 : decode cX7_doMove 110 = .ok (.iadd, 1) := by decide +kernel
theorem dX7_doMove_111 : decode cX7_doMove 111 = .ok (.invokevirtual 114, 3) := by decide +kernel
theorem dX7_doMove_114 : decode cX7_doMove 114 = .ok (.iastore, 1) := by decide +kernel
theorem dX7_doMove_115 : decode cX7_doMove 115 = .ok (.return_, 1) := by decide +kernel
theorem dX7_stepX_0 : decode cX7_stepX 0 = .ok (.iload_n 0, 1) := by decide +kernel
theorem dX7_stepX_1 : decode cX7_stepX 1 = .ok (.iconst 2, 1) := by decide +kernel
theorem dX7_stepX_2 : decode cX7_stepX 2 = .ok (.if_icmp .eq 9, 3) := by decide +kernel
theorem dX7_stepX_5 : decode cX7_stepX 5 = .ok (.iload_n 0, 1) := by decide +kernel
theorem dX7_stepX_6 : decode cX7_stepX 6 = .ok (.bipush 6, 2) := by decide +kernel
theorem dX7_stepX_8 : decode cX7_stepX 8 = .ok (.if_icmp .ne 7, 3) := by decide +kernel
theorem dX7_stepX_11 : decode cX7_stepX 11 = .ok (.iconst 0, 1) := by decide +kernel
theorem dX7_stepX_12 : decode cX7_stepX 12 = .ok (.goto 19, 3) := by decide +kernel
theorem dX7_stepX_15 : decode cX7_stepX 15 = .ok (.iload_n 0, 1) := by decide +kernel
theorem dX7_stepX_16 : decode cX7_stepX 16 = .ok (.iconst 2, 1) := by decide +kernel
theorem dX7_stepX_17 : decode cX7_stepX 17 = .ok (.if_icmp .lt 9, 3) := by decide +kernel
theorem dX7_stepX_20 : decode cX7_stepX 20 = .ok (.iload_n 0, 1) := by decide +kernel
theorem dX7_stepX_21 : decode cX7_stepX 21 = .ok (.bipush 7, 2) := by decide +kernel
theorem dX7_stepX_23 : decode cX7_stepX 23 = .ok (.if_icmp .ne 7, 3) := by decide +kernel
theorem dX7_stepX_26 : decode cX7_stepX 26 = .ok (.iconst 1, 1) := by decide +kernel
theorem dX7_stepX_27 : decode cX7_stepX 27 = .ok (.goto 4, 3) := by decide +kernel
theorem dX7_stepX_30 : decode cX7_stepX 30 = .ok (.iconst (-1), 1) := by decide +kernel
theorem dX7_stepX_31 : decode cX7_stepX 31 = .ok (.ireturn, 1) := by decide +kernel
theorem dX7_stepY_0 : decode cX7_stepY 0 = .ok (.iload_n 0, 1) := by decide +kernel
theorem dX7_stepY_1 : decode cX7_stepY 1 = .ok (.iconst 4, 1) := by decide +kernel
theorem dX7_stepY_2 : decode cX7_stepY 2 = .ok (.irem, 1) := by decide +kernel
theorem dX7_stepY_3 : decode cX7_stepY 3 = .ok (.ifCond .ne 7, 3) := by decide +kernel
theorem dX7_stepY_6 : decode cX7_stepY 6 = .ok (.iconst 0, 1) := by decide +kernel
theorem dX7_stepY_7 : decode cX7_stepY 7 = .ok (.goto 13, 3) := by decide +kernel
theorem dX7_stepY_10 : decode cX7_stepY 10 = .ok (.iload_n 0, 1) := by decide +kernel
theorem dX7_stepY_11 : decode cX7_stepY 11 = .ok (.iconst 4, 1) := by decide +kernel
theorem dX7_stepY_12 : decode cX7_stepY 12 = .ok (.if_icmp .ge 7, 3) := by decide +kernel
theorem dX7_stepY_15 : decode cX7_stepY 15 = .ok (.iconst 1, 1) := by decide +kernel
theorem dX7_stepY_16 : decode cX7_stepY 16 = .ok (.goto 4, 3) := by decide +kernel
theorem dX7_stepY_19 : decode cX7_stepY 19 = .ok (.iconst (-1), 1) := by decide +kernel
theorem dX7_stepY_20 : decode cX7_stepY 20 = .ok (.ireturn, 1) := by decide +kernel
theorem dX7_layPoints_0 : decode cX7_layPoints 0 = .ok (.aload_n 0, 1) := by decide +kernel
theorem dX7_layPoints_1 : decode cX7_layPoints 1 = .ok (.getfield 62, 3) := by decide +kernel
theorem dX7_layPoints_4 : decode cX7_layPoints 4 = .ok (.bipush 9, 2) := by decide +kernel
theorem dX7_layPoints_6 : decode cX7_layPoints 6 = .ok (.iload_n 1, 1) := by decide +kernel
theorem dX7_layPoints_7 : decode cX7_layPoints 7 = .ok (.imul, 1) := by decide +kernel
theorem dX7_layPoints_8 : decode cX7_layPoints 8 = .ok (.iconst 0, 1) := by decide +kernel
theorem dX7_layPoints_9 : decode cX7_layPoints 9 = .ok (.iastore, 1) := by decide +kernel
theorem dX7_layPoints_10 : decode cX7_layPoints 10 = .ok (.iconst 0, 1) := by decide +kernel
theorem dX7_layPoints_11 : decode cX7_layPoints 11 = .ok (.istore_n 2, 1) := by decide +kernel
theorem dX7_layPoints_12 : decode cX7_layPoints 12 = .ok (.iload_n 2, 1) := by decide +kernel
theorem dX7_layPoints_13 : decode cX7_layPoints 13 = .ok (.aload_n 0, 1) := by decide +kernel
theorem dX7_layPoints_14 : decode cX7_layPoints 14 = .ok (.getfield 19, 3) := by decide +kernel
theorem dX7_layPoints_17 : decode cX7_layPoints 17 = .ok (.iload_n 1, 1) := by decide +kernel
theorem dX7_layPoints_18 : decode cX7_layPoints 18 = .ok (.iaload, 1) := by decide +kernel
theorem dX7_layPoints_19 : decode cX7_layPoints 19 = .ok (.if_icmp .ge 131, 3) := by decide +kernel
theorem dX7_layPoints_22 : decode cX7_layPoints 22 = .ok (.bipush 8, 2) := by decide +kernel
theorem dX7_layPoints_24 : decode cX7_layPoints 24 = .ok (.iload_n 1, 1) := by decide +kernel
theorem dX7_layPoints_25 : decode cX7_layPoints 25 = .ok (.imul, 1) := by decide +kernel
theorem dX7_layPoints_26 : decode cX7_layPoints 26 = .ok (.iload_n 2, 1) := by decide +kernel
theorem dX7_layPoints_27 : decode cX7_layPoints 27 = .ok (.iadd, 1) := by decide +kernel
theorem dX7_layPoints_28 : decode cX7_layPoints 28 = .ok (.istore_n 3, 1) := by decide +kernel
theorem dX7_layPoints_29 : decode cX7_layPoints 29 = .ok (.bipush 9, 2) := by decide +kernel
theorem dX7_layPoints_31 : decode cX7_layPoints 31 = .ok (.iload_n 1, 1) := by decide +kernel
theorem dX7_layPoints_32 : decode cX7_layPoints 32 = .ok (.imul, 1) := by decide +kernel
theorem dX7_layPoints_33 : decode cX7_layPoints 33 = .ok (.aload_n 0, 1) := by decide +kernel
theorem dX7_layPoints_34 : decode cX7_layPoints 34 = .ok (.getfield 22, 3) := by decide +kernel
theorem dX7_layPoints_37 : decode cX7_layPoints 37 = .ok (.iload_n 3, 1) := by decide +kernel
theorem dX7_layPoints_38 : decode cX7_layPoints 38 = .ok (.iaload, 1) := by decide +kernel
theorem dX7_layPoints_39 : decode cX7_layPoints 39 = .ok (.iadd, 1) := by decide +kernel
theorem dX7_layPoints_40 : decode cX7_layPoints 40 = .ok (.iconst 1, 1) := by decide +kernel
theorem dX7_layPoints_41 : decode cX7_layPoints 41 = .ok (.iadd, 1) := by decide +kernel
theorem dX7_layPoints_42 : decode cX7_layPoints 42 = .ok (.istore 4, 2) := by decide +kernel
theorem dX7_layPoints_44 : decode cX7_layPoints 44 = .ok (.bipush 9, 2) := by decide +kernel
theorem dX7_layPoints_46 : decode cX7_layPoints 46 = .ok (.iload_n 1, 1) := by decide +kernel
theorem dX7_layPoints_47 : decode cX7_layPoints 47 = .ok (.imul, 1) := by decide +kernel
theorem dX7_layPoints_48 : decode cX7_layPoints 48 = .ok (.iload_n 2, 1) := by decide +kernel
theorem dX7_layPoints_49 : decode cX7_layPoints 49 = .ok (.iadd, 1) := by decide +kernel
theorem dX7_layPoints_50 : decode cX7_layPoints 50 = .ok (.iconst 1, 1) := by decide +kernel
theorem dX7_layPoints_51 : decode cX7_layPoints 51 = .ok (.iadd, 1) := by decide +kernel
theorem dX7_layPoints_52 : decode cX7_layPoints 52 = .ok (.istore 5, 2) := by decide +kernel
theorem dX7_layPoints_54 : decode cX7_layPoints 54 = .ok (.aload_n 0, 1) := by decide +kernel
theorem dX7_layPoints_55 : decode cX7_layPoints 55 = .ok (.getfield 62, 3) := by decide +kernel
theorem dX7_layPoints_58 : decode cX7_layPoints 58 = .ok (.iload 5, 2) := by decide +kernel
theorem dX7_layPoints_60 : decode cX7_layPoints 60 = .ok (.aload_n 0, 1) := by decide +kernel
theorem dX7_layPoints_61 : decode cX7_layPoints 61 = .ok (.getfield 62, 3) := by decide +kernel
theorem dX7_layPoints_64 : decode cX7_layPoints 64 = .ok (.iload 4, 2) := by decide +kernel
theorem dX7_layPoints_66 : decode cX7_layPoints 66 = .ok (.iaload, 1) := by decide +kernel
theorem dX7_layPoints_67 : decode cX7_layPoints 67 = .ok (.aload_n 0, 1) := by decide +kernel
theorem dX7_layPoints_68 : decode cX7_layPoints 68 = .ok (.getfield 52, 3) := by decide +kernel
theorem dX7_layPoints_71 : decode cX7_layPoints 71 = .ok (.iload_n 3, 1) := by decide +kernel
theorem dX7_layPoints_72 : decode cX7_layPoints 72 = .ok (.iaload, 1) := by decide +kernel
theorem dX7_layPoints_73 : decode cX7_layPoints 73 = .ok (.iadd, 1) := by decide +kernel
theorem dX7_layPoints_74 : decode cX7_layPoints 74 = .ok (.bipush 8, 2) := by decide +kernel
theorem dX7_layPoints_76 : decode cX7_layPoints 76 = .ok (.irem, 1) := by decide +kernel
theorem dX7_layPoints_77 : decode cX7_layPoints 77 = .ok (.iastore, 1) := by decide +kernel
theorem dX7_layPoints_78 : decode cX7_layPoints 78 = .ok (.aload_n 0, 1) := by decide +kernel
theorem dX7_layPoints_79 : decode cX7_layPoints 79 = .ok (.getfield 55, 3) := by decide +kernel
theorem dX7_layPoints_82 : decode cX7_layPoints 82 = .ok (.iload 5, 2) := by decide +kernel
theorem dX7_layPoints_84 : decode cX7_layPoints 84 = .ok (.aload_n 0, 1) := by decide +kernel
theorem dX7_layPoints_85 : decode cX7_layPoints 85 = .ok (.getfield 55, 3) := by decide +kernel
theorem dX7_layPoints_88 : decode cX7_layPoints 88 = .ok (.iload 4, 2) := by decide +kernel
theorem dX7_layPoints_90 : decode cX7_layPoints 90 = .ok (.laload, 1) := by decide +kernel
theorem dX7_layPoints_91 : decode cX7_layPoints 91 = .ok (.aload_n 0, 1) := by decide +kernel
theorem dX7_layPoints_92 : decode cX7_layPoints 92 = .ok (.getfield 25, 3) := by decide +kernel
theorem dX7_layPoints_95 : decode cX7_layPoints 95 = .ok (.iload_n 3, 1) := by decide +kernel
theorem dX7_layPoints_96 : decode cX7_layPoints 96 = .ok (.iaload, 1) := by decide +kernel
theorem dX7_layPoints_97 : decode cX7_layPoints 97 = .ok (.aload_n 0, 1) := by decide +kernel
theorem dX7_layPoints_98 : decode cX7_layPoints 98 = .ok (.getfield 62, 3) := by decide +kernel
theorem dX7_layPoints_101 : decode cX7_layPoints 101 = .ok (.iload 5, 2) := by decide +kernel
theorem dX7_layPoints_103 : decode cX7_layPoints 103 = .ok (.iaload, 1) := by decide +kernel
theorem dX7_layPoints_104 : decode cX7_layPoints 104 = .ok (.invokestatic 118, 3) := by decide +kernel
theorem dX7_layPoints_107 : decode cX7_layPoints 107 = .ok (.imul, 1) := by decide +kernel
theorem dX7_layPoints_108 : decode cX7_layPoints 108 = .ok (.i2l, 1) := by decide +kernel
theorem dX7_layPoints_109 : decode cX7_layPoints 109 = .ok (.ladd, 1) := by decide +kernel
theorem dX7_layPoints_110 : decode cX7_layPoints 110 = .ok (.lastore, 1) := by decide +kernel
theorem dX7_layPoints_111 : decode cX7_layPoints 111 = .ok (.aload_n 0, 1) := by decide +kernel
theorem dX7_layPoints_112 : decode cX7_layPoints 112 = .ok (.getfield 59, 3) := by decide +kernel
theorem dX7_layPoints_115 : decode cX7_layPoints 115 = .ok (.iload 5, 2) := by decide +kernel
theorem dX7_layPoints_117 : decode cX7_layPoints 117 = .ok (.aload_n 0, 1) := by decide +kernel
theorem dX7_layPoints_118 : decode cX7_layPoints 118 = .ok (.getfield 59, 3) := by decide +kernel
theorem dX7_layPoints_121 : decode cX7_layPoints 121 = .ok (.iload 4, 2) := by decide +kernel
theorem dX7_layPoints_123 : decode cX7_layPoints 123 = .ok (.laload, 1) := by decide +kernel
theorem dX7_layPoints_124 : decode cX7_layPoints 124 = .ok (.aload_n 0, 1) := by decide +kernel
theorem dX7_layPoints_125 : decode cX7_layPoints 125 = .ok (.getfield 25, 3) := by decide +kernel
theorem dX7_layPoints_128 : decode cX7_layPoints 128 = .ok (.iload_n 3, 1) := by decide +kernel
theorem dX7_layPoints_129 : decode cX7_layPoints 129 = .ok (.iaload, 1) := by decide +kernel
theorem dX7_layPoints_130 : decode cX7_layPoints 130 = .ok (.aload_n 0, 1) := by decide +kernel
theorem dX7_layPoints_131 : decode cX7_layPoints 131 = .ok (.getfield 62, 3) := by decide +kernel
theorem dX7_layPoints_134 : decode cX7_layPoints 134 = .ok (.iload 5, 2) := by decide +kernel
theorem dX7_layPoints_136 : decode cX7_layPoints 136 = .ok (.iaload, 1) := by decide +kernel
theorem dX7_layPoints_137 : decode cX7_layPoints 137 = .ok (.invokestatic 121, 3) := by decide +kernel
theorem dX7_layPoints_140 : decode cX7_layPoints 140 = .ok (.imul, 1) := by decide +kernel
theorem dX7_layPoints_141 : decode cX7_layPoints 141 = .ok (.i2l, 1) := by decide +kernel
theorem dX7_layPoints_142 : decode cX7_layPoints 142 = .ok (.ladd, 1) := by decide +kernel
theorem dX7_layPoints_143 : decode cX7_layPoints 143 = .ok (.lastore, 1) := by decide +kernel
theorem dX7_layPoints_144 : decode cX7_layPoints 144 = .ok (.iinc 2 1, 3) := by decide +kernel
theorem dX7_layPoints_147 : decode cX7_layPoints 147 = .ok (.goto (-135), 3) := by decide +kernel
theorem dX7_layPoints_150 : decode cX7_layPoints 150 = .ok (.return_, 1) := by decide +kernel
theorem dX7_goTo_0 : decode cX7_goTo 0 = .ok (.iconst 0, 1) := by decide +kernel
theorem dX7_goTo_1 : decode cX7_goTo 1 = .ok (.istore_n 2, 1) := by decide +kernel
theorem dX7_goTo_2 : decode cX7_goTo 2 = .ok (.iload_n 2, 1) := by decide +kernel
theorem dX7_goTo_3 : decode cX7_goTo 3 = .ok (.aload_n 0, 1) := by decide +kernel
theorem dX7_goTo_4 : decode cX7_goTo 4 = .ok (.getfield 86, 3) := by decide +kernel
theorem dX7_goTo_7 : decode cX7_goTo 7 = .ok (.if_icmp .ge 57, 3) := by decide +kernel
theorem dX7_goTo_10 : decode cX7_goTo 10 = .ok (.aload_n 0, 1) := by decide +kernel
theorem dX7_goTo_11 : decode cX7_goTo 11 = .ok (.getfield 55, 3) := by decide +kernel
theorem dX7_goTo_14 : decode cX7_goTo 14 = .ok (.bipush 9, 2) := by decide +kernel
theorem dX7_goTo_16 : decode cX7_goTo 16 = .ok (.iload_n 2, 1) := by decide +kernel
theorem dX7_goTo_17 : decode cX7_goTo 17 = .ok (.imul, 1) := by decide +kernel
theorem dX7_goTo_18 : decode cX7_goTo 18 = .ok (.aload_n 0, 1) := by decide +kernel
theorem dX7_goTo_19 : decode cX7_goTo 19 = .ok (.getfield 7, 3) := by decide +kernel
theorem dX7_goTo_22 : decode cX7_goTo 22 = .ok (.iload_n 2, 1) := by decide +kernel
theorem dX7_goTo_23 : decode cX7_goTo 23 = .ok (.iaload, 1) := by decide +kernel
theorem dX7_goTo_24 : decode cX7_goTo 24 = .ok (.i2l, 1) := by decide +kernel
theorem dX7_goTo_25 : decode cX7_goTo 25 = .ok (.lastore, 1) := by decide +kernel
theorem dX7_goTo_26 : decode cX7_goTo 26 = .ok (.aload_n 0, 1) := by decide +kernel
theorem dX7_goTo_27 : decode cX7_goTo 27 = .ok (.getfield 59, 3) := by decide +kernel
theorem dX7_goTo_30 : decode cX7_goTo 30 = .ok (.bipush 9, 2) := by decide +kernel
theorem dX7_goTo_32 : decode cX7_goTo 32 = .ok (.iload_n 2, 1) := by decide +kernel
theorem dX7_goTo_33 : decode cX7_goTo 33 = .ok (.imul, 1) := by decide +kernel
theorem dX7_goTo_34 : decode cX7_goTo 34 = .ok (.aload_n 0, 1) := by decide +kernel
theorem dX7_goTo_35 : decode cX7_goTo 35 = .ok (.getfield 13, 3) := by decide +kernel
theorem dX7_goTo_38 : decode cX7_goTo 38 = .ok (.iload_n 2, 1) := by decide +kernel
theorem dX7_goTo_39 : decode cX7_goTo 39 = .ok (.iaload, 1) := by decide +kernel
theorem dX7_goTo_40 : decode cX7_goTo 40 = .ok (.i2l, 1) := by decide +kernel
theorem dX7_goTo_41 : decode cX7_goTo 41 = .ok (.lastore, 1) := by decide +kernel
theorem dX7_goTo_42 : decode cX7_goTo 42 = .ok (.aload_n 0, 1) := by decide +kernel
theorem dX7_goTo_43 : decode cX7_goTo 43 = .ok (.getfield 49, 3) := by decide +kernel
theorem dX7_goTo_46 : decode cX7_goTo 46 = .ok (.iload_n 2, 1) := by decide +kernel
theorem dX7_goTo_47 : decode cX7_goTo 47 = .ok (.aload_n 0, 1) := by decide +kernel
theorem dX7_goTo_48 : decode cX7_goTo 48 = .ok (.aload_n 0, 1) := by decide +kernel
theorem dX7_goTo_49 : decode cX7_goTo 49 = .ok (.getfield 16, 3) := by decide +kernel
theorem dX7_goTo_52 : decode cX7_goTo 52 = .ok (.iload_n 2, 1) := by decide +kernel
theorem dX7_goTo_53 : decode cX7_goTo 53 = .ok (.iaload, 1) := by decide +kernel
theorem dX7_goTo_54 : decode cX7_goTo 54 = .ok (.invokevirtual 114, 3) := by decide +kernel
theorem dX7_goTo_57 : decode cX7_goTo 57 = .ok (.iastore, 1) := by decide +kernel
theorem dX7_goTo_58 : decode cX7_goTo 58 = .ok (.iinc 2 1, 3) := by decide +kernel
theorem dX7_goTo_61 : decode cX7_goTo 61 = .ok (.goto (-59), 3) := by decide +kernel
theorem dX7_goTo_64 : decode cX7_goTo 64 = .ok (.iconst 0, 1) := by decide +kernel
theorem dX7_goTo_65 : decode cX7_goTo 65 = .ok (.istore_n 2, 1) := by decide +kernel
theorem dX7_goTo_66 : decode cX7_goTo 66 = .ok (.iload_n 2, 1) := by decide +kernel
theorem dX7_goTo_67 : decode cX7_goTo 67 = .ok (.bipush 48, 2) := by decide +kernel
theorem dX7_goTo_69 : decode cX7_goTo 69 = .ok (.if_icmp .ge 21, 3) := by decide +kernel
theorem dX7_goTo_72 : decode cX7_goTo 72 = .ok (.aload_n 0, 1) := by decide +kernel
theorem dX7_goTo_73 : decode cX7_goTo 73 = .ok (.getfield 52, 3) := by decide +kernel
theorem dX7_goTo_76 : decode cX7_goTo 76 = .ok (.iload_n 2, 1) := by decide +kernel
theorem dX7_goTo_77 : decode cX7_goTo 77 = .ok (.aload_n 0, 1) := by decide +kernel
theorem dX7_goTo_78 : decode cX7_goTo 78 = .ok (.getfield 28, 3) := by decide +kernel
theorem dX7_goTo_81 : decode cX7_goTo 81 = .ok (.iload_n 2, 1) := by decide +kernel
theorem dX7_goTo_82 : decode cX7_goTo 82 = .ok (.iaload, 1) := by decide +kernel
theorem dX7_goTo_83 : decode cX7_goTo 83 = .ok (.iastore, 1) := by decide +kernel
theorem dX7_goTo_84 : decode cX7_goTo 84 = .ok (.iinc 2 1, 3) := by decide +kernel
theorem dX7_goTo_87 : decode cX7_goTo 87 = .ok (.goto (-21), 3) := by decide +kernel
theorem dX7_goTo_90 : decode cX7_goTo 90 = .ok (.iconst 0, 1) := by decide +kernel
theorem dX7_goTo_91 : decode cX7_goTo 91 = .ok (.istore_n 2, 1) := by decide +kernel
theorem dX7_goTo_92 : decode cX7_goTo 92 = .ok (.iload_n 2, 1) := by decide +kernel
theorem dX7_goTo_93 : decode cX7_goTo 93 = .ok (.iload_n 1, 1) := by decide +kernel
theorem dX7_goTo_94 : decode cX7_goTo 94 = .ok (.if_icmp .gt 40, 3) := by decide +kernel
theorem dX7_goTo_97 : decode cX7_goTo 97 = .ok (.iconst 0, 1) := by decide +kernel
theorem dX7_goTo_98 : decode cX7_goTo 98 = .ok (.istore_n 3, 1) := by decide +kernel
theorem dX7_goTo_99 : decode cX7_goTo 99 = .ok (.iload_n 3, 1) := by decide +kernel
theorem dX7_goTo_100 : decode cX7_goTo 100 = .ok (.aload_n 0, 1) := by decide +kernel
theorem dX7_goTo_101 : decode cX7_goTo 101 = .ok (.getfield 101, 3) := by decide +kernel
theorem dX7_goTo_104 : decode cX7_goTo 104 = .ok (.if_icmp .ge 24, 3) := by decide +kernel
theorem dX7_goTo_107 : decode cX7_goTo 107 = .ok (.aload_n 0, 1) := by decide +kernel
theorem dX7_goTo_108 : decode cX7_goTo 108 = .ok (.getfield 31, 3) := by decide +kernel
theorem dX7_goTo_111 : decode cX7_goTo 111 = .ok (.iload_n 3, 1) := by decide +kernel
theorem dX7_goTo_112 : decode cX7_goTo 112 = .ok (.iaload, 1) := by decide +kernel
theorem dX7_goTo_113 : decode cX7_goTo 113 = .ok (.iload_n 2, 1) := by decide +kernel
theorem dX7_goTo_114 : decode cX7_goTo 114 = .ok (.if_icmp .ne 8, 3) := by decide +kernel
theorem dX7_goTo_117 : decode cX7_goTo 117 = .ok (.aload_n 0, 1) := by decide +kernel
theorem dX7_goTo_118 : decode cX7_goTo 118 = .ok (.iload_n 3, 1) := by decide +kernel
theorem dX7_goTo_119 : decode cX7_goTo 119 = .ok (.invokevirtual 124, 3) := by decide +kernel
theorem dX7_goTo_122 : decode cX7_goTo 122 = .ok (.iinc 3 1, 3) := by decide +kernel
theorem dX7_goTo_125 : decode cX7_goTo 125 = .ok (.goto (-26), 3) := by decide +kernel
theorem dX7_goTo_128 : decode cX7_goTo 128 = .ok (.iinc 2 1, 3) := by decide +kernel
theorem dX7_goTo_131 : decode cX7_goTo 131 = .ok (.goto (-39), 3) := by decide +kernel
theorem dX7_goTo_134 : decode cX7_goTo 134 = .ok (.iconst 0, 1) := by decide +kernel
theorem dX7_goTo_135 : decode cX7_goTo 135 = .ok (.istore_n 2, 1) := by decide +kernel
theorem dX7_goTo_136 : decode cX7_goTo 136 = .ok (.iload_n 2, 1) := by decide +kernel
theorem dX7_goTo_137 : decode cX7_goTo 137 = .ok (.aload_n 0, 1) := by decide +kernel
theorem dX7_goTo_138 : decode cX7_goTo 138 = .ok (.getfield 86, 3) := by decide +kernel
theorem dX7_goTo_141 : decode cX7_goTo 141 = .ok (.if_icmp .ge 14, 3) := by decide +kernel
theorem dX7_goTo_144 : decode cX7_goTo 144 = .ok (.aload_n 0, 1) := by decide +kernel
theorem dX7_goTo_145 : decode cX7_goTo 145 = .ok (.iload_n 2, 1) := by decide +kernel
theorem dX7_goTo_146 : decode cX7_goTo 146 = .ok (.invokevirtual 128, 3) := by decide +kernel
theorem dX7_goTo_149 : decode cX7_goTo 149 = .ok (.iinc 2 1, 3) := by decide +kernel
theorem dX7_goTo_152 : decode cX7_goTo 152 = .ok (.goto (-16), 3) := by decide +kernel
theorem dX7_goTo_155 : decode cX7_goTo 155 = .ok (.return_, 1) := by decide +kernel
theorem dX7_position_0 : decode cX7_position 0 = .ok (.aload_n 0, 1) := by decide +kernel
theorem dX7_position_1 : decode cX7_position 1 = .ok (.iload_n 1, 1) := by decide +kernel
theorem dX7_position_2 : decode cX7_position 2 = .ok (.invokevirtual 93, 3) := by decide +kernel
theorem dX7_position_5 : decode cX7_position 5 = .ok (.ifCond .ne 34, 3) := by decide +kernel
theorem dX7_position_8 : decode cX7_position 8 = .ok (.iload_n 2, 1) := by decide +kernel
theorem dX7_position_9 : decode cX7_position 9 = .ok (.iconst 0, 1) := by decide +kernel
theorem dX7_position_10 : decode cX7_position 10 = .ok (.aload_n 0, 1) := by decide +kernel
theorem dX7_position_11 : decode cX7_position 11 = .ok (.getfield 19, 3) := by decide +kernel
theorem dX7_position_14 : decode cX7_position 14 = .ok (.iload_n 1, 1) := by decide +kernel
theorem dX7_position_15 : decode cX7_position 15 = .ok (.iaload, 1) := by decide +kernel
theorem dX7_position_16 : decode cX7_position 16 = .ok (.invokestatic 89, 3) := by decide +kernel
theorem dX7_position_19 : decode cX7_position 19 = .ok (.ifCond .eq 20, 3) := by decide +kernel
theorem dX7_position_22 : decode cX7_position 22 = .ok (.iload_n 3, 1) := by decide +kernel
theorem dX7_position_23 : decode cX7_position 23 = .ok (.invokestatic 107, 3) := by decide +kernel
theorem dX7_position_26 : decode cX7_position 26 = .ok (.ifCond .eq 13, 3) := by decide +kernel
theorem dX7_position_29 : decode cX7_position 29 = .ok (.iload 4, 2) := by decide +kernel
theorem dX7_position_31 : decode cX7_position 31 = .ok (.iconst 0, 1) := by decide +kernel
theorem dX7_position_32 : decode cX7_position 32 = .ok (.iconst 3, 1) := by decide +kernel
theorem dX7_position_33 : decode cX7_position 33 = .ok (.invokestatic 89, 3) := by decide +kernel
theorem dX7_position_36 : decode cX7_position 36 = .ok (.ifCond .ne 7, 3) := by decide +kernel
theorem dX7_position_39 : decode cX7_position 39 = .ok (.invokestatic 131, 3) := by decide +kernel
theorem dX7_position_42 : decode cX7_position 42 = .ok (.lreturn, 1) := by decide +kernel
theorem dX7_position_43 : decode cX7_position 43 = .ok (.aload_n 0, 1) := by decide +kernel
theorem dX7_position_44 : decode cX7_position 44 = .ok (.iload_n 3, 1) := by decide +kernel
theorem dX7_position_45 : decode cX7_position 45 = .ok (.invokevirtual 135, 3) := by decide +kernel
theorem dX7_position_48 : decode cX7_position 48 = .ok (.bipush 9, 2) := by decide +kernel
theorem dX7_position_50 : decode cX7_position 50 = .ok (.iload_n 1, 1) := by decide +kernel
theorem dX7_position_51 : decode cX7_position 51 = .ok (.imul, 1) := by decide +kernel
theorem dX7_position_52 : decode cX7_position 52 = .ok (.iload_n 2, 1) := by decide +kernel
theorem dX7_position_53 : decode cX7_position 53 = .ok (.iadd, 1) := by decide +kernel
theorem dX7_position_54 : decode cX7_position 54 = .ok (.istore 5, 2) := by decide +kernel
theorem dX7_position_56 : decode cX7_position 56 = .ok (.iload 4, 2) := by decide +kernel
theorem dX7_position_58 : decode cX7_position 58 = .ok (.ifCond .ne 13, 3) := by decide +kernel
theorem dX7_position_61 : decode cX7_position 61 = .ok (.aload_n 0, 1) := by decide +kernel
theorem dX7_position_62 : decode cX7_position 62 = .ok (.getfield 55, 3) := by decide +kernel
theorem dX7_position_65 : decode cX7_position 65 = .ok (.iload 5, 2) := by decide +kernel
theorem dX7_position_67 : decode cX7_position 67 = .ok (.laload, 1) := by decide +kernel
theorem dX7_position_68 : decode cX7_position 68 = .ok (.goto 43, 3) := by decide +kernel
theorem dX7_position_71 : decode cX7_position 71 = .ok (.iload 4, 2) := by decide +kernel
theorem dX7_position_73 : decode cX7_position 73 = .ok (.iconst 1, 1) := by decide +kernel
theorem dX7_position_74 : decode cX7_position 74 = .ok (.if_icmp .ne 13, 3) := by decide +kernel
theorem dX7_position_77 : decode cX7_position 77 = .ok (.aload_n 0, 1) := by decide +kernel
theorem dX7_position_78 : decode cX7_position 78 = .ok (.getfield 59, 3) := by decide +kernel
theorem dX7_position_81 : decode cX7_position 81 = .ok (.iload 5, 2) := by decide +kernel
theorem dX7_position_83 : decode cX7_position 83 = .ok (.laload, 1) := by decide +kernel
theorem dX7_position_84 : decode cX7_position 84 = .ok (.goto 27, 3) := by decide +kernel
theorem dX7_position_87 : decode cX7_position 87 = .ok (.iload 4, 2) := by decide +kernel
theorem dX7_position_89 : decode cX7_position 89 = .ok (.iconst 2, 1) := by decide +kernel
theorem dX7_position_90 : decode cX7_position 90 = .ok (.if_icmp .ne 14, 3) := by decide +kernel
theorem dX7_position_93 : decode cX7_position 93 = .ok (.aload_n 0, 1) := by decide +kernel
theorem dX7_position_94 : decode cX7_position 94 = .ok (.getfield 62, 3) := by decide +kernel
theorem dX7_position_97 : decode cX7_position 97 = .ok (.iload 5, 2) := by decide +kernel
theorem dX7_position_99 : decode cX7_position 99 = .ok (.iaload, 1) := by decide +kernel
theorem dX7_position_100 : decode cX7_position 100 = .ok (.i2l, 1) := by decide +kernel
theorem dX7_position_101 : decode cX7_position 101 = .ok (.goto 10, 3) := by decide +kernel
theorem dX7_position_104 : decode cX7_position 104 = .ok (.aload_n 0, 1) := by decide +kernel
theorem dX7_position_105 : decode cX7_position 105 = .ok (.getfield 49, 3) := by decide +kernel
theorem dX7_position_108 : decode cX7_position 108 = .ok (.iload_n 1, 1) := by decide +kernel
theorem dX7_position_109 : decode cX7_position 109 = .ok (.iaload, 1) := by decide +kernel
theorem dX7_position_110 : decode cX7_position 110 = .ok (.i2l, 1) := by decide +kernel
theorem dX7_position_111 : decode cX7_position 111 = .ok (.lreturn, 1) := by decide +kernel
theorem dX7_common_0 : decode cX7_common 0 = .ok (.lload_n 0, 1) := by decide +kernel
theorem dX7_common_1 : decode cX7_common 1 = .ok (.lconst 0, 1) := by decide +kernel
theorem dX7_common_2 : decode cX7_common 2 = .ok (.lcmp, 1) := by decide +kernel
theorem dX7_common_3 : decode cX7_common 3 = .ok (.ifCond .ge 8, 3) := by decide +kernel
theorem dX7_common_6 : decode cX7_common 6 = .ok (.lload_n 0, 1) := by decide +kernel
theorem dX7_common_7 : decode cX7_common 7 = .ok (.lneg, 1) := by decide +kernel
theorem dX7_common_8 : decode cX7_common 8 = .ok (.goto 4, 3) := by decide +kernel
theorem dX7_common_11 : decode cX7_common 11 = .ok (.lload_n 0, 1) := by decide +kernel
theorem dX7_common_12 : decode cX7_common 12 = .ok (.lstore 4, 2) := by decide +kernel
theorem dX7_common_14 : decode cX7_common 14 = .ok (.lload_n 2, 1) := by decide +kernel
theorem dX7_common_15 : decode cX7_common 15 = .ok (.lstore 6, 2) := by decide +kernel
theorem dX7_common_17 : decode cX7_common 17 = .ok (.lload 6, 2) := by decide +kernel
theorem dX7_common_19 : decode cX7_common 19 = .ok (.lconst 0, 1) := by decide +kernel
theorem dX7_common_20 : decode cX7_common 20 = .ok (.lcmp, 1) := by decide +kernel
theorem dX7_common_21 : decode cX7_common 21 = .ok (.ifCond .eq 21, 3) := by decide +kernel
theorem dX7_common_24 : decode cX7_common 24 = .ok (.lload 4, 2) := by decide +kernel
theorem dX7_common_26 : decode cX7_common 26 = .ok (.lload 6, 2) := by decide +kernel
theorem dX7_common_28 : decode cX7_common 28 = .ok (.lrem, 1) := by decide +kernel
theorem dX7_common_29 : decode cX7_common 29 = .ok (.lstore 8, 2) := by decide +kernel
theorem dX7_common_31 : decode cX7_common 31 = .ok (.lload 6, 2) := by decide +kernel
theorem dX7_common_33 : decode cX7_common 33 = .ok (.lstore 4, 2) := by decide +kernel
theorem dX7_common_35 : decode cX7_common 35 = .ok (.lload 8, 2) := by decide +kernel
theorem dX7_common_37 : decode cX7_common 37 = .ok (.lstore 6, 2) := by decide +kernel
theorem dX7_common_39 : decode cX7_common 39 = .ok (.goto (-22), 3) := by decide +kernel
theorem dX7_common_42 : decode cX7_common 42 = .ok (.lload 4, 2) := by decide +kernel
theorem dX7_common_44 : decode cX7_common 44 = .ok (.lreturn, 1) := by decide +kernel
theorem dX7_partOf_0 : decode cX7_partOf 0 = .ok (.iload 4, 2) := by decide +kernel
theorem dX7_partOf_2 : decode cX7_partOf 2 = .ok (.ifCond .ne 7, 3) := by decide +kernel
theorem dX7_partOf_5 : decode cX7_partOf 5 = .ok (.lload_n 0, 1) := by decide +kernel
theorem dX7_partOf_6 : decode cX7_partOf 6 = .ok (.goto 4, 3) := by decide +kernel
theorem dX7_partOf_9 : decode cX7_partOf 9 = .ok (.lload_n 2, 1) := by decide +kernel
theorem dX7_partOf_10 : decode cX7_partOf 10 = .ok (.lload_n 0, 1) := by decide +kernel
theorem dX7_partOf_11 : decode cX7_partOf 11 = .ok (.lload_n 2, 1) := by decide +kernel
theorem dX7_partOf_12 : decode cX7_partOf 12 = .ok (.invokestatic 138, 3) := by decide +kernel
theorem dX7_partOf_15 : decode cX7_partOf 15 = .ok (.ldiv, 1) := by decide +kernel
theorem dX7_partOf_16 : decode cX7_partOf 16 = .ok (.lreturn, 1) := by decide +kernel
theorem dX7_reach_0 : decode cX7_reach 0 = .ok (.iload_n 3, 1) := by decide +kernel
theorem dX7_reach_1 : decode cX7_reach 1 = .ok (.i2l, 1) := by decide +kernel
theorem dX7_reach_2 : decode cX7_reach 2 = .ok (.iload_n 2, 1) := by decide +kernel
theorem dX7_reach_3 : decode cX7_reach 3 = .ok (.ifCond .eq 15, 3) := by decide +kernel
theorem dX7_reach_6 : decode cX7_reach 6 = .ok (.aload_n 0, 1) := by decide +kernel
theorem dX7_reach_7 : decode cX7_reach 7 = .ok (.getfield 55, 3) := by decide +kernel
theorem dX7_reach_10 : decode cX7_reach 10 = .ok (.bipush 9, 2) := by decide +kernel
theorem dX7_reach_12 : decode cX7_reach 12 = .ok (.iload_n 1, 1) := by decide +kernel
theorem dX7_reach_13 : decode cX7_reach 13 = .ok (.imul, 1) := by decide +kernel
theorem dX7_reach_14 : decode cX7_reach 14 = .ok (.laload, 1) := by decide +kernel
theorem dX7_reach_15 : decode cX7_reach 15 = .ok (.goto 12, 3) := by decide +kernel
theorem dX7_reach_18 : decode cX7_reach 18 = .ok (.aload_n 0, 1) := by decide +kernel
theorem dX7_reach_19 : decode cX7_reach 19 = .ok (.getfield 59, 3) := by decide +kernel
theorem dX7_reach_22 : decode cX7_reach 22 = .ok (.bipush 9, 2) := by decide +kernel
theorem dX7_reach_24 : decode cX7_reach 24 = .ok (.iload_n 1, 1) := by decide +kernel
theorem dX7_reach_25 : decode cX7_reach 25 = .ok (.imul, 1) := by decide +kernel
theorem dX7_reach_26 : decode cX7_reach 26 = .ok (.laload, 1) := by decide +kernel
theorem dX7_reach_27 : decode cX7_reach 27 = .ok (.lmul, 1) := by decide +kernel
theorem dX7_reach_28 : decode cX7_reach 28 = .ok (.lstore 4, 2) := by decide +kernel
theorem dX7_reach_30 : decode cX7_reach 30 = .ok (.iconst 1, 1) := by decide +kernel
theorem dX7_reach_31 : decode cX7_reach 31 = .ok (.istore 6, 2) := by decide +kernel
theorem dX7_reach_33 : decode cX7_reach 33 = .ok (.iload 6, 2) := by decide +kernel
theorem dX7_reach_35 : decode cX7_reach 35 = .ok (.aload_n 0, 1) := by decide +kernel
theorem dX7_reach_36 : decode cX7_reach 36 = .ok (.getfield 19, 3) := by decide +kernel
theorem dX7_reach_39 : decode cX7_reach 39 = .ok (.iload_n 1, 1) := by decide +kernel
theorem dX7_reach_40 : decode cX7_reach 40 = .ok (.iaload, 1) := by decide +kernel
theorem dX7_reach_41 : decode cX7_reach 41 = .ok (.if_icmp .gt 50, 3) := by decide +kernel
theorem dX7_reach_44 : decode cX7_reach 44 = .ok (.lload 4, 2) := by decide +kernel
theorem dX7_reach_46 : decode cX7_reach 46 = .ok (.iload_n 3, 1) := by decide +kernel
theorem dX7_reach_47 : decode cX7_reach 47 = .ok (.i2l, 1) := by decide +kernel
theorem dX7_reach_48 : decode cX7_reach 48 = .ok (.iload_n 2, 1) := by decide +kernel
theorem dX7_reach_49 : decode cX7_reach 49 = .ok (.ifCond .eq 18, 3) := by decide +kernel
theorem dX7_reach_52 : decode cX7_reach 52 = .ok (.aload_n 0, 1) := by decide +kernel
theorem dX7_reach_53 : decode cX7_reach 53 = .ok (.getfield 55, 3) := by decide +kernel
theorem dX7_reach_56 : decode cX7_reach 56 = .ok (.bipush 9, 2) := by decide +kernel
theorem dX7_reach_58 : decode cX7_reach 58 = .ok (.iload_n 1, 1) := by decide +kernel
theorem dX7_reach_59 : decode cX7_reach 59 = .ok (.imul, 1) := by decide +kernel
theorem dX7_reach_60 : decode cX7_reach 60 = .ok (.iload 6, 2) := by decide +kernel
theorem dX7_reach_62 : decode cX7_reach 62 = .ok (.iadd, 1) := by decide +kernel
theorem dX7_reach_63 : decode cX7_reach 63 = .ok (.laload, 1) := by decide +kernel
theorem dX7_reach_64 : decode cX7_reach 64 = .ok (.goto 15, 3) := by decide +kernel
theorem dX7_reach_67 : decode cX7_reach 67 = .ok (.aload_n 0, 1) := by decide +kernel
theorem dX7_reach_68 : decode cX7_reach 68 = .ok (.getfield 59, 3) := by decide +kernel
theorem dX7_reach_71 : decode cX7_reach 71 = .ok (.bipush 9, 2) := by decide +kernel
theorem dX7_reach_73 : decode cX7_reach 73 = .ok (.iload_n 1, 1) := by decide +kernel
theorem dX7_reach_74 : decode cX7_reach 74 = .ok (.imul, 1) := by decide +kernel
theorem dX7_reach_75 : decode cX7_reach 75 = .ok (.iload 6, 2) := by decide +kernel
theorem dX7_reach_77 : decode cX7_reach 77 = .ok (.iadd, 1) := by decide +kernel
theorem dX7_reach_78 : decode cX7_reach 78 = .ok (.laload, 1) := by decide +kernel
theorem dX7_reach_79 : decode cX7_reach 79 = .ok (.lmul, 1) := by decide +kernel
theorem dX7_reach_80 : decode cX7_reach 80 = .ok (.invokestatic 142, 3) := by decide +kernel
theorem dX7_reach_83 : decode cX7_reach 83 = .ok (.lstore 4, 2) := by decide +kernel
theorem dX7_reach_85 : decode cX7_reach 85 = .ok (.iinc 6 1, 3) := by decide +kernel
theorem dX7_reach_88 : decode cX7_reach 88 = .ok (.goto (-55), 3) := by decide +kernel
theorem dX7_reach_91 : decode cX7_reach 91 = .ok (.lload 4, 2) := by decide +kernel
theorem dX7_reach_93 : decode cX7_reach 93 = .ok (.lreturn, 1) := by decide +kernel
theorem dX7_measure_0 : decode cX7_measure 0 = .ok (.iload_n 2, 1) := by decide +kernel
theorem dX7_measure_1 : decode cX7_measure 1 = .ok (.tableswitch 85 0 4 #[35, 44, 52, 61, 69], 35) := by decide +kernel
theorem dX7_measure_36 : decode cX7_measure 36 = .ok (.aload_n 0, 1) := by decide +kernel
theorem dX7_measure_37 : decode cX7_measure 37 = .ok (.iload_n 1, 1) := by decide +kernel
theorem dX7_measure_38 : decode cX7_measure 38 = .ok (.iconst 1, 1) := by decide +kernel
theorem dX7_measure_39 : decode cX7_measure 39 = .ok (.iconst (-1), 1) := by decide +kernel
theorem dX7_measure_40 : decode cX7_measure 40 = .ok (.invokevirtual 145, 3) := by decide +kernel
theorem dX7_measure_43 : decode cX7_measure 43 = .ok (.lneg, 1) := by decide +kernel
theorem dX7_measure_44 : decode cX7_measure 44 = .ok (.lreturn, 1) := by decide +kernel
theorem dX7_measure_45 : decode cX7_measure 45 = .ok (.aload_n 0, 1) := by decide +kernel
theorem dX7_measure_46 : decode cX7_measure 46 = .ok (.iload_n 1, 1) := by decide +kernel
theorem dX7_measure_47 : decode cX7_measure 47 = .ok (.iconst 1, 1) := by decide +kernel
theorem dX7_measure_48 : decode cX7_measure 48 = .ok (.iconst 1, 1) := by decide +kernel
theorem dX7_measure_49 : decode cX7_measure 49 = .ok (.invokevirtual 145, 3) := by decide +kernel
theorem dX7_measure_52 : decode cX7_measure 52 = .ok (.lreturn, 1) := by decide +kernel
theorem dX7_measure_53 : decode cX7_measure 53 = .ok (.aload_n 0, 1) := by decide +kernel
theorem dX7_measure_54 : decode cX7_measure 54 = .ok (.iload_n 1, 1) := by decide +kernel
theorem dX7_measure_55 : decode cX7_measure 55 = .ok (.iconst 0, 1) := by decide +kernel
theorem dX7_measure_56 : decode cX7_measure 56 = .ok (.iconst (-1), 1) := by decide +kernel
theorem dX7_measure_57 : decode cX7_measure 57 = .ok (.invokevirtual 145, 3) := by decide +kernel
theorem dX7_measure_60 : decode cX7_measure 60 = .ok (.lneg, 1) := by decide +kernel
theorem dX7_measure_61 : decode cX7_measure 61 = .ok (.lreturn, 1) := by decide +kernel
theorem dX7_measure_62 : decode cX7_measure 62 = .ok (.aload_n 0, 1) := by decide +kernel
theorem dX7_measure_63 : decode cX7_measure 63 = .ok (.iload_n 1, 1) := by decide +kernel
theorem dX7_measure_64 : decode cX7_measure 64 = .ok (.iconst 0, 1) := by decide +kernel
theorem dX7_measure_65 : decode cX7_measure 65 = .ok (.iconst 1, 1) := by decide +kernel
theorem dX7_measure_66 : decode cX7_measure 66 = .ok (.invokevirtual 145, 3) := by decide +kernel
theorem dX7_measure_69 : decode cX7_measure 69 = .ok (.lreturn, 1) := by decide +kernel
theorem dX7_measure_70 : decode cX7_measure 70 = .ok (.aload_n 0, 1) := by decide +kernel
theorem dX7_measure_71 : decode cX7_measure 71 = .ok (.iload_n 1, 1) := by decide +kernel
theorem dX7_measure_72 : decode cX7_measure 72 = .ok (.iconst 1, 1) := by decide +kernel
theorem dX7_measure_73 : decode cX7_measure 73 = .ok (.iconst 1, 1) := by decide +kernel
theorem dX7_measure_74 : decode cX7_measure 74 = .ok (.invokevirtual 145, 3) := by decide +kernel
theorem dX7_measure_77 : decode cX7_measure 77 = .ok (.aload_n 0, 1) := by decide +kernel
theorem dX7_measure_78 : decode cX7_measure 78 = .ok (.iload_n 1, 1) := by decide +kernel
theorem dX7_measure_79 : decode cX7_measure 79 = .ok (.iconst 1, 1) := by decide +kernel
theorem dX7_measure_80 : decode cX7_measure 80 = .ok (.iconst (-1), 1) := by decide +kernel
theorem dX7_measure_81 : decode cX7_measure 81 = .ok (.invokevirtual 145, 3) := by decide +kernel
theorem dX7_measure_84 : decode cX7_measure 84 = .ok (.ladd, 1) := by decide +kernel
theorem dX7_measure_85 : decode cX7_measure 85 = .ok (.lreturn, 1) := by decide +kernel
theorem dX7_measure_86 : decode cX7_measure 86 = .ok (.aload_n 0, 1) := by decide +kernel
theorem dX7_measure_87 : decode cX7_measure 87 = .ok (.iload_n 1, 1) := by decide +kernel
theorem dX7_measure_88 : decode cX7_measure 88 = .ok (.iconst 0, 1) := by decide +kernel
theorem dX7_measure_89 : decode cX7_measure 89 = .ok (.iconst 1, 1) := by decide +kernel
theorem dX7_measure_90 : decode cX7_measure 90 = .ok (.invokevirtual 145, 3) := by decide +kernel
theorem dX7_measure_93 : decode cX7_measure 93 = .ok (.aload_n 0, 1) := by decide +kernel
theorem dX7_measure_94 : decode cX7_measure 94 = .ok (.iload_n 1, 1) := by decide +kernel
theorem dX7_measure_95 : decode cX7_measure 95 = .ok (.iconst 0, 1) := by decide +kernel
theorem dX7_measure_96 : decode cX7_measure 96 = .ok (.iconst (-1), 1) := by decide +kernel
theorem dX7_measure_97 : decode cX7_measure 97 = .ok (.invokevirtual 145, 3) := by decide +kernel
theorem dX7_measure_100 : decode cX7_measure 100 = .ok (.ladd, 1) := by decide +kernel
theorem dX7_measure_101 : decode cX7_measure 101 = .ok (.lreturn, 1) := by decide +kernel
theorem dX7_box_0 : decode cX7_box 0 = .ok (.aload_n 0, 1) := by decide +kernel
theorem dX7_box_1 : decode cX7_box 1 = .ok (.iload_n 1, 1) := by decide +kernel
theorem dX7_box_2 : decode cX7_box 2 = .ok (.invokevirtual 93, 3) := by decide +kernel
theorem dX7_box_5 : decode cX7_box 5 = .ok (.ifCond .ne 29, 3) := by decide +kernel
theorem dX7_box_8 : decode cX7_box 8 = .ok (.iload_n 2, 1) := by decide +kernel
theorem dX7_box_9 : decode cX7_box 9 = .ok (.invokestatic 107, 3) := by decide +kernel
theorem dX7_box_12 : decode cX7_box 12 = .ok (.ifCond .eq 22, 3) := by decide +kernel
theorem dX7_box_15 : decode cX7_box 15 = .ok (.iload_n 3, 1) := by decide +kernel
theorem dX7_box_16 : decode cX7_box 16 = .ok (.iconst 0, 1) := by decide +kernel
theorem dX7_box_17 : decode cX7_box 17 = .ok (.iconst 5, 1) := by decide +kernel
theorem dX7_box_18 : decode cX7_box 18 = .ok (.invokestatic 89, 3) := by decide +kernel
theorem dX7_box_21 : decode cX7_box 21 = .ok (.ifCond .eq 13, 3) := by decide +kernel
theorem dX7_box_24 : decode cX7_box 24 = .ok (.iload 4, 2) := by decide +kernel
theorem dX7_box_26 : decode cX7_box 26 = .ok (.iconst 0, 1) := by decide +kernel
theorem dX7_box_27 : decode cX7_box 27 = .ok (.iconst 1, 1) := by decide +kernel
theorem dX7_box_28 : decode cX7_box 28 = .ok (.invokestatic 89, 3) := by decide +kernel
theorem dX7_box_31 : decode cX7_box 31 = .ok (.ifCond .ne 7, 3) := by decide +kernel
theorem dX7_box_34 : decode cX7_box 34 = .ok (.invokestatic 131, 3) := by decide +kernel
theorem dX7_box_37 : decode cX7_box 37 = .ok (.lreturn, 1) := by decide +kernel
theorem dX7_box_38 : decode cX7_box 38 = .ok (.aload_n 0, 1) := by decide +kernel
theorem dX7_box_39 : decode cX7_box 39 = .ok (.iload_n 2, 1) := by decide +kernel
theorem dX7_box_40 : decode cX7_box 40 = .ok (.invokevirtual 135, 3) := by decide +kernel
theorem dX7_box_43 : decode cX7_box 43 = .ok (.aload_n 0, 1) := by decide +kernel
theorem dX7_box_44 : decode cX7_box 44 = .ok (.iload_n 1, 1) := by decide +kernel
theorem dX7_box_45 : decode cX7_box 45 = .ok (.iload_n 3, 1) := by decide +kernel
theorem dX7_box_46 : decode cX7_box 46 = .ok (.invokevirtual 149, 3) := by decide +kernel
theorem dX7_box_49 : decode cX7_box 49 = .ok (.aload_n 0, 1) := by decide +kernel
theorem dX7_box_50 : decode cX7_box 50 = .ok (.getfield 80, 3) := by decide +kernel
theorem dX7_box_53 : decode cX7_box 53 = .ok (.i2l, 1) := by decide +kernel
theorem dX7_box_54 : decode cX7_box 54 = .ok (.lmul, 1) := by decide +kernel
theorem dX7_box_55 : decode cX7_box 55 = .ok (.aload_n 0, 1) := by decide +kernel
theorem dX7_box_56 : decode cX7_box 56 = .ok (.getfield 49, 3) := by decide +kernel
theorem dX7_box_59 : decode cX7_box 59 = .ok (.iload_n 1, 1) := by decide +kernel
theorem dX7_box_60 : decode cX7_box 60 = .ok (.iaload, 1) := by decide +kernel
theorem dX7_box_61 : decode cX7_box 61 = .ok (.i2l, 1) := by decide +kernel
theorem dX7_box_62 : decode cX7_box 62 = .ok (.iload 4, 2) := by decide +kernel
theorem dX7_box_64 : decode cX7_box 64 = .ok (.invokestatic 153, 3) := by decide +kernel
theorem dX7_box_67 : decode cX7_box 67 = .ok (.lreturn, 1) := by decide +kernel
theorem dX7_along_0 : decode cX7_along 0 = .ok (.aload_n 0, 1) := by decide +kernel
theorem dX7_along_1 : decode cX7_along 1 = .ok (.iload_n 1, 1) := by decide +kernel
theorem dX7_along_2 : decode cX7_along 2 = .ok (.iload 4, 2) := by decide +kernel
theorem dX7_along_4 : decode cX7_along 4 = .ok (.invokevirtual 149, 3) := by decide +kernel
theorem dX7_along_7 : decode cX7_along 7 = .ok (.aload_n 0, 1) := by decide +kernel
theorem dX7_along_8 : decode cX7_along 8 = .ok (.getfield 49, 3) := by decide +kernel
theorem dX7_along_11 : decode cX7_along 11 = .ok (.iload_n 2, 1) := by decide +kernel
theorem dX7_along_12 : decode cX7_along 12 = .ok (.iaload, 1) := by decide +kernel
theorem dX7_along_13 : decode cX7_along 13 = .ok (.i2l, 1) := by decide +kernel
theorem dX7_along_14 : decode cX7_along 14 = .ok (.lmul, 1) := by decide +kernel
theorem dX7_along_15 : decode cX7_along 15 = .ok (.aload_n 0, 1) := by decide +kernel
theorem dX7_along_16 : decode cX7_along 16 = .ok (.iload_n 2, 1) := by decide +kernel
theorem dX7_along_17 : decode cX7_along 17 = .ok (.iload 4, 2) := by decide +kernel
theorem dX7_along_19 : decode cX7_along 19 = .ok (.invokevirtual 149, 3) := by decide +kernel
theorem dX7_along_22 : decode cX7_along 22 = .ok (.aload_n 0, 1) := by decide +kernel
theorem dX7_along_23 : decode cX7_along 23 = .ok (.getfield 49, 3) := by decide +kernel
theorem dX7_along_26 : decode cX7_along 26 = .ok (.iload_n 1, 1) := by decide +kernel
theorem dX7_along_27 : decode cX7_along 27 = .ok (.iaload, 1) := by decide +kernel
theorem dX7_along_28 : decode cX7_along 28 = .ok (.i2l, 1) := by decide +kernel
theorem dX7_along_29 : decode cX7_along 29 = .ok (.lmul, 1) := by decide +kernel
theorem dX7_along_30 : decode cX7_along 30 = .ok (.invokestatic 157, 3) := by decide +kernel
theorem dX7_along_33 : decode cX7_along 33 = .ok (.lstore 5, 2) := by decide +kernel
theorem dX7_along_35 : decode cX7_along 35 = .ok (.lload 5, 2) := by decide +kernel
theorem dX7_along_37 : decode cX7_along 37 = .ok (.aload_n 0, 1) := by decide +kernel
theorem dX7_along_38 : decode cX7_along 38 = .ok (.iload_n 1, 1) := by decide +kernel
theorem dX7_along_39 : decode cX7_along 39 = .ok (.iload_n 3, 1) := by decide +kernel
theorem dX7_along_40 : decode cX7_along 40 = .ok (.invokevirtual 149, 3) := by decide +kernel
theorem dX7_along_43 : decode cX7_along 43 = .ok (.aload_n 0, 1) := by decide +kernel
theorem dX7_along_44 : decode cX7_along 44 = .ok (.getfield 49, 3) := by decide +kernel
theorem dX7_along_47 : decode cX7_along 47 = .ok (.iload_n 2, 1) := by decide +kernel
theorem dX7_along_48 : decode cX7_along 48 = .ok (.iaload, 1) := by decide +kernel
theorem dX7_along_49 : decode cX7_along 49 = .ok (.i2l, 1) := by decide +kernel
theorem dX7_along_50 : decode cX7_along 50 = .ok (.lmul, 1) := by decide +kernel
theorem dX7_along_51 : decode cX7_along 51 = .ok (.aload_n 0, 1) := by decide +kernel
theorem dX7_along_52 : decode cX7_along 52 = .ok (.iload_n 2, 1) := by decide +kernel
theorem dX7_along_53 : decode cX7_along 53 = .ok (.iload_n 3, 1) := by decide +kernel
theorem dX7_along_54 : decode cX7_along 54 = .ok (.invokevirtual 149, 3) := by decide +kernel
theorem dX7_along_57 : decode cX7_along 57 = .ok (.aload_n 0, 1) := by decide +kernel
theorem dX7_along_58 : decode cX7_along 58 = .ok (.getfield 49, 3) := by decide +kernel
theorem dX7_along_61 : decode cX7_along 61 = .ok (.iload_n 1, 1) := by decide +kernel
theorem dX7_along_62 : decode cX7_along 62 = .ok (.iaload, 1) := by decide +kernel
theorem dX7_along_63 : decode cX7_along 63 = .ok (.i2l, 1) := by decide +kernel
theorem dX7_along_64 : decode cX7_along 64 = .ok (.lmul, 1) := by decide +kernel
theorem dX7_along_65 : decode cX7_along 65 = .ok (.invokestatic 142, 3) := by decide +kernel
theorem dX7_along_68 : decode cX7_along 68 = .ok (.lsub, 1) := by decide +kernel
theorem dX7_along_69 : decode cX7_along 69 = .ok (.lreturn, 1) := by decide +kernel
theorem dX7_overlap_0 : decode cX7_overlap 0 = .ok (.aload_n 0, 1) := by decide +kernel
theorem dX7_overlap_1 : decode cX7_overlap 1 = .ok (.iload_n 1, 1) := by decide +kernel
theorem dX7_overlap_2 : decode cX7_overlap 2 = .ok (.invokevirtual 93, 3) := by decide +kernel
theorem dX7_overlap_5 : decode cX7_overlap 5 = .ok (.ifCond .ne 28, 3) := by decide +kernel
theorem dX7_overlap_8 : decode cX7_overlap 8 = .ok (.aload_n 0, 1) := by decide +kernel
theorem dX7_overlap_9 : decode cX7_overlap 9 = .ok (.iload_n 2, 1) := by decide +kernel
theorem dX7_overlap_10 : decode cX7_overlap 10 = .ok (.invokevirtual 93, 3) := by decide +kernel
theorem dX7_overlap_13 : decode cX7_overlap 13 = .ok (.ifCond .ne 20, 3) := by decide +kernel
theorem dX7_overlap_16 : decode cX7_overlap 16 = .ok (.iload_n 3, 1) := by decide +kernel
theorem dX7_overlap_17 : decode cX7_overlap 17 = .ok (.invokestatic 107, 3) := by decide +kernel
theorem dX7_overlap_20 : decode cX7_overlap 20 = .ok (.ifCond .eq 13, 3) := by decide +kernel
theorem dX7_overlap_23 : decode cX7_overlap 23 = .ok (.iload 4, 2) := by decide +kernel
theorem dX7_overlap_25 : decode cX7_overlap 25 = .ok (.iconst 0, 1) := by decide +kernel
theorem dX7_overlap_26 : decode cX7_overlap 26 = .ok (.iconst 1, 1) := by decide +kernel
theorem dX7_overlap_27 : decode cX7_overlap 27 = .ok (.invokestatic 89, 3) := by decide +kernel
theorem dX7_overlap_30 : decode cX7_overlap 30 = .ok (.ifCond .ne 7, 3) := by decide +kernel
theorem dX7_overlap_33 : decode cX7_overlap 33 = .ok (.invokestatic 131, 3) := by decide +kernel
theorem dX7_overlap_36 : decode cX7_overlap 36 = .ok (.lreturn, 1) := by decide +kernel
theorem dX7_overlap_37 : decode cX7_overlap 37 = .ok (.aload_n 0, 1) := by decide +kernel
theorem dX7_overlap_38 : decode cX7_overlap 38 = .ok (.iload_n 3, 1) := by decide +kernel
theorem dX7_overlap_39 : decode cX7_overlap 39 = .ok (.invokevirtual 135, 3) := by decide +kernel
theorem dX7_overlap_42 : decode cX7_overlap 42 = .ok (.aload_n 0, 1) := by decide +kernel
theorem dX7_overlap_43 : decode cX7_overlap 43 = .ok (.iload_n 1, 1) := by decide +kernel
theorem dX7_overlap_44 : decode cX7_overlap 44 = .ok (.iload_n 2, 1) := by decide +kernel
theorem dX7_overlap_45 : decode cX7_overlap 45 = .ok (.iconst 0, 1) := by decide +kernel
theorem dX7_overlap_46 : decode cX7_overlap 46 = .ok (.iconst 1, 1) := by decide +kernel
theorem dX7_overlap_47 : decode cX7_overlap 47 = .ok (.invokevirtual 160, 3) := by decide +kernel
theorem dX7_overlap_50 : decode cX7_overlap 50 = .ok (.lstore 5, 2) := by decide +kernel
theorem dX7_overlap_52 : decode cX7_overlap 52 = .ok (.aload_n 0, 1) := by decide +kernel
theorem dX7_overlap_53 : decode cX7_overlap 53 = .ok (.iload_n 1, 1) := by decide +kernel
theorem dX7_overlap_54 : decode cX7_overlap 54 = .ok (.iload_n 2, 1) := by decide +kernel
theorem dX7_overlap_55 : decode cX7_overlap 55 = .ok (.iconst 2, 1) := by decide +kernel
theorem dX7_overlap_56 : decode cX7_overlap 56 = .ok (.iconst 3, 1) := by decide +kernel
theorem dX7_overlap_57 : decode cX7_overlap 57 = .ok (.invokevirtual 160, 3) := by decide +kernel
theorem dX7_overlap_60 : decode cX7_overlap 60 = .ok (.lstore 7, 2) := by decide +kernel
theorem dX7_overlap_62 : decode cX7_overlap 62 = .ok (.aload_n 0, 1) := by decide +kernel
theorem dX7_overlap_63 : decode cX7_overlap 63 = .ok (.getfield 49, 3) := by decide +kernel
theorem dX7_overlap_66 : decode cX7_overlap 66 = .ok (.iload_n 1, 1) := by decide +kernel
theorem dX7_overlap_67 : decode cX7_overlap 67 = .ok (.iaload, 1) := by decide +kernel
theorem dX7_overlap_68 : decode cX7_overlap 68 = .ok (.aload_n 0, 1) := by decide +kernel
theorem dX7_overlap_69 : decode cX7_overlap 69 = .ok (.getfield 49, 3) := by decide +kernel
theorem dX7_overlap_72 : decode cX7_overlap 72 = .ok (.iload_n 2, 1) := by decide +kernel
theorem dX7_overlap_73 : decode cX7_overlap 73 = .ok (.iaload, 1) := by decide +kernel
theorem dX7_overlap_74 : decode cX7_overlap 74 = .ok (.imul, 1) := by decide +kernel
theorem dX7_overlap_75 : decode cX7_overlap 75 = .ok (.i2l, 1) := by decide +kernel
theorem dX7_overlap_76 : decode cX7_overlap 76 = .ok (.lstore 9, 2) := by decide +kernel
theorem dX7_overlap_78 : decode cX7_overlap 78 = .ok (.lload 5, 2) := by decide +kernel
theorem dX7_overlap_80 : decode cX7_overlap 80 = .ok (.lconst 0, 1) := by decide +kernel
theorem dX7_overlap_81 : decode cX7_overlap 81 = .ok (.lcmp, 1) := by decide +kernel
theorem dX7_overlap_82 : decode cX7_overlap 82 = .ok (.ifCond .lt 10, 3) := by decide +kernel
theorem dX7_overlap_85 : decode cX7_overlap 85 = .ok (.lload 7, 2) := by decide +kernel
theorem dX7_overlap_87 : decode cX7_overlap 87 = .ok (.lconst 0, 1) := by decide +kernel
theorem dX7_overlap_88 : decode cX7_overlap 88 = .ok (.lcmp, 1) := by decide +kernel
theorem dX7_overlap_89 : decode cX7_overlap 89 = .ok (.ifCond .ge 7, 3) := by decide +kernel
theorem dX7_overlap_92 : decode cX7_overlap 92 = .ok (.lconst 0, 1) := by decide +kernel
theorem dX7_overlap_93 : decode cX7_overlap 93 = .ok (.goto 20, 3) := by decide +kernel
theorem dX7_overlap_96 : decode cX7_overlap 96 = .ok (.lload 5, 2) := by decide +kernel
theorem dX7_overlap_98 : decode cX7_overlap 98 = .ok (.lload 7, 2) := by decide +kernel
theorem dX7_overlap_100 : decode cX7_overlap 100 = .ok (.lmul, 1) := by decide +kernel
theorem dX7_overlap_101 : decode cX7_overlap 101 = .ok (.aload_n 0, 1) := by decide +kernel
theorem dX7_overlap_102 : decode cX7_overlap 102 = .ok (.getfield 80, 3) := by decide +kernel
theorem dX7_overlap_105 : decode cX7_overlap 105 = .ok (.i2l, 1) := by decide +kernel
theorem dX7_overlap_106 : decode cX7_overlap 106 = .ok (.lmul, 1) := by decide +kernel
theorem dX7_overlap_107 : decode cX7_overlap 107 = .ok (.aload_n 0, 1) := by decide +kernel
theorem dX7_overlap_108 : decode cX7_overlap 108 = .ok (.getfield 80, 3) := by decide +kernel
theorem dX7_overlap_111 : decode cX7_overlap 111 = .ok (.i2l, 1) := by decide +kernel
theorem dX7_overlap_112 : decode cX7_overlap 112 = .ok (.lmul, 1) := by decide +kernel
theorem dX7_overlap_113 : decode cX7_overlap 113 = .ok (.lstore 11, 2) := by decide +kernel
theorem dX7_overlap_115 : decode cX7_overlap 115 = .ok (.lload 11, 2) := by decide +kernel
theorem dX7_overlap_117 : decode cX7_overlap 117 = .ok (.lload 9, 2) := by decide +kernel
theorem dX7_overlap_119 : decode cX7_overlap 119 = .ok (.lload 9, 2) := by decide +kernel
theorem dX7_overlap_121 : decode cX7_overlap 121 = .ok (.lmul, 1) := by decide +kernel
theorem dX7_overlap_122 : decode cX7_overlap 122 = .ok (.iload 4, 2) := by decide +kernel
theorem dX7_overlap_124 : decode cX7_overlap 124 = .ok (.invokestatic 153, 3) := by decide +kernel
theorem dX7_overlap_127 : decode cX7_overlap 127 = .ok (.lreturn, 1) := by decide +kernel
theorem dX7_side_0 : decode cX7_side 0 = .ok (.lload 4, 2) := by decide +kernel
theorem dX7_side_2 : decode cX7_side 2 = .ok (.lload_n 0, 1) := by decide +kernel
theorem dX7_side_3 : decode cX7_side 3 = .ok (.lsub, 1) := by decide +kernel
theorem dX7_side_4 : decode cX7_side 4 = .ok (.lload 10, 2) := by decide +kernel
theorem dX7_side_6 : decode cX7_side 6 = .ok (.lload_n 2, 1) := by decide +kernel
theorem dX7_side_7 : decode cX7_side 7 = .ok (.lsub, 1) := by decide +kernel
theorem dX7_side_8 : decode cX7_side 8 = .ok (.lmul, 1) := by decide +kernel
theorem dX7_side_9 : decode cX7_side 9 = .ok (.lload 6, 2) := by decide +kernel
theorem dX7_side_11 : decode cX7_side 11 = .ok (.lload_n 2, 1) := by decide +kernel
theorem dX7_side_12 : decode cX7_side 12 = .ok (.lsub, 1) := by decide +kernel
theorem dX7_side_13 : decode cX7_side 13 = .ok (.lload 8, 2) := by decide +kernel
theorem dX7_side_15 : decode cX7_side 15 = .ok (.lload_n 0, 1) := by decide +kernel
theorem dX7_side_16 : decode cX7_side 16 = .ok (.lsub, 1) := by decide +kernel
theorem dX7_side_17 : decode cX7_side 17 = .ok (.lmul, 1) := by decide +kernel
theorem dX7_side_18 : decode cX7_side 18 = .ok (.lsub, 1) := by decide +kernel
theorem dX7_side_19 : decode cX7_side 19 = .ok (.lstore 12, 2) := by decide +kernel
theorem dX7_side_21 : decode cX7_side 21 = .ok (.lload 12, 2) := by decide +kernel
theorem dX7_side_23 : decode cX7_side 23 = .ok (.lconst 0, 1) := by decide +kernel
theorem dX7_side_24 : decode cX7_side 24 = .ok (.lcmp, 1) := by decide +kernel
theorem dX7_side_25 : decode cX7_side 25 = .ok (.ifCond .le 7, 3) := by decide +kernel
theorem dX7_side_28 : decode cX7_side 28 = .ok (.iconst 1, 1) := by decide +kernel
theorem dX7_side_29 : decode cX7_side 29 = .ok (.goto 15, 3) := by decide +kernel
theorem dX7_side_32 : decode cX7_side 32 = .ok (.lload 12, 2) := by decide +kernel
theorem dX7_side_34 : decode cX7_side 34 = .ok (.lconst 0, 1) := by decide +kernel
theorem dX7_side_35 : decode cX7_side 35 = .ok (.lcmp, 1) := by decide +kernel
theorem dX7_side_36 : decode cX7_side 36 = .ok (.ifCond .ge 7, 3) := by decide +kernel
theorem dX7_side_39 : decode cX7_side 39 = .ok (.iconst (-1), 1) := by decide +kernel
theorem dX7_side_40 : decode cX7_side 40 = .ok (.goto 4, 3) := by decide +kernel
theorem dX7_side_43 : decode cX7_side 43 = .ok (.iconst 0, 1) := by decide +kernel
theorem dX7_side_44 : decode cX7_side 44 = .ok (.ireturn, 1) := by decide +kernel
theorem dX7_isBetween_0 : decode cX7_isBetween 0 = .ok (.lload 4, 2) := by decide +kernel
theorem dX7_isBetween_2 : decode cX7_isBetween 2 = .ok (.lload_n 0, 1) := by decide +kernel
theorem dX7_isBetween_3 : decode cX7_isBetween 3 = .ok (.lload_n 2, 1) := by decide +kernel
theorem dX7_isBetween_4 : decode cX7_isBetween 4 = .ok (.invokestatic 157, 3) := by decide +kernel
theorem dX7_isBetween_7 : decode cX7_isBetween 7 = .ok (.lcmp, 1) := by decide +kernel
theorem dX7_isBetween_8 : decode cX7_isBetween 8 = .ok (.ifCond .lt 18, 3) := by decide +kernel
theorem dX7_isBetween_11 : decode cX7_isBetween 11 = .ok (.lload 4, 2) := by decide +kernel
theorem dX7_isBetween_13 : decode cX7_isBetween 13 = .ok (.lload_n 0, 1) := by decide +kernel
theorem dX7_isBetween_14 : decode cX7_isBetween 14 = .ok (.lload_n 2, 1) := by decide +kernel
theorem dX7_isBetween_15 : decode cX7_isBetween 15 = .ok (.invokestatic 142, 3) := by decide +kernel
theorem dX7_isBetween_18 : decode cX7_isBetween 18 = .ok (.lcmp, 1) := by decide +kernel
theorem dX7_isBetween_19 : decode cX7_isBetween 19 = .ok (.ifCond .gt 7, 3) := by decide +kernel
theorem dX7_isBetween_22 : decode cX7_isBetween 22 = .ok (.iconst 1, 1) := by decide +kernel
theorem dX7_isBetween_23 : decode cX7_isBetween 23 = .ok (.goto 4, 3) := by decide +kernel
theorem dX7_isBetween_26 : decode cX7_isBetween 26 = .ok (.iconst 0, 1) := by decide +kernel
theorem dX7_isBetween_27 : decode cX7_isBetween 27 = .ok (.ireturn, 1) := by decide +kernel
theorem dX7_isOn_0 : decode cX7_isOn 0 = .ok (.lload_n 0, 1) := by decide +kernel
theorem dX7_isOn_1 : decode cX7_isOn 1 = .ok (.lload_n 2, 1) := by decide +kernel
theorem dX7_isOn_2 : decode cX7_isOn 2 = .ok (.lload 4, 2) := by decide +kernel
theorem dX7_isOn_4 : decode cX7_isOn 4 = .ok (.lload 6, 2) := by decide +kernel
theorem dX7_isOn_6 : decode cX7_isOn 6 = .ok (.lload 8, 2) := by decide +kernel
theorem dX7_isOn_8 : decode cX7_isOn 8 = .ok (.lload 10, 2) := by decide +kernel
theorem dX7_isOn_10 : decode cX7_isOn 10 = .ok (.invokestatic 164, 3) := by decide +kernel
theorem dX7_isOn_13 : decode cX7_isOn 13 = .ok (.ifCond .ne 29, 3) := by decide +kernel
theorem dX7_isOn_16 : decode cX7_isOn 16 = .ok (.lload_n 0, 1) := by decide +kernel
theorem dX7_isOn_17 : decode cX7_isOn 17 = .ok (.lload 4, 2) := by decide +kernel
theorem dX7_isOn_19 : decode cX7_isOn 19 = .ok (.lload 8, 2) := by decide +kernel
theorem dX7_isOn_21 : decode cX7_isOn 21 = .ok (.invokestatic 168, 3) := by decide +kernel
theorem dX7_isOn_24 : decode cX7_isOn 24 = .ok (.ifCond .eq 18, 3) := by decide +kernel
theorem dX7_isOn_27 : decode cX7_isOn 27 = .ok (.lload_n 2, 1) := by decide +kernel
theorem dX7_isOn_28 : decode cX7_isOn 28 = .ok (.lload 6, 2) := by decide +kernel
theorem dX7_isOn_30 : decode cX7_isOn 30 = .ok (.lload 10, 2) := by decide +kernel
theorem dX7_isOn_32 : decode cX7_isOn 32 = .ok (.invokestatic 168, 3) := by decide +kernel
theorem dX7_isOn_35 : decode cX7_isOn 35 = .ok (.ifCond .eq 7, 3) := by decide +kernel
theorem dX7_isOn_38 : decode cX7_isOn 38 = .ok (.iconst 1, 1) := by decide +kernel
theorem dX7_isOn_39 : decode cX7_isOn 39 = .ok (.goto 4, 3) := by decide +kernel
theorem dX7_isOn_42 : decode cX7_isOn 42 = .ok (.iconst 0, 1) := by decide +kernel
theorem dX7_isOn_43 : decode cX7_isOn 43 = .ok (.ireturn, 1) := by decide +kernel
theorem dX7_layEnds_0 : decode cX7_layEnds 0 = .ok (.bipush 9, 2) := by decide +kernel
theorem dX7_layEnds_2 : decode cX7_layEnds 2 = .ok (.iload_n 2, 1) := by decide +kernel
theorem dX7_layEnds_3 : decode cX7_layEnds 3 = .ok (.imul, 1) := by decide +kernel
theorem dX7_layEnds_4 : decode cX7_layEnds 4 = .ok (.aload_n 0, 1) := by decide +kernel
theorem dX7_layEnds_5 : decode cX7_layEnds 5 = .ok (.getfield 22, 3) := by decide +kernel
theorem dX7_layEnds_8 : decode cX7_layEnds 8 = .ok (.bipush 8, 2) := by decide +kernel
theorem dX7_layEnds_10 : decode cX7_layEnds 10 = .ok (.iload_n 2, 1) := by decide +kernel
theorem dX7_layEnds_11 : decode cX7_layEnds 11 = .ok (.imul, 1) := by decide +kernel
theorem dX7_layEnds_12 : decode cX7_layEnds 12 = .ok (.iload_n 3, 1) := by decide +kernel
theorem dX7_layEnds_13 : decode cX7_layEnds 13 = .ok (.iadd, 1) := by decide +kernel
theorem dX7_layEnds_14 : decode cX7_layEnds 14 = .ok (.iaload, 1) := by decide +kernel
theorem dX7_layEnds_15 : decode cX7_layEnds 15 = .ok (.iadd, 1) := by decide +kernel
theorem dX7_layEnds_16 : decode cX7_layEnds 16 = .ok (.iconst 1, 1) := by decide +kernel
theorem dX7_layEnds_17 : decode cX7_layEnds 17 = .ok (.iadd, 1) := by decide +kernel
theorem dX7_layEnds_18 : decode cX7_layEnds 18 = .ok (.istore 6, 2) := by decide +kernel
theorem dX7_layEnds_20 : decode cX7_layEnds 20 = .ok (.bipush 9, 2) := by decide +kernel
theorem dX7_layEnds_22 : decode cX7_layEnds 22 = .ok (.iload_n 2, 1) := by decide +kernel
theorem dX7_layEnds_23 : decode cX7_layEnds 23 = .ok (.imul, 1) := by decide +kernel
theorem dX7_layEnds_24 : decode cX7_layEnds 24 = .ok (.iload_n 3, 1) := by decide +kernel
theorem dX7_layEnds_25 : decode cX7_layEnds 25 = .ok (.iadd, 1) := by decide +kernel
theorem dX7_layEnds_26 : decode cX7_layEnds 26 = .ok (.iconst 1, 1) := by decide +kernel
theorem dX7_layEnds_27 : decode cX7_layEnds 27 = .ok (.iadd, 1) := by decide +kernel
theorem dX7_layEnds_28 : decode cX7_layEnds 28 = .ok (.istore 7, 2) := by decide +kernel
theorem dX7_layEnds_30 : decode cX7_layEnds 30 = .ok (.aload_n 0, 1) := by decide +kernel
theorem dX7_layEnds_31 : decode cX7_layEnds 31 = .ok (.getfield 65, 3) := by decide +kernel
theorem dX7_layEnds_34 : decode cX7_layEnds 34 = .ok (.iload_n 1, 1) := by decide +kernel
theorem dX7_layEnds_35 : decode cX7_layEnds 35 = .ok (.aload_n 0, 1) := by decide +kernel
theorem dX7_layEnds_36 : decode cX7_layEnds 36 = .ok (.getfield 55, 3) := by decide +kernel
theorem dX7_layEnds_39 : decode cX7_layEnds 39 = .ok (.iload 6, 2) := by decide +kernel
theorem dX7_layEnds_41 : decode cX7_layEnds 41 = .ok (.laload, 1) := by decide +kernel
theorem dX7_layEnds_42 : decode cX7_layEnds 42 = .ok (.lload 4, 2) := by decide +kernel
theorem dX7_layEnds_44 : decode cX7_layEnds 44 = .ok (.lmul, 1) := by decide +kernel
theorem dX7_layEnds_45 : decode cX7_layEnds 45 = .ok (.lastore, 1) := by decide +kernel
theorem dX7_layEnds_46 : decode cX7_layEnds 46 = .ok (.aload_n 0, 1) := by decide +kernel
theorem dX7_layEnds_47 : decode cX7_layEnds 47 = .ok (.getfield 68, 3) := by decide +kernel
theorem dX7_layEnds_50 : decode cX7_layEnds 50 = .ok (.iload_n 1, 1) := by decide +kernel
theorem dX7_layEnds_51 : decode cX7_layEnds 51 = .ok (.aload_n 0, 1) := by decide +kernel
theorem dX7_layEnds_52 : decode cX7_layEnds 52 = .ok (.getfield 59, 3) := by decide +kernel
theorem dX7_layEnds_55 : decode cX7_layEnds 55 = .ok (.iload 6, 2) := by decide +kernel
theorem dX7_layEnds_57 : decode cX7_layEnds 57 = .ok (.laload, 1) := by decide +kernel
theorem dX7_layEnds_58 : decode cX7_layEnds 58 = .ok (.lload 4, 2) := by decide +kernel
theorem dX7_layEnds_60 : decode cX7_layEnds 60 = .ok (.lmul, 1) := by decide +kernel
theorem dX7_layEnds_61 : decode cX7_layEnds 61 = .ok (.lastore, 1) := by decide +kernel
theorem dX7_layEnds_62 : decode cX7_layEnds 62 = .ok (.aload_n 0, 1) := by decide +kernel
theorem dX7_layEnds_63 : decode cX7_layEnds 63 = .ok (.getfield 65, 3) := by decide +kernel
theorem dX7_layEnds_66 : decode cX7_layEnds 66 = .ok (.iload_n 1, 1) := by decide +kernel
theorem dX7_layEnds_67 : decode cX7_layEnds 67 = .ok (.iconst 1, 1) := by decide +kernel
theorem dX7_layEnds_68 : decode cX7_layEnds 68 = .ok (.iadd, 1) := by decide +kernel
theorem dX7_layEnds_69 : decode cX7_layEnds 69 = .ok (.aload_n 0, 1) := by decide +kernel
theorem dX7_layEnds_70 : decode cX7_layEnds 70 = .ok (.getfield 55, 3) := by decide +kernel
theorem dX7_layEnds_73 : decode cX7_layEnds 73 = .ok (.iload 7, 2) := by decide +kernel
