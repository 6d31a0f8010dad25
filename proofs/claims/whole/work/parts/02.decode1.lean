theorem dX0_init_0 : decode cX0_init 0 = .ok (.aload_n 0, 1) := by decide +kernel
theorem dX0_init_1 : decode cX0_init 1 = .ok (.invokespecial 3, 3) := by decide +kernel
theorem dX0_init_4 : decode cX0_init 4 = .ok (.aload_n 0, 1) := by decide +kernel
theorem dX0_init_5 : decode cX0_init 5 = .ok (.bipush 8, 2) := by decide +kernel
theorem dX0_init_7 : decode cX0_init 7 = .ok (.newarray .int, 2) := by decide +kernel
theorem dX0_init_9 : decode cX0_init 9 = .ok (.putfield 9, 3) := by decide +kernel
theorem dX0_init_12 : decode cX0_init 12 = .ok (.aload_n 0, 1) := by decide +kernel
theorem dX0_init_13 : decode cX0_init 13 = .ok (.bipush 8, 2) := by decide +kernel
theorem dX0_init_15 : decode cX0_init 15 = .ok (.newarray .int, 2) := by decide +kernel
theorem dX0_init_17 : decode cX0_init 17 = .ok (.putfield 15, 3) := by decide +kernel
theorem dX0_init_20 : decode cX0_init 20 = .ok (.aload_n 0, 1) := by decide +kernel
theorem dX0_init_21 : decode cX0_init 21 = .ok (.bipush 8, 2) := by decide +kernel
theorem dX0_init_23 : decode cX0_init 23 = .ok (.newarray .int, 2) := by decide +kernel
theorem dX0_init_25 : decode cX0_init 25 = .ok (.putfield 18, 3) := by decide +kernel
theorem dX0_init_28 : decode cX0_init 28 = .ok (.aload_n 0, 1) := by decide +kernel
theorem dX0_init_29 : decode cX0_init 29 = .ok (.iconst 0, 1) := by decide +kernel
theorem dX0_init_30 : decode cX0_init 30 = .ok (.putfield 21, 3) := by decide +kernel
theorem dX0_init_33 : decode cX0_init 33 = .ok (.aload_n 0, 1) := by decide +kernel
theorem dX0_init_34 : decode cX0_init 34 = .ok (.iload_n 1, 1) := by decide +kernel
theorem dX0_init_35 : decode cX0_init 35 = .ok (.putfield 25, 3) := by decide +kernel
theorem dX0_init_38 : decode cX0_init 38 = .ok (.aload_n 0, 1) := by decide +kernel
theorem dX0_init_39 : decode cX0_init 39 = .ok (.iload_n 2, 1) := by decide +kernel
theorem dX0_init_40 : decode cX0_init 40 = .ok (.putfield 28, 3) := by decide +kernel
theorem dX0_init_43 : decode cX0_init 43 = .ok (.aload_n 0, 1) := by decide +kernel
theorem dX0_init_44 : decode cX0_init 44 = .ok (.iload_n 3, 1) := by decide +kernel
theorem dX0_init_45 : decode cX0_init 45 = .ok (.putfield 31, 3) := by decide +kernel
theorem dX0_init_48 : decode cX0_init 48 = .ok (.aload_n 0, 1) := by decide +kernel
theorem dX0_init_49 : decode cX0_init 49 = .ok (.iload 4, 2) := by decide +kernel
theorem dX0_init_51 : decode cX0_init 51 = .ok (.putfield 34, 3) := by decide +kernel
theorem dX0_init_54 : decode cX0_init 54 = .ok (.return_, 1) := by decide +kernel
theorem dX0_hasLimb_0 : decode cX0_hasLimb 0 = .ok (.iload_n 1, 1) := by decide +kernel
theorem dX0_hasLimb_1 : decode cX0_hasLimb 1 = .ok (.iconst 0, 1) := by decide +kernel
theorem dX0_hasLimb_2 : decode cX0_hasLimb 2 = .ok (.aload_n 0, 1) := by decide +kernel
theorem dX0_hasLimb_3 : decode cX0_hasLimb 3 = .ok (.getfield 21, 3) := by decide +kernel
theorem dX0_hasLimb_6 : decode cX0_hasLimb 6 = .ok (.iconst 1, 1) := by decide +kernel
theorem dX0_hasLimb_7 : decode cX0_hasLimb 7 = .ok (.isub, 1) := by decide +kernel
theorem dX0_hasLimb_8 : decode cX0_hasLimb 8 = .ok (.invokestatic 37, 3) := by decide +kernel
theorem dX0_hasLimb_11 : decode cX0_hasLimb 11 = .ok (.ireturn, 1) := by decide +kernel
theorem dX0_grow_0 : decode cX0_grow 0 = .ok (.aload_n 0, 1) := by decide +kernel
theorem dX0_grow_1 : decode cX0_grow 1 = .ok (.getfield 21, 3) := by decide +kernel
theorem dX0_grow_4 : decode cX0_grow 4 = .ok (.bipush 8, 2) := by decide +kernel
theorem dX0_grow_6 : decode cX0_grow 6 = .ok (.if_icmp .lt 6, 3) := by decide +kernel
theorem dX0_grow_9 : decode cX0_grow 9 = .ok (.bipush (-4), 2) := by decide +kernel
theorem dX0_grow_11 : decode cX0_grow 11 = .ok (.ireturn, 1) := by decide +kernel
theorem dX0_grow_12 : decode cX0_grow 12 = .ok (.aload_n 0, 1) := by decide +kernel
theorem dX0_grow_13 : decode cX0_grow 13 = .ok (.getfield 21, 3) := by decide +kernel
theorem dX0_grow_16 : decode cX0_grow 16 = .ok (.istore 4, 2) := by decide +kernel
theorem dX0_grow_18 : decode cX0_grow 18 = .ok (.aload_n 0, 1) := by decide +kernel
theorem dX0_grow_19 : decode cX0_grow 19 = .ok (.getfield 9, 3) := by decide +kernel
theorem dX0_grow_22 : decode cX0_grow 22 = .ok (.iload 4, 2) := by decide +kernel
theorem dX0_grow_24 : decode cX0_grow 24 = .ok (.iload_n 1, 1) := by decide +kernel
theorem dX0_grow_25 : decode cX0_grow 25 = .ok (.iastore, 1) := by decide +kernel
theorem dX0_grow_26 : decode cX0_grow 26 = .ok (.aload_n 0, 1) := by decide +kernel
theorem dX0_grow_27 : decode cX0_grow 27 = .ok (.getfield 15, 3) := by decide +kernel
theorem dX0_grow_30 : decode cX0_grow 30 = .ok (.iload 4, 2) := by decide +kernel
theorem dX0_grow_32 : decode cX0_grow 32 = .ok (.iload_n 2, 1) := by decide +kernel
theorem dX0_grow_33 : decode cX0_grow 33 = .ok (.iastore, 1) := by decide +kernel
theorem dX0_grow_34 : decode cX0_grow 34 = .ok (.aload_n 0, 1) := by decide +kernel
theorem dX0_grow_35 : decode cX0_grow 35 = .ok (.getfield 18, 3) := by decide +kernel
theorem dX0_grow_38 : decode cX0_grow 38 = .ok (.iload 4, 2) := by decide +kernel
theorem dX0_grow_40 : decode cX0_grow 40 = .ok (.iload_n 3, 1) := by decide +kernel
theorem dX0_grow_41 : decode cX0_grow 41 = .ok (.iastore, 1) := by decide +kernel
theorem dX0_grow_42 : decode cX0_grow 42 = .ok (.aload_n 0, 1) := by decide +kernel
theorem dX0_grow_43 : decode cX0_grow 43 = .ok (.dup, 1) := by decide +kernel
theorem dX0_grow_44 : decode cX0_grow 44 = .ok (.getfield 21, 3) := by decide +kernel
theorem dX0_grow_47 : decode cX0_grow 47 = .ok (.iconst 1, 1) := by decide +kernel
theorem dX0_grow_48 : decode cX0_grow 48 = .ok (.iadd, 1) := by decide +kernel
theorem dX0_grow_49 : decode cX0_grow 49 = .ok (.putfield 21, 3) := by decide +kernel
theorem dX0_grow_52 : decode cX0_grow 52 = .ok (.iload 4, 2) := by decide +kernel
theorem dX0_grow_54 : decode cX0_grow 54 = .ok (.ireturn, 1) := by decide +kernel
theorem dX0_start_0 : decode cX0_start 0 = .ok (.aload_n 0, 1) := by decide +kernel
theorem dX0_start_1 : decode cX0_start 1 = .ok (.getfield 9, 3) := by decide +kernel
theorem dX0_start_4 : decode cX0_start 4 = .ok (.iload_n 1, 1) := by decide +kernel
theorem dX0_start_5 : decode cX0_start 5 = .ok (.iaload, 1) := by decide +kernel
theorem dX0_start_6 : decode cX0_start 6 = .ok (.iconst 1, 1) := by decide +kernel
theorem dX0_start_7 : decode cX0_start 7 = .ok (.iadd, 1) := by decide +kernel
theorem dX0_start_8 : decode cX0_start 8 = .ok (.ireturn, 1) := by decide +kernel
theorem dX0_handsFor_0 : decode cX0_handsFor 0 = .ok (.iload_n 1, 1) := by decide +kernel
theorem dX0_handsFor_1 : decode cX0_handsFor 1 = .ok (.invokestatic 41, 3) := by decide +kernel
theorem dX0_handsFor_4 : decode cX0_handsFor 4 = .ok (.istore_n 2, 1) := by decide +kernel
theorem dX0_handsFor_5 : decode cX0_handsFor 5 = .ok (.iload_n 1, 1) := by decide +kernel
theorem dX0_handsFor_6 : decode cX0_handsFor 6 = .ok (.iconst (-1), 1) := by decide +kernel
theorem dX0_handsFor_7 : decode cX0_handsFor 7 = .ok (.invokestatic 47, 3) := by decide +kernel
theorem dX0_handsFor_10 : decode cX0_handsFor 10 = .ok (.iconst (-1), 1) := by decide +kernel
theorem dX0_handsFor_11 : decode cX0_handsFor 11 = .ok (.ixor, 1) := by decide +kernel
theorem dX0_handsFor_12 : decode cX0_handsFor 12 = .ok (.iand, 1) := by decide +kernel
theorem dX0_handsFor_13 : decode cX0_handsFor 13 = .ok (.istore_n 3, 1) := by decide +kernel
theorem dX0_handsFor_14 : decode cX0_handsFor 14 = .ok (.aload_n 0, 1) := by decide +kernel
theorem dX0_handsFor_15 : decode cX0_handsFor 15 = .ok (.getfield 21, 3) := by decide +kernel
theorem dX0_handsFor_18 : decode cX0_handsFor 18 = .ok (.iconst 1, 1) := by decide +kernel
theorem dX0_handsFor_19 : decode cX0_handsFor 19 = .ok (.isub, 1) := by decide +kernel
theorem dX0_handsFor_20 : decode cX0_handsFor 20 = .ok (.istore 4, 2) := by decide +kernel
theorem dX0_handsFor_22 : decode cX0_handsFor 22 = .ok (.iload 4, 2) := by decide +kernel
theorem dX0_handsFor_24 : decode cX0_handsFor 24 = .ok (.ifCond .lt 46, 3) := by decide +kernel
theorem dX0_handsFor_27 : decode cX0_handsFor 27 = .ok (.iload 4, 2) := by decide +kernel
theorem dX0_handsFor_29 : decode cX0_handsFor 29 = .ok (.invokestatic 47, 3) := by decide +kernel
theorem dX0_handsFor_32 : decode cX0_handsFor 32 = .ok (.aload_n 0, 1) := by decide +kernel
theorem dX0_handsFor_33 : decode cX0_handsFor 33 = .ok (.getfield 9, 3) := by decide +kernel
theorem dX0_handsFor_36 : decode cX0_handsFor 36 = .ok (.iload 4, 2) := by decide +kernel
theorem dX0_handsFor_38 : decode cX0_handsFor 38 = .ok (.iaload, 1) := by decide +kernel
theorem dX0_handsFor_39 : decode cX0_handsFor 39 = .ok (.invokestatic 47, 3) := by decide +kernel
theorem dX0_handsFor_42 : decode cX0_handsFor 42 = .ok (.ior, 1) := by decide +kernel
theorem dX0_handsFor_43 : decode cX0_handsFor 43 = .ok (.istore 5, 2) := by decide +kernel
theorem dX0_handsFor_45 : decode cX0_handsFor 45 = .ok (.iload_n 3, 1) := by decide +kernel
theorem dX0_handsFor_46 : decode cX0_handsFor 46 = .ok (.iload 5, 2) := by decide +kernel
theorem dX0_handsFor_48 : decode cX0_handsFor 48 = .ok (.iand, 1) := by decide +kernel
theorem dX0_handsFor_49 : decode cX0_handsFor 49 = .ok (.iload 5, 2) := by decide +kernel
theorem dX0_handsFor_51 : decode cX0_handsFor 51 = .ok (.if_icmp .ne 13, 3) := by decide +kernel
theorem dX0_handsFor_54 : decode cX0_handsFor 54 = .ok (.iload_n 3, 1) := by decide +kernel
theorem dX0_handsFor_55 : decode cX0_handsFor 55 = .ok (.iload 5, 2) := by decide +kernel
theorem dX0_handsFor_57 : decode cX0_handsFor 57 = .ok (.iconst (-1), 1) := by decide +kernel
theorem dX0_handsFor_58 : decode cX0_handsFor 58 = .ok (.ixor, 1) := by decide +kernel
theorem dX0_handsFor_59 : decode cX0_handsFor 59 = .ok (.iand, 1) := by decide +kernel
theorem dX0_handsFor_60 : decode cX0_handsFor 60 = .ok (.istore_n 3, 1) := by decide +kernel
theorem dX0_handsFor_61 : decode cX0_handsFor 61 = .ok (.iinc 2 (-1), 3) := by decide +kernel
theorem dX0_handsFor_64 : decode cX0_handsFor 64 = .ok (.iinc 4 (-1), 3) := by decide +kernel
theorem dX0_handsFor_67 : decode cX0_handsFor 67 = .ok (.goto (-45), 3) := by decide +kernel
theorem dX0_handsFor_70 : decode cX0_handsFor 70 = .ok (.iload_n 2, 1) := by decide +kernel
theorem dX0_handsFor_71 : decode cX0_handsFor 71 = .ok (.ireturn, 1) := by decide +kernel
theorem dX1_init_0 : decode cX1_init 0 = .ok (.aload_n 0, 1) := by decide +kernel
theorem dX1_init_1 : decode cX1_init 1 = .ok (.invokespecial 1, 3) := by decide +kernel
theorem dX1_init_4 : decode cX1_init 4 = .ok (.aload_n 0, 1) := by decide +kernel
theorem dX1_init_5 : decode cX1_init 5 = .ok (.iconst 0, 1) := by decide +kernel
theorem dX1_init_6 : decode cX1_init 6 = .ok (.putfield 7, 3) := by decide +kernel
theorem dX1_init_9 : decode cX1_init 9 = .ok (.aload_n 0, 1) := by decide +kernel
theorem dX1_init_10 : decode cX1_init 10 = .ok (.iconst 0, 1) := by decide +kernel
theorem dX1_init_11 : decode cX1_init 11 = .ok (.putfield 13, 3) := by decide +kernel
theorem dX1_init_14 : decode cX1_init 14 = .ok (.aload_n 0, 1) := by decide +kernel
theorem dX1_init_15 : decode cX1_init 15 = .ok (.iconst 0, 1) := by decide +kernel
theorem dX1_init_16 : decode cX1_init 16 = .ok (.putfield 16, 3) := by decide +kernel
theorem dX1_init_19 : decode cX1_init 19 = .ok (.aload_n 0, 1) := by decide +kernel
theorem dX1_init_20 : decode cX1_init 20 = .ok (.iconst 0, 1) := by decide +kernel
theorem dX1_init_21 : decode cX1_init 21 = .ok (.putfield 19, 3) := by decide +kernel
theorem dX1_init_24 : decode cX1_init 24 = .ok (.aload_n 0, 1) := by decide +kernel
theorem dX1_init_25 : decode cX1_init 25 = .ok (.iload_n 1, 1) := by decide +kernel
theorem dX1_init_26 : decode cX1_init 26 = .ok (.putfield 22, 3) := by decide +kernel
theorem dX1_init_29 : decode cX1_init 29 = .ok (.aload_n 0, 1) := by decide +kernel
theorem dX1_init_30 : decode cX1_init 30 = .ok (.iload_n 2, 1) := by decide +kernel
theorem dX1_init_31 : decode cX1_init 31 = .ok (.putfield 25, 3) := by decide +kernel
theorem dX1_init_34 : decode cX1_init 34 = .ok (.aload_n 0, 1) := by decide +kernel
theorem dX1_init_35 : decode cX1_init 35 = .ok (.iload_n 3, 1) := by decide +kernel
theorem dX1_init_36 : decode cX1_init 36 = .ok (.putfield 28, 3) := by decide +kernel
theorem dX1_init_39 : decode cX1_init 39 = .ok (.aload_n 0, 1) := by decide +kernel
theorem dX1_init_40 : decode cX1_init 40 = .ok (.iload 4, 2) := by decide +kernel
theorem dX1_init_42 : decode cX1_init 42 = .ok (.putfield 31, 3) := by decide +kernel
theorem dX1_init_45 : decode cX1_init 45 = .ok (.return_, 1) := by decide +kernel
theorem dX2_init_0 : decode cX2_init 0 = .ok (.aload_n 0, 1) := by decide +kernel
theorem dX2_init_1 : decode cX2_init 1 = .ok (.invokespecial 3, 3) := by decide +kernel
theorem dX2_init_4 : decode cX2_init 4 = .ok (.aload_n 0, 1) := by decide +kernel
theorem dX2_init_5 : decode cX2_init 5 = .ok (.bipush 8, 2) := by decide +kernel
theorem dX2_init_7 : decode cX2_init 7 = .ok (.newarray .int, 2) := by decide +kernel
theorem dX2_init_9 : decode cX2_init 9 = .ok (.putfield 9, 3) := by decide +kernel
theorem dX2_init_12 : decode cX2_init 12 = .ok (.aload_n 0, 1) := by decide +kernel
theorem dX2_init_13 : decode cX2_init 13 = .ok (.bipush 9, 2) := by decide +kernel
theorem dX2_init_15 : decode cX2_init 15 = .ok (.newarray .int, 2) := by decide +kernel
theorem dX2_init_17 : decode cX2_init 17 = .ok (.putfield 15, 3) := by decide +kernel
theorem dX2_init_20 : decode cX2_init 20 = .ok (.aload_n 0, 1) := by decide +kernel
theorem dX2_init_21 : decode cX2_init 21 = .ok (.bipush 9, 2) := by decide +kernel
theorem dX2_init_23 : decode cX2_init 23 = .ok (.newarray .int, 2) := by decide +kernel
theorem dX2_init_25 : decode cX2_init 25 = .ok (.putfield 18, 3) := by decide +kernel
theorem dX2_init_28 : decode cX2_init 28 = .ok (.aload_n 0, 1) := by decide +kernel
theorem dX2_init_29 : decode cX2_init 29 = .ok (.bipush 9, 2) := by decide +kernel
theorem dX2_init_31 : decode cX2_init 31 = .ok (.newarray .int, 2) := by decide +kernel
theorem dX2_init_33 : decode cX2_init 33 = .ok (.putfield 21, 3) := by decide +kernel
theorem dX2_init_36 : decode cX2_init 36 = .ok (.aload_n 0, 1) := by decide +kernel
theorem dX2_init_37 : decode cX2_init 37 = .ok (.iconst 1, 1) := by decide +kernel
theorem dX2_init_38 : decode cX2_init 38 = .ok (.putfield 24, 3) := by decide +kernel
theorem dX2_init_41 : decode cX2_init 41 = .ok (.aload_n 0, 1) := by decide +kernel
theorem dX2_init_42 : decode cX2_init 42 = .ok (.iconst 0, 1) := by decide +kernel
theorem dX2_init_43 : decode cX2_init 43 = .ok (.putfield 28, 3) := by decide +kernel
theorem dX2_init_46 : decode cX2_init 46 = .ok (.aload_n 0, 1) := by decide +kernel
theorem dX2_init_47 : decode cX2_init 47 = .ok (.iconst 0, 1) := by decide +kernel
theorem dX2_init_48 : decode cX2_init 48 = .ok (.putfield 31, 3) := by decide +kernel
theorem dX2_init_51 : decode cX2_init 51 = .ok (.aload_n 0, 1) := by decide +kernel
theorem dX2_init_52 : decode cX2_init 52 = .ok (.iconst 0, 1) := by decide +kernel
theorem dX2_init_53 : decode cX2_init 53 = .ok (.putfield 34, 3) := by decide +kernel
theorem dX2_init_56 : decode cX2_init 56 = .ok (.aload_n 0, 1) := by decide +kernel
theorem dX2_init_57 : decode cX2_init 57 = .ok (.iconst 0, 1) := by decide +kernel
theorem dX2_init_58 : decode cX2_init 58 = .ok (.putfield 37, 3) := by decide +kernel
theorem dX2_init_61 : decode cX2_init 61 = .ok (.return_, 1) := by decide +kernel
theorem dX2_take_0 : decode cX2_take 0 = .ok (.aload_n 0, 1) := by decide +kernel
theorem dX2_take_1 : decode cX2_take 1 = .ok (.aload_n 1, 1) := by decide +kernel
theorem dX2_take_2 : decode cX2_take 2 = .ok (.iload 4, 2) := by decide +kernel
theorem dX2_take_4 : decode cX2_take 4 = .ok (.invokevirtual 40, 3) := by decide +kernel
theorem dX2_take_7 : decode cX2_take 7 = .ok (.aload_n 2, 1) := by decide +kernel
theorem dX2_take_8 : decode cX2_take 8 = .ok (.getfield 44, 3) := by decide +kernel
theorem dX2_take_11 : decode cX2_take 11 = .ok (.astore 5, 2) := by decide +kernel
theorem dX2_take_13 : decode cX2_take 13 = .ok (.aload 5, 2) := by decide +kernel
theorem dX2_take_15 : decode cX2_take 15 = .ok (.arraylength, 1) := by decide +kernel
theorem dX2_take_16 : decode cX2_take 16 = .ok (.istore 6, 2) := by decide +kernel
theorem dX2_take_18 : decode cX2_take 18 = .ok (.iconst 0, 1) := by decide +kernel
theorem dX2_take_19 : decode cX2_take 19 = .ok (.istore 7, 2) := by decide +kernel
theorem dX2_take_21 : decode cX2_take 21 = .ok (.iload 7, 2) := by decide +kernel
theorem dX2_take_23 : decode cX2_take 23 = .ok (.iload 6, 2) := by decide +kernel
theorem dX2_take_25 : decode cX2_take 25 = .ok (.if_icmp .ge 53, 3) := by decide +kernel
theorem dX2_take_28 : decode cX2_take 28 = .ok (.aload 5, 2) := by decide +kernel
theorem dX2_take_30 : decode cX2_take 30 = .ok (.iload 7, 2) := by decide +kernel
theorem dX2_take_32 : decode cX2_take 32 = .ok (.aaload, 1) := by decide +kernel
theorem dX2_take_33 : decode cX2_take 33 = .ok (.astore 8, 2) := by decide +kernel
theorem dX2_take_35 : decode cX2_take 35 = .ok (.aload 8, 2) := by decide +kernel
theorem dX2_take_37 : decode cX2_take 37 = .ok (.ifnull 41, 3) := by decide +kernel
theorem dX2_take_40 : decode cX2_take 40 = .ok (.aload 8, 2) := by decide +kernel
theorem dX2_take_42 : decode cX2_take 42 = .ok (.getfield 50, 3) := by decide +kernel
theorem dX2_take_45 : decode cX2_take 45 = .ok (.iload_n 3, 1) := by decide +kernel
theorem dX2_take_46 : decode cX2_take 46 = .ok (.if_icmp .le 6, 3) := by decide +kernel
theorem dX2_take_49 : decode cX2_take 49 = .ok (.goto 29, 3) := by decide +kernel
theorem dX2_take_52 : decode cX2_take 52 = .ok (.aload 8, 2) := by decide +kernel
theorem dX2_take_54 : decode cX2_take 54 = .ok (.getfield 55, 3) := by decide +kernel
theorem dX2_take_57 : decode cX2_take 57 = .ok (.aload_n 1, 1) := by decide +kernel
theorem dX2_take_58 : decode cX2_take 58 = .ok (.getfield 58, 3) := by decide +kernel
theorem dX2_take_61 : decode cX2_take 61 = .ok (.if_icmp .ne 11, 3) := by decide +kernel
theorem dX2_take_64 : decode cX2_take 64 = .ok (.aload_n 0, 1) := by decide +kernel
theorem dX2_take_65 : decode cX2_take 65 = .ok (.aload 8, 2) := by decide +kernel
theorem dX2_take_67 : decode cX2_take 67 = .ok (.iload 4, 2) := by decide +kernel
theorem dX2_take_69 : decode cX2_take 69 = .ok (.invokevirtual 63, 3) := by decide +kernel
theorem dX2_take_72 : decode cX2_take 72 = .ok (.iinc 7 1, 3) := by decide +kernel
theorem dX2_take_75 : decode cX2_take 75 = .ok (.goto (-54), 3) := by decide +kernel
theorem dX2_take_78 : decode cX2_take 78 = .ok (.aload_n 0, 1) := by decide +kernel
theorem dX2_take_79 : decode cX2_take 79 = .ok (.aload_n 1, 1) := by decide +kernel
theorem dX2_take_80 : decode cX2_take 80 = .ok (.invokevirtual 67, 3) := by decide +kernel
theorem dX2_take_83 : decode cX2_take 83 = .ok (.aload_n 0, 1) := by decide +kernel
theorem dX2_take_84 : decode cX2_take 84 = .ok (.aload_n 1, 1) := by decide +kernel
theorem dX2_take_85 : decode cX2_take 85 = .ok (.getfield 71, 3) := by decide +kernel
theorem dX2_take_88 : decode cX2_take 88 = .ok (.invokevirtual 74, 3) := by decide +kernel
theorem dX2_take_91 : decode cX2_take 91 = .ok (.aload_n 0, 1) := by decide +kernel
theorem dX2_take_92 : decode cX2_take 92 = .ok (.areturn, 1) := by decide +kernel
theorem dX2_stand_0 : decode cX2_stand 0 = .ok (.aload_n 0, 1) := by decide +kernel
theorem dX2_stand_1 : decode cX2_stand 1 = .ok (.getfield 15, 3) := by decide +kernel
theorem dX2_stand_4 : decode cX2_stand 4 = .ok (.iconst 0, 1) := by decide +kernel
theorem dX2_stand_5 : decode cX2_stand 5 = .ok (.aload_n 1, 1) := by decide +kernel
theorem dX2_stand_6 : decode cX2_stand 6 = .ok (.getfield 78, 3) := by decide +kernel
theorem dX2_stand_9 : decode cX2_stand 9 = .ok (.iastore, 1) := by decide +kernel
theorem dX2_stand_10 : decode cX2_stand 10 = .ok (.aload_n 0, 1) := by decide +kernel
theorem dX2_stand_11 : decode cX2_stand 11 = .ok (.getfield 18, 3) := by decide +kernel
theorem dX2_stand_14 : decode cX2_stand 14 = .ok (.iconst 0, 1) := by decide +kernel
theorem dX2_stand_15 : decode cX2_stand 15 = .ok (.aload_n 1, 1) := by decide +kernel
theorem dX2_stand_16 : decode cX2_stand 16 = .ok (.getfield 80, 3) := by decide +kernel
theorem dX2_stand_19 : decode cX2_stand 19 = .ok (.iastore, 1) := by decide +kernel
theorem dX2_stand_20 : decode cX2_stand 20 = .ok (.aload_n 0, 1) := by decide +kernel
theorem dX2_stand_21 : decode cX2_stand 21 = .ok (.getfield 21, 3) := by decide +kernel
theorem dX2_stand_24 : decode cX2_stand 24 = .ok (.iconst 0, 1) := by decide +kernel
theorem dX2_stand_25 : decode cX2_stand 25 = .ok (.iconst 0, 1) := by decide +kernel
theorem dX2_stand_26 : decode cX2_stand 26 = .ok (.iastore, 1) := by decide +kernel
theorem dX2_stand_27 : decode cX2_stand 27 = .ok (.aload_n 0, 1) := by decide +kernel
theorem dX2_stand_28 : decode cX2_stand 28 = .ok (.aload_n 1, 1) := by decide +kernel
theorem dX2_stand_29 : decode cX2_stand 29 = .ok (.getfield 82, 3) := by decide +kernel
theorem dX2_stand_32 : decode cX2_stand 32 = .ok (.iload_n 2, 1) := by decide +kernel
theorem dX2_stand_33 : decode cX2_stand 33 = .ok (.invokestatic 83, 3) := by decide +kernel
theorem dX2_stand_36 : decode cX2_stand 36 = .ok (.putfield 24, 3) := by decide +kernel
theorem dX2_stand_39 : decode cX2_stand 39 = .ok (.aload_n 1, 1) := by decide +kernel
theorem dX2_stand_40 : decode cX2_stand 40 = .ok (.getfield 89, 3) := by decide +kernel
theorem dX2_stand_43 : decode cX2_stand 43 = .ok (.iconst 0, 1) := by decide +kernel
theorem dX2_stand_44 : decode cX2_stand 44 = .ok (.aload_n 0, 1) := by decide +kernel
theorem dX2_stand_45 : decode cX2_stand 45 = .ok (.getfield 9, 3) := by decide +kernel
theorem dX2_stand_48 : decode cX2_stand 48 = .ok (.iconst 0, 1) := by decide +kernel
theorem dX2_stand_49 : decode cX2_stand 49 = .ok (.aload_n 1, 1) := by decide +kernel
theorem dX2_stand_50 : decode cX2_stand 50 = .ok (.getfield 71, 3) := by decide +kernel
theorem dX2_stand_53 : decode cX2_stand 53 = .ok (.invokestatic 90, 3) := by decide +kernel
theorem dX2_stand_56 : decode cX2_stand 56 = .ok (.return_, 1) := by decide +kernel
theorem dX2_follow_0 : decode cX2_follow 0 = .ok (.aload_n 1, 1) := by decide +kernel
theorem dX2_follow_1 : decode cX2_follow 1 = .ok (.getfield 96, 3) := by decide +kernel
theorem dX2_follow_4 : decode cX2_follow 4 = .ok (.iconst (-1), 1) := by decide +kernel
theorem dX2_follow_5 : decode cX2_follow 5 = .ok (.if_icmp .ne 53, 3) := by decide +kernel
theorem dX2_follow_8 : decode cX2_follow 8 = .ok (.aload_n 0, 1) := by decide +kernel
theorem dX2_follow_9 : decode cX2_follow 9 = .ok (.getfield 15, 3) := by decide +kernel
theorem dX2_follow_12 : decode cX2_follow 12 = .ok (.iconst 0, 1) := by decide +kernel
theorem dX2_follow_13 : decode cX2_follow 13 = .ok (.dup2, 1) := by decide +kernel
theorem dX2_follow_14 : decode cX2_follow 14 = .ok (.iaload, 1) := by decide +kernel
theorem dX2_follow_15 : decode cX2_follow 15 = .ok (.aload_n 1, 1) := by decide +kernel
theorem dX2_follow_16 : decode cX2_follow 16 = .ok (.getfield 99, 3) := by decide +kernel
theorem dX2_follow_19 : decode cX2_follow 19 = .ok (.iadd, 1) := by decide +kernel
theorem dX2_follow_20 : decode cX2_follow 20 = .ok (.iastore, 1) := by decide +kernel
theorem dX2_follow_21 : decode cX2_follow 21 = .ok (.aload_n 0, 1) := by decide +kernel
theorem dX2_follow_22 : decode cX2_follow 22 = .ok (.getfield 18, 3) := by decide +kernel
theorem dX2_follow_25 : decode cX2_follow 25 = .ok (.iconst 0, 1) := by decide +kernel
theorem dX2_follow_26 : decode cX2_follow 26 = .ok (.dup2, 1) := by decide +kernel
theorem dX2_follow_27 : decode cX2_follow 27 = .ok (.iaload, 1) := by decide +kernel
theorem dX2_follow_28 : decode cX2_follow 28 = .ok (.aload_n 1, 1) := by decide +kernel
theorem dX2_follow_29 : decode cX2_follow 29 = .ok (.getfield 102, 3) := by decide +kernel
theorem dX2_follow_32 : decode cX2_follow 32 = .ok (.iadd, 1) := by decide +kernel
theorem dX2_follow_33 : decode cX2_follow 33 = .ok (.iastore, 1) := by decide +kernel
theorem dX2_follow_34 : decode cX2_follow 34 = .ok (.aload_n 0, 1) := by decide +kernel
theorem dX2_follow_35 : decode cX2_follow 35 = .ok (.iconst 1, 1) := by decide +kernel
theorem dX2_follow_36 : decode cX2_follow 36 = .ok (.aload_n 0, 1) := by decide +kernel
theorem dX2_follow_37 : decode cX2_follow 37 = .ok (.getfield 24, 3) := by decide +kernel
theorem dX2_follow_40 : decode cX2_follow 40 = .ok (.aload_n 1, 1) := by decide +kernel
theorem dX2_follow_41 : decode cX2_follow 41 = .ok (.getfield 105, 3) := by decide +kernel
theorem dX2_follow_44 : decode cX2_follow 44 = .ok (.iadd, 1) := by decide +kernel
theorem dX2_follow_45 : decode cX2_follow 45 = .ok (.iload_n 2, 1) := by decide +kernel
theorem dX2_follow_46 : decode cX2_follow 46 = .ok (.invokestatic 83, 3) := by decide +kernel
theorem dX2_follow_49 : decode cX2_follow 49 = .ok (.invokestatic 108, 3) := by decide +kernel
theorem dX2_follow_52 : decode cX2_follow 52 = .ok (.putfield 24, 3) := by decide +kernel
theorem dX2_follow_55 : decode cX2_follow 55 = .ok (.goto 19, 3) := by decide +kernel
theorem dX2_follow_58 : decode cX2_follow 58 = .ok (.aload_n 0, 1) := by decide +kernel
theorem dX2_follow_59 : decode cX2_follow 59 = .ok (.getfield 9, 3) := by decide +kernel
theorem dX2_follow_62 : decode cX2_follow 62 = .ok (.aload_n 1, 1) := by decide +kernel
theorem dX2_follow_63 : decode cX2_follow 63 = .ok (.getfield 96, 3) := by decide +kernel
theorem dX2_follow_66 : decode cX2_follow 66 = .ok (.dup2, 1) := by decide +kernel
theorem dX2_follow_67 : decode cX2_follow 67 = .ok (.iaload, 1) := by decide +kernel
theorem dX2_follow_68 : decode cX2_follow 68 = .ok (.aload_n 1, 1) := by decide +kernel
theorem dX2_follow_69 : decode cX2_follow 69 = .ok (.getfield 111, 3) := by decide +kernel
theorem dX2_follow_72 : decode cX2_follow 72 = .ok (.iadd, 1) := by decide +kernel
theorem dX2_follow_73 : decode cX2_follow 73 = .ok (.iastore, 1) := by decide +kernel
theorem dX2_follow_74 : decode cX2_follow 74 = .ok (.return_, 1) := by decide +kernel
theorem dX2_layPoints_0 : decode cX2_layPoints 0 = .ok (.iconst 0, 1) := by decide +kernel
theorem dX2_layPoints_1 : decode cX2_layPoints 1 = .ok (.istore_n 2, 1) := by decide +kernel
theorem dX2_layPoints_2 : decode cX2_layPoints 2 = .ok (.iload_n 2, 1) := by decide +kernel
theorem dX2_layPoints_3 : decode cX2_layPoints 3 = .ok (.aload_n 1, 1) := by decide +kernel
theorem dX2_layPoints_4 : decode cX2_layPoints 4 = .ok (.getfield 71, 3) := by decide +kernel
theorem dX2_layPoints_7 : decode cX2_layPoints 7 = .ok (.if_icmp .ge 103, 3) := by decide +kernel
theorem dX2_layPoints_10 : decode cX2_layPoints 10 = .ok (.aload_n 1, 1) := by decide +kernel
theorem dX2_layPoints_11 : decode cX2_layPoints 11 = .ok (.iload_n 2, 1) := by decide +kernel
theorem dX2_layPoints_12 : decode cX2_layPoints 12 = .ok (.invokevirtual 114, 3) := by decide +kernel
theorem dX2_layPoints_15 : decode cX2_layPoints 15 = .ok (.istore_n 3, 1) := by decide +kernel
theorem dX2_layPoints_16 : decode cX2_layPoints 16 = .ok (.iload_n 2, 1) := by decide +kernel
theorem dX2_layPoints_17 : decode cX2_layPoints 17 = .ok (.iconst 1, 1) := by decide +kernel
theorem dX2_layPoints_18 : decode cX2_layPoints 18 = .ok (.iadd, 1) := by decide +kernel
theorem dX2_layPoints_19 : decode cX2_layPoints 19 = .ok (.istore 4, 2) := by decide +kernel
theorem dX2_layPoints_21 : decode cX2_layPoints 21 = .ok (.aload_n 0, 1) := by decide +kernel
theorem dX2_layPoints_22 : decode cX2_layPoints 22 = .ok (.getfield 21, 3) := by decide +kernel
theorem dX2_layPoints_25 : decode cX2_layPoints 25 = .ok (.iload_n 3, 1) := by decide +kernel
theorem dX2_layPoints_26 : decode cX2_layPoints 26 = .ok (.iaload, 1) := by decide +kernel
theorem dX2_layPoints_27 : decode cX2_layPoints 27 = .ok (.aload_n 0, 1) := by decide +kernel
theorem dX2_layPoints_28 : decode cX2_layPoints 28 = .ok (.getfield 9, 3) := by decide +kernel
theorem dX2_layPoints_31 : decode cX2_layPoints 31 = .ok (.iload_n 2, 1) := by decide +kernel
theorem dX2_layPoints_32 : decode cX2_layPoints 32 = .ok (.iaload, 1) := by decide +kernel
theorem dX2_layPoints_33 : decode cX2_layPoints 33 = .ok (.iadd, 1) := by decide +kernel
theorem dX2_layPoints_34 : decode cX2_layPoints 34 = .ok (.bipush 8, 2) := by decide +kernel
theorem dX2_layPoints_36 : decode cX2_layPoints 36 = .ok (.invokestatic 118, 3) := by decide +kernel
theorem dX2_layPoints_39 : decode cX2_layPoints 39 = .ok (.istore 5, 2) := by decide +kernel
theorem dX2_layPoints_41 : decode cX2_layPoints 41 = .ok (.aload_n 0, 1) := by decide +kernel
theorem dX2_layPoints_42 : decode cX2_layPoints 42 = .ok (.getfield 21, 3) := by decide +kernel
theorem dX2_layPoints_45 : decode cX2_layPoints 45 = .ok (.iload 4, 2) := by decide +kernel
theorem dX2_layPoints_47 : decode cX2_layPoints 47 = .ok (.iload 5, 2) := by decide +kernel
theorem dX2_layPoints_49 : decode cX2_layPoints 49 = .ok (.iastore, 1) := by decide +kernel
theorem dX2_layPoints_50 : decode cX2_layPoints 50 = .ok (.aload_n 0, 1) := by decide +kernel
theorem dX2_layPoints_51 : decode cX2_layPoints 51 = .ok (.getfield 15, 3) := by decide +kernel
theorem dX2_layPoints_54 : decode cX2_layPoints 54 = .ok (.iload 4, 2) := by decide +kernel
theorem dX2_layPoints_56 : decode cX2_layPoints 56 = .ok (.aload_n 0, 1) := by decide +kernel
theorem dX2_layPoints_57 : decode cX2_layPoints 57 = .ok (.getfield 15, 3) := by decide +kernel
theorem dX2_layPoints_60 : decode cX2_layPoints 60 = .ok (.iload_n 3, 1) := by decide +kernel
theorem dX2_layPoints_61 : decode cX2_layPoints 61 = .ok (.iaload, 1) := by decide +kernel
theorem dX2_layPoints_62 : decode cX2_layPoints 62 = .ok (.aload_n 1, 1) := by decide +kernel
theorem dX2_layPoints_63 : decode cX2_layPoints 63 = .ok (.getfield 121, 3) := by decide +kernel
theorem dX2_layPoints_66 : decode cX2_layPoints 66 = .ok (.iload_n 2, 1) := by decide +kernel
theorem dX2_layPoints_67 : decode cX2_layPoints 67 = .ok (.iaload, 1) := by decide +kernel
theorem dX2_layPoints_68 : decode cX2_layPoints 68 = .ok (.getstatic 124, 3) := by decide +kernel
theorem dX2_layPoints_71 : decode cX2_layPoints 71 = .ok (.iload 5, 2) := by decide +kernel
theorem dX2_layPoints_73 : decode cX2_layPoints 73 = .ok (.iaload, 1) := by decide +kernel
theorem dX2_layPoints_74 : decode cX2_layPoints 74 = .ok (.imul, 1) := by decide +kernel
theorem dX2_layPoints_75 : decode cX2_layPoints 75 = .ok (.iadd, 1) := by decide +kernel
theorem dX2_layPoints_76 : decode cX2_layPoints 76 = .ok (.iastore, 1) := by decide +kernel
theorem dX2_layPoints_77 : decode cX2_layPoints 77 = .ok (.aload_n 0, 1) := by decide +kernel
theorem dX2_layPoints_78 : decode cX2_layPoints 78 = .ok (.getfield 18, 3) := by decide +kernel
theorem dX2_layPoints_81 : decode cX2_layPoints 81 = .ok (.iload 4, 2) := by decide +kernel
theorem dX2_layPoints_83 : decode cX2_layPoints 83 = .ok (.aload_n 0, 1) := by decide +kernel
theorem dX2_layPoints_84 : decode cX2_layPoints 84 = .ok (.getfield 18, 3) := by decide +kernel
theorem dX2_layPoints_87 : decode cX2_layPoints 87 = .ok (.iload_n 3, 1) := by decide +kernel
theorem dX2_layPoints_88 : decode cX2_layPoints 88 = .ok (.iaload, 1) := by decide +kernel
theorem dX2_layPoints_89 : decode cX2_layPoints 89 = .ok (.aload_n 1, 1) := by decide +kernel
theorem dX2_layPoints_90 : decode cX2_layPoints 90 = .ok (.getfield 121, 3) := by decide +kernel
theorem dX2_layPoints_93 : decode cX2_layPoints 93 = .ok (.iload_n 2, 1) := by decide +kernel
theorem dX2_layPoints_94 : decode cX2_layPoints 94 = .ok (.iaload, 1) := by decide +kernel
theorem dX2_layPoints_95 : decode cX2_layPoints 95 = .ok (.getstatic 127, 3) := by decide +kernel
theorem dX2_layPoints_98 : decode cX2_layPoints 98 = .ok (.iload 5, 2) := by decide +kernel
theorem dX2_layPoints_100 : decode cX2_layPoints 100 = .ok (.iaload, 1) := by decide +kernel
theorem dX2_layPoints_101 : decode cX2_layPoints 101 = .ok (.imul, 1) := by decide +kernel
theorem dX2_layPoints_102 : decode cX2_layPoints 102 = .ok (.iadd, 1) := by decide +kernel
theorem dX2_layPoints_103 : decode cX2_layPoints 103 = .ok (.iastore, 1) := by decide +kernel
theorem dX2_layPoints_104 : decode cX2_layPoints 104 = .ok (.iinc 2 1, 3) := by decide +kernel
theorem dX2_layPoints_107 : decode cX2_layPoints 107 = .ok (.goto (-105), 3) := by decide +kernel
theorem dX2_layPoints_110 : decode cX2_layPoints 110 = .ok (.return_, 1) := by decide +kernel
theorem dX2_layBox_0 : decode cX2_layBox 0 = .ok (.aload_n 0, 1) := by decide +kernel
theorem dX2_layBox_1 : decode cX2_layBox 1 = .ok (.aload_n 0, 1) := by decide +kernel
theorem dX2_layBox_2 : decode cX2_layBox 2 = .ok (.getfield 15, 3) := by decide +kernel
theorem dX2_layBox_5 : decode cX2_layBox 5 = .ok (.iconst 0, 1) := by decide +kernel
theorem dX2_layBox_6 : decode cX2_layBox 6 = .ok (.iaload, 1) := by decide +kernel
theorem dX2_layBox_7 : decode cX2_layBox 7 = .ok (.putfield 28, 3) := by decide +kernel
theorem dX2_layBox_10 : decode cX2_layBox 10 = .ok (.aload_n 0, 1) := by decide +kernel
theorem dX2_layBox_11 : decode cX2_layBox 11 = .ok (.aload_n 0, 1) := by decide +kernel
theorem dX2_layBox_12 : decode cX2_layBox 12 = .ok (.getfield 15, 3) := by decide +kernel
theorem dX2_layBox_15 : decode cX2_layBox 15 = .ok (.iconst 0, 1) := by decide +kernel
theorem dX2_layBox_16 : decode cX2_layBox 16 = .ok (.iaload, 1) := by decide +kernel
theorem dX2_layBox_17 : decode cX2_layBox 17 = .ok (.putfield 31, 3) := by decide +kernel
theorem dX2_layBox_20 : decode cX2_layBox 20 = .ok (.aload_n 0, 1) := by decide +kernel
theorem dX2_layBox_21 : decode cX2_layBox 21 = .ok (.aload_n 0, 1) := by decide +kernel
theorem dX2_layBox_22 : decode cX2_layBox 22 = .ok (.getfield 18, 3) := by decide +kernel
theorem dX2_layBox_25 : decode cX2_layBox 25 = .ok (.iconst 0, 1) := by decide +kernel
theorem dX2_layBox_26 : decode cX2_layBox 26 = .ok (.iaload, 1) := by decide +kernel
theorem dX2_layBox_27 : decode cX2_layBox 27 = .ok (.putfield 34, 3) := by decide +kernel
theorem dX2_layBox_30 : decode cX2_layBox 30 = .ok (.aload_n 0, 1) := by decide +kernel
theorem dX2_layBox_31 : decode cX2_layBox 31 = .ok (.aload_n 0, 1) := by decide +kernel
theorem dX2_layBox_32 : decode cX2_layBox 32 = .ok (.getfield 18, 3) := by decide +kernel
theorem dX2_layBox_35 : decode cX2_layBox 35 = .ok (.iconst 0, 1) := by decide +kernel
theorem dX2_layBox_36 : decode cX2_layBox 36 = .ok (.iaload, 1) := by decide +kernel
theorem dX2_layBox_37 : decode cX2_layBox 37 = .ok (.putfield 37, 3) := by decide +kernel
theorem dX2_layBox_40 : decode cX2_layBox 40 = .ok (.iconst 1, 1) := by decide +kernel
theorem dX2_layBox_41 : decode cX2_layBox 41 = .ok (.istore_n 2, 1) := by decide +kernel
theorem dX2_layBox_42 : decode cX2_layBox 42 = .ok (.iload_n 2, 1) := by decide +kernel
theorem dX2_layBox_43 : decode cX2_layBox 43 = .ok (.iload_n 1, 1) := by decide +kernel
theorem dX2_layBox_44 : decode cX2_layBox 44 = .ok (.if_icmp .gt 77, 3) := by decide +kernel
theorem dX2_layBox_47 : decode cX2_layBox 47 = .ok (.aload_n 0, 1) := by decide +kernel
theorem dX2_layBox_48 : decode cX2_layBox 48 = .ok (.aload_n 0, 1) := by decide +kernel
theorem dX2_layBox_49 : decode cX2_layBox 49 = .ok (.getfield 28, 3) := by decide +kernel
theorem dX2_layBox_52 : decode cX2_layBox 52 = .ok (.aload_n 0, 1) := by decide +kernel
theorem dX2_layBox_53 : decode cX2_layBox 53 = .ok (.getfield 15, 3) := by decide +kernel
theorem dX2_layBox_56 : decode cX2_layBox 56 = .ok (.iload_n 2, 1) := by decide +kernel
theorem dX2_layBox_57 : decode cX2_layBox 57 = .ok (.iaload, 1) := by decide +kernel
theorem dX2_layBox_58 : decode cX2_layBox 58 = .ok (.invokestatic 83, 3) := by decide +kernel
theorem dX2_layBox_61 : decode cX2_layBox 61 = .ok (.putfield 28, 3) := by decide +kernel
theorem dX2_layBox_64 : decode cX2_layBox 64 = .ok (.aload_n 0, 1) := by decide +kernel
theorem dX2_layBox_65 : decode cX2_layBox 65 = .ok (.aload_n 0, 1) := by decide +kernel
theorem dX2_layBox_66 : decode cX2_layBox 66 = .ok (.getfield 31, 3) := by decide +kernel
theorem dX2_layBox_69 : decode cX2_layBox 69 = .ok (.aload_n 0, 1) := by decide +kernel
theorem dX2_layBox_70 : decode cX2_layBox 70 = .ok (.getfield 15, 3) := by decide +kernel
theorem dX2_layBox_73 : decode cX2_layBox 73 = .ok (.iload_n 2, 1) := by decide +kernel
theorem dX2_layBox_74 : decode cX2_layBox 74 = .ok (.iaload, 1) := by decide +kernel
theorem dX2_layBox_75 : decode cX2_layBox 75 = .ok (.invokestatic 108, 3) := by decide +kernel
theorem dX2_layBox_78 : decode cX2_layBox 78 = .ok (.putfield 31, 3) := by decide +kernel
theorem dX2_layBox_81 : decode cX2_layBox 81 = .ok (.aload_n 0, 1) := by decide +kernel
theorem dX2_layBox_82 : decode cX2_layBox 82 = .ok (.aload_n 0, 1) := by decide +kernel
theorem dX2_layBox_83 : decode cX2_layBox 83 = .ok (.getfield 34, 3) := by decide +kernel
theorem dX2_layBox_86 : decode cX2_layBox 86 = .ok (.aload_n 0, 1) := by decide +kernel
theorem dX2_layBox_87 : decode cX2_layBox 87 = .ok (.getfield 18, 3) := by decide +kernel
theorem dX2_layBox_90 : decode cX2_layBox 90 = .ok (.iload_n 2, 1) := by decide +kernel
theorem dX2_layBox_91 : decode cX2_layBox 91 = .ok (.iaload, 1) := by decide +kernel
theorem dX2_layBox_92 : decode cX2_layBox 92 = .ok (.invokestatic 83, 3) := by decide +kernel
theorem dX2_layBox_95 : decode cX2_layBox 95 = .ok (.putfield 34, 3) := by decide +kernel
theorem dX2_layBox_98 : decode cX2_layBox 98 = .ok (.aload_n 0, 1) := by decide +kernel
theorem dX2_layBox_99 : decode cX2_layBox 99 = .ok (.aload_n 0, 1) := by decide +kernel
theorem dX2_layBox_100 : decode cX2_layBox 100 = .ok (.getfield 37, 3) := by decide +kernel
theorem dX2_layBox_103 : decode cX2_layBox 103 = .ok (.aload_n 0, 1) := by decide +kernel
theorem dX2_layBox_104 : decode cX2_layBox 104 = .ok (.getfield 18, 3) := by decide +kernel
theorem dX2_layBox_107 : decode cX2_layBox 107 = .ok (.iload_n 2, 1) := by decide +kernel
theorem dX2_layBox_108 : decode cX2_layBox 108 = .ok (.iaload, 1) := by decide +kernel
theorem dX2_layBox_109 : decode cX2_layBox 109 = .ok (.invokestatic 108, 3) := by decide +kernel
theorem dX2_layBox_112 : decode cX2_layBox 112 = .ok (.putfield 37, 3) := by decide +kernel
theorem dX2_layBox_115 : decode cX2_layBox 115 = .ok (.iinc 2 1, 3) := by decide +kernel
theorem dX2_layBox_118 : decode cX2_layBox 118 = .ok (.goto (-76), 3) := by decide +kernel
theorem dX2_layBox_121 : decode cX2_layBox 121 = .ok (.return_, 1) := by decide +kernel
theorem dX2_height_0 : decode cX2_height 0 = .ok (.aload_n 0, 1) := by decide +kernel
theorem dX2_height_1 : decode cX2_height 1 = .ok (.getfield 37, 3) := by decide +kernel
theorem dX2_height_4 : decode cX2_height 4 = .ok (.aload_n 0, 1) := by decide +kernel
theorem dX2_height_5 : decode cX2_height 5 = .ok (.getfield 34, 3) := by decide +kernel
theorem dX2_height_8 : decode cX2_height 8 = .ok (.isub, 1) := by decide +kernel
theorem dX2_height_9 : decode cX2_height 9 = .ok (.ireturn, 1) := by decide +kernel
theorem dX2_measure_0 : decode cX2_measure 0 = .ok (.iload_n 1, 1) := by decide +kernel
theorem dX2_measure_1 : decode cX2_measure 1 = .ok (.tableswitch 65 0 4 #[35, 40, 45, 50, 55], 35) := by decide +kernel
theorem dX2_measure_36 : decode cX2_measure 36 = .ok (.aload_n 0, 1) := by decide +kernel
theorem dX2_measure_37 : decode cX2_measure 37 = .ok (.getfield 28, 3) := by decide +kernel
theorem dX2_measure_40 : decode cX2_measure 40 = .ok (.ireturn, 1) := by decide +kernel
theorem dX2_measure_41 : decode cX2_measure 41 = .ok (.aload_n 0, 1) := by decide +kernel
theorem dX2_measure_42 : decode cX2_measure 42 = .ok (.getfield 31, 3) := by decide +kernel
theorem dX2_measure_45 : decode cX2_measure 45 = .ok (.ireturn, 1) := by decide +kernel
theorem dX2_measure_46 : decode cX2_measure 46 = .ok (.aload_n 0, 1) := by decide +kernel
theorem dX2_measure_47 : decode cX2_measure 47 = .ok (.getfield 34, 3) := by decide +kernel
theorem dX2_measure_50 : decode cX2_measure 50 = .ok (.ireturn, 1) := by decide +kernel
theorem dX2_measure_51 : decode cX2_measure 51 = .ok (.aload_n 0, 1) := by decide +kernel
theorem dX2_measure_52 : decode cX2_measure 52 = .ok (.getfield 37, 3) := by decide +kernel
theorem dX2_measure_55 : decode cX2_measure 55 = .ok (.ireturn, 1) := by decide +kernel
theorem dX2_measure_56 : decode cX2_measure 56 = .ok (.aload_n 0, 1) := by decide +kernel
theorem dX2_measure_57 : decode cX2_measure 57 = .ok (.getfield 31, 3) := by decide +kernel
theorem dX2_measure_60 : decode cX2_measure 60 = .ok (.aload_n 0, 1) := by decide +kernel
theorem dX2_measure_61 : decode cX2_measure 61 = .ok (.getfield 28, 3) := by decide +kernel
theorem dX2_measure_64 : decode cX2_measure 64 = .ok (.isub, 1) := by decide +kernel
theorem dX2_measure_65 : decode cX2_measure 65 = .ok (.ireturn, 1) := by decide +kernel
theorem dX2_measure_66 : decode cX2_measure 66 = .ok (.aload_n 0, 1) := by decide +kernel
theorem dX2_measure_67 : decode cX2_measure 67 = .ok (.invokevirtual 130, 3) := by decide +kernel
theorem dX2_measure_70 : decode cX2_measure 70 = .ok (.ireturn, 1) := by decide +kernel
theorem dX2_isWithin_0 : decode cX2_isWithin 0 = .ok (.aload_n 0, 1) := by decide +kernel
theorem dX2_isWithin_1 : decode cX2_isWithin 1 = .ok (.getfield 28, 3) := by decide +kernel
theorem dX2_isWithin_4 : decode cX2_isWithin 4 = .ok (.ineg, 1) := by decide +kernel
theorem dX2_isWithin_5 : decode cX2_isWithin 5 = .ok (.aload_n 0, 1) := by decide +kernel
theorem dX2_isWithin_6 : decode cX2_isWithin 6 = .ok (.getfield 31, 3) := by decide +kernel
theorem dX2_isWithin_9 : decode cX2_isWithin 9 = .ok (.invokestatic 108, 3) := by decide +kernel
theorem dX2_isWithin_12 : decode cX2_isWithin 12 = .ok (.istore 4, 2) := by decide +kernel
theorem dX2_isWithin_14 : decode cX2_isWithin 14 = .ok (.aload_n 0, 1) := by decide +kernel
theorem dX2_isWithin_15 : decode cX2_isWithin 15 = .ok (.getfield 34, 3) := by decide +kernel
theorem dX2_isWithin_18 : decode cX2_isWithin 18 = .ok (.ineg, 1) := by decide +kernel
theorem dX2_isWithin_19 : decode cX2_isWithin 19 = .ok (.aload_n 0, 1) := by decide +kernel
theorem dX2_isWithin_20 : decode cX2_isWithin 20 = .ok (.getfield 37, 3) := by decide +kernel
theorem dX2_isWithin_23 : decode cX2_isWithin 23 = .ok (.invokestatic 108, 3) := by decide +kernel
theorem dX2_isWithin_26 : decode cX2_isWithin 26 = .ok (.istore 5, 2) := by decide +kernel
theorem dX2_isWithin_28 : decode cX2_isWithin 28 = .ok (.iload 4, 2) := by decide +kernel
theorem dX2_isWithin_30 : decode cX2_isWithin 30 = .ok (.iload_n 3, 1) := by decide +kernel
theorem dX2_isWithin_31 : decode cX2_isWithin 31 = .ok (.imul, 1) := by decide +kernel
theorem dX2_isWithin_32 : decode cX2_isWithin 32 = .ok (.iload_n 1, 1) := by decide +kernel
theorem dX2_isWithin_33 : decode cX2_isWithin 33 = .ok (.aload_n 0, 1) := by decide +kernel
theorem dX2_isWithin_34 : decode cX2_isWithin 34 = .ok (.getfield 24, 3) := by decide +kernel
theorem dX2_isWithin_37 : decode cX2_isWithin 37 = .ok (.imul, 1) := by decide +kernel
theorem dX2_isWithin_38 : decode cX2_isWithin 38 = .ok (.if_icmp .gt 20, 3) := by decide +kernel
theorem dX2_isWithin_41 : decode cX2_isWithin 41 = .ok (.iload 5, 2) := by decide +kernel
theorem dX2_isWithin_43 : decode cX2_isWithin 43 = .ok (.iload_n 3, 1) := by decide +kernel
theorem dX2_isWithin_44 : decode cX2_isWithin 44 = .ok (.imul, 1) := by decide +kernel
theorem dX2_isWithin_45 : decode cX2_isWithin 45 = .ok (.iload_n 2, 1) := by decide +kernel
theorem dX2_isWithin_46 : decode cX2_isWithin 46 = .ok (.aload_n 0, 1) := by decide +kernel
theorem dX2_isWithin_47 : decode cX2_isWithin 47 = .ok (.getfield 24, 3) := by decide +kernel
theorem dX2_isWithin_50 : decode cX2_isWithin 50 = .ok (.imul, 1) := by decide +kernel
theorem dX2_isWithin_51 : decode cX2_isWithin 51 = .ok (.if_icmp .gt 7, 3) := by decide +kernel
theorem dX2_isWithin_54 : decode cX2_isWithin 54 = .ok (.iconst 1, 1) := by decide +kernel
theorem dX2_isWithin_55 : decode cX2_isWithin 55 = .ok (.goto 4, 3) := by decide +kernel
theorem dX2_isWithin_58 : decode cX2_isWithin 58 = .ok (.iconst 0, 1) := by decide +kernel
theorem dX2_isWithin_59 : decode cX2_isWithin 59 = .ok (.ireturn, 1) := by decide +kernel
theorem dX3_init_0 : decode cX3_init 0 = .ok (.aload_n 0, 1) := by decide +kernel
theorem dX3_init_1 : decode cX3_init 1 = .ok (.invokespecial 3, 3) := by decide +kernel
theorem dX3_init_4 : decode cX3_init 4 = .ok (.aload_n 0, 1) := by decide +kernel
theorem dX3_init_5 : decode cX3_init 5 = .ok (.bipush 8, 2) := by decide +kernel
theorem dX3_init_7 : decode cX3_init 7 = .ok (.newarray .int, 2) := by decide +kernel
theorem dX3_init_9 : decode cX3_init 9 = .ok (.putfield 9, 3) := by decide +kernel
theorem dX3_init_12 : decode cX3_init 12 = .ok (.aload_n 0, 1) := by decide +kernel
theorem dX3_init_13 : decode cX3_init 13 = .ok (.iconst 0, 1) := by decide +kernel
theorem dX3_init_14 : decode cX3_init 14 = .ok (.putfield 15, 3) := by decide +kernel
theorem dX3_init_17 : decode cX3_init 17 = .ok (.aload_n 0, 1) := by decide +kernel
theorem dX3_init_18 : decode cX3_init 18 = .ok (.sipush 1024, 3) := by decide +kernel
theorem dX3_init_21 : decode cX3_init 21 = .ok (.newarray .int, 2) := by decide +kernel
theorem dX3_init_23 : decode cX3_init 23 = .ok (.putfield 19, 3) := by decide +kernel
theorem dX3_init_26 : decode cX3_init 26 = .ok (.return_, 1) := by decide +kernel
theorem dX3_append_0 : decode cX3_append 0 = .ok (.aload_n 0, 1) := by decide +kernel
theorem dX3_append_1 : decode cX3_append 1 = .ok (.getfield 15, 3) := by decide +kernel
theorem dX3_append_4 : decode cX3_append 4 = .ok (.bipush 8, 2) := by decide +kernel
theorem dX3_append_6 : decode cX3_append 6 = .ok (.if_icmp .lt 6, 3) := by decide +kernel
theorem dX3_append_9 : decode cX3_append 9 = .ok (.bipush (-4), 2) := by decide +kernel
theorem dX3_append_11 : decode cX3_append 11 = .ok (.ireturn, 1) := by decide +kernel
theorem dX3_append_12 : decode cX3_append 12 = .ok (.aload_n 0, 1) := by decide +kernel
theorem dX3_append_13 : decode cX3_append 13 = .ok (.getfield 15, 3) := by decide +kernel
theorem dX3_append_16 : decode cX3_append 16 = .ok (.istore_n 2, 1) := by decide +kernel
theorem dX3_append_17 : decode cX3_append 17 = .ok (.aload_n 0, 1) := by decide +kernel
theorem dX3_append_18 : decode cX3_append 18 = .ok (.getfield 9, 3) := by decide +kernel
theorem dX3_append_21 : decode cX3_append 21 = .ok (.iload_n 2, 1) := by decide +kernel
theorem dX3_append_22 : decode cX3_append 22 = .ok (.iload_n 1, 1) := by decide +kernel
theorem dX3_append_23 : decode cX3_append 23 = .ok (.iastore, 1) := by decide +kernel
theorem dX3_append_24 : decode cX3_append 24 = .ok (.aload_n 0, 1) := by decide +kernel
theorem dX3_append_25 : decode cX3_append 25 = .ok (.dup, 1) := by decide +kernel
theorem dX3_append_26 : decode cX3_append 26 = .ok (.getfield 15, 3) := by decide +kernel
theorem dX3_append_29 : decode cX3_append 29 = .ok (.iconst 1, 1) := by decide +kernel
theorem dX3_append_30 : decode cX3_append 30 = .ok (.iadd, 1) := by decide +kernel
theorem dX3_append_31 : decode cX3_append 31 = .ok (.putfield 15, 3) := by decide +kernel
theorem dX3_append_34 : decode cX3_append 34 = .ok (.aload_n 0, 1) := by decide +kernel
theorem dX3_append_35 : decode cX3_append 35 = .ok (.invokevirtual 22, 3) := by decide +kernel
theorem dX3_append_38 : decode cX3_append 38 = .ok (.iload_n 2, 1) := by decide +kernel
theorem dX3_append_39 : decode cX3_append 39 = .ok (.ireturn, 1) := by decide +kernel
theorem dX3_clear_0 : decode cX3_clear 0 = .ok (.aload_n 0, 1) := by decide +kernel
theorem dX3_clear_1 : decode cX3_clear 1 = .ok (.iconst 0, 1) := by decide +kernel
theorem dX3_clear_2 : decode cX3_clear 2 = .ok (.putfield 15, 3) := by decide +kernel
theorem dX3_clear_5 : decode cX3_clear 5 = .ok (.return_, 1) := by decide +kernel
theorem dX3_leastCost_0 : decode cX3_leastCost 0 = .ok (.aload_n 0, 1) := by decide +kernel
theorem dX3_leastCost_1 : decode cX3_leastCost 1 = .ok (.aload_n 0, 1) := by decide +kernel
theorem dX3_leastCost_2 : decode cX3_leastCost 2 = .ok (.invokevirtual 25, 3) := by decide +kernel
theorem dX3_leastCost_5 : decode cX3_leastCost 5 = .ok (.iconst 0, 1) := by decide +kernel
theorem dX3_leastCost_6 : decode cX3_leastCost 6 = .ok (.invokevirtual 29, 3) := by decide +kernel
theorem dX3_leastCost_9 : decode cX3_leastCost 9 = .ok (.ireturn, 1) := by decide +kernel
theorem dX3_sceneAt_0 : decode cX3_sceneAt 0 = .ok (.iconst 0, 1) := by decide +kernel
theorem dX3_sceneAt_1 : decode cX3_sceneAt 1 = .ok (.istore_n 2, 1) := by decide +kernel
theorem dX3_sceneAt_2 : decode cX3_sceneAt 2 = .ok (.aload_n 0, 1) := by decide +kernel
theorem dX3_sceneAt_3 : decode cX3_sceneAt 3 = .ok (.invokevirtual 25, 3) := by decide +kernel
theorem dX3_sceneAt_6 : decode cX3_sceneAt 6 = .ok (.istore_n 3, 1) := by decide +kernel
theorem dX3_sceneAt_7 : decode cX3_sceneAt 7 = .ok (.iconst 0, 1) := by decide +kernel
theorem dX3_sceneAt_8 : decode cX3_sceneAt 8 = .ok (.istore 4, 2) := by decide +kernel
theorem dX3_sceneAt_10 : decode cX3_sceneAt 10 = .ok (.iload 4, 2) := by decide +kernel
theorem dX3_sceneAt_12 : decode cX3_sceneAt 12 = .ok (.iload_n 1, 1) := by decide +kernel
theorem dX3_sceneAt_13 : decode cX3_sceneAt 13 = .ok (.if_icmp .ge 25, 3) := by decide +kernel
theorem dX3_sceneAt_16 : decode cX3_sceneAt 16 = .ok (.aload_n 0, 1) := by decide +kernel
theorem dX3_sceneAt_17 : decode cX3_sceneAt 17 = .ok (.iload_n 3, 1) := by decide +kernel
theorem dX3_sceneAt_18 : decode cX3_sceneAt 18 = .ok (.iload_n 2, 1) := by decide +kernel
theorem dX3_sceneAt_19 : decode cX3_sceneAt 19 = .ok (.invokevirtual 33, 3) := by decide +kernel
theorem dX3_sceneAt_22 : decode cX3_sceneAt 22 = .ok (.istore_n 2, 1) := by decide +kernel
theorem dX3_sceneAt_23 : decode cX3_sceneAt 23 = .ok (.iload_n 3, 1) := by decide +kernel
theorem dX3_sceneAt_24 : decode cX3_sceneAt 24 = .ok (.iload_n 2, 1) := by decide +kernel
theorem dX3_sceneAt_25 : decode cX3_sceneAt 25 = .ok (.invokestatic 36, 3) := by decide +kernel
theorem dX3_sceneAt_28 : decode cX3_sceneAt 28 = .ok (.iconst (-1), 1) := by decide +kernel
theorem dX3_sceneAt_29 : decode cX3_sceneAt 29 = .ok (.ixor, 1) := by decide +kernel
theorem dX3_sceneAt_30 : decode cX3_sceneAt 30 = .ok (.iand, 1) := by decide +kernel
theorem dX3_sceneAt_31 : decode cX3_sceneAt 31 = .ok (.istore_n 3, 1) := by decide +kernel
theorem dX3_sceneAt_32 : decode cX3_sceneAt 32 = .ok (.iinc 4 1, 3) := by decide +kernel
theorem dX3_sceneAt_35 : decode cX3_sceneAt 35 = .ok (.goto (-25), 3) := by decide +kernel
theorem dX3_sceneAt_38 : decode cX3_sceneAt 38 = .ok (.iload_n 2, 1) := by decide +kernel
theorem dX3_sceneAt_39 : decode cX3_sceneAt 39 = .ok (.ireturn, 1) := by decide +kernel
theorem dX3_fillLeast_0 : decode cX3_fillLeast 0 = .ok (.aload_n 0, 1) := by decide +kernel
theorem dX3_fillLeast_1 : decode cX3_fillLeast 1 = .ok (.invokevirtual 25, 3) := by decide +kernel
theorem dX3_fillLeast_4 : decode cX3_fillLeast 4 = .ok (.istore_n 1, 1) := by decide +kernel
theorem dX3_fillLeast_5 : decode cX3_fillLeast 5 = .ok (.iconst 1, 1) := by decide +kernel
theorem dX3_fillLeast_6 : decode cX3_fillLeast 6 = .ok (.istore_n 2, 1) := by decide +kernel
theorem dX3_fillLeast_7 : decode cX3_fillLeast 7 = .ok (.iload_n 2, 1) := by decide +kernel
theorem dX3_fillLeast_8 : decode cX3_fillLeast 8 = .ok (.iload_n 1, 1) := by decide +kernel
theorem dX3_fillLeast_9 : decode cX3_fillLeast 9 = .ok (.if_icmp .gt 56, 3) := by decide +kernel
theorem dX3_fillLeast_12 : decode cX3_fillLeast 12 = .ok (.iconst 0, 1) := by decide +kernel
theorem dX3_fillLeast_13 : decode cX3_fillLeast 13 = .ok (.istore_n 3, 1) := by decide +kernel
theorem dX3_fillLeast_14 : decode cX3_fillLeast 14 = .ok (.iload_n 3, 1) := by decide +kernel
theorem dX3_fillLeast_15 : decode cX3_fillLeast 15 = .ok (.aload_n 0, 1) := by decide +kernel
theorem dX3_fillLeast_16 : decode cX3_fillLeast 16 = .ok (.getfield 15, 3) := by decide +kernel
theorem dX3_fillLeast_19 : decode cX3_fillLeast 19 = .ok (.if_icmp .ge 40, 3) := by decide +kernel
theorem dX3_fillLeast_22 : decode cX3_fillLeast 22 = .ok (.iload_n 2, 1) := by decide +kernel
theorem dX3_fillLeast_23 : decode cX3_fillLeast 23 = .ok (.iload_n 3, 1) := by decide +kernel
theorem dX3_fillLeast_24 : decode cX3_fillLeast 24 = .ok (.invokestatic 40, 3) := by decide +kernel
theorem dX3_fillLeast_27 : decode cX3_fillLeast 27 = .ok (.ifCond .ne 26, 3) := by decide +kernel
theorem dX3_fillLeast_30 : decode cX3_fillLeast 30 = .ok (.aload_n 0, 1) := by decide +kernel
theorem dX3_fillLeast_31 : decode cX3_fillLeast 31 = .ok (.getfield 19, 3) := by decide +kernel
theorem dX3_fillLeast_34 : decode cX3_fillLeast 34 = .ok (.iload_n 2, 1) := by decide +kernel
theorem dX3_fillLeast_35 : decode cX3_fillLeast 35 = .ok (.bipush 8, 2) := by decide +kernel
theorem dX3_fillLeast_37 : decode cX3_fillLeast 37 = .ok (.imul, 1) := by decide +kernel
theorem dX3_fillLeast_38 : decode cX3_fillLeast 38 = .ok (.iload_n 3, 1) := by decide +kernel
theorem dX3_fillLeast_39 : decode cX3_fillLeast 39 = .ok (.iadd, 1) := by decide +kernel
theorem dX3_fillLeast_40 : decode cX3_fillLeast 40 = .ok (.aload_n 0, 1) := by decide +kernel
theorem dX3_fillLeast_41 : decode cX3_fillLeast 41 = .ok (.iload_n 2, 1) := by decide +kernel
theorem dX3_fillLeast_42 : decode cX3_fillLeast 42 = .ok (.iload_n 3, 1) := by decide +kernel
theorem dX3_fillLeast_43 : decode cX3_fillLeast 43 = .ok (.aload_n 0, 1) := by decide +kernel
theorem dX3_fillLeast_44 : decode cX3_fillLeast 44 = .ok (.iload_n 2, 1) := by decide +kernel
theorem dX3_fillLeast_45 : decode cX3_fillLeast 45 = .ok (.iload_n 3, 1) := by decide +kernel
theorem dX3_fillLeast_46 : decode cX3_fillLeast 46 = .ok (.invokevirtual 33, 3) := by decide +kernel
theorem dX3_fillLeast_49 : decode cX3_fillLeast 49 = .ok (.invokevirtual 44, 3) := by decide +kernel
theorem dX3_fillLeast_52 : decode cX3_fillLeast 52 = .ok (.iastore, 1) := by decide +kernel
theorem dX3_fillLeast_53 : decode cX3_fillLeast 53 = .ok (.iinc 3 1, 3) := by decide +kernel
theorem dX3_fillLeast_56 : decode cX3_fillLeast 56 = .ok (.goto (-42), 3) := by decide +kernel
theorem dX3_fillLeast_59 : decode cX3_fillLeast 59 = .ok (.iinc 2 1, 3) := by decide +kernel
theorem dX3_fillLeast_62 : decode cX3_fillLeast 62 = .ok (.goto (-55), 3) := by decide +kernel
theorem dX3_fillLeast_65 : decode cX3_fillLeast 65 = .ok (.return_, 1) := by decide +kernel
theorem dX3_firstBestNext_0 : decode cX3_firstBestNext 0 = .ok (.iload_n 2, 1) := by decide +kernel
theorem dX3_firstBestNext_1 : decode cX3_firstBestNext 1 = .ok (.istore_n 3, 1) := by decide +kernel
theorem dX3_firstBestNext_2 : decode cX3_firstBestNext 2 = .ok (.ldc 50, 2) := by decide +kernel
theorem dX3_firstBestNext_4 : decode cX3_firstBestNext 4 = .ok (.istore 4, 2) := by decide +kernel
theorem dX3_firstBestNext_6 : decode cX3_firstBestNext 6 = .ok (.iconst 1, 1) := by decide +kernel
theorem dX3_firstBestNext_7 : decode cX3_firstBestNext 7 = .ok (.istore 5, 2) := by decide +kernel
theorem dX3_firstBestNext_9 : decode cX3_firstBestNext 9 = .ok (.iload 5, 2) := by decide +kernel
theorem dX3_firstBestNext_11 : decode cX3_firstBestNext 11 = .ok (.aload_n 0, 1) := by decide +kernel
theorem dX3_firstBestNext_12 : decode cX3_firstBestNext 12 = .ok (.getfield 15, 3) := by decide +kernel
theorem dX3_firstBestNext_15 : decode cX3_firstBestNext 15 = .ok (.if_icmp .ge 47, 3) := by decide +kernel
theorem dX3_firstBestNext_18 : decode cX3_firstBestNext 18 = .ok (.iload_n 1, 1) := by decide +kernel
theorem dX3_firstBestNext_19 : decode cX3_firstBestNext 19 = .ok (.iload 5, 2) := by decide +kernel
theorem dX3_firstBestNext_21 : decode cX3_firstBestNext 21 = .ok (.invokestatic 40, 3) := by decide +kernel
theorem dX3_firstBestNext_24 : decode cX3_firstBestNext 24 = .ok (.ifCond .eq 14, 3) := by decide +kernel
theorem dX3_firstBestNext_27 : decode cX3_firstBestNext 27 = .ok (.aload_n 0, 1) := by decide +kernel
theorem dX3_firstBestNext_28 : decode cX3_firstBestNext 28 = .ok (.iload_n 1, 1) := by decide +kernel
theorem dX3_firstBestNext_29 : decode cX3_firstBestNext 29 = .ok (.iload_n 2, 1) := by decide +kernel
theorem dX3_firstBestNext_30 : decode cX3_firstBestNext 30 = .ok (.iload 5, 2) := by decide +kernel
theorem dX3_firstBestNext_32 : decode cX3_firstBestNext 32 = .ok (.invokevirtual 44, 3) := by decide +kernel
theorem dX3_firstBestNext_35 : decode cX3_firstBestNext 35 = .ok (.goto 5, 3) := by decide +kernel
theorem dX3_firstBestNext_38 : decode cX3_firstBestNext 38 = .ok (.ldc 50, 2) := by decide +kernel
theorem dX3_firstBestNext_40 : decode cX3_firstBestNext 40 = .ok (.istore 6, 2) := by decide +kernel
theorem dX3_firstBestNext_42 : decode cX3_firstBestNext 42 = .ok (.iload 6, 2) := by decide +kernel
theorem dX3_firstBestNext_44 : decode cX3_firstBestNext 44 = .ok (.iload 4, 2) := by decide +kernel
theorem dX3_firstBestNext_46 : decode cX3_firstBestNext 46 = .ok (.if_icmp .ge 10, 3) := by decide +kernel
theorem dX3_firstBestNext_49 : decode cX3_firstBestNext 49 = .ok (.iload 5, 2) := by decide +kernel
theorem dX3_firstBestNext_51 : decode cX3_firstBestNext 51 = .ok (.istore_n 3, 1) := by decide +kernel
theorem dX3_firstBestNext_52 : decode cX3_firstBestNext 52 = .ok (.iload 6, 2) := by decide +kernel
theorem dX3_firstBestNext_54 : decode cX3_firstBestNext 54 = .ok (.istore 4, 2) := by decide +kernel
theorem dX3_firstBestNext_56 : decode cX3_firstBestNext 56 = .ok (.iinc 5 1, 3) := by decide +kernel
theorem dX3_firstBestNext_59 : decode cX3_firstBestNext 59 = .ok (.goto (-50), 3) := by decide +kernel
theorem dX3_firstBestNext_62 : decode cX3_firstBestNext 62 = .ok (.iload_n 3, 1) := by decide +kernel
theorem dX3_firstBestNext_63 : decode cX3_firstBestNext 63 = .ok (.ireturn, 1) := by decide +kernel
theorem dX3_costVia_0 : decode cX3_costVia 0 = .ok (.aload_n 0, 1) := by decide +kernel
theorem dX3_costVia_1 : decode cX3_costVia 1 = .ok (.getfield 9, 3) := by decide +kernel
theorem dX3_costVia_4 : decode cX3_costVia 4 = .ok (.iload_n 2, 1) := by decide +kernel
theorem dX3_costVia_5 : decode cX3_costVia 5 = .ok (.iaload, 1) := by decide +kernel
theorem dX3_costVia_6 : decode cX3_costVia 6 = .ok (.aload_n 0, 1) := by decide +kernel
theorem dX3_costVia_7 : decode cX3_costVia 7 = .ok (.getfield 9, 3) := by decide +kernel
theorem dX3_costVia_10 : decode cX3_costVia 10 = .ok (.iload_n 3, 1) := by decide +kernel
theorem dX3_costVia_11 : decode cX3_costVia 11 = .ok (.iaload, 1) := by decide +kernel
theorem dX3_costVia_12 : decode cX3_costVia 12 = .ok (.ixor, 1) := by decide +kernel
theorem dX3_costVia_13 : decode cX3_costVia 13 = .ok (.invokestatic 51, 3) := by decide +kernel
theorem dX3_costVia_16 : decode cX3_costVia 16 = .ok (.aload_n 0, 1) := by decide +kernel
theorem dX3_costVia_17 : decode cX3_costVia 17 = .ok (.iload_n 1, 1) := by decide +kernel
theorem dX3_costVia_18 : decode cX3_costVia 18 = .ok (.iload_n 3, 1) := by decide +kernel
theorem dX3_costVia_19 : decode cX3_costVia 19 = .ok (.invokestatic 36, 3) := by decide +kernel
theorem dX3_costVia_22 : decode cX3_costVia 22 = .ok (.iconst (-1), 1) := by decide +kernel
theorem dX3_costVia_23 : decode cX3_costVia 23 = .ok (.ixor, 1) := by decide +kernel
theorem dX3_costVia_24 : decode cX3_costVia 24 = .ok (.iand, 1) := by decide +kernel
theorem dX3_costVia_25 : decode cX3_costVia 25 = .ok (.iload_n 3, 1) := by decide +kernel
theorem dX3_costVia_26 : decode cX3_costVia 26 = .ok (.invokevirtual 29, 3) := by decide +kernel
theorem dX3_costVia_29 : decode cX3_costVia 29 = .ok (.iadd, 1) := by decide +kernel
theorem dX3_costVia_30 : decode cX3_costVia 30 = .ok (.ireturn, 1) := by decide +kernel
theorem dX3_least_0 : decode cX3_least 0 = .ok (.aload_n 0, 1) := by decide +kernel
theorem dX3_least_1 : decode cX3_least 1 = .ok (.getfield 19, 3) := by decide +kernel
theorem dX3_least_4 : decode cX3_least 4 = .ok (.iload_n 1, 1) := by decide +kernel
theorem dX3_least_5 : decode cX3_least 5 = .ok (.bipush 8, 2) := by decide +kernel
theorem dX3_least_7 : decode cX3_least 7 = .ok (.imul, 1) := by decide +kernel
theorem dX3_least_8 : decode cX3_least 8 = .ok (.iload_n 2, 1) := by decide +kernel
theorem dX3_least_9 : decode cX3_least 9 = .ok (.iadd, 1) := by decide +kernel
theorem dX3_least_10 : decode cX3_least 10 = .ok (.iaload, 1) := by decide +kernel
theorem dX3_least_11 : decode cX3_least 11 = .ok (.ireturn, 1) := by decide +kernel
theorem dX3_allButFirst_0 : decode cX3_allButFirst 0 = .ok (.iconst 1, 1) := by decide +kernel
theorem dX3_allButFirst_1 : decode cX3_allButFirst 1 = .ok (.aload_n 0, 1) := by decide +kernel
theorem dX3_allButFirst_2 : decode cX3_allButFirst 2 = .ok (.getfield 15, 3) := by decide +kernel
theorem dX3_allButFirst_5 : decode cX3_allButFirst 5 = .ok (.ishl, 1) := by decide +kernel
theorem dX3_allButFirst_6 : decode cX3_allButFirst 6 = .ok (.iconst 1, 1) := by decide +kernel
theorem dX3_allButFirst_7 : decode cX3_allButFirst 7 = .ok (.isub, 1) := by decide +kernel
theorem dX3_allButFirst_8 : decode cX3_allButFirst 8 = .ok (.iconst 1, 1) := by decide +kernel
theorem dX3_allButFirst_9 : decode cX3_allButFirst 9 = .ok (.ishr, 1) := by decide +kernel
theorem dX3_allButFirst_10 : decode cX3_allButFirst 10 = .ok (.ireturn, 1) := by decide +kernel
theorem dX3_isIn_0 : decode cX3_isIn 0 = .ok (.iload_n 0, 1) := by decide +kernel
theorem dX3_isIn_1 : decode cX3_isIn 1 = .ok (.iload_n 1, 1) := by decide +kernel
theorem dX3_isIn_2 : decode cX3_isIn 2 = .ok (.invokestatic 36, 3) := by decide +kernel
theorem dX3_isIn_5 : decode cX3_isIn 5 = .ok (.iand, 1) := by decide +kernel
theorem dX3_isIn_6 : decode cX3_isIn 6 = .ok (.ifCond .eq 7, 3) := by decide +kernel
theorem dX3_isIn_9 : decode cX3_isIn 9 = .ok (.iconst 1, 1) := by decide +kernel
theorem dX3_isIn_10 : decode cX3_isIn 10 = .ok (.goto 4, 3) := by decide +kernel
theorem dX3_isIn_13 : decode cX3_isIn 13 = .ok (.iconst 0, 1) := by decide +kernel
theorem dX3_isIn_14 : decode cX3_isIn 14 = .ok (.ireturn, 1) := by decide +kernel
theorem dX3_sceneBit_0 : decode cX3_sceneBit 0 = .ok (.iconst 1, 1) := by decide +kernel
theorem dX3_sceneBit_1 : decode cX3_sceneBit 1 = .ok (.iload_n 0, 1) := by decide +kernel
theorem dX3_sceneBit_2 : decode cX3_sceneBit 2 = .ok (.ishl, 1) := by decide +kernel
theorem dX3_sceneBit_3 : decode cX3_sceneBit 3 = .ok (.iconst 1, 1) := by decide +kernel
theorem dX3_sceneBit_4 : decode cX3_sceneBit 4 = .ok (.ishr, 1) := by decide +kernel
theorem dX3_sceneBit_5 : decode cX3_sceneBit 5 = .ok (.ireturn, 1) := by decide +kernel
theorem dX4_init_0 : decode cX4_init 0 = .ok (.aload_n 0, 1) := by decide +kernel
theorem dX4_init_1 : decode cX4_init 1 = .ok (.invokespecial 3, 3) := by decide +kernel
theorem dX4_init_4 : decode cX4_init 4 = .ok (.aload_n 0, 1) := by decide +kernel
theorem dX4_init_5 : decode cX4_init 5 = .ok (.bipush 60, 2) := by decide +kernel
theorem dX4_init_7 : decode cX4_init 7 = .ok (.anewarray 9, 3) := by decide +kernel
theorem dX4_init_10 : decode cX4_init 10 = .ok (.putfield 11, 3) := by decide +kernel
theorem dX4_init_13 : decode cX4_init 13 = .ok (.aload_n 0, 1) := by decide +kernel
theorem dX4_init_14 : decode cX4_init 14 = .ok (.iconst 0, 1) := by decide +kernel
theorem dX4_init_15 : decode cX4_init 15 = .ok (.putfield 17, 3) := by decide +kernel
theorem dX4_init_18 : decode cX4_init 18 = .ok (.return_, 1) := by decide +kernel
theorem dX4_newMove_0 : decode cX4_newMove 0 = .ok (.aload_n 0, 1) := by decide +kernel
theorem dX4_newMove_1 : decode cX4_newMove 1 = .ok (.getfield 17, 3) := by decide +kernel
theorem dX4_newMove_4 : decode cX4_newMove 4 = .ok (.bipush 60, 2) := by decide +kernel
theorem dX4_newMove_6 : decode cX4_newMove 6 = .ok (.if_icmp .lt 5, 3) := by decide +kernel
theorem dX4_newMove_9 : decode cX4_newMove 9 = .ok (.aconst_null, 1) := by decide +kernel
theorem dX4_newMove_10 : decode cX4_newMove 10 = .ok (.areturn, 1) := by decide +kernel
theorem dX4_newMove_11 : decode cX4_newMove 11 = .ok (.new 9, 3) := by decide +kernel
theorem dX4_newMove_14 : decode cX4_newMove 14 = .ok (.dup, 1) := by decide +kernel
theorem dX4_newMove_15 : decode cX4_newMove 15 = .ok (.aload_n 0, 1) := by decide +kernel
theorem dX4_newMove_16 : decode cX4_newMove 16 = .ok (.getfield 17, 3) := by decide +kernel
theorem dX4_newMove_19 : decode cX4_newMove 19 = .ok (.iload_n 1, 1) := by decide +kernel
theorem dX4_newMove_20 : decode cX4_newMove 20 = .ok (.iload_n 2, 1) := by decide +kernel
theorem dX4_newMove_21 : decode cX4_newMove 21 = .ok (.iload_n 3, 1) := by decide +kernel
theorem dX4_newMove_22 : decode cX4_newMove 22 = .ok (.invokespecial 21, 3) := by decide +kernel
theorem dX4_newMove_25 : decode cX4_newMove 25 = .ok (.astore 4, 2) := by decide +kernel
theorem dX4_newMove_27 : decode cX4_newMove 27 = .ok (.aload_n 0, 1) := by decide +kernel
theorem dX4_newMove_28 : decode cX4_newMove 28 = .ok (.getfield 17, 3) := by decide +kernel
theorem dX4_newMove_31 : decode cX4_newMove 31 = .ok (.istore 5, 2) := by decide +kernel
theorem dX4_newMove_33 : decode cX4_newMove 33 = .ok (.iload 5, 2) := by decide +kernel
theorem dX4_newMove_35 : decode cX4_newMove 35 = .ok (.ifCond .le 41, 3) := by decide +kernel
theorem dX4_newMove_38 : decode cX4_newMove 38 = .ok (.aload_n 0, 1) := by decide +kernel
theorem dX4_newMove_39 : decode cX4_newMove 39 = .ok (.getfield 11, 3) := by decide +kernel
theorem dX4_newMove_42 : decode cX4_newMove 42 = .ok (.iload 5, 2) := by decide +kernel
theorem dX4_newMove_44 : decode cX4_newMove 44 = .ok (.iconst 1, 1) := by decide +kernel
theorem dX4_newMove_45 : decode cX4_newMove 45 = .ok (.isub, 1) := by decide +kernel
theorem dX4_newMove_46 : decode cX4_newMove 46 = .ok (.aaload, 1) := by decide +kernel
theorem dX4_newMove_47 : decode cX4_newMove 47 = .ok (.iload_n 1, 1) := by decide +kernel
theorem dX4_newMove_48 : decode cX4_newMove 48 = .ok (.invokestatic 24, 3) := by decide +kernel
theorem dX4_newMove_51 : decode cX4_newMove 51 = .ok (.ifCond .eq 25, 3) := by decide +kernel
theorem dX4_newMove_54 : decode cX4_newMove 54 = .ok (.aload_n 0, 1) := by decide +kernel
theorem dX4_newMove_55 : decode cX4_newMove 55 = .ok (.getfield 11, 3) := by decide +kernel
theorem dX4_newMove_58 : decode cX4_newMove 58 = .ok (.iload 5, 2) := by decide +kernel
theorem dX4_newMove_60 : decode cX4_newMove 60 = .ok (.aload_n 0, 1) := by decide +kernel
theorem dX4_newMove_61 : decode cX4_newMove 61 = .ok (.getfield 11, 3) := by decide +kernel
theorem dX4_newMove_64 : decode cX4_newMove 64 = .ok (.iload 5, 2) := by decide +kernel
theorem dX4_newMove_66 : decode cX4_newMove 66 = .ok (.iconst 1, 1) := by decide +kernel
theorem dX4_newMove_67 : decode cX4_newMove 67 = .ok (.isub, 1) := by decide +kernel
theorem dX4_newMove_68 : decode cX4_newMove 68 = .ok (.aaload, 1) := by decide +kernel
theorem dX4_newMove_69 : decode cX4_newMove 69 = .ok (.aastore, 1) := by decide +kernel
theorem dX4_newMove_70 : decode cX4_newMove 70 = .ok (.iinc 5 (-1), 3) := by decide +kernel
theorem dX4_newMove_73 : decode cX4_newMove 73 = .ok (.goto (-40), 3) := by decide +kernel
theorem dX4_newMove_76 : decode cX4_newMove 76 = .ok (.aload_n 0, 1) := by decide +kernel
theorem dX4_newMove_77 : decode cX4_newMove 77 = .ok (.getfield 11, 3) := by decide +kernel
theorem dX4_newMove_80 : decode cX4_newMove 80 = .ok (.iload 5, 2) := by decide +kernel
theorem dX4_newMove_82 : decode cX4_newMove 82 = .ok (.aload 4, 2) := by decide +kernel
theorem dX4_newMove_84 : decode cX4_newMove 84 = .ok (.aastore, 1) := by decide +kernel
theorem dX4_newMove_85 : decode cX4_newMove 85 = .ok (.aload_n 0, 1) := by decide +kernel
theorem dX4_newMove_86 : decode cX4_newMove 86 = .ok (.dup, 1) := by decide +kernel
theorem dX4_newMove_87 : decode cX4_newMove 87 = .ok (.getfield 17, 3) := by decide +kernel
theorem dX4_newMove_90 : decode cX4_newMove 90 = .ok (.iconst 1, 1) := by decide +kernel
theorem dX4_newMove_91 : decode cX4_newMove 91 = .ok (.iadd, 1) := by decide +kernel
theorem dX4_newMove_92 : decode cX4_newMove 92 = .ok (.putfield 17, 3) := by decide +kernel
theorem dX4_newMove_95 : decode cX4_newMove 95 = .ok (.aload 4, 2) := by decide +kernel
theorem dX4_newMove_97 : decode cX4_newMove 97 = .ok (.areturn, 1) := by decide +kernel
theorem dX4_isAfter_0 : decode cX4_isAfter 0 = .ok (.aload_n 0, 1) := by decide +kernel
theorem dX4_isAfter_1 : decode cX4_isAfter 1 = .ok (.ifnull 15, 3) := by decide +kernel
theorem dX4_isAfter_4 : decode cX4_isAfter 4 = .ok (.aload_n 0, 1) := by decide +kernel
theorem dX4_isAfter_5 : decode cX4_isAfter 5 = .ok (.getfield 28, 3) := by decide +kernel
theorem dX4_isAfter_8 : decode cX4_isAfter 8 = .ok (.iload_n 1, 1) := by decide +kernel
theorem dX4_isAfter_9 : decode cX4_isAfter 9 = .ok (.if_icmp .le 7, 3) := by decide +kernel
theorem dX4_isAfter_12 : decode cX4_isAfter 12 = .ok (.iconst 1, 1) := by decide +kernel
theorem dX4_isAfter_13 : decode cX4_isAfter 13 = .ok (.goto 4, 3) := by decide +kernel
theorem dX4_isAfter_16 : decode cX4_isAfter 16 = .ok (.iconst 0, 1) := by decide +kernel
theorem dX4_isAfter_17 : decode cX4_isAfter 17 = .ok (.ireturn, 1) := by decide +kernel
theorem dX4_keepFirst_0 : decode cX4_keepFirst 0 = .ok (.iconst 0, 1) := by decide +kernel
theorem dX4_keepFirst_1 : decode cX4_keepFirst 1 = .ok (.istore_n 2, 1) := by decide +kernel
theorem dX4_keepFirst_2 : decode cX4_keepFirst 2 = .ok (.iconst 0, 1) := by decide +kernel
theorem dX4_keepFirst_3 : decode cX4_keepFirst 3 = .ok (.istore_n 3, 1) := by decide +kernel
theorem dX4_keepFirst_4 : decode cX4_keepFirst 4 = .ok (.iload_n 3, 1) := by decide +kernel
theorem dX4_keepFirst_5 : decode cX4_keepFirst 5 = .ok (.aload_n 0, 1) := by decide +kernel
theorem dX4_keepFirst_6 : decode cX4_keepFirst 6 = .ok (.getfield 17, 3) := by decide +kernel
theorem dX4_keepFirst_9 : decode cX4_keepFirst 9 = .ok (.if_icmp .ge 49, 3) := by decide +kernel
theorem dX4_keepFirst_12 : decode cX4_keepFirst 12 = .ok (.aload_n 0, 1) := by decide +kernel
theorem dX4_keepFirst_13 : decode cX4_keepFirst 13 = .ok (.getfield 11, 3) := by decide +kernel
theorem dX4_keepFirst_16 : decode cX4_keepFirst 16 = .ok (.iload_n 3, 1) := by decide +kernel
theorem dX4_keepFirst_17 : decode cX4_keepFirst 17 = .ok (.aaload, 1) := by decide +kernel
theorem dX4_keepFirst_18 : decode cX4_keepFirst 18 = .ok (.astore 4, 2) := by decide +kernel
theorem dX4_keepFirst_20 : decode cX4_keepFirst 20 = .ok (.aload_n 0, 1) := by decide +kernel
theorem dX4_keepFirst_21 : decode cX4_keepFirst 21 = .ok (.getfield 11, 3) := by decide +kernel
theorem dX4_keepFirst_24 : decode cX4_keepFirst 24 = .ok (.iload_n 3, 1) := by decide +kernel
theorem dX4_keepFirst_25 : decode cX4_keepFirst 25 = .ok (.aconst_null, 1) := by decide +kernel
theorem dX4_keepFirst_26 : decode cX4_keepFirst 26 = .ok (.aastore, 1) := by decide +kernel
theorem dX4_keepFirst_27 : decode cX4_keepFirst 27 = .ok (.aload 4, 2) := by decide +kernel
theorem dX4_keepFirst_29 : decode cX4_keepFirst 29 = .ok (.ifnull 23, 3) := by decide +kernel
theorem dX4_keepFirst_32 : decode cX4_keepFirst 32 = .ok (.aload 4, 2) := by decide +kernel
theorem dX4_keepFirst_34 : decode cX4_keepFirst 34 = .ok (.getfield 31, 3) := by decide +kernel
theorem dX4_keepFirst_37 : decode cX4_keepFirst 37 = .ok (.iload_n 1, 1) := by decide +kernel
theorem dX4_keepFirst_38 : decode cX4_keepFirst 38 = .ok (.if_icmp .ge 14, 3) := by decide +kernel
theorem dX4_keepFirst_41 : decode cX4_keepFirst 41 = .ok (.aload_n 0, 1) := by decide +kernel
theorem dX4_keepFirst_42 : decode cX4_keepFirst 42 = .ok (.getfield 11, 3) := by decide +kernel
theorem dX4_keepFirst_45 : decode cX4_keepFirst 45 = .ok (.iload_n 2, 1) := by decide +kernel
theorem dX4_keepFirst_46 : decode cX4_keepFirst 46 = .ok (.aload 4, 2) := by decide +kernel
theorem dX4_keepFirst_48 : decode cX4_keepFirst 48 = .ok (.aastore, 1) := by decide +kernel
theorem dX4_keepFirst_49 : decode cX4_keepFirst 49 = .ok (.iinc 2 1, 3) := by decide +kernel
theorem dX4_keepFirst_52 : decode cX4_keepFirst 52 = .ok (.iinc 3 1, 3) := by decide +kernel
theorem dX4_keepFirst_55 : decode cX4_keepFirst 55 = .ok (.goto (-51), 3) := by decide +kernel
theorem dX4_keepFirst_58 : decode cX4_keepFirst 58 = .ok (.aload_n 0, 1) := by decide +kernel
theorem dX4_keepFirst_59 : decode cX4_keepFirst 59 = .ok (.iload_n 2, 1) := by decide +kernel
theorem dX4_keepFirst_60 : decode cX4_keepFirst 60 = .ok (.putfield 17, 3) := by decide +kernel
theorem dX4_keepFirst_63 : decode cX4_keepFirst 63 = .ok (.return_, 1) := by decide +kernel
theorem dX4_hasMoveIn_0 : decode cX4_hasMoveIn 0 = .ok (.aload_n 0, 1) := by decide +kernel
theorem dX4_hasMoveIn_1 : decode cX4_hasMoveIn 1 = .ok (.getfield 11, 3) := by decide +kernel
theorem dX4_hasMoveIn_4 : decode cX4_hasMoveIn 4 = .ok (.astore_n 2, 1) := by decide +kernel
theorem dX4_hasMoveIn_5 : decode cX4_hasMoveIn 5 = .ok (.aload_n 2, 1) := by decide +kernel
theorem dX4_hasMoveIn_6 : decode cX4_hasMoveIn 6 = .ok (.arraylength, 1) := by decide +kernel
theorem dX4_hasMoveIn_7 : decode cX4_hasMoveIn 7 = .ok (.istore_n 3, 1) := by decide +kernel
theorem dX4_hasMoveIn_8 : decode cX4_hasMoveIn 8 = .ok (.iconst 0, 1) := by decide +kernel
theorem dX4_hasMoveIn_9 : decode cX4_hasMoveIn 9 = .ok (.istore 4, 2) := by decide +kernel
theorem dX4_hasMoveIn_11 : decode cX4_hasMoveIn 11 = .ok (.iload 4, 2) := by decide +kernel
theorem dX4_hasMoveIn_13 : decode cX4_hasMoveIn 13 = .ok (.iload_n 3, 1) := by decide +kernel
theorem dX4_hasMoveIn_14 : decode cX4_hasMoveIn 14 = .ok (.if_icmp .ge 31, 3) := by decide +kernel
theorem dX4_hasMoveIn_17 : decode cX4_hasMoveIn 17 = .ok (.aload_n 2, 1) := by decide +kernel
theorem dX4_hasMoveIn_18 : decode cX4_hasMoveIn 18 = .ok (.iload 4, 2) := by decide +kernel
theorem dX4_hasMoveIn_20 : decode cX4_hasMoveIn 20 = .ok (.aaload, 1) := by decide +kernel
theorem dX4_hasMoveIn_21 : decode cX4_hasMoveIn 21 = .ok (.astore 5, 2) := by decide +kernel
theorem dX4_hasMoveIn_23 : decode cX4_hasMoveIn 23 = .ok (.aload 5, 2) := by decide +kernel
theorem dX4_hasMoveIn_25 : decode cX4_hasMoveIn 25 = .ok (.ifnull 14, 3) := by decide +kernel
theorem dX4_hasMoveIn_28 : decode cX4_hasMoveIn 28 = .ok (.aload 5, 2) := by decide +kernel
theorem dX4_hasMoveIn_30 : decode cX4_hasMoveIn 30 = .ok (.getfield 28, 3) := by decide +kernel
theorem dX4_hasMoveIn_33 : decode cX4_hasMoveIn 33 = .ok (.iload_n 1, 1) := by decide +kernel
theorem dX4_hasMoveIn_34 : decode cX4_hasMoveIn 34 = .ok (.if_icmp .ne 5, 3) := by decide +kernel
theorem dX4_hasMoveIn_37 : decode cX4_hasMoveIn 37 = .ok (.iconst 1, 1) := by decide +kernel
theorem dX4_hasMoveIn_38 : decode cX4_hasMoveIn 38 = .ok (.ireturn, 1) := by decide +kernel
theorem dX4_hasMoveIn_39 : decode cX4_hasMoveIn 39 = .ok (.iinc 4 1, 3) := by decide +kernel
theorem dX4_hasMoveIn_42 : decode cX4_hasMoveIn 42 = .ok (.goto (-31), 3) := by decide +kernel
theorem dX4_hasMoveIn_45 : decode cX4_hasMoveIn 45 = .ok (.iconst 0, 1) := by decide +kernel
theorem dX4_hasMoveIn_46 : decode cX4_hasMoveIn 46 = .ok (.ireturn, 1) := by decide +kernel
theorem dX4_rodsMoved_0 : decode cX4_rodsMoved 0 = .ok (.iconst 0, 1) := by decide +kernel
theorem dX4_rodsMoved_1 : decode cX4_rodsMoved 1 = .ok (.istore_n 3, 1) := by decide +kernel
theorem dX4_rodsMoved_2 : decode cX4_rodsMoved 2 = .ok (.aload_n 0, 1) := by decide +kernel
theorem dX4_rodsMoved_3 : decode cX4_rodsMoved 3 = .ok (.getfield 11, 3) := by decide +kernel
theorem dX4_rodsMoved_6 : decode cX4_rodsMoved 6 = .ok (.astore 4, 2) := by decide +kernel
theorem dX4_rodsMoved_8 : decode cX4_rodsMoved 8 = .ok (.aload 4, 2) := by decide +kernel
theorem dX4_rodsMoved_10 : decode cX4_rodsMoved 10 = .ok (.arraylength, 1) := by decide +kernel
theorem dX4_rodsMoved_11 : decode cX4_rodsMoved 11 = .ok (.istore 5, 2) := by decide +kernel
theorem dX4_rodsMoved_13 : decode cX4_rodsMoved 13 = .ok (.iconst 0, 1) := by decide +kernel
theorem dX4_rodsMoved_14 : decode cX4_rodsMoved 14 = .ok (.istore 6, 2) := by decide +kernel
theorem dX4_rodsMoved_16 : decode cX4_rodsMoved 16 = .ok (.iload 6, 2) := by decide +kernel
theorem dX4_rodsMoved_18 : decode cX4_rodsMoved 18 = .ok (.iload 5, 2) := by decide +kernel
theorem dX4_rodsMoved_20 : decode cX4_rodsMoved 20 = .ok (.if_icmp .ge 50, 3) := by decide +kernel
theorem dX4_rodsMoved_23 : decode cX4_rodsMoved 23 = .ok (.aload 4, 2) := by decide +kernel
theorem dX4_rodsMoved_25 : decode cX4_rodsMoved 25 = .ok (.iload 6, 2) := by decide +kernel
theorem dX4_rodsMoved_27 : decode cX4_rodsMoved 27 = .ok (.aaload, 1) := by decide +kernel
theorem dX4_rodsMoved_28 : decode cX4_rodsMoved 28 = .ok (.astore 7, 2) := by decide +kernel
theorem dX4_rodsMoved_30 : decode cX4_rodsMoved 30 = .ok (.aload 7, 2) := by decide +kernel
theorem dX4_rodsMoved_32 : decode cX4_rodsMoved 32 = .ok (.ifnull 32, 3) := by decide +kernel
theorem dX4_rodsMoved_35 : decode cX4_rodsMoved 35 = .ok (.aload 7, 2) := by decide +kernel
theorem dX4_rodsMoved_37 : decode cX4_rodsMoved 37 = .ok (.getfield 28, 3) := by decide +kernel
theorem dX4_rodsMoved_40 : decode cX4_rodsMoved 40 = .ok (.iload_n 2, 1) := by decide +kernel
theorem dX4_rodsMoved_41 : decode cX4_rodsMoved 41 = .ok (.if_icmp .ne 23, 3) := by decide +kernel
theorem dX4_rodsMoved_44 : decode cX4_rodsMoved 44 = .ok (.aload 7, 2) := by decide +kernel
theorem dX4_rodsMoved_46 : decode cX4_rodsMoved 46 = .ok (.getfield 34, 3) := by decide +kernel
theorem dX4_rodsMoved_49 : decode cX4_rodsMoved 49 = .ok (.iload_n 1, 1) := by decide +kernel
theorem dX4_rodsMoved_50 : decode cX4_rodsMoved 50 = .ok (.if_icmp .ne 14, 3) := by decide +kernel
theorem dX4_rodsMoved_53 : decode cX4_rodsMoved 53 = .ok (.iload_n 3, 1) := by decide +kernel
theorem dX4_rodsMoved_54 : decode cX4_rodsMoved 54 = .ok (.aload 7, 2) := by decide +kernel
theorem dX4_rodsMoved_56 : decode cX4_rodsMoved 56 = .ok (.getfield 37, 3) := by decide +kernel
theorem dX4_rodsMoved_59 : decode cX4_rodsMoved 59 = .ok (.invokestatic 40, 3) := by decide +kernel
theorem dX4_rodsMoved_62 : decode cX4_rodsMoved 62 = .ok (.ior, 1) := by decide +kernel
theorem dX4_rodsMoved_63 : decode cX4_rodsMoved 63 = .ok (.istore_n 3, 1) := by decide +kernel
theorem dX4_rodsMoved_64 : decode cX4_rodsMoved 64 = .ok (.iinc 6 1, 3) := by decide +kernel
theorem dX4_rodsMoved_67 : decode cX4_rodsMoved 67 = .ok (.goto (-51), 3) := by decide +kernel
theorem dX4_rodsMoved_70 : decode cX4_rodsMoved 70 = .ok (.iload_n 3, 1) := by decide +kernel
theorem dX4_rodsMoved_71 : decode cX4_rodsMoved 71 = .ok (.ireturn, 1) := by decide +kernel
theorem dX4_rodBit_0 : decode cX4_rodBit 0 = .ok (.iconst 1, 1) := by decide +kernel
theorem dX4_rodBit_1 : decode cX4_rodBit 1 = .ok (.iload_n 0, 1) := by decide +kernel
theorem dX4_rodBit_2 : decode cX4_rodBit 2 = .ok (.iconst 1, 1) := by decide +kernel
theorem dX4_rodBit_3 : decode cX4_rodBit 3 = .ok (.iadd, 1) := by decide +kernel
theorem dX4_rodBit_4 : decode cX4_rodBit 4 = .ok (.ishl, 1) := by decide +kernel
theorem dX4_rodBit_5 : decode cX4_rodBit 5 = .ok (.ireturn, 1) := by decide +kernel
theorem dX5_init_0 : decode cX5_init 0 = .ok (.aload_n 0, 1) := by decide +kernel
theorem dX5_init_1 : decode cX5_init 1 = .ok (.invokespecial 1, 3) := by decide +kernel
theorem dX5_init_4 : decode cX5_init 4 = .ok (.aload_n 0, 1) := by decide +kernel
theorem dX5_init_5 : decode cX5_init 5 = .ok (.lconst 0, 1) := by decide +kernel
theorem dX5_init_6 : decode cX5_init 6 = .ok (.putfield 7, 3) := by decide +kernel
theorem dX5_init_9 : decode cX5_init 9 = .ok (.aload_n 0, 1) := by decide +kernel
theorem dX5_init_10 : decode cX5_init 10 = .ok (.lconst 0, 1) := by decide +kernel
theorem dX5_init_11 : decode cX5_init 11 = .ok (.putfield 13, 3) := by decide +kernel
theorem dX5_init_14 : decode cX5_init 14 = .ok (.aload_n 0, 1) := by decide +kernel
theorem dX5_init_15 : decode cX5_init 15 = .ok (.lconst 0, 1) := by decide +kernel
theorem dX5_init_16 : decode cX5_init 16 = .ok (.putfield 16, 3) := by decide +kernel
theorem dX5_init_19 : decode cX5_init 19 = .ok (.aload_n 0, 1) := by decide +kernel
theorem dX5_init_20 : decode cX5_init 20 = .ok (.lconst 0, 1) := by decide +kernel
theorem dX5_init_21 : decode cX5_init 21 = .ok (.putfield 19, 3) := by decide +kernel
theorem dX5_init_24 : decode cX5_init 24 = .ok (.return_, 1) := by decide +kernel
theorem dX5_lay_0 : decode cX5_lay 0 = .ok (.aload_n 0, 1) := by decide +kernel
theorem dX5_lay_1 : decode cX5_lay 1 = .ok (.aload_n 1, 1) := by decide +kernel
theorem dX5_lay_2 : decode cX5_lay 2 = .ok (.getfield 22, 3) := by decide +kernel
theorem dX5_lay_5 : decode cX5_lay 5 = .ok (.iload_n 2, 1) := by decide +kernel
theorem dX5_lay_6 : decode cX5_lay 6 = .ok (.iaload, 1) := by decide +kernel
theorem dX5_lay_7 : decode cX5_lay 7 = .ok (.i2l, 1) := by decide +kernel
theorem dX5_lay_8 : decode cX5_lay 8 = .ok (.iload 4, 2) := by decide +kernel
theorem dX5_lay_10 : decode cX5_lay 10 = .ok (.i2l, 1) := by decide +kernel
theorem dX5_lay_11 : decode cX5_lay 11 = .ok (.lmul, 1) := by decide +kernel
theorem dX5_lay_12 : decode cX5_lay 12 = .ok (.putfield 7, 3) := by decide +kernel
theorem dX5_lay_15 : decode cX5_lay 15 = .ok (.aload_n 0, 1) := by decide +kernel
theorem dX5_lay_16 : decode cX5_lay 16 = .ok (.aload_n 1, 1) := by decide +kernel
theorem dX5_lay_17 : decode cX5_lay 17 = .ok (.getfield 28, 3) := by decide +kernel
theorem dX5_lay_20 : decode cX5_lay 20 = .ok (.iload_n 2, 1) := by decide +kernel
theorem dX5_lay_21 : decode cX5_lay 21 = .ok (.iaload, 1) := by decide +kernel
theorem dX5_lay_22 : decode cX5_lay 22 = .ok (.i2l, 1) := by decide +kernel
theorem dX5_lay_23 : decode cX5_lay 23 = .ok (.iload 4, 2) := by decide +kernel
theorem dX5_lay_25 : decode cX5_lay 25 = .ok (.i2l, 1) := by decide +kernel
theorem dX5_lay_26 : decode cX5_lay 26 = .ok (.lmul, 1) := by decide +kernel
theorem dX5_lay_27 : decode cX5_lay 27 = .ok (.putfield 13, 3) := by decide +kernel
theorem dX5_lay_30 : decode cX5_lay 30 = .ok (.aload_n 0, 1) := by decide +kernel
theorem dX5_lay_31 : decode cX5_lay 31 = .ok (.aload_n 1, 1) := by decide +kernel
theorem dX5_lay_32 : decode cX5_lay 32 = .ok (.getfield 22, 3) := by decide +kernel
theorem dX5_lay_35 : decode cX5_lay 35 = .ok (.iload_n 3, 1) := by decide +kernel
theorem dX5_lay_36 : decode cX5_lay 36 = .ok (.iaload, 1) := by decide +kernel
theorem dX5_lay_37 : decode cX5_lay 37 = .ok (.i2l, 1) := by decide +kernel
theorem dX5_lay_38 : decode cX5_lay 38 = .ok (.iload 4, 2) := by decide +kernel
theorem dX5_lay_40 : decode cX5_lay 40 = .ok (.i2l, 1) := by decide +kernel
theorem dX5_lay_41 : decode cX5_lay 41 = .ok (.lmul, 1) := by decide +kernel
theorem dX5_lay_42 : decode cX5_lay 42 = .ok (.putfield 16, 3) := by decide +kernel
theorem dX5_lay_45 : decode cX5_lay 45 = .ok (.aload_n 0, 1) := by decide +kernel
theorem dX5_lay_46 : decode cX5_lay 46 = .ok (.aload_n 1, 1) := by decide +kernel
theorem dX5_lay_47 : decode cX5_lay 47 = .ok (.getfield 28, 3) := by decide +kernel
theorem dX5_lay_50 : decode cX5_lay 50 = .ok (.iload_n 3, 1) := by decide +kernel
theorem dX5_lay_51 : decode cX5_lay 51 = .ok (.iaload, 1) := by decide +kernel
theorem dX5_lay_52 : decode cX5_lay 52 = .ok (.i2l, 1) := by decide +kernel
theorem dX5_lay_53 : decode cX5_lay 53 = .ok (.iload 4, 2) := by decide +kernel
theorem dX5_lay_55 : decode cX5_lay 55 = .ok (.i2l, 1) := by decide +kernel
theorem dX5_lay_56 : decode cX5_lay 56 = .ok (.lmul, 1) := by decide +kernel
theorem dX5_lay_57 : decode cX5_lay 57 = .ok (.putfield 19, 3) := by decide +kernel
theorem dX5_lay_60 : decode cX5_lay 60 = .ok (.return_, 1) := by decide +kernel
theorem dX5_meets_0 : decode cX5_meets 0 = .ok (.aload_n 0, 1) := by decide +kernel
theorem dX5_meets_1 : decode cX5_meets 1 = .ok (.getfield 7, 3) := by decide +kernel
theorem dX5_meets_4 : decode cX5_meets 4 = .ok (.aload_n 0, 1) := by decide +kernel
theorem dX5_meets_5 : decode cX5_meets 5 = .ok (.getfield 16, 3) := by decide +kernel
theorem dX5_meets_8 : decode cX5_meets 8 = .ok (.aload_n 1, 1) := by decide +kernel
theorem dX5_meets_9 : decode cX5_meets 9 = .ok (.getfield 7, 3) := by decide +kernel
theorem dX5_meets_12 : decode cX5_meets 12 = .ok (.aload_n 1, 1) := by decide +kernel
theorem dX5_meets_13 : decode cX5_meets 13 = .ok (.getfield 16, 3) := by decide +kernel
theorem dX5_meets_16 : decode cX5_meets 16 = .ok (.invokestatic 31, 3) := by decide +kernel
theorem dX5_meets_19 : decode cX5_meets 19 = .ok (.ifCond .eq 45, 3) := by decide +kernel
theorem dX5_meets_22 : decode cX5_meets 22 = .ok (.aload_n 0, 1) := by decide +kernel
theorem dX5_meets_23 : decode cX5_meets 23 = .ok (.getfield 13, 3) := by decide +kernel
theorem dX5_meets_26 : decode cX5_meets 26 = .ok (.aload_n 0, 1) := by decide +kernel
theorem dX5_meets_27 : decode cX5_meets 27 = .ok (.getfield 19, 3) := by decide +kernel
theorem dX5_meets_30 : decode cX5_meets 30 = .ok (.aload_n 1, 1) := by decide +kernel
theorem dX5_meets_31 : decode cX5_meets 31 = .ok (.getfield 13, 3) := by decide +kernel
theorem dX5_meets_34 : decode cX5_meets 34 = .ok (.aload_n 1, 1) := by decide +kernel
theorem dX5_meets_35 : decode cX5_meets 35 = .ok (.getfield 19, 3) := by decide +kernel
theorem dX5_meets_38 : decode cX5_meets 38 = .ok (.invokestatic 31, 3) := by decide +kernel
theorem dX5_meets_41 : decode cX5_meets 41 = .ok (.ifCond .eq 23, 3) := by decide +kernel
theorem dX5_meets_44 : decode cX5_meets 44 = .ok (.aload_n 0, 1) := by decide +kernel
theorem dX5_meets_45 : decode cX5_meets 45 = .ok (.aload_n 1, 1) := by decide +kernel
theorem dX5_meets_46 : decode cX5_meets 46 = .ok (.invokevirtual 35, 3) := by decide +kernel
theorem dX5_meets_49 : decode cX5_meets 49 = .ok (.ifCond .eq 15, 3) := by decide +kernel
theorem dX5_meets_52 : decode cX5_meets 52 = .ok (.aload_n 1, 1) := by decide +kernel
theorem dX5_meets_53 : decode cX5_meets 53 = .ok (.aload_n 0, 1) := by decide +kernel
theorem dX5_meets_54 : decode cX5_meets 54 = .ok (.invokevirtual 35, 3) := by decide +kernel
theorem dX5_meets_57 : decode cX5_meets 57 = .ok (.ifCond .eq 7, 3) := by decide +kernel
theorem dX5_meets_60 : decode cX5_meets 60 = .ok (.iconst 1, 1) := by decide +kernel
theorem dX5_meets_61 : decode cX5_meets 61 = .ok (.goto 4, 3) := by decide +kernel
theorem dX5_meets_64 : decode cX5_meets 64 = .ok (.iconst 0, 1) := by decide +kernel
theorem dX5_meets_65 : decode cX5_meets 65 = .ok (.ireturn, 1) := by decide +kernel
theorem dX5_rangesMeet_0 : decode cX5_rangesMeet 0 = .ok (.lload_n 0, 1) := by decide +kernel
theorem dX5_rangesMeet_1 : decode cX5_rangesMeet 1 = .ok (.lload_n 2, 1) := by decide +kernel
theorem dX5_rangesMeet_2 : decode cX5_rangesMeet 2 = .ok (.invokestatic 39, 3) := by decide +kernel
theorem dX5_rangesMeet_5 : decode cX5_rangesMeet 5 = .ok (.lload 4, 2) := by decide +kernel
theorem dX5_rangesMeet_7 : decode cX5_rangesMeet 7 = .ok (.lload 6, 2) := by decide +kernel
theorem dX5_rangesMeet_9 : decode cX5_rangesMeet 9 = .ok (.invokestatic 45, 3) := by decide +kernel
theorem dX5_rangesMeet_12 : decode cX5_rangesMeet 12 = .ok (.lcmp, 1) := by decide +kernel
theorem dX5_rangesMeet_13 : decode cX5_rangesMeet 13 = .ok (.ifCond .lt 23, 3) := by decide +kernel
theorem dX5_rangesMeet_16 : decode cX5_rangesMeet 16 = .ok (.lload 4, 2) := by decide +kernel
theorem dX5_rangesMeet_18 : decode cX5_rangesMeet 18 = .ok (.lload 6, 2) := by decide +kernel
theorem dX5_rangesMeet_20 : decode cX5_rangesMeet 20 = .ok (.invokestatic 39, 3) := by decide +kernel
theorem dX5_rangesMeet_23 : decode cX5_rangesMeet 23 = .ok (.lload_n 0, 1) := by decide +kernel
theorem dX5_rangesMeet_24 : decode cX5_rangesMeet 24 = .ok (.lload_n 2, 1) := by decide +kernel
theorem dX5_rangesMeet_25 : decode cX5_rangesMeet 25 = .ok (.invokestatic 45, 3) := by decide +kernel
theorem dX5_rangesMeet_28 : decode cX5_rangesMeet 28 = .ok (.lcmp, 1) := by decide +kernel
theorem dX5_rangesMeet_29 : decode cX5_rangesMeet 29 = .ok (.ifCond .lt 7, 3) := by decide +kernel
theorem dX5_rangesMeet_32 : decode cX5_rangesMeet 32 = .ok (.iconst 1, 1) := by decide +kernel
theorem dX5_rangesMeet_33 : decode cX5_rangesMeet 33 = .ok (.goto 4, 3) := by decide +kernel
theorem dX5_rangesMeet_36 : decode cX5_rangesMeet 36 = .ok (.iconst 0, 1) := by decide +kernel
theorem dX5_rangesMeet_37 : decode cX5_rangesMeet 37 = .ok (.ireturn, 1) := by decide +kernel
theorem dX5_lineMeets_0 : decode cX5_lineMeets 0 = .ok (.aload_n 0, 1) := by decide +kernel
theorem dX5_lineMeets_1 : decode cX5_lineMeets 1 = .ok (.aload_n 1, 1) := by decide +kernel
theorem dX5_lineMeets_2 : decode cX5_lineMeets 2 = .ok (.getfield 7, 3) := by decide +kernel
theorem dX5_lineMeets_5 : decode cX5_lineMeets 5 = .ok (.aload_n 1, 1) := by decide +kernel
theorem dX5_lineMeets_6 : decode cX5_lineMeets 6 = .ok (.getfield 13, 3) := by decide +kernel
theorem dX5_lineMeets_9 : decode cX5_lineMeets 9 = .ok (.invokevirtual 48, 3) := by decide +kernel
theorem dX5_lineMeets_12 : decode cX5_lineMeets 12 = .ok (.aload_n 0, 1) := by decide +kernel
theorem dX5_lineMeets_13 : decode cX5_lineMeets 13 = .ok (.aload_n 1, 1) := by decide +kernel
theorem dX5_lineMeets_14 : decode cX5_lineMeets 14 = .ok (.getfield 16, 3) := by decide +kernel
theorem dX5_lineMeets_17 : decode cX5_lineMeets 17 = .ok (.aload_n 1, 1) := by decide +kernel
theorem dX5_lineMeets_18 : decode cX5_lineMeets 18 = .ok (.getfield 19, 3) := by decide +kernel
theorem dX5_lineMeets_21 : decode cX5_lineMeets 21 = .ok (.invokevirtual 48, 3) := by decide +kernel
theorem dX5_lineMeets_24 : decode cX5_lineMeets 24 = .ok (.imul, 1) := by decide +kernel
theorem dX5_lineMeets_25 : decode cX5_lineMeets 25 = .ok (.ifCond .gt 7, 3) := by decide +kernel
theorem dX5_lineMeets_28 : decode cX5_lineMeets 28 = .ok (.iconst 1, 1) := by decide +kernel
theorem dX5_lineMeets_29 : decode cX5_lineMeets 29 = .ok (.goto 4, 3) := by decide +kernel
theorem dX5_lineMeets_32 : decode cX5_lineMeets 32 = .ok (.iconst 0, 1) := by decide +kernel
theorem dX5_lineMeets_33 : decode cX5_lineMeets 33 = .ok (.ireturn, 1) := by decide +kernel
theorem dX5_side_0 : decode cX5_side 0 = .ok (.aload_n 0, 1) := by decide +kernel
theorem dX5_side_1 : decode cX5_side 1 = .ok (.getfield 16, 3) := by decide +kernel
theorem dX5_side_4 : decode cX5_side 4 = .ok (.aload_n 0, 1) := by decide +kernel
theorem dX5_side_5 : decode cX5_side 5 = .ok (.getfield 7, 3) := by decide +kernel
theorem dX5_side_8 : decode cX5_side 8 = .ok (.lsub, 1) := by decide +kernel
theorem dX5_side_9 : decode cX5_side 9 = .ok (.lload_n 3, 1) := by decide +kernel
theorem dX5_side_10 : decode cX5_side 10 = .ok (.aload_n 0, 1) := by decide +kernel
theorem dX5_side_11 : decode cX5_side 11 = .ok (.getfield 13, 3) := by decide +kernel
theorem dX5_side_14 : decode cX5_side 14 = .ok (.lsub, 1) := by decide +kernel
theorem dX5_side_15 : decode cX5_side 15 = .ok (.lmul, 1) := by decide +kernel
theorem dX5_side_16 : decode cX5_side 16 = .ok (.aload_n 0, 1) := by decide +kernel
theorem dX5_side_17 : decode cX5_side 17 = .ok (.getfield 19, 3) := by decide +kernel
theorem dX5_side_20 : decode cX5_side 20 = .ok (.aload_n 0, 1) := by decide +kernel
theorem dX5_side_21 : decode cX5_side 21 = .ok (.getfield 13, 3) := by decide +kernel
theorem dX5_side_24 : decode cX5_side 24 = .ok (.lsub, 1) := by decide +kernel
theorem dX5_side_25 : decode cX5_side 25 = .ok (.lload_n 1, 1) := by decide +kernel
theorem dX5_side_26 : decode cX5_side 26 = .ok (.aload_n 0, 1) := by decide +kernel
theorem dX5_side_27 : decode cX5_side 27 = .ok (.getfield 7, 3) := by decide +kernel
theorem dX5_side_30 : decode cX5_side 30 = .ok (.lsub, 1) := by decide +kernel
theorem dX5_side_31 : decode cX5_side 31 = .ok (.lmul, 1) := by decide +kernel
theorem dX5_side_32 : decode cX5_side 32 = .ok (.lsub, 1) := by decide +kernel
theorem dX5_side_33 : decode cX5_side 33 = .ok (.lstore 5, 2) := by decide +kernel
theorem dX5_side_35 : decode cX5_side 35 = .ok (.lload 5, 2) := by decide +kernel
theorem dX5_side_37 : decode cX5_side 37 = .ok (.lconst 0, 1) := by decide +kernel
theorem dX5_side_38 : decode cX5_side 38 = .ok (.invokestatic 52, 3) := by decide +kernel
theorem dX5_side_41 : decode cX5_side 41 = .ok (.ireturn, 1) := by decide +kernel
theorem dX6_init_0 : decode cX6_init 0 = .ok (.aload_n 0, 1) := by decide +kernel
theorem dX6_init_1 : decode cX6_init 1 = .ok (.invokespecial 3, 3) := by decide +kernel
theorem dX6_init_4 : decode cX6_init 4 = .ok (.aload_n 0, 1) := by decide +kernel
theorem dX6_init_5 : decode cX6_init 5 = .ok (.bipush 100, 2) := by decide +kernel
theorem dX6_init_7 : decode cX6_init 7 = .ok (.putfield 9, 3) := by decide +kernel
theorem dX6_init_10 : decode cX6_init 10 = .ok (.aload_n 0, 1) := by decide +kernel
theorem dX6_init_11 : decode cX6_init 11 = .ok (.iconst 0, 1) := by decide +kernel
theorem dX6_init_12 : decode cX6_init 12 = .ok (.putfield 15, 3) := by decide +kernel
theorem dX6_init_15 : decode cX6_init 15 = .ok (.aload_n 0, 1) := by decide +kernel
theorem dX6_init_16 : decode cX6_init 16 = .ok (.bipush 6, 2) := by decide +kernel
theorem dX6_init_18 : decode cX6_init 18 = .ok (.anewarray 18, 3) := by decide +kernel
theorem dX6_init_21 : decode cX6_init 21 = .ok (.putfield 20, 3) := by decide +kernel
theorem dX6_init_24 : decode cX6_init 24 = .ok (.aload_n 0, 1) := by decide +kernel
theorem dX6_init_25 : decode cX6_init 25 = .ok (.new 24, 3) := by decide +kernel
theorem dX6_init_28 : decode cX6_init 28 = .ok (.dup, 1) := by decide +kernel
theorem dX6_init_29 : decode cX6_init 29 = .ok (.invokespecial 26, 3) := by decide +kernel
theorem dX6_init_32 : decode cX6_init 32 = .ok (.putfield 27, 3) := by decide +kernel
theorem dX6_init_35 : decode cX6_init 35 = .ok (.aload_n 0, 1) := by decide +kernel
theorem dX6_init_36 : decode cX6_init 36 = .ok (.new 31, 3) := by decide +kernel
theorem dX6_init_39 : decode cX6_init 39 = .ok (.dup, 1) := by decide +kernel
theorem dX6_init_40 : decode cX6_init 40 = .ok (.invokespecial 33, 3) := by decide +kernel
theorem dX6_init_43 : decode cX6_init 43 = .ok (.putfield 34, 3) := by decide +kernel
theorem dX6_init_46 : decode cX6_init 46 = .ok (.aload_n 0, 1) := by decide +kernel
theorem dX6_init_47 : decode cX6_init 47 = .ok (.new 38, 3) := by decide +kernel
theorem dX6_init_50 : decode cX6_init 50 = .ok (.dup, 1) := by decide +kernel
theorem dX6_init_51 : decode cX6_init 51 = .ok (.invokespecial 40, 3) := by decide +kernel
theorem dX6_init_54 : decode cX6_init 54 = .ok (.putfield 41, 3) := by decide +kernel
theorem dX6_init_57 : decode cX6_init 57 = .ok (.aload_n 0, 1) := by decide +kernel
theorem dX6_init_58 : decode cX6_init 58 = .ok (.new 38, 3) := by decide +kernel
theorem dX6_init_61 : decode cX6_init 61 = .ok (.dup, 1) := by decide +kernel
theorem dX6_init_62 : decode cX6_init 62 = .ok (.invokespecial 40, 3) := by decide +kernel
theorem dX6_init_65 : decode cX6_init 65 = .ok (.putfield 45, 3) := by decide +kernel
theorem dX6_init_68 : decode cX6_init 68 = .ok (.aload_n 0, 1) := by decide +kernel
theorem dX6_init_69 : decode cX6_init 69 = .ok (.new 48, 3) := by decide +kernel
theorem dX6_init_72 : decode cX6_init 72 = .ok (.dup, 1) := by decide +kernel
theorem dX6_init_73 : decode cX6_init 73 = .ok (.invokespecial 50, 3) := by decide +kernel
theorem dX6_init_76 : decode cX6_init 76 = .ok (.putfield 51, 3) := by decide +kernel
theorem dX6_init_79 : decode cX6_init 79 = .ok (.aload_n 0, 1) := by decide +kernel
theorem dX6_init_80 : decode cX6_init 80 = .ok (.new 48, 3) := by decide +kernel
theorem dX6_init_83 : decode cX6_init 83 = .ok (.dup, 1) := by decide +kernel
theorem dX6_init_84 : decode cX6_init 84 = .ok (.invokespecial 50, 3) := by decide +kernel
theorem dX6_init_87 : decode cX6_init 87 = .ok (.putfield 55, 3) := by decide +kernel
theorem dX6_init_90 : decode cX6_init 90 = .ok (.return_, 1) := by decide +kernel
theorem dX6_setDistance_0 : decode cX6_setDistance 0 = .ok (.iload_n 1, 1) := by decide +kernel
theorem dX6_setDistance_1 : decode cX6_setDistance 1 = .ok (.bipush 10, 2) := by decide +kernel
theorem dX6_setDistance_3 : decode cX6_setDistance 3 = .ok (.sipush 200, 3) := by decide +kernel
theorem dX6_setDistance_6 : decode cX6_setDistance 6 = .ok (.invokestatic 58, 3) := by decide +kernel
theorem dX6_setDistance_9 : decode cX6_setDistance 9 = .ok (.ifCond .ne 6, 3) := by decide +kernel
theorem dX6_setDistance_12 : decode cX6_setDistance 12 = .ok (.bipush (-3), 2) := by decide +kernel
theorem dX6_setDistance_14 : decode cX6_setDistance 14 = .ok (.ireturn, 1) := by decide +kernel
theorem dX6_setDistance_15 : decode cX6_setDistance 15 = .ok (.aload_n 0, 1) := by decide +kernel
theorem dX6_setDistance_16 : decode cX6_setDistance 16 = .ok (.getfield 9, 3) := by decide +kernel
theorem dX6_setDistance_19 : decode cX6_setDistance 19 = .ok (.istore_n 2, 1) := by decide +kernel
theorem dX6_setDistance_20 : decode cX6_setDistance 20 = .ok (.aload_n 0, 1) := by decide +kernel
theorem dX6_setDistance_21 : decode cX6_setDistance 21 = .ok (.iload_n 1, 1) := by decide +kernel
theorem dX6_setDistance_22 : decode cX6_setDistance 22 = .ok (.putfield 9, 3) := by decide +kernel
theorem dX6_setDistance_25 : decode cX6_setDistance 25 = .ok (.iload_n 2, 1) := by decide +kernel
theorem dX6_setDistance_26 : decode cX6_setDistance 26 = .ok (.ireturn, 1) := by decide +kernel
theorem dX6_addFigure_0 : decode cX6_addFigure 0 = .ok (.iload_n 1, 1) := by decide +kernel
theorem dX6_addFigure_1 : decode cX6_addFigure 1 = .ok (.bipush (-100), 2) := by decide +kernel
theorem dX6_addFigure_3 : decode cX6_addFigure 3 = .ok (.bipush 100, 2) := by decide +kernel
theorem dX6_addFigure_5 : decode cX6_addFigure 5 = .ok (.invokestatic 58, 3) := by decide +kernel
theorem dX6_addFigure_8 : decode cX6_addFigure 8 = .ok (.ifCond .eq 26, 3) := by decide +kernel
theorem dX6_addFigure_11 : decode cX6_addFigure 11 = .ok (.iload_n 2, 1) := by decide +kernel
theorem dX6_addFigure_12 : decode cX6_addFigure 12 = .ok (.bipush (-100), 2) := by decide +kernel
theorem dX6_addFigure_14 : decode cX6_addFigure 14 = .ok (.bipush 100, 2) := by decide +kernel
theorem dX6_addFigure_16 : decode cX6_addFigure 16 = .ok (.invokestatic 58, 3) := by decide +kernel
theorem dX6_addFigure_19 : decode cX6_addFigure 19 = .ok (.ifCond .eq 15, 3) := by decide +kernel
theorem dX6_addFigure_22 : decode cX6_addFigure 22 = .ok (.iload_n 3, 1) := by decide +kernel
theorem dX6_addFigure_23 : decode cX6_addFigure 23 = .ok (.iconst 1, 1) := by decide +kernel
theorem dX6_addFigure_24 : decode cX6_addFigure 24 = .ok (.aload_n 0, 1) := by decide +kernel
theorem dX6_addFigure_25 : decode cX6_addFigure 25 = .ok (.getfield 9, 3) := by decide +kernel
theorem dX6_addFigure_28 : decode cX6_addFigure 28 = .ok (.invokestatic 58, 3) := by decide +kernel
theorem dX6_addFigure_31 : decode cX6_addFigure 31 = .ok (.ifCond .ne 6, 3) := by decide +kernel
theorem dX6_addFigure_34 : decode cX6_addFigure 34 = .ok (.bipush (-3), 2) := by decide +kernel
theorem dX6_addFigure_36 : decode cX6_addFigure 36 = .ok (.ireturn, 1) := by decide +kernel
theorem dX6_addFigure_37 : decode cX6_addFigure 37 = .ok (.aload_n 0, 1) := by decide +kernel
theorem dX6_addFigure_38 : decode cX6_addFigure 38 = .ok (.getfield 15, 3) := by decide +kernel
theorem dX6_addFigure_41 : decode cX6_addFigure 41 = .ok (.bipush 6, 2) := by decide +kernel
theorem dX6_addFigure_43 : decode cX6_addFigure 43 = .ok (.if_icmp .lt 6, 3) := by decide +kernel
theorem dX6_addFigure_46 : decode cX6_addFigure 46 = .ok (.bipush (-4), 2) := by decide +kernel
theorem dX6_addFigure_48 : decode cX6_addFigure 48 = .ok (.ireturn, 1) := by decide +kernel
theorem dX6_addFigure_49 : decode cX6_addFigure 49 = .ok (.aload_n 0, 1) := by decide +kernel
theorem dX6_addFigure_50 : decode cX6_addFigure 50 = .ok (.getfield 15, 3) := by decide +kernel
theorem dX6_addFigure_53 : decode cX6_addFigure 53 = .ok (.istore 4, 2) := by decide +kernel
theorem dX6_addFigure_55 : decode cX6_addFigure 55 = .ok (.aload_n 0, 1) := by decide +kernel
theorem dX6_addFigure_56 : decode cX6_addFigure 56 = .ok (.getfield 20, 3) := by decide +kernel
theorem dX6_addFigure_59 : decode cX6_addFigure 59 = .ok (.iload 4, 2) := by decide +kernel
theorem dX6_addFigure_61 : decode cX6_addFigure 61 = .ok (.new 18, 3) := by decide +kernel
theorem dX6_addFigure_64 : decode cX6_addFigure 64 = .ok (.dup, 1) := by decide +kernel
theorem dX6_addFigure_65 : decode cX6_addFigure 65 = .ok (.iload 4, 2) := by decide +kernel
theorem dX6_addFigure_67 : decode cX6_addFigure 67 = .ok (.iload_n 1, 1) := by decide +kernel
theorem dX6_addFigure_68 : decode cX6_addFigure 68 = .ok (.iload_n 2, 1) := by decide +kernel
theorem dX6_addFigure_69 : decode cX6_addFigure 69 = .ok (.iload_n 3, 1) := by decide +kernel
theorem dX6_addFigure_70 : decode cX6_addFigure 70 = .ok (.invokespecial 62, 3) := by decide +kernel
theorem dX6_addFigure_73 : decode cX6_addFigure 73 = .ok (.aastore, 1) := by decide +kernel
theorem dX6_addFigure_74 : decode cX6_addFigure 74 = .ok (.aload_n 0, 1) := by decide +kernel
theorem dX6_addFigure_75 : decode cX6_addFigure 75 = .ok (.dup, 1) := by decide +kernel
theorem dX6_addFigure_76 : decode cX6_addFigure 76 = .ok (.getfield 15, 3) := by decide +kernel
theorem dX6_addFigure_79 : decode cX6_addFigure 79 = .ok (.iconst 1, 1) := by decide +kernel
theorem dX6_addFigure_80 : decode cX6_addFigure 80 = .ok (.iadd, 1) := by decide +kernel
theorem dX6_addFigure_81 : decode cX6_addFigure 81 = .ok (.putfield 15, 3) := by decide +kernel
theorem dX6_addFigure_84 : decode cX6_addFigure 84 = .ok (.iload 4, 2) := by decide +kernel
theorem dX6_addFigure_86 : decode cX6_addFigure 86 = .ok (.ireturn, 1) := by decide +kernel
theorem dX6_addLimb_0 : decode cX6_addLimb 0 = .ok (.aload_n 0, 1) := by decide +kernel
theorem dX6_addLimb_1 : decode cX6_addLimb 1 = .ok (.iload_n 1, 1) := by decide +kernel
theorem dX6_addLimb_2 : decode cX6_addLimb 2 = .ok (.invokevirtual 65, 3) := by decide +kernel
theorem dX6_addLimb_5 : decode cX6_addLimb 5 = .ok (.astore 5, 2) := by decide +kernel
theorem dX6_addLimb_7 : decode cX6_addLimb 7 = .ok (.aload 5, 2) := by decide +kernel
theorem dX6_addLimb_9 : decode cX6_addLimb 9 = .ok (.ifnonnull 5, 3) := by decide +kernel
theorem dX6_addLimb_12 : decode cX6_addLimb 12 = .ok (.iconst (-1), 1) := by decide +kernel
theorem dX6_addLimb_13 : decode cX6_addLimb 13 = .ok (.ireturn, 1) := by decide +kernel
theorem dX6_addLimb_14 : decode cX6_addLimb 14 = .ok (.iload_n 2, 1) := by decide +kernel
theorem dX6_addLimb_15 : decode cX6_addLimb 15 = .ok (.iconst (-1), 1) := by decide +kernel
theorem dX6_addLimb_16 : decode cX6_addLimb 16 = .ok (.if_icmp .eq 15, 3) := by decide +kernel
theorem dX6_addLimb_19 : decode cX6_addLimb 19 = .ok (.aload 5, 2) := by decide +kernel
theorem dX6_addLimb_21 : decode cX6_addLimb 21 = .ok (.iload_n 2, 1) := by decide +kernel
theorem dX6_addLimb_22 : decode cX6_addLimb 22 = .ok (.invokevirtual 69, 3) := by decide +kernel
theorem dX6_addLimb_25 : decode cX6_addLimb 25 = .ok (.ifCond .ne 6, 3) := by decide +kernel
theorem dX6_addLimb_28 : decode cX6_addLimb 28 = .ok (.bipush (-2), 2) := by decide +kernel
theorem dX6_addLimb_30 : decode cX6_addLimb 30 = .ok (.ireturn, 1) := by decide +kernel
theorem dX6_addLimb_31 : decode cX6_addLimb 31 = .ok (.iload_n 3, 1) := by decide +kernel
theorem dX6_addLimb_32 : decode cX6_addLimb 32 = .ok (.iconst 1, 1) := by decide +kernel
theorem dX6_addLimb_33 : decode cX6_addLimb 33 = .ok (.bipush 20, 2) := by decide +kernel
theorem dX6_addLimb_35 : decode cX6_addLimb 35 = .ok (.invokestatic 58, 3) := by decide +kernel
theorem dX6_addLimb_38 : decode cX6_addLimb 38 = .ok (.ifCond .eq 14, 3) := by decide +kernel
theorem dX6_addLimb_41 : decode cX6_addLimb 41 = .ok (.iload 4, 2) := by decide +kernel
theorem dX6_addLimb_43 : decode cX6_addLimb 43 = .ok (.iconst 0, 1) := by decide +kernel
theorem dX6_addLimb_44 : decode cX6_addLimb 44 = .ok (.bipush 7, 2) := by decide +kernel
theorem dX6_addLimb_46 : decode cX6_addLimb 46 = .ok (.invokestatic 58, 3) := by decide +kernel
theorem dX6_addLimb_49 : decode cX6_addLimb 49 = .ok (.ifCond .ne 6, 3) := by decide +kernel
theorem dX6_addLimb_52 : decode cX6_addLimb 52 = .ok (.bipush (-3), 2) := by decide +kernel
theorem dX6_addLimb_54 : decode cX6_addLimb 54 = .ok (.ireturn, 1) := by decide +kernel
theorem dX6_addLimb_55 : decode cX6_addLimb 55 = .ok (.aload 5, 2) := by decide +kernel
theorem dX6_addLimb_57 : decode cX6_addLimb 57 = .ok (.iload_n 2, 1) := by decide +kernel
theorem dX6_addLimb_58 : decode cX6_addLimb 58 = .ok (.iload_n 3, 1) := by decide +kernel
theorem dX6_addLimb_59 : decode cX6_addLimb 59 = .ok (.iload 4, 2) := by decide +kernel
theorem dX6_addLimb_61 : decode cX6_addLimb 61 = .ok (.invokevirtual 73, 3) := by decide +kernel
theorem dX6_addLimb_64 : decode cX6_addLimb 64 = .ok (.ireturn, 1) := by decide +kernel
theorem dX6_count_0 : decode cX6_count 0 = .ok (.iload_n 1, 1) := by decide +kernel
theorem dX6_count_1 : decode cX6_count 1 = .ok (.tableswitch 57 0 3 #[31, 36, 44, 52], 31) := by decide +kernel
theorem dX6_count_32 : decode cX6_count 32 = .ok (.aload_n 0, 1) := by decide +kernel
theorem dX6_count_33 : decode cX6_count 33 = .ok (.getfield 15, 3) := by decide +kernel
theorem dX6_count_36 : decode cX6_count 36 = .ok (.ireturn, 1) := by decide +kernel
theorem dX6_count_37 : decode cX6_count 37 = .ok (.aload_n 0, 1) := by decide +kernel
theorem dX6_count_38 : decode cX6_count 38 = .ok (.getfield 27, 3) := by decide +kernel
theorem dX6_count_41 : decode cX6_count 41 = .ok (.getfield 77, 3) := by decide +kernel
theorem dX6_count_44 : decode cX6_count 44 = .ok (.ireturn, 1) := by decide +kernel
theorem dX6_count_45 : decode cX6_count 45 = .ok (.aload_n 0, 1) := by decide +kernel
theorem dX6_count_46 : decode cX6_count 46 = .ok (.getfield 34, 3) := by decide +kernel
theorem dX6_count_49 : decode cX6_count 49 = .ok (.getfield 80, 3) := by decide +kernel
theorem dX6_count_52 : decode cX6_count 52 = .ok (.ireturn, 1) := by decide +kernel
theorem dX6_count_53 : decode cX6_count 53 = .ok (.aload_n 0, 1) := by decide +kernel
theorem dX6_count_54 : decode cX6_count 54 = .ok (.invokevirtual 81, 3) := by decide +kernel
theorem dX6_count_57 : decode cX6_count 57 = .ok (.ireturn, 1) := by decide +kernel
theorem dX6_count_58 : decode cX6_count 58 = .ok (.bipush (-3), 2) := by decide +kernel
theorem dX6_count_60 : decode cX6_count 60 = .ok (.ireturn, 1) := by decide +kernel
theorem dX6_addTurn_0 : decode cX6_addTurn 0 = .ok (.aload_n 0, 1) := by decide +kernel
theorem dX6_addTurn_1 : decode cX6_addTurn 1 = .ok (.iload_n 2, 1) := by decide +kernel
theorem dX6_addTurn_2 : decode cX6_addTurn 2 = .ok (.invokevirtual 65, 3) := by decide +kernel
theorem dX6_addTurn_5 : decode cX6_addTurn 5 = .ok (.astore 5, 2) := by decide +kernel
theorem dX6_addTurn_7 : decode cX6_addTurn 7 = .ok (.aload 5, 2) := by decide +kernel
theorem dX6_addTurn_9 : decode cX6_addTurn 9 = .ok (.ifnonnull 5, 3) := by decide +kernel
theorem dX6_addTurn_12 : decode cX6_addTurn 12 = .ok (.iconst (-1), 1) := by decide +kernel
theorem dX6_addTurn_13 : decode cX6_addTurn 13 = .ok (.ireturn, 1) := by decide +kernel
theorem dX6_addTurn_14 : decode cX6_addTurn 14 = .ok (.aload 5, 2) := by decide +kernel
theorem dX6_addTurn_16 : decode cX6_addTurn 16 = .ok (.iload_n 3, 1) := by decide +kernel
theorem dX6_addTurn_17 : decode cX6_addTurn 17 = .ok (.invokevirtual 69, 3) := by decide +kernel
theorem dX6_addTurn_20 : decode cX6_addTurn 20 = .ok (.ifCond .ne 6, 3) := by decide +kernel
theorem dX6_addTurn_23 : decode cX6_addTurn 23 = .ok (.bipush (-2), 2) := by decide +kernel
theorem dX6_addTurn_25 : decode cX6_addTurn 25 = .ok (.ireturn, 1) := by decide +kernel
theorem dX6_addTurn_26 : decode cX6_addTurn 26 = .ok (.iload_n 1, 1) := by decide +kernel
theorem dX6_addTurn_27 : decode cX6_addTurn 27 = .ok (.invokestatic 85, 3) := by decide +kernel
theorem dX6_addTurn_30 : decode cX6_addTurn 30 = .ok (.ifCond .eq 20, 3) := by decide +kernel
theorem dX6_addTurn_33 : decode cX6_addTurn 33 = .ok (.iload 4, 2) := by decide +kernel
theorem dX6_addTurn_35 : decode cX6_addTurn 35 = .ok (.bipush (-7), 2) := by decide +kernel
theorem dX6_addTurn_37 : decode cX6_addTurn 37 = .ok (.bipush 7, 2) := by decide +kernel
theorem dX6_addTurn_39 : decode cX6_addTurn 39 = .ok (.invokestatic 58, 3) := by decide +kernel
theorem dX6_addTurn_42 : decode cX6_addTurn 42 = .ok (.ifCond .eq 8, 3) := by decide +kernel
theorem dX6_addTurn_45 : decode cX6_addTurn 45 = .ok (.iload 4, 2) := by decide +kernel
theorem dX6_addTurn_47 : decode cX6_addTurn 47 = .ok (.ifCond .ne 6, 3) := by decide +kernel
theorem dX6_addTurn_50 : decode cX6_addTurn 50 = .ok (.bipush (-3), 2) := by decide +kernel
theorem dX6_addTurn_52 : decode cX6_addTurn 52 = .ok (.ireturn, 1) := by decide +kernel
theorem dX6_addTurn_53 : decode cX6_addTurn 53 = .ok (.aload_n 0, 1) := by decide +kernel
theorem dX6_addTurn_54 : decode cX6_addTurn 54 = .ok (.getfield 27, 3) := by decide +kernel
theorem dX6_addTurn_57 : decode cX6_addTurn 57 = .ok (.iload_n 1, 1) := by decide +kernel
theorem dX6_addTurn_58 : decode cX6_addTurn 58 = .ok (.iload_n 2, 1) := by decide +kernel
theorem dX6_addTurn_59 : decode cX6_addTurn 59 = .ok (.iload_n 3, 1) := by decide +kernel
theorem dX6_addTurn_60 : decode cX6_addTurn 60 = .ok (.invokevirtual 88, 3) := by decide +kernel
theorem dX6_addTurn_63 : decode cX6_addTurn 63 = .ok (.astore 6, 2) := by decide +kernel
theorem dX6_addTurn_65 : decode cX6_addTurn 65 = .ok (.aload 6, 2) := by decide +kernel
theorem dX6_addTurn_67 : decode cX6_addTurn 67 = .ok (.ifnonnull 6, 3) := by decide +kernel
theorem dX6_addTurn_70 : decode cX6_addTurn 70 = .ok (.bipush (-4), 2) := by decide +kernel
theorem dX6_addTurn_72 : decode cX6_addTurn 72 = .ok (.ireturn, 1) := by decide +kernel
theorem dX6_addTurn_73 : decode cX6_addTurn 73 = .ok (.aload 6, 2) := by decide +kernel
theorem dX6_addTurn_75 : decode cX6_addTurn 75 = .ok (.iload 4, 2) := by decide +kernel
theorem dX6_addTurn_77 : decode cX6_addTurn 77 = .ok (.putfield 92, 3) := by decide +kernel
theorem dX6_addTurn_80 : decode cX6_addTurn 80 = .ok (.aload 6, 2) := by decide +kernel
theorem dX6_addTurn_82 : decode cX6_addTurn 82 = .ok (.getfield 97, 3) := by decide +kernel
theorem dX6_addTurn_85 : decode cX6_addTurn 85 = .ok (.ireturn, 1) := by decide +kernel
theorem dX6_addShift_0 : decode cX6_addShift 0 = .ok (.aload_n 0, 1) := by decide +kernel
theorem dX6_addShift_1 : decode cX6_addShift 1 = .ok (.iload_n 2, 1) := by decide +kernel
theorem dX6_addShift_2 : decode cX6_addShift 2 = .ok (.invokevirtual 65, 3) := by decide +kernel
theorem dX6_addShift_5 : decode cX6_addShift 5 = .ok (.ifnonnull 5, 3) := by decide +kernel
theorem dX6_addShift_8 : decode cX6_addShift 8 = .ok (.iconst (-1), 1) := by decide +kernel
theorem dX6_addShift_9 : decode cX6_addShift 9 = .ok (.ireturn, 1) := by decide +kernel
theorem dX6_addShift_10 : decode cX6_addShift 10 = .ok (.iload_n 1, 1) := by decide +kernel
theorem dX6_addShift_11 : decode cX6_addShift 11 = .ok (.invokestatic 85, 3) := by decide +kernel
theorem dX6_addShift_14 : decode cX6_addShift 14 = .ok (.ifCond .eq 38, 3) := by decide +kernel
theorem dX6_addShift_17 : decode cX6_addShift 17 = .ok (.iload_n 3, 1) := by decide +kernel
theorem dX6_addShift_18 : decode cX6_addShift 18 = .ok (.bipush (-50), 2) := by decide +kernel
theorem dX6_addShift_20 : decode cX6_addShift 20 = .ok (.bipush 50, 2) := by decide +kernel
theorem dX6_addShift_22 : decode cX6_addShift 22 = .ok (.invokestatic 58, 3) := by decide +kernel
theorem dX6_addShift_25 : decode cX6_addShift 25 = .ok (.ifCond .eq 27, 3) := by decide +kernel
theorem dX6_addShift_28 : decode cX6_addShift 28 = .ok (.iload 4, 2) := by decide +kernel
theorem dX6_addShift_30 : decode cX6_addShift 30 = .ok (.bipush (-50), 2) := by decide +kernel
theorem dX6_addShift_32 : decode cX6_addShift 32 = .ok (.bipush 50, 2) := by decide +kernel
theorem dX6_addShift_34 : decode cX6_addShift 34 = .ok (.invokestatic 58, 3) := by decide +kernel
theorem dX6_addShift_37 : decode cX6_addShift 37 = .ok (.ifCond .eq 15, 3) := by decide +kernel
theorem dX6_addShift_40 : decode cX6_addShift 40 = .ok (.iload 5, 2) := by decide +kernel
theorem dX6_addShift_42 : decode cX6_addShift 42 = .ok (.bipush (-100), 2) := by decide +kernel
theorem dX6_addShift_44 : decode cX6_addShift 44 = .ok (.bipush 100, 2) := by decide +kernel
theorem dX6_addShift_46 : decode cX6_addShift 46 = .ok (.invokestatic 58, 3) := by decide +kernel
theorem dX6_addShift_49 : decode cX6_addShift 49 = .ok (.ifCond .ne 6, 3) := by decide +kernel
theorem dX6_addShift_52 : decode cX6_addShift 52 = .ok (.bipush (-3), 2) := by decide +kernel
theorem dX6_addShift_54 : decode cX6_addShift 54 = .ok (.ireturn, 1) := by decide +kernel
theorem dX6_addShift_55 : decode cX6_addShift 55 = .ok (.aload_n 0, 1) := by decide +kernel
theorem dX6_addShift_56 : decode cX6_addShift 56 = .ok (.getfield 27, 3) := by decide +kernel
theorem dX6_addShift_59 : decode cX6_addShift 59 = .ok (.iload_n 1, 1) := by decide +kernel
theorem dX6_addShift_60 : decode cX6_addShift 60 = .ok (.iload_n 2, 1) := by decide +kernel
theorem dX6_addShift_61 : decode cX6_addShift 61 = .ok (.iconst (-1), 1) := by decide +kernel
theorem dX6_addShift_62 : decode cX6_addShift 62 = .ok (.invokevirtual 88, 3) := by decide +kernel
theorem dX6_addShift_65 : decode cX6_addShift 65 = .ok (.astore 6, 2) := by decide +kernel
theorem dX6_addShift_67 : decode cX6_addShift 67 = .ok (.aload 6, 2) := by decide +kernel
theorem dX6_addShift_69 : decode cX6_addShift 69 = .ok (.ifnonnull 6, 3) := by decide +kernel
theorem dX6_addShift_72 : decode cX6_addShift 72 = .ok (.bipush (-4), 2) := by decide +kernel
theorem dX6_addShift_74 : decode cX6_addShift 74 = .ok (.ireturn, 1) := by decide +kernel
theorem dX6_addShift_75 : decode cX6_addShift 75 = .ok (.aload 6, 2) := by decide +kernel
theorem dX6_addShift_77 : decode cX6_addShift 77 = .ok (.iload_n 3, 1) := by decide +kernel
theorem dX6_addShift_78 : decode cX6_addShift 78 = .ok (.putfield 100, 3) := by decide +kernel
theorem dX6_addShift_81 : decode cX6_addShift 81 = .ok (.aload 6, 2) := by decide +kernel
theorem dX6_addShift_83 : decode cX6_addShift 83 = .ok (.iload 4, 2) := by decide +kernel
theorem dX6_addShift_85 : decode cX6_addShift 85 = .ok (.putfield 103, 3) := by decide +kernel
theorem dX6_addShift_88 : decode cX6_addShift 88 = .ok (.aload 6, 2) := by decide +kernel
theorem dX6_addShift_90 : decode cX6_addShift 90 = .ok (.iload 5, 2) := by decide +kernel
theorem dX6_addShift_92 : decode cX6_addShift 92 = .ok (.putfield 106, 3) := by decide +kernel
theorem dX6_addShift_95 : decode cX6_addShift 95 = .ok (.aload 6, 2) := by decide +kernel
theorem dX6_addShift_97 : decode cX6_addShift 97 = .ok (.getfield 97, 3) := by decide +kernel
theorem dX6_addShift_100 : decode cX6_addShift 100 = .ok (.ireturn, 1) := by decide +kernel
theorem dX6_removeMoves_0 : decode cX6_removeMoves 0 = .ok (.iload_n 1, 1) := by decide +kernel
theorem dX6_removeMoves_1 : decode cX6_removeMoves 1 = .ok (.iconst 0, 1) := by decide +kernel
theorem dX6_removeMoves_2 : decode cX6_removeMoves 2 = .ok (.aload_n 0, 1) := by decide +kernel
theorem dX6_removeMoves_3 : decode cX6_removeMoves 3 = .ok (.getfield 27, 3) := by decide +kernel
theorem dX6_removeMoves_6 : decode cX6_removeMoves 6 = .ok (.getfield 77, 3) := by decide +kernel
theorem dX6_removeMoves_9 : decode cX6_removeMoves 9 = .ok (.invokestatic 58, 3) := by decide +kernel
theorem dX6_removeMoves_12 : decode cX6_removeMoves 12 = .ok (.ifCond .ne 6, 3) := by decide +kernel
theorem dX6_removeMoves_15 : decode cX6_removeMoves 15 = .ok (.bipush (-3), 2) := by decide +kernel
theorem dX6_removeMoves_17 : decode cX6_removeMoves 17 = .ok (.ireturn, 1) := by decide +kernel
theorem dX6_removeMoves_18 : decode cX6_removeMoves 18 = .ok (.aload_n 0, 1) := by decide +kernel
theorem dX6_removeMoves_19 : decode cX6_removeMoves 19 = .ok (.getfield 27, 3) := by decide +kernel
theorem dX6_removeMoves_22 : decode cX6_removeMoves 22 = .ok (.aload_n 0, 1) := by decide +kernel
theorem dX6_removeMoves_23 : decode cX6_removeMoves 23 = .ok (.getfield 27, 3) := by decide +kernel
theorem dX6_removeMoves_26 : decode cX6_removeMoves 26 = .ok (.getfield 77, 3) := by decide +kernel
theorem dX6_removeMoves_29 : decode cX6_removeMoves 29 = .ok (.iload_n 1, 1) := by decide +kernel
theorem dX6_removeMoves_30 : decode cX6_removeMoves 30 = .ok (.isub, 1) := by decide +kernel
theorem dX6_removeMoves_31 : decode cX6_removeMoves 31 = .ok (.invokevirtual 109, 3) := by decide +kernel
theorem dX6_removeMoves_34 : decode cX6_removeMoves 34 = .ok (.aload_n 0, 1) := by decide +kernel
theorem dX6_removeMoves_35 : decode cX6_removeMoves 35 = .ok (.getfield 27, 3) := by decide +kernel
theorem dX6_removeMoves_38 : decode cX6_removeMoves 38 = .ok (.getfield 77, 3) := by decide +kernel
theorem dX6_removeMoves_41 : decode cX6_removeMoves 41 = .ok (.ireturn, 1) := by decide +kernel
theorem dX6_position_0 : decode cX6_position 0 = .ok (.aload_n 0, 1) := by decide +kernel
theorem dX6_position_1 : decode cX6_position 1 = .ok (.iload_n 1, 1) := by decide +kernel
theorem dX6_position_2 : decode cX6_position 2 = .ok (.invokevirtual 65, 3) := by decide +kernel
theorem dX6_position_5 : decode cX6_position 5 = .ok (.astore 5, 2) := by decide +kernel
theorem dX6_position_7 : decode cX6_position 7 = .ok (.aload 5, 2) := by decide +kernel
theorem dX6_position_9 : decode cX6_position 9 = .ok (.ifnull 33, 3) := by decide +kernel
theorem dX6_position_12 : decode cX6_position 12 = .ok (.iload_n 2, 1) := by decide +kernel
theorem dX6_position_13 : decode cX6_position 13 = .ok (.iconst 0, 1) := by decide +kernel
theorem dX6_position_14 : decode cX6_position 14 = .ok (.aload 5, 2) := by decide +kernel
theorem dX6_position_16 : decode cX6_position 16 = .ok (.getfield 113, 3) := by decide +kernel
theorem dX6_position_19 : decode cX6_position 19 = .ok (.invokestatic 58, 3) := by decide +kernel
theorem dX6_position_22 : decode cX6_position 22 = .ok (.ifCond .eq 20, 3) := by decide +kernel
theorem dX6_position_25 : decode cX6_position 25 = .ok (.iload_n 3, 1) := by decide +kernel
theorem dX6_position_26 : decode cX6_position 26 = .ok (.invokestatic 85, 3) := by decide +kernel
theorem dX6_position_29 : decode cX6_position 29 = .ok (.ifCond .eq 13, 3) := by decide +kernel
theorem dX6_position_32 : decode cX6_position 32 = .ok (.iload 4, 2) := by decide +kernel
theorem dX6_position_34 : decode cX6_position 34 = .ok (.iconst 0, 1) := by decide +kernel
theorem dX6_position_35 : decode cX6_position 35 = .ok (.iconst 3, 1) := by decide +kernel
theorem dX6_position_36 : decode cX6_position 36 = .ok (.invokestatic 58, 3) := by decide +kernel
theorem dX6_position_39 : decode cX6_position 39 = .ok (.ifCond .ne 7, 3) := by decide +kernel
theorem dX6_position_42 : decode cX6_position 42 = .ok (.ldc2_w 116, 3) := by decide +kernel
theorem dX6_position_45 : decode cX6_position 45 = .ok (.lreturn, 1) := by decide +kernel
theorem dX6_position_46 : decode cX6_position 46 = .ok (.aload_n 0, 1) := by decide +kernel
theorem dX6_position_47 : decode cX6_position 47 = .ok (.getfield 41, 3) := by decide +kernel
theorem dX6_position_50 : decode cX6_position 50 = .ok (.aload 5, 2) := by decide +kernel
theorem dX6_position_52 : decode cX6_position 52 = .ok (.aload_n 0, 1) := by decide +kernel
theorem dX6_position_53 : decode cX6_position 53 = .ok (.getfield 27, 3) := by decide +kernel
theorem dX6_position_56 : decode cX6_position 56 = .ok (.iload_n 3, 1) := by decide +kernel
theorem dX6_position_57 : decode cX6_position 57 = .ok (.aload_n 0, 1) := by decide +kernel
theorem dX6_position_58 : decode cX6_position 58 = .ok (.getfield 9, 3) := by decide +kernel
theorem dX6_position_61 : decode cX6_position 61 = .ok (.invokevirtual 118, 3) := by decide +kernel
theorem dX6_position_64 : decode cX6_position 64 = .ok (.pop, 1) := by decide +kernel
theorem dX6_position_65 : decode cX6_position 65 = .ok (.iload 4, 2) := by decide +kernel
theorem dX6_position_67 : decode cX6_position 67 = .ok (.tableswitch 58 0 2 #[25, 36, 47], 25) := by decide +kernel
theorem dX6_position_92 : decode cX6_position 92 = .ok (.aload_n 0, 1) := by decide +kernel
theorem dX6_position_93 : decode cX6_position 93 = .ok (.getfield 41, 3) := by decide +kernel
theorem dX6_position_96 : decode cX6_position 96 = .ok (.getfield 122, 3) := by decide +kernel
theorem dX6_position_99 : decode cX6_position 99 = .ok (.iload_n 2, 1) := by decide +kernel
theorem dX6_position_100 : decode cX6_position 100 = .ok (.iaload, 1) := by decide +kernel
theorem dX6_position_101 : decode cX6_position 101 = .ok (.i2l, 1) := by decide +kernel
theorem dX6_position_102 : decode cX6_position 102 = .ok (.lreturn, 1) := by decide +kernel
theorem dX6_position_103 : decode cX6_position 103 = .ok (.aload_n 0, 1) := by decide +kernel
theorem dX6_position_104 : decode cX6_position 104 = .ok (.getfield 41, 3) := by decide +kernel
theorem dX6_position_107 : decode cX6_position 107 = .ok (.getfield 126, 3) := by decide +kernel
theorem dX6_position_110 : decode cX6_position 110 = .ok (.iload_n 2, 1) := by decide +kernel
theorem dX6_position_111 : decode cX6_position 111 = .ok (.iaload, 1) := by decide +kernel
theorem dX6_position_112 : decode cX6_position 112 = .ok (.i2l, 1) := by decide +kernel
theorem dX6_position_113 : decode cX6_position 113 = .ok (.lreturn, 1) := by decide +kernel
theorem dX6_position_114 : decode cX6_position 114 = .ok (.aload_n 0, 1) := by decide +kernel
theorem dX6_position_115 : decode cX6_position 115 = .ok (.getfield 41, 3) := by decide +kernel
theorem dX6_position_118 : decode cX6_position 118 = .ok (.getfield 129, 3) := by decide +kernel
theorem dX6_position_121 : decode cX6_position 121 = .ok (.iload_n 2, 1) := by decide +kernel
theorem dX6_position_122 : decode cX6_position 122 = .ok (.iaload, 1) := by decide +kernel
theorem dX6_position_123 : decode cX6_position 123 = .ok (.i2l, 1) := by decide +kernel
theorem dX6_position_124 : decode cX6_position 124 = .ok (.lreturn, 1) := by decide +kernel
theorem dX6_position_125 : decode cX6_position 125 = .ok (.aload_n 0, 1) := by decide +kernel
theorem dX6_position_126 : decode cX6_position 126 = .ok (.getfield 41, 3) := by decide +kernel
theorem dX6_position_129 : decode cX6_position 129 = .ok (.getfield 132, 3) := by decide +kernel
theorem dX6_position_132 : decode cX6_position 132 = .ok (.i2l, 1) := by decide +kernel
theorem dX6_position_133 : decode cX6_position 133 = .ok (.lreturn, 1) := by decide +kernel
theorem dX6_box_0 : decode cX6_box 0 = .ok (.aload_n 0, 1) := by decide +kernel
theorem dX6_box_1 : decode cX6_box 1 = .ok (.iload_n 1, 1) := by decide +kernel
theorem dX6_box_2 : decode cX6_box 2 = .ok (.invokevirtual 65, 3) := by decide +kernel
theorem dX6_box_5 : decode cX6_box 5 = .ok (.astore 5, 2) := by decide +kernel
theorem dX6_box_7 : decode cX6_box 7 = .ok (.aload 5, 2) := by decide +kernel
theorem dX6_box_9 : decode cX6_box 9 = .ok (.ifnull 29, 3) := by decide +kernel
theorem dX6_box_12 : decode cX6_box 12 = .ok (.iload_n 2, 1) := by decide +kernel
theorem dX6_box_13 : decode cX6_box 13 = .ok (.invokestatic 85, 3) := by decide +kernel
theorem dX6_box_16 : decode cX6_box 16 = .ok (.ifCond .eq 22, 3) := by decide +kernel
theorem dX6_box_19 : decode cX6_box 19 = .ok (.iload_n 3, 1) := by decide +kernel
theorem dX6_box_20 : decode cX6_box 20 = .ok (.iconst 0, 1) := by decide +kernel
theorem dX6_box_21 : decode cX6_box 21 = .ok (.iconst 5, 1) := by decide +kernel
theorem dX6_box_22 : decode cX6_box 22 = .ok (.invokestatic 58, 3) := by decide +kernel
theorem dX6_box_25 : decode cX6_box 25 = .ok (.ifCond .eq 13, 3) := by decide +kernel
theorem dX6_box_28 : decode cX6_box 28 = .ok (.iload 4, 2) := by decide +kernel
theorem dX6_box_30 : decode cX6_box 30 = .ok (.iconst 0, 1) := by decide +kernel
theorem dX6_box_31 : decode cX6_box 31 = .ok (.iconst 1, 1) := by decide +kernel
theorem dX6_box_32 : decode cX6_box 32 = .ok (.invokestatic 58, 3) := by decide +kernel
theorem dX6_box_35 : decode cX6_box 35 = .ok (.ifCond .ne 7, 3) := by decide +kernel
theorem dX6_box_38 : decode cX6_box 38 = .ok (.ldc2_w 116, 3) := by decide +kernel
theorem dX6_box_41 : decode cX6_box 41 = .ok (.lreturn, 1) := by decide +kernel
theorem dX6_box_42 : decode cX6_box 42 = .ok (.aload_n 0, 1) := by decide +kernel
theorem dX6_box_43 : decode cX6_box 43 = .ok (.getfield 41, 3) := by decide +kernel
theorem dX6_box_46 : decode cX6_box 46 = .ok (.aload 5, 2) := by decide +kernel
theorem dX6_box_48 : decode cX6_box 48 = .ok (.aload_n 0, 1) := by decide +kernel
theorem dX6_box_49 : decode cX6_box 49 = .ok (.getfield 27, 3) := by decide +kernel
theorem dX6_box_52 : decode cX6_box 52 = .ok (.iload_n 2, 1) := by decide +kernel
theorem dX6_box_53 : decode cX6_box 53 = .ok (.aload_n 0, 1) := by decide +kernel
theorem dX6_box_54 : decode cX6_box 54 = .ok (.getfield 9, 3) := by decide +kernel
theorem dX6_box_57 : decode cX6_box 57 = .ok (.invokevirtual 118, 3) := by decide +kernel
theorem dX6_box_60 : decode cX6_box 60 = .ok (.pop, 1) := by decide +kernel
theorem dX6_box_61 : decode cX6_box 61 = .ok (.aload_n 0, 1) := by decide +kernel
theorem dX6_box_62 : decode cX6_box 62 = .ok (.getfield 41, 3) := by decide +kernel
theorem dX6_box_65 : decode cX6_box 65 = .ok (.iload_n 3, 1) := by decide +kernel
theorem dX6_box_66 : decode cX6_box 66 = .ok (.invokevirtual 135, 3) := by decide +kernel
theorem dX6_box_69 : decode cX6_box 69 = .ok (.i2l, 1) := by decide +kernel
theorem dX6_box_70 : decode cX6_box 70 = .ok (.aload_n 0, 1) := by decide +kernel
theorem dX6_box_71 : decode cX6_box 71 = .ok (.getfield 9, 3) := by decide +kernel
theorem dX6_box_74 : decode cX6_box 74 = .ok (.i2l, 1) := by decide +kernel
theorem dX6_box_75 : decode cX6_box 75 = .ok (.lmul, 1) := by decide +kernel
theorem dX6_box_76 : decode cX6_box 76 = .ok (.lstore 6, 2) := by decide +kernel
theorem dX6_box_78 : decode cX6_box 78 = .ok (.lload 6, 2) := by decide +kernel
theorem dX6_box_80 : decode cX6_box 80 = .ok (.aload_n 0, 1) := by decide +kernel
theorem dX6_box_81 : decode cX6_box 81 = .ok (.getfield 41, 3) := by decide +kernel
theorem dX6_box_84 : decode cX6_box 84 = .ok (.getfield 132, 3) := by decide +kernel
theorem dX6_box_87 : decode cX6_box 87 = .ok (.i2l, 1) := by decide +kernel
theorem dX6_box_88 : decode cX6_box 88 = .ok (.iload 4, 2) := by decide +kernel
theorem dX6_box_90 : decode cX6_box 90 = .ok (.invokestatic 139, 3) := by decide +kernel
theorem dX6_box_93 : decode cX6_box 93 = .ok (.lreturn, 1) := by decide +kernel
theorem dX6_overlap_0 : decode cX6_overlap 0 = .ok (.aload_n 0, 1) := by decide +kernel
theorem dX6_overlap_1 : decode cX6_overlap 1 = .ok (.iload_n 1, 1) := by decide +kernel
theorem dX6_overlap_2 : decode cX6_overlap 2 = .ok (.invokevirtual 65, 3) := by decide +kernel
theorem dX6_overlap_5 : decode cX6_overlap 5 = .ok (.astore 5, 2) := by decide +kernel
theorem dX6_overlap_7 : decode cX6_overlap 7 = .ok (.aload_n 0, 1) := by decide +kernel
theorem dX6_overlap_8 : decode cX6_overlap 8 = .ok (.iload_n 2, 1) := by decide +kernel
theorem dX6_overlap_9 : decode cX6_overlap 9 = .ok (.invokevirtual 65, 3) := by decide +kernel
theorem dX6_overlap_12 : decode cX6_overlap 12 = .ok (.astore 6, 2) := by decide +kernel
theorem dX6_overlap_14 : decode cX6_overlap 14 = .ok (.aload 5, 2) := by decide +kernel
theorem dX6_overlap_16 : decode cX6_overlap 16 = .ok (.ifnull 25, 3) := by decide +kernel
theorem dX6_overlap_19 : decode cX6_overlap 19 = .ok (.aload 6, 2) := by decide +kernel
theorem dX6_overlap_21 : decode cX6_overlap 21 = .ok (.ifnull 20, 3) := by decide +kernel
theorem dX6_overlap_24 : decode cX6_overlap 24 = .ok (.iload_n 3, 1) := by decide +kernel
theorem dX6_overlap_25 : decode cX6_overlap 25 = .ok (.invokestatic 85, 3) := by decide +kernel
theorem dX6_overlap_28 : decode cX6_overlap 28 = .ok (.ifCond .eq 13, 3) := by decide +kernel
theorem dX6_overlap_31 : decode cX6_overlap 31 = .ok (.iload 4, 2) := by decide +kernel
theorem dX6_overlap_33 : decode cX6_overlap 33 = .ok (.iconst 0, 1) := by decide +kernel
theorem dX6_overlap_34 : decode cX6_overlap 34 = .ok (.iconst 1, 1) := by decide +kernel
theorem dX6_overlap_35 : decode cX6_overlap 35 = .ok (.invokestatic 58, 3) := by decide +kernel
theorem dX6_overlap_38 : decode cX6_overlap 38 = .ok (.ifCond .ne 7, 3) := by decide +kernel
theorem dX6_overlap_41 : decode cX6_overlap 41 = .ok (.ldc2_w 116, 3) := by decide +kernel
theorem dX6_overlap_44 : decode cX6_overlap 44 = .ok (.lreturn, 1) := by decide +kernel
theorem dX6_overlap_45 : decode cX6_overlap 45 = .ok (.aload_n 0, 1) := by decide +kernel
theorem dX6_overlap_46 : decode cX6_overlap 46 = .ok (.aload 5, 2) := by decide +kernel
theorem dX6_overlap_48 : decode cX6_overlap 48 = .ok (.aload 6, 2) := by decide +kernel
theorem dX6_overlap_50 : decode cX6_overlap 50 = .ok (.iload_n 3, 1) := by decide +kernel
theorem dX6_overlap_51 : decode cX6_overlap 51 = .ok (.invokevirtual 143, 3) := by decide +kernel
theorem dX6_overlap_54 : decode cX6_overlap 54 = .ok (.aload_n 0, 1) := by decide +kernel
theorem dX6_overlap_55 : decode cX6_overlap 55 = .ok (.getfield 41, 3) := by decide +kernel
theorem dX6_overlap_58 : decode cX6_overlap 58 = .ok (.getfield 132, 3) := by decide +kernel
theorem dX6_overlap_61 : decode cX6_overlap 61 = .ok (.i2l, 1) := by decide +kernel
theorem dX6_overlap_62 : decode cX6_overlap 62 = .ok (.lstore 7, 2) := by decide +kernel
theorem dX6_overlap_64 : decode cX6_overlap 64 = .ok (.aload_n 0, 1) := by decide +kernel
theorem dX6_overlap_65 : decode cX6_overlap 65 = .ok (.getfield 45, 3) := by decide +kernel
theorem dX6_overlap_68 : decode cX6_overlap 68 = .ok (.getfield 132, 3) := by decide +kernel
theorem dX6_overlap_71 : decode cX6_overlap 71 = .ok (.i2l, 1) := by decide +kernel
theorem dX6_overlap_72 : decode cX6_overlap 72 = .ok (.lstore 9, 2) := by decide +kernel
theorem dX6_overlap_74 : decode cX6_overlap 74 = .ok (.aload_n 0, 1) := by decide +kernel
theorem dX6_overlap_75 : decode cX6_overlap 75 = .ok (.getfield 41, 3) := by decide +kernel
theorem dX6_overlap_78 : decode cX6_overlap 78 = .ok (.getfield 147, 3) := by decide +kernel
theorem dX6_overlap_81 : decode cX6_overlap 81 = .ok (.i2l, 1) := by decide +kernel
theorem dX6_overlap_82 : decode cX6_overlap 82 = .ok (.lload 9, 2) := by decide +kernel
theorem dX6_overlap_84 : decode cX6_overlap 84 = .ok (.lmul, 1) := by decide +kernel
theorem dX6_overlap_85 : decode cX6_overlap 85 = .ok (.aload_n 0, 1) := by decide +kernel
theorem dX6_overlap_86 : decode cX6_overlap 86 = .ok (.getfield 45, 3) := by decide +kernel
theorem dX6_overlap_89 : decode cX6_overlap 89 = .ok (.getfield 147, 3) := by decide +kernel
theorem dX6_overlap_92 : decode cX6_overlap 92 = .ok (.i2l, 1) := by decide +kernel
theorem dX6_overlap_93 : decode cX6_overlap 93 = .ok (.lload 7, 2) := by decide +kernel
theorem dX6_overlap_95 : decode cX6_overlap 95 = .ok (.lmul, 1) := by decide +kernel
theorem dX6_overlap_96 : decode cX6_overlap 96 = .ok (.invokestatic 150, 3) := by decide +kernel
theorem dX6_overlap_99 : decode cX6_overlap 99 = .ok (.aload_n 0, 1) := by decide +kernel
theorem dX6_overlap_100 : decode cX6_overlap 100 = .ok (.getfield 41, 3) := by decide +kernel
theorem dX6_overlap_103 : decode cX6_overlap 103 = .ok (.getfield 156, 3) := by decide +kernel
theorem dX6_overlap_106 : decode cX6_overlap 106 = .ok (.i2l, 1) := by decide +kernel
theorem dX6_overlap_107 : decode cX6_overlap 107 = .ok (.lload 9, 2) := by decide +kernel
theorem dX6_overlap_109 : decode cX6_overlap 109 = .ok (.lmul, 1) := by decide +kernel
theorem dX6_overlap_110 : decode cX6_overlap 110 = .ok (.aload_n 0, 1) := by decide +kernel
theorem dX6_overlap_111 : decode cX6_overlap 111 = .ok (.getfield 45, 3) := by decide +kernel
theorem dX6_overlap_114 : decode cX6_overlap 114 = .ok (.getfield 156, 3) := by decide +kernel
theorem dX6_overlap_117 : decode cX6_overlap 117 = .ok (.i2l, 1) := by decide +kernel
theorem dX6_overlap_118 : decode cX6_overlap 118 = .ok (.lload 7, 2) := by decide +kernel
theorem dX6_overlap_120 : decode cX6_overlap 120 = .ok (.lmul, 1) := by decide +kernel
theorem dX6_overlap_121 : decode cX6_overlap 121 = .ok (.invokestatic 159, 3) := by decide +kernel
theorem dX6_overlap_124 : decode cX6_overlap 124 = .ok (.lsub, 1) := by decide +kernel
theorem dX6_overlap_125 : decode cX6_overlap 125 = .ok (.lstore 11, 2) := by decide +kernel
theorem dX6_overlap_127 : decode cX6_overlap 127 = .ok (.aload_n 0, 1) := by decide +kernel
theorem dX6_overlap_128 : decode cX6_overlap 128 = .ok (.getfield 41, 3) := by decide +kernel
theorem dX6_overlap_131 : decode cX6_overlap 131 = .ok (.getfield 162, 3) := by decide +kernel
theorem dX6_overlap_134 : decode cX6_overlap 134 = .ok (.i2l, 1) := by decide +kernel
theorem dX6_overlap_135 : decode cX6_overlap 135 = .ok (.lload 9, 2) := by decide +kernel
theorem dX6_overlap_137 : decode cX6_overlap 137 = .ok (.lmul, 1) := by decide +kernel
theorem dX6_overlap_138 : decode cX6_overlap 138 = .ok (.aload_n 0, 1) := by decide +kernel
theorem dX6_overlap_139 : decode cX6_overlap 139 = .ok (.getfield 45, 3) := by decide +kernel
theorem dX6_overlap_142 : decode cX6_overlap 142 = .ok (.getfield 162, 3) := by decide +kernel
theorem dX6_overlap_145 : decode cX6_overlap 145 = .ok (.i2l, 1) := by decide +kernel
theorem dX6_overlap_146 : decode cX6_overlap 146 = .ok (.lload 7, 2) := by decide +kernel
theorem dX6_overlap_148 : decode cX6_overlap 148 = .ok (.lmul, 1) := by decide +kernel
theorem dX6_overlap_149 : decode cX6_overlap 149 = .ok (.invokestatic 150, 3) := by decide +kernel
theorem dX6_overlap_152 : decode cX6_overlap 152 = .ok (.aload_n 0, 1) := by decide +kernel
theorem dX6_overlap_153 : decode cX6_overlap 153 = .ok (.getfield 41, 3) := by decide +kernel
theorem dX6_overlap_156 : decode cX6_overlap 156 = .ok (.getfield 165, 3) := by decide +kernel
theorem dX6_overlap_159 : decode cX6_overlap 159 = .ok (.i2l, 1) := by decide +kernel
theorem dX6_overlap_160 : decode cX6_overlap 160 = .ok (.lload 9, 2) := by decide +kernel
theorem dX6_overlap_162 : decode cX6_overlap 162 = .ok (.lmul, 1) := by decide +kernel
theorem dX6_overlap_163 : decode cX6_overlap 163 = .ok (.aload_n 0, 1) := by decide +kernel
theorem dX6_overlap_164 : decode cX6_overlap 164 = .ok (.getfield 45, 3) := by decide +kernel
theorem dX6_overlap_167 : decode cX6_overlap 167 = .ok (.getfield 165, 3) := by decide +kernel
theorem dX6_overlap_170 : decode cX6_overlap 170 = .ok (.i2l, 1) := by decide +kernel
theorem dX6_overlap_171 : decode cX6_overlap 171 = .ok (.lload 7, 2) := by decide +kernel
theorem dX6_overlap_173 : decode cX6_overlap 173 = .ok (.lmul, 1) := by decide +kernel
theorem dX6_overlap_174 : decode cX6_overlap 174 = .ok (.invokestatic 159, 3) := by decide +kernel
theorem dX6_overlap_177 : decode cX6_overlap 177 = .ok (.lsub, 1) := by decide +kernel
theorem dX6_overlap_178 : decode cX6_overlap 178 = .ok (.lstore 13, 2) := by decide +kernel
theorem dX6_overlap_180 : decode cX6_overlap 180 = .ok (.lload 11, 2) := by decide +kernel
theorem dX6_overlap_182 : decode cX6_overlap 182 = .ok (.lconst 0, 1) := by decide +kernel
theorem dX6_overlap_183 : decode cX6_overlap 183 = .ok (.lcmp, 1) := by decide +kernel
theorem dX6_overlap_184 : decode cX6_overlap 184 = .ok (.ifCond .le 10, 3) := by decide +kernel
theorem dX6_overlap_187 : decode cX6_overlap 187 = .ok (.lload 13, 2) := by decide +kernel
theorem dX6_overlap_189 : decode cX6_overlap 189 = .ok (.lconst 0, 1) := by decide +kernel
theorem dX6_overlap_190 : decode cX6_overlap 190 = .ok (.lcmp, 1) := by decide +kernel
theorem dX6_overlap_191 : decode cX6_overlap 191 = .ok (.ifCond .gt 7, 3) := by decide +kernel
theorem dX6_overlap_194 : decode cX6_overlap 194 = .ok (.lconst 0, 1) := by decide +kernel
theorem dX6_overlap_195 : decode cX6_overlap 195 = .ok (.goto 8, 3) := by decide +kernel
theorem dX6_overlap_198 : decode cX6_overlap 198 = .ok (.lload 11, 2) := by decide +kernel
theorem dX6_overlap_200 : decode cX6_overlap 200 = .ok (.lload 13, 2) := by decide +kernel
theorem dX6_overlap_202 : decode cX6_overlap 202 = .ok (.lmul, 1) := by decide +kernel
theorem dX6_overlap_203 : decode cX6_overlap 203 = .ok (.lstore 15, 2) := by decide +kernel
theorem dX6_overlap_205 : decode cX6_overlap 205 = .ok (.lload 15, 2) := by decide +kernel
theorem dX6_overlap_207 : decode cX6_overlap 207 = .ok (.aload_n 0, 1) := by decide +kernel
theorem dX6_overlap_208 : decode cX6_overlap 208 = .ok (.getfield 9, 3) := by decide +kernel
theorem dX6_overlap_211 : decode cX6_overlap 211 = .ok (.i2l, 1) := by decide +kernel
theorem dX6_overlap_212 : decode cX6_overlap 212 = .ok (.lmul, 1) := by decide +kernel
theorem dX6_overlap_213 : decode cX6_overlap 213 = .ok (.aload_n 0, 1) := by decide +kernel
theorem dX6_overlap_214 : decode cX6_overlap 214 = .ok (.getfield 9, 3) := by decide +kernel
theorem dX6_overlap_217 : decode cX6_overlap 217 = .ok (.i2l, 1) := by decide +kernel
theorem dX6_overlap_218 : decode cX6_overlap 218 = .ok (.lmul, 1) := by decide +kernel
theorem dX6_overlap_219 : decode cX6_overlap 219 = .ok (.lload 7, 2) := by decide +kernel
theorem dX6_overlap_221 : decode cX6_overlap 221 = .ok (.lload 9, 2) := by decide +kernel
theorem dX6_overlap_223 : decode cX6_overlap 223 = .ok (.lmul, 1) := by decide +kernel
theorem dX6_overlap_224 : decode cX6_overlap 224 = .ok (.lload 7, 2) := by decide +kernel
theorem dX6_overlap_226 : decode cX6_overlap 226 = .ok (.lmul, 1) := by decide +kernel
theorem dX6_overlap_227 : decode cX6_overlap 227 = .ok (.lload 9, 2) := by decide +kernel
theorem dX6_overlap_229 : decode cX6_overlap 229 = .ok (.lmul, 1) := by decide +kernel
theorem dX6_overlap_230 : decode cX6_overlap 230 = .ok (.iload 4, 2) := by decide +kernel
theorem dX6_overlap_232 : decode cX6_overlap 232 = .ok (.invokestatic 139, 3) := by decide +kernel
theorem dX6_overlap_235 : decode cX6_overlap 235 = .ok (.lreturn, 1) := by decide +kernel
theorem dX6_crossings_0 : decode cX6_crossings 0 = .ok (.aload_n 0, 1) := by decide +kernel
theorem dX6_crossings_1 : decode cX6_crossings 1 = .ok (.iload_n 1, 1) := by decide +kernel
theorem dX6_crossings_2 : decode cX6_crossings 2 = .ok (.invokevirtual 65, 3) := by decide +kernel
theorem dX6_crossings_5 : decode cX6_crossings 5 = .ok (.astore 4, 2) := by decide +kernel
theorem dX6_crossings_7 : decode cX6_crossings 7 = .ok (.aload_n 0, 1) := by decide +kernel
theorem dX6_crossings_8 : decode cX6_crossings 8 = .ok (.iload_n 2, 1) := by decide +kernel
theorem dX6_crossings_9 : decode cX6_crossings 9 = .ok (.invokevirtual 65, 3) := by decide +kernel
theorem dX6_crossings_12 : decode cX6_crossings 12 = .ok (.astore 5, 2) := by decide +kernel
theorem dX6_crossings_14 : decode cX6_crossings 14 = .ok (.aload 4, 2) := by decide +kernel
theorem dX6_crossings_16 : decode cX6_crossings 16 = .ok (.ifnull 8, 3) := by decide +kernel
theorem dX6_crossings_19 : decode cX6_crossings 19 = .ok (.aload 5, 2) := by decide +kernel
theorem dX6_crossings_21 : decode cX6_crossings 21 = .ok (.ifnonnull 5, 3) := by decide +kernel
theorem dX6_crossings_24 : decode cX6_crossings 24 = .ok (.iconst (-1), 1) := by decide +kernel
theorem dX6_crossings_25 : decode cX6_crossings 25 = .ok (.ireturn, 1) := by decide +kernel
theorem dX6_crossings_26 : decode cX6_crossings 26 = .ok (.iload_n 1, 1) := by decide +kernel
theorem dX6_crossings_27 : decode cX6_crossings 27 = .ok (.iload_n 2, 1) := by decide +kernel
theorem dX6_crossings_28 : decode cX6_crossings 28 = .ok (.if_icmp .eq 10, 3) := by decide +kernel
theorem dX6_crossings_31 : decode cX6_crossings 31 = .ok (.iload_n 3, 1) := by decide +kernel
theorem dX6_crossings_32 : decode cX6_crossings 32 = .ok (.invokestatic 85, 3) := by decide +kernel
theorem dX6_crossings_35 : decode cX6_crossings 35 = .ok (.ifCond .ne 6, 3) := by decide +kernel
theorem dX6_crossings_38 : decode cX6_crossings 38 = .ok (.bipush (-3), 2) := by decide +kernel
theorem dX6_crossings_40 : decode cX6_crossings 40 = .ok (.ireturn, 1) := by decide +kernel
theorem dX6_crossings_41 : decode cX6_crossings 41 = .ok (.aload_n 0, 1) := by decide +kernel
theorem dX6_crossings_42 : decode cX6_crossings 42 = .ok (.aload 4, 2) := by decide +kernel
theorem dX6_crossings_44 : decode cX6_crossings 44 = .ok (.aload 5, 2) := by decide +kernel
theorem dX6_crossings_46 : decode cX6_crossings 46 = .ok (.iload_n 3, 1) := by decide +kernel
theorem dX6_crossings_47 : decode cX6_crossings 47 = .ok (.invokevirtual 168, 3) := by decide +kernel
theorem dX6_crossings_50 : decode cX6_crossings 50 = .ok (.ireturn, 1) := by decide +kernel
theorem dX6_nextCrossing_0 : decode cX6_nextCrossing 0 = .ok (.aload_n 0, 1) := by decide +kernel
theorem dX6_nextCrossing_1 : decode cX6_nextCrossing 1 = .ok (.iload_n 1, 1) := by decide +kernel
theorem dX6_nextCrossing_2 : decode cX6_nextCrossing 2 = .ok (.invokevirtual 65, 3) := by decide +kernel
theorem dX6_nextCrossing_5 : decode cX6_nextCrossing 5 = .ok (.astore 4, 2) := by decide +kernel
theorem dX6_nextCrossing_7 : decode cX6_nextCrossing 7 = .ok (.aload_n 0, 1) := by decide +kernel
theorem dX6_nextCrossing_8 : decode cX6_nextCrossing 8 = .ok (.iload_n 2, 1) := by decide +kernel
theorem dX6_nextCrossing_9 : decode cX6_nextCrossing 9 = .ok (.invokevirtual 65, 3) := by decide +kernel
theorem dX6_nextCrossing_12 : decode cX6_nextCrossing 12 = .ok (.astore 5, 2) := by decide +kernel
theorem dX6_nextCrossing_14 : decode cX6_nextCrossing 14 = .ok (.aload 4, 2) := by decide +kernel
theorem dX6_nextCrossing_16 : decode cX6_nextCrossing 16 = .ok (.ifnull 8, 3) := by decide +kernel
theorem dX6_nextCrossing_19 : decode cX6_nextCrossing 19 = .ok (.aload 5, 2) := by decide +kernel
theorem dX6_nextCrossing_21 : decode cX6_nextCrossing 21 = .ok (.ifnonnull 5, 3) := by decide +kernel
theorem dX6_nextCrossing_24 : decode cX6_nextCrossing 24 = .ok (.iconst (-1), 1) := by decide +kernel
theorem dX6_nextCrossing_25 : decode cX6_nextCrossing 25 = .ok (.ireturn, 1) := by decide +kernel
theorem dX6_nextCrossing_26 : decode cX6_nextCrossing 26 = .ok (.iload_n 1, 1) := by decide +kernel
theorem dX6_nextCrossing_27 : decode cX6_nextCrossing 27 = .ok (.iload_n 2, 1) := by decide +kernel
theorem dX6_nextCrossing_28 : decode cX6_nextCrossing 28 = .ok (.if_icmp .eq 10, 3) := by decide +kernel
theorem dX6_nextCrossing_31 : decode cX6_nextCrossing 31 = .ok (.iload_n 3, 1) := by decide +kernel
theorem dX6_nextCrossing_32 : decode cX6_nextCrossing 32 = .ok (.invokestatic 85, 3) := by decide +kernel
theorem dX6_nextCrossing_35 : decode cX6_nextCrossing 35 = .ok (.ifCond .ne 6, 3) := by decide +kernel
theorem dX6_nextCrossing_38 : decode cX6_nextCrossing 38 = .ok (.bipush (-3), 2) := by decide +kernel
theorem dX6_nextCrossing_40 : decode cX6_nextCrossing 40 = .ok (.ireturn, 1) := by decide +kernel
theorem dX6_nextCrossing_41 : decode cX6_nextCrossing 41 = .ok (.iload_n 3, 1) := by decide +kernel
theorem dX6_nextCrossing_42 : decode cX6_nextCrossing 42 = .ok (.istore 6, 2) := by decide +kernel
theorem dX6_nextCrossing_44 : decode cX6_nextCrossing 44 = .ok (.iload 6, 2) := by decide +kernel
theorem dX6_nextCrossing_46 : decode cX6_nextCrossing 46 = .ok (.bipush 99, 2) := by decide +kernel
theorem dX6_nextCrossing_48 : decode cX6_nextCrossing 48 = .ok (.if_icmp .gt 55, 3) := by decide +kernel
theorem dX6_nextCrossing_51 : decode cX6_nextCrossing 51 = .ok (.iload 6, 2) := by decide +kernel
theorem dX6_nextCrossing_53 : decode cX6_nextCrossing 53 = .ok (.iload_n 3, 1) := by decide +kernel
theorem dX6_nextCrossing_54 : decode cX6_nextCrossing 54 = .ok (.if_icmp .eq 15, 3) := by decide +kernel
theorem dX6_nextCrossing_57 : decode cX6_nextCrossing 57 = .ok (.aload_n 0, 1) := by decide +kernel
theorem dX6_nextCrossing_58 : decode cX6_nextCrossing 58 = .ok (.getfield 27, 3) := by decide +kernel
theorem dX6_nextCrossing_61 : decode cX6_nextCrossing 61 = .ok (.iload 6, 2) := by decide +kernel
theorem dX6_nextCrossing_63 : decode cX6_nextCrossing 63 = .ok (.invokevirtual 172, 3) := by decide +kernel
theorem dX6_nextCrossing_66 : decode cX6_nextCrossing 66 = .ok (.ifCond .eq 7, 3) := by decide +kernel
theorem dX6_nextCrossing_69 : decode cX6_nextCrossing 69 = .ok (.iconst 1, 1) := by decide +kernel
theorem dX6_nextCrossing_70 : decode cX6_nextCrossing 70 = .ok (.goto 4, 3) := by decide +kernel
theorem dX6_nextCrossing_73 : decode cX6_nextCrossing 73 = .ok (.iconst 0, 1) := by decide +kernel
theorem dX6_nextCrossing_74 : decode cX6_nextCrossing 74 = .ok (.istore 7, 2) := by decide +kernel
theorem dX6_nextCrossing_76 : decode cX6_nextCrossing 76 = .ok (.iload 7, 2) := by decide +kernel
theorem dX6_nextCrossing_78 : decode cX6_nextCrossing 78 = .ok (.ifCond .eq 19, 3) := by decide +kernel
theorem dX6_nextCrossing_81 : decode cX6_nextCrossing 81 = .ok (.aload_n 0, 1) := by decide +kernel
theorem dX6_nextCrossing_82 : decode cX6_nextCrossing 82 = .ok (.aload 4, 2) := by decide +kernel
theorem dX6_nextCrossing_84 : decode cX6_nextCrossing 84 = .ok (.aload 5, 2) := by decide +kernel
theorem dX6_nextCrossing_86 : decode cX6_nextCrossing 86 = .ok (.iload 6, 2) := by decide +kernel
theorem dX6_nextCrossing_88 : decode cX6_nextCrossing 88 = .ok (.invokevirtual 168, 3) := by decide +kernel
theorem dX6_nextCrossing_91 : decode cX6_nextCrossing 91 = .ok (.ifCond .le 6, 3) := by decide +kernel
theorem dX6_nextCrossing_94 : decode cX6_nextCrossing 94 = .ok (.iload 6, 2) := by decide +kernel
theorem dX6_nextCrossing_96 : decode cX6_nextCrossing 96 = .ok (.ireturn, 1) := by decide +kernel
theorem dX6_nextCrossing_97 : decode cX6_nextCrossing 97 = .ok (.iinc 6 1, 3) := by decide +kernel
theorem dX6_nextCrossing_100 : decode cX6_nextCrossing 100 = .ok (.goto (-56), 3) := by decide +kernel
theorem dX6_nextCrossing_103 : decode cX6_nextCrossing 103 = .ok (.bipush (-5), 2) := by decide +kernel
theorem dX6_nextCrossing_105 : decode cX6_nextCrossing 105 = .ok (.ireturn, 1) := by decide +kernel
theorem dX6_within_0 : decode cX6_within 0 = .ok (.iload_n 1, 1) := by decide +kernel
theorem dX6_within_1 : decode cX6_within 1 = .ok (.iconst 0, 1) := by decide +kernel
theorem dX6_within_2 : decode cX6_within 2 = .ok (.sipush 20000, 3) := by decide +kernel
theorem dX6_within_5 : decode cX6_within 5 = .ok (.invokestatic 58, 3) := by decide +kernel
theorem dX6_within_8 : decode cX6_within 8 = .ok (.ifCond .eq 21, 3) := by decide +kernel
theorem dX6_within_11 : decode cX6_within 11 = .ok (.iload_n 2, 1) := by decide +kernel
theorem dX6_within_12 : decode cX6_within 12 = .ok (.iconst 0, 1) := by decide +kernel
theorem dX6_within_13 : decode cX6_within 13 = .ok (.sipush 20000, 3) := by decide +kernel
theorem dX6_within_16 : decode cX6_within 16 = .ok (.invokestatic 58, 3) := by decide +kernel
theorem dX6_within_19 : decode cX6_within 19 = .ok (.ifCond .eq 10, 3) := by decide +kernel
theorem dX6_within_22 : decode cX6_within 22 = .ok (.iload_n 3, 1) := by decide +kernel
theorem dX6_within_23 : decode cX6_within 23 = .ok (.invokestatic 85, 3) := by decide +kernel
theorem dX6_within_26 : decode cX6_within 26 = .ok (.ifCond .ne 6, 3) := by decide +kernel
theorem dX6_within_29 : decode cX6_within 29 = .ok (.bipush (-3), 2) := by decide +kernel
theorem dX6_within_31 : decode cX6_within 31 = .ok (.ireturn, 1) := by decide +kernel
theorem dX6_within_32 : decode cX6_within 32 = .ok (.iconst 0, 1) := by decide +kernel
theorem dX6_within_33 : decode cX6_within 33 = .ok (.istore 4, 2) := by decide +kernel
theorem dX6_within_35 : decode cX6_within 35 = .ok (.aload_n 0, 1) := by decide +kernel
theorem dX6_within_36 : decode cX6_within 36 = .ok (.getfield 20, 3) := by decide +kernel
theorem dX6_within_39 : decode cX6_within 39 = .ok (.astore 5, 2) := by decide +kernel
theorem dX6_within_41 : decode cX6_within 41 = .ok (.aload 5, 2) := by decide +kernel
theorem dX6_within_43 : decode cX6_within 43 = .ok (.arraylength, 1) := by decide +kernel
theorem dX6_within_44 : decode cX6_within 44 = .ok (.istore 6, 2) := by decide +kernel
theorem dX6_within_46 : decode cX6_within 46 = .ok (.iconst 0, 1) := by decide +kernel
theorem dX6_within_47 : decode cX6_within 47 = .ok (.istore 7, 2) := by decide +kernel
theorem dX6_within_49 : decode cX6_within 49 = .ok (.iload 7, 2) := by decide +kernel
theorem dX6_within_51 : decode cX6_within 51 = .ok (.iload 6, 2) := by decide +kernel
theorem dX6_within_53 : decode cX6_within 53 = .ok (.if_icmp .ge 63, 3) := by decide +kernel
theorem dX6_within_56 : decode cX6_within 56 = .ok (.aload 5, 2) := by decide +kernel
theorem dX6_within_58 : decode cX6_within 58 = .ok (.iload 7, 2) := by decide +kernel
theorem dX6_within_60 : decode cX6_within 60 = .ok (.aaload, 1) := by decide +kernel
theorem dX6_within_61 : decode cX6_within 61 = .ok (.astore 8, 2) := by decide +kernel
theorem dX6_within_63 : decode cX6_within 63 = .ok (.aload 8, 2) := by decide +kernel
theorem dX6_within_65 : decode cX6_within 65 = .ok (.ifnull 45, 3) := by decide +kernel
theorem dX6_within_68 : decode cX6_within 68 = .ok (.aload_n 0, 1) := by decide +kernel
theorem dX6_within_69 : decode cX6_within 69 = .ok (.getfield 41, 3) := by decide +kernel
theorem dX6_within_72 : decode cX6_within 72 = .ok (.aload 8, 2) := by decide +kernel
theorem dX6_within_74 : decode cX6_within 74 = .ok (.aload_n 0, 1) := by decide +kernel
theorem dX6_within_75 : decode cX6_within 75 = .ok (.getfield 27, 3) := by decide +kernel
theorem dX6_within_78 : decode cX6_within 78 = .ok (.iload_n 3, 1) := by decide +kernel
theorem dX6_within_79 : decode cX6_within 79 = .ok (.aload_n 0, 1) := by decide +kernel
theorem dX6_within_80 : decode cX6_within 80 = .ok (.getfield 9, 3) := by decide +kernel
theorem dX6_within_83 : decode cX6_within 83 = .ok (.invokevirtual 118, 3) := by decide +kernel
theorem dX6_within_86 : decode cX6_within 86 = .ok (.iload_n 1, 1) := by decide +kernel
theorem dX6_within_87 : decode cX6_within 87 = .ok (.iload_n 2, 1) := by decide +kernel
theorem dX6_within_88 : decode cX6_within 88 = .ok (.aload_n 0, 1) := by decide +kernel
theorem dX6_within_89 : decode cX6_within 89 = .ok (.getfield 9, 3) := by decide +kernel
theorem dX6_within_92 : decode cX6_within 92 = .ok (.invokevirtual 175, 3) := by decide +kernel
theorem dX6_within_95 : decode cX6_within 95 = .ok (.ifCond .eq 15, 3) := by decide +kernel
theorem dX6_within_98 : decode cX6_within 98 = .ok (.iload 4, 2) := by decide +kernel
theorem dX6_within_100 : decode cX6_within 100 = .ok (.iconst 1, 1) := by decide +kernel
theorem dX6_within_101 : decode cX6_within 101 = .ok (.aload 8, 2) := by decide +kernel
theorem dX6_within_103 : decode cX6_within 103 = .ok (.getfield 178, 3) := by decide +kernel
theorem dX6_within_106 : decode cX6_within 106 = .ok (.ishl, 1) := by decide +kernel
theorem dX6_within_107 : decode cX6_within 107 = .ok (.ior, 1) := by decide +kernel
theorem dX6_within_108 : decode cX6_within 108 = .ok (.istore 4, 2) := by decide +kernel
theorem dX6_within_110 : decode cX6_within 110 = .ok (.iinc 7 1, 3) := by decide +kernel
theorem dX6_within_113 : decode cX6_within 113 = .ok (.goto (-64), 3) := by decide +kernel
theorem dX6_within_116 : decode cX6_within 116 = .ok (.iload 4, 2) := by decide +kernel
theorem dX6_within_118 : decode cX6_within 118 = .ok (.ireturn, 1) := by decide +kernel
theorem dX6_highest_0 : decode cX6_highest 0 = .ok (.iload_n 1, 1) := by decide +kernel
theorem dX6_highest_1 : decode cX6_highest 1 = .ok (.invokestatic 85, 3) := by decide +kernel
theorem dX6_highest_4 : decode cX6_highest 4 = .ok (.ifCond .ne 6, 3) := by decide +kernel
theorem dX6_highest_7 : decode cX6_highest 7 = .ok (.bipush (-3), 2) := by decide +kernel
theorem dX6_highest_9 : decode cX6_highest 9 = .ok (.ireturn, 1) := by decide +kernel
theorem dX6_highest_10 : decode cX6_highest 10 = .ok (.aconst_null, 1) := by decide +kernel
theorem dX6_highest_11 : decode cX6_highest 11 = .ok (.astore_n 2, 1) := by decide +kernel
theorem dX6_highest_12 : decode cX6_highest 12 = .ok (.aload_n 0, 1) := by decide +kernel
theorem dX6_highest_13 : decode cX6_highest 13 = .ok (.getfield 20, 3) := by decide +kernel
theorem dX6_highest_16 : decode cX6_highest 16 = .ok (.astore_n 3, 1) := by decide +kernel
theorem dX6_highest_17 : decode cX6_highest 17 = .ok (.aload_n 3, 1) := by decide +kernel
theorem dX6_highest_18 : decode cX6_highest 18 = .ok (.arraylength, 1) := by decide +kernel
theorem dX6_highest_19 : decode cX6_highest 19 = .ok (.istore 4, 2) := by decide +kernel
theorem dX6_highest_21 : decode cX6_highest 21 = .ok (.iconst 0, 1) := by decide +kernel
theorem dX6_highest_22 : decode cX6_highest 22 = .ok (.istore 5, 2) := by decide +kernel
theorem dX6_highest_24 : decode cX6_highest 24 = .ok (.iload 5, 2) := by decide +kernel
theorem dX6_highest_26 : decode cX6_highest 26 = .ok (.iload 4, 2) := by decide +kernel
theorem dX6_highest_28 : decode cX6_highest 28 = .ok (.if_icmp .ge 38, 3) := by decide +kernel
theorem dX6_highest_31 : decode cX6_highest 31 = .ok (.aload_n 3, 1) := by decide +kernel
