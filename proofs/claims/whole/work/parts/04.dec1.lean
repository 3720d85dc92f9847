theorem dX0_init_0 : decode cX0_init 0 = .ok (.aload_n 0, 1) := by decide +kernel
theorem dX0_init_1 : decode cX0_init 1 = .ok (.invokespecial 3, 3) := by decide +kernel
theorem dX0_init_4 : decode cX0_init 4 = .ok (.aload_n 0, 1) := by decide +kernel
theorem dX0_init_5 : decode cX0_init 5 = .ok (.iconst 5, 1) := by decide +kernel
theorem dX0_init_6 : decode cX0_init 6 = .ok (.anewarray 9, 3) := by decide +kernel
theorem dX0_init_9 : decode cX0_init 9 = .ok (.putfield 11, 3) := by decide +kernel
theorem dX0_init_12 : decode cX0_init 12 = .ok (.aload_n 0, 1) := by decide +kernel
theorem dX0_init_13 : decode cX0_init 13 = .ok (.iconst 0, 1) := by decide +kernel
theorem dX0_init_14 : decode cX0_init 14 = .ok (.putfield 17, 3) := by decide +kernel
theorem dX0_init_17 : decode cX0_init 17 = .ok (.iconst 0, 1) := by decide +kernel
theorem dX0_init_18 : decode cX0_init 18 = .ok (.istore_n 1, 1) := by decide +kernel
theorem dX0_init_19 : decode cX0_init 19 = .ok (.iload_n 1, 1) := by decide +kernel
theorem dX0_init_20 : decode cX0_init 20 = .ok (.iconst 5, 1) := by decide +kernel
theorem dX0_init_21 : decode cX0_init 21 = .ok (.if_icmp .ge 22, 3) := by decide +kernel
theorem dX0_init_24 : decode cX0_init 24 = .ok (.aload_n 0, 1) := by decide +kernel
theorem dX0_init_25 : decode cX0_init 25 = .ok (.getfield 11, 3) := by decide +kernel
theorem dX0_init_28 : decode cX0_init 28 = .ok (.iload_n 1, 1) := by decide +kernel
theorem dX0_init_29 : decode cX0_init 29 = .ok (.new 9, 3) := by decide +kernel
theorem dX0_init_32 : decode cX0_init 32 = .ok (.dup, 1) := by decide +kernel
theorem dX0_init_33 : decode cX0_init 33 = .ok (.invokespecial 21, 3) := by decide +kernel
theorem dX0_init_36 : decode cX0_init 36 = .ok (.aastore, 1) := by decide +kernel
theorem dX0_init_37 : decode cX0_init 37 = .ok (.iinc 1 1, 3) := by decide +kernel
theorem dX0_init_40 : decode cX0_init 40 = .ok (.goto (-21), 3) := by decide +kernel
theorem dX0_init_43 : decode cX0_init 43 = .ok (.return_, 1) := by decide +kernel
theorem dX0_keep_0 : decode cX0_keep 0 = .ok (.aload_n 0, 1) := by decide +kernel
theorem dX0_keep_1 : decode cX0_keep 1 = .ok (.getfield 17, 3) := by decide +kernel
theorem dX0_keep_4 : decode cX0_keep 4 = .ok (.iconst 5, 1) := by decide +kernel
theorem dX0_keep_5 : decode cX0_keep 5 = .ok (.if_icmp .lt 7, 3) := by decide +kernel
theorem dX0_keep_8 : decode cX0_keep 8 = .ok (.aload_n 0, 1) := by decide +kernel
theorem dX0_keep_9 : decode cX0_keep 9 = .ok (.invokevirtual 22, 3) := by decide +kernel
theorem dX0_keep_12 : decode cX0_keep 12 = .ok (.aload_n 0, 1) := by decide +kernel
theorem dX0_keep_13 : decode cX0_keep 13 = .ok (.getfield 11, 3) := by decide +kernel
theorem dX0_keep_16 : decode cX0_keep 16 = .ok (.aload_n 0, 1) := by decide +kernel
theorem dX0_keep_17 : decode cX0_keep 17 = .ok (.getfield 17, 3) := by decide +kernel
theorem dX0_keep_20 : decode cX0_keep 20 = .ok (.aaload, 1) := by decide +kernel
theorem dX0_keep_21 : decode cX0_keep 21 = .ok (.aload_n 1, 1) := by decide +kernel
theorem dX0_keep_22 : decode cX0_keep 22 = .ok (.invokevirtual 25, 3) := by decide +kernel
theorem dX0_keep_25 : decode cX0_keep 25 = .ok (.aload_n 0, 1) := by decide +kernel
theorem dX0_keep_26 : decode cX0_keep 26 = .ok (.dup, 1) := by decide +kernel
theorem dX0_keep_27 : decode cX0_keep 27 = .ok (.getfield 17, 3) := by decide +kernel
theorem dX0_keep_30 : decode cX0_keep 30 = .ok (.iconst 1, 1) := by decide +kernel
theorem dX0_keep_31 : decode cX0_keep 31 = .ok (.iadd, 1) := by decide +kernel
theorem dX0_keep_32 : decode cX0_keep 32 = .ok (.putfield 17, 3) := by decide +kernel
theorem dX0_keep_35 : decode cX0_keep 35 = .ok (.return_, 1) := by decide +kernel
theorem dX0_restore_0 : decode cX0_restore 0 = .ok (.aload_n 0, 1) := by decide +kernel
theorem dX0_restore_1 : decode cX0_restore 1 = .ok (.getfield 17, 3) := by decide +kernel
theorem dX0_restore_4 : decode cX0_restore 4 = .ok (.ifCond .le 34, 3) := by decide +kernel
theorem dX0_restore_7 : decode cX0_restore 7 = .ok (.aload_n 0, 1) := by decide +kernel
theorem dX0_restore_8 : decode cX0_restore 8 = .ok (.getfield 17, 3) := by decide +kernel
theorem dX0_restore_11 : decode cX0_restore 11 = .ok (.iconst 5, 1) := by decide +kernel
theorem dX0_restore_12 : decode cX0_restore 12 = .ok (.if_icmp .gt 26, 3) := by decide +kernel
theorem dX0_restore_15 : decode cX0_restore 15 = .ok (.aload_n 0, 1) := by decide +kernel
theorem dX0_restore_16 : decode cX0_restore 16 = .ok (.dup, 1) := by decide +kernel
theorem dX0_restore_17 : decode cX0_restore 17 = .ok (.getfield 17, 3) := by decide +kernel
theorem dX0_restore_20 : decode cX0_restore 20 = .ok (.iconst 1, 1) := by decide +kernel
theorem dX0_restore_21 : decode cX0_restore 21 = .ok (.isub, 1) := by decide +kernel
theorem dX0_restore_22 : decode cX0_restore 22 = .ok (.putfield 17, 3) := by decide +kernel
theorem dX0_restore_25 : decode cX0_restore 25 = .ok (.aload_n 1, 1) := by decide +kernel
theorem dX0_restore_26 : decode cX0_restore 26 = .ok (.aload_n 0, 1) := by decide +kernel
theorem dX0_restore_27 : decode cX0_restore 27 = .ok (.getfield 11, 3) := by decide +kernel
theorem dX0_restore_30 : decode cX0_restore 30 = .ok (.aload_n 0, 1) := by decide +kernel
theorem dX0_restore_31 : decode cX0_restore 31 = .ok (.getfield 17, 3) := by decide +kernel
theorem dX0_restore_34 : decode cX0_restore 34 = .ok (.aaload, 1) := by decide +kernel
theorem dX0_restore_35 : decode cX0_restore 35 = .ok (.invokevirtual 25, 3) := by decide +kernel
theorem dX0_restore_38 : decode cX0_restore 38 = .ok (.return_, 1) := by decide +kernel
theorem dX0_dropOldest_0 : decode cX0_dropOldest 0 = .ok (.aload_n 0, 1) := by decide +kernel
theorem dX0_dropOldest_1 : decode cX0_dropOldest 1 = .ok (.getfield 11, 3) := by decide +kernel
theorem dX0_dropOldest_4 : decode cX0_dropOldest 4 = .ok (.iconst 0, 1) := by decide +kernel
theorem dX0_dropOldest_5 : decode cX0_dropOldest 5 = .ok (.aaload, 1) := by decide +kernel
theorem dX0_dropOldest_6 : decode cX0_dropOldest 6 = .ok (.astore_n 1, 1) := by decide +kernel
theorem dX0_dropOldest_7 : decode cX0_dropOldest 7 = .ok (.iconst 1, 1) := by decide +kernel
theorem dX0_dropOldest_8 : decode cX0_dropOldest 8 = .ok (.istore_n 2, 1) := by decide +kernel
theorem dX0_dropOldest_9 : decode cX0_dropOldest 9 = .ok (.iload_n 2, 1) := by decide +kernel
theorem dX0_dropOldest_10 : decode cX0_dropOldest 10 = .ok (.iconst 5, 1) := by decide +kernel
theorem dX0_dropOldest_11 : decode cX0_dropOldest 11 = .ok (.if_icmp .ge 23, 3) := by decide +kernel
theorem dX0_dropOldest_14 : decode cX0_dropOldest 14 = .ok (.aload_n 0, 1) := by decide +kernel
theorem dX0_dropOldest_15 : decode cX0_dropOldest 15 = .ok (.getfield 11, 3) := by decide +kernel
theorem dX0_dropOldest_18 : decode cX0_dropOldest 18 = .ok (.iload_n 2, 1) := by decide +kernel
theorem dX0_dropOldest_19 : decode cX0_dropOldest 19 = .ok (.iconst 1, 1) := by decide +kernel
theorem dX0_dropOldest_20 : decode cX0_dropOldest 20 = .ok (.isub, 1) := by decide +kernel
theorem dX0_dropOldest_21 : decode cX0_dropOldest 21 = .ok (.aload_n 0, 1) := by decide +kernel
theorem dX0_dropOldest_22 : decode cX0_dropOldest 22 = .ok (.getfield 11, 3) := by decide +kernel
theorem dX0_dropOldest_25 : decode cX0_dropOldest 25 = .ok (.iload_n 2, 1) := by decide +kernel
theorem dX0_dropOldest_26 : decode cX0_dropOldest 26 = .ok (.aaload, 1) := by decide +kernel
theorem dX0_dropOldest_27 : decode cX0_dropOldest 27 = .ok (.aastore, 1) := by decide +kernel
theorem dX0_dropOldest_28 : decode cX0_dropOldest 28 = .ok (.iinc 2 1, 3) := by decide +kernel
theorem dX0_dropOldest_31 : decode cX0_dropOldest 31 = .ok (.goto (-22), 3) := by decide +kernel
theorem dX0_dropOldest_34 : decode cX0_dropOldest 34 = .ok (.aload_n 0, 1) := by decide +kernel
theorem dX0_dropOldest_35 : decode cX0_dropOldest 35 = .ok (.getfield 11, 3) := by decide +kernel
theorem dX0_dropOldest_38 : decode cX0_dropOldest 38 = .ok (.iconst 4, 1) := by decide +kernel
theorem dX0_dropOldest_39 : decode cX0_dropOldest 39 = .ok (.aload_n 1, 1) := by decide +kernel
theorem dX0_dropOldest_40 : decode cX0_dropOldest 40 = .ok (.aastore, 1) := by decide +kernel
theorem dX0_dropOldest_41 : decode cX0_dropOldest 41 = .ok (.aload_n 0, 1) := by decide +kernel
theorem dX0_dropOldest_42 : decode cX0_dropOldest 42 = .ok (.iconst 4, 1) := by decide +kernel
theorem dX0_dropOldest_43 : decode cX0_dropOldest 43 = .ok (.putfield 17, 3) := by decide +kernel
theorem dX0_dropOldest_46 : decode cX0_dropOldest 46 = .ok (.return_, 1) := by decide +kernel
theorem dX1_init_0 : decode cX1_init 0 = .ok (.aload_n 0, 1) := by decide +kernel
theorem dX1_init_1 : decode cX1_init 1 = .ok (.invokespecial 3, 3) := by decide +kernel
theorem dX1_init_4 : decode cX1_init 4 = .ok (.aload_n 0, 1) := by decide +kernel
theorem dX1_init_5 : decode cX1_init 5 = .ok (.sipush (-10001), 3) := by decide +kernel
theorem dX1_init_8 : decode cX1_init 8 = .ok (.putfield 9, 3) := by decide +kernel
theorem dX1_init_11 : decode cX1_init 11 = .ok (.aload_n 0, 1) := by decide +kernel
theorem dX1_init_12 : decode cX1_init 12 = .ok (.iconst 0, 1) := by decide +kernel
theorem dX1_init_13 : decode cX1_init 13 = .ok (.putfield 15, 3) := by decide +kernel
theorem dX1_init_16 : decode cX1_init 16 = .ok (.aload_n 0, 1) := by decide +kernel
theorem dX1_init_17 : decode cX1_init 17 = .ok (.iconst 0, 1) := by decide +kernel
theorem dX1_init_18 : decode cX1_init 18 = .ok (.putfield 18, 3) := by decide +kernel
theorem dX1_init_21 : decode cX1_init 21 = .ok (.aload_n 0, 1) := by decide +kernel
theorem dX1_init_22 : decode cX1_init 22 = .ok (.iconst 0, 1) := by decide +kernel
theorem dX1_init_23 : decode cX1_init 23 = .ok (.putfield 21, 3) := by decide +kernel
theorem dX1_init_26 : decode cX1_init 26 = .ok (.aload_n 0, 1) := by decide +kernel
theorem dX1_init_27 : decode cX1_init 27 = .ok (.iconst 0, 1) := by decide +kernel
theorem dX1_init_28 : decode cX1_init 28 = .ok (.putfield 24, 3) := by decide +kernel
theorem dX1_init_31 : decode cX1_init 31 = .ok (.aload_n 0, 1) := by decide +kernel
theorem dX1_init_32 : decode cX1_init 32 = .ok (.iconst 0, 1) := by decide +kernel
theorem dX1_init_33 : decode cX1_init 33 = .ok (.putfield 27, 3) := by decide +kernel
theorem dX1_init_36 : decode cX1_init 36 = .ok (.aload_n 0, 1) := by decide +kernel
theorem dX1_init_37 : decode cX1_init 37 = .ok (.bipush 8, 2) := by decide +kernel
theorem dX1_init_39 : decode cX1_init 39 = .ok (.newarray .byte, 2) := by decide +kernel
theorem dX1_init_41 : decode cX1_init 41 = .ok (.putfield 30, 3) := by decide +kernel
theorem dX1_init_44 : decode cX1_init 44 = .ok (.return_, 1) := by decide +kernel
theorem dX1_takeName_0 : decode cX1_takeName 0 = .ok (.aload_n 0, 1) := by decide +kernel
theorem dX1_takeName_1 : decode cX1_takeName 1 = .ok (.aload_n 1, 1) := by decide +kernel
theorem dX1_takeName_2 : decode cX1_takeName 2 = .ok (.iconst 0, 1) := by decide +kernel
theorem dX1_takeName_3 : decode cX1_takeName 3 = .ok (.invokevirtual 34, 3) := by decide +kernel
theorem dX1_takeName_6 : decode cX1_takeName 6 = .ok (.putfield 24, 3) := by decide +kernel
theorem dX1_takeName_9 : decode cX1_takeName 9 = .ok (.aload_n 0, 1) := by decide +kernel
theorem dX1_takeName_10 : decode cX1_takeName 10 = .ok (.aload_n 1, 1) := by decide +kernel
theorem dX1_takeName_11 : decode cX1_takeName 11 = .ok (.getfield 40, 3) := by decide +kernel
theorem dX1_takeName_14 : decode cX1_takeName 14 = .ok (.putfield 27, 3) := by decide +kernel
theorem dX1_takeName_17 : decode cX1_takeName 17 = .ok (.iconst 0, 1) := by decide +kernel
theorem dX1_takeName_18 : decode cX1_takeName 18 = .ok (.istore_n 2, 1) := by decide +kernel
theorem dX1_takeName_19 : decode cX1_takeName 19 = .ok (.iload_n 2, 1) := by decide +kernel
theorem dX1_takeName_20 : decode cX1_takeName 20 = .ok (.aload_n 0, 1) := by decide +kernel
theorem dX1_takeName_21 : decode cX1_takeName 21 = .ok (.getfield 27, 3) := by decide +kernel
theorem dX1_takeName_24 : decode cX1_takeName 24 = .ok (.if_icmp .ge 27, 3) := by decide +kernel
theorem dX1_takeName_27 : decode cX1_takeName 27 = .ok (.iload_n 2, 1) := by decide +kernel
theorem dX1_takeName_28 : decode cX1_takeName 28 = .ok (.bipush 8, 2) := by decide +kernel
theorem dX1_takeName_30 : decode cX1_takeName 30 = .ok (.if_icmp .ge 21, 3) := by decide +kernel
theorem dX1_takeName_33 : decode cX1_takeName 33 = .ok (.aload_n 0, 1) := by decide +kernel
theorem dX1_takeName_34 : decode cX1_takeName 34 = .ok (.getfield 30, 3) := by decide +kernel
theorem dX1_takeName_37 : decode cX1_takeName 37 = .ok (.iload_n 2, 1) := by decide +kernel
theorem dX1_takeName_38 : decode cX1_takeName 38 = .ok (.aload_n 1, 1) := by decide +kernel
theorem dX1_takeName_39 : decode cX1_takeName 39 = .ok (.iload_n 2, 1) := by decide +kernel
theorem dX1_takeName_40 : decode cX1_takeName 40 = .ok (.invokevirtual 43, 3) := by decide +kernel
theorem dX1_takeName_43 : decode cX1_takeName 43 = .ok (.i2b, 1) := by decide +kernel
theorem dX1_takeName_44 : decode cX1_takeName 44 = .ok (.bastore, 1) := by decide +kernel
theorem dX1_takeName_45 : decode cX1_takeName 45 = .ok (.iinc 2 1, 3) := by decide +kernel
theorem dX1_takeName_48 : decode cX1_takeName 48 = .ok (.goto (-29), 3) := by decide +kernel
theorem dX1_takeName_51 : decode cX1_takeName 51 = .ok (.return_, 1) := by decide +kernel
theorem dX1_isFitBy_0 : decode cX1_isFitBy 0 = .ok (.iload 4, 2) := by decide +kernel
theorem dX1_isFitBy_2 : decode cX1_isFitBy 2 = .ok (.aload_n 0, 1) := by decide +kernel
theorem dX1_isFitBy_3 : decode cX1_isFitBy 3 = .ok (.getfield 18, 3) := by decide +kernel
theorem dX1_isFitBy_6 : decode cX1_isFitBy 6 = .ok (.if_icmp .gt 9, 3) := by decide +kernel
theorem dX1_isFitBy_9 : decode cX1_isFitBy 9 = .ok (.iload_n 3, 1) := by decide +kernel
theorem dX1_isFitBy_10 : decode cX1_isFitBy 10 = .ok (.bipush 8, 2) := by decide +kernel
theorem dX1_isFitBy_12 : decode cX1_isFitBy 12 = .ok (.if_icmp .le 5, 3) := by decide +kernel
theorem dX1_isFitBy_15 : decode cX1_isFitBy 15 = .ok (.iconst 0, 1) := by decide +kernel
theorem dX1_isFitBy_16 : decode cX1_isFitBy 16 = .ok (.ireturn, 1) := by decide +kernel
theorem dX1_isFitBy_17 : decode cX1_isFitBy 17 = .ok (.iload_n 3, 1) := by decide +kernel
theorem dX1_isFitBy_18 : decode cX1_isFitBy 18 = .ok (.aload_n 0, 1) := by decide +kernel
theorem dX1_isFitBy_19 : decode cX1_isFitBy 19 = .ok (.getfield 24, 3) := by decide +kernel
theorem dX1_isFitBy_22 : decode cX1_isFitBy 22 = .ok (.if_icmp .eq 13, 3) := by decide +kernel
theorem dX1_isFitBy_25 : decode cX1_isFitBy 25 = .ok (.iload_n 3, 1) := by decide +kernel
theorem dX1_isFitBy_26 : decode cX1_isFitBy 26 = .ok (.aload_n 0, 1) := by decide +kernel
theorem dX1_isFitBy_27 : decode cX1_isFitBy 27 = .ok (.getfield 27, 3) := by decide +kernel
theorem dX1_isFitBy_30 : decode cX1_isFitBy 30 = .ok (.if_icmp .eq 5, 3) := by decide +kernel
theorem dX1_isFitBy_33 : decode cX1_isFitBy 33 = .ok (.iconst 0, 1) := by decide +kernel
theorem dX1_isFitBy_34 : decode cX1_isFitBy 34 = .ok (.ireturn, 1) := by decide +kernel
theorem dX1_isFitBy_35 : decode cX1_isFitBy 35 = .ok (.iconst 0, 1) := by decide +kernel
theorem dX1_isFitBy_36 : decode cX1_isFitBy 36 = .ok (.istore 5, 2) := by decide +kernel
theorem dX1_isFitBy_38 : decode cX1_isFitBy 38 = .ok (.iload 5, 2) := by decide +kernel
theorem dX1_isFitBy_40 : decode cX1_isFitBy 40 = .ok (.iload_n 3, 1) := by decide +kernel
theorem dX1_isFitBy_41 : decode cX1_isFitBy 41 = .ok (.if_icmp .ge 29, 3) := by decide +kernel
theorem dX1_isFitBy_44 : decode cX1_isFitBy 44 = .ok (.aload_n 1, 1) := by decide +kernel
theorem dX1_isFitBy_45 : decode cX1_isFitBy 45 = .ok (.iload_n 2, 1) := by decide +kernel
theorem dX1_isFitBy_46 : decode cX1_isFitBy 46 = .ok (.iload 5, 2) := by decide +kernel
theorem dX1_isFitBy_48 : decode cX1_isFitBy 48 = .ok (.iadd, 1) := by decide +kernel
theorem dX1_isFitBy_49 : decode cX1_isFitBy 49 = .ok (.invokevirtual 43, 3) := by decide +kernel
theorem dX1_isFitBy_52 : decode cX1_isFitBy 52 = .ok (.aload_n 0, 1) := by decide +kernel
theorem dX1_isFitBy_53 : decode cX1_isFitBy 53 = .ok (.getfield 30, 3) := by decide +kernel
theorem dX1_isFitBy_56 : decode cX1_isFitBy 56 = .ok (.iload 5, 2) := by decide +kernel
theorem dX1_isFitBy_58 : decode cX1_isFitBy 58 = .ok (.baload, 1) := by decide +kernel
theorem dX1_isFitBy_59 : decode cX1_isFitBy 59 = .ok (.if_icmp .eq 5, 3) := by decide +kernel
theorem dX1_isFitBy_62 : decode cX1_isFitBy 62 = .ok (.iconst 0, 1) := by decide +kernel
theorem dX1_isFitBy_63 : decode cX1_isFitBy 63 = .ok (.ireturn, 1) := by decide +kernel
theorem dX1_isFitBy_64 : decode cX1_isFitBy 64 = .ok (.iinc 5 1, 3) := by decide +kernel
theorem dX1_isFitBy_67 : decode cX1_isFitBy 67 = .ok (.goto (-29), 3) := by decide +kernel
theorem dX1_isFitBy_70 : decode cX1_isFitBy 70 = .ok (.iconst 1, 1) := by decide +kernel
theorem dX1_isFitBy_71 : decode cX1_isFitBy 71 = .ok (.ireturn, 1) := by decide +kernel
theorem dX2_init_0 : decode cX2_init 0 = .ok (.aload_n 0, 1) := by decide +kernel
theorem dX2_init_1 : decode cX2_init 1 = .ok (.invokespecial 3, 3) := by decide +kernel
theorem dX2_init_4 : decode cX2_init 4 = .ok (.aload_n 0, 1) := by decide +kernel
theorem dX2_init_5 : decode cX2_init 5 = .ok (.iconst 0, 1) := by decide +kernel
theorem dX2_init_6 : decode cX2_init 6 = .ok (.putfield 9, 3) := by decide +kernel
theorem dX2_init_9 : decode cX2_init 9 = .ok (.aload_n 0, 1) := by decide +kernel
theorem dX2_init_10 : decode cX2_init 10 = .ok (.iload_n 1, 1) := by decide +kernel
theorem dX2_init_11 : decode cX2_init 11 = .ok (.iconst 1, 1) := by decide +kernel
theorem dX2_init_12 : decode cX2_init 12 = .ok (.invokestatic 15, 3) := by decide +kernel
theorem dX2_init_15 : decode cX2_init 15 = .ok (.newarray .int, 2) := by decide +kernel
theorem dX2_init_17 : decode cX2_init 17 = .ok (.putfield 21, 3) := by decide +kernel
theorem dX2_init_20 : decode cX2_init 20 = .ok (.return_, 1) := by decide +kernel
theorem dX2_add_0 : decode cX2_add 0 = .ok (.aload_n 0, 1) := by decide +kernel
theorem dX2_add_1 : decode cX2_add 1 = .ok (.getfield 9, 3) := by decide +kernel
theorem dX2_add_4 : decode cX2_add 4 = .ok (.ifCond .lt 15, 3) := by decide +kernel
theorem dX2_add_7 : decode cX2_add 7 = .ok (.aload_n 0, 1) := by decide +kernel
theorem dX2_add_8 : decode cX2_add 8 = .ok (.getfield 9, 3) := by decide +kernel
theorem dX2_add_11 : decode cX2_add 11 = .ok (.aload_n 0, 1) := by decide +kernel
theorem dX2_add_12 : decode cX2_add 12 = .ok (.getfield 21, 3) := by decide +kernel
theorem dX2_add_15 : decode cX2_add 15 = .ok (.arraylength, 1) := by decide +kernel
theorem dX2_add_16 : decode cX2_add 16 = .ok (.if_icmp .lt 5, 3) := by decide +kernel
theorem dX2_add_19 : decode cX2_add 19 = .ok (.iconst 0, 1) := by decide +kernel
theorem dX2_add_20 : decode cX2_add 20 = .ok (.ireturn, 1) := by decide +kernel
theorem dX2_add_21 : decode cX2_add 21 = .ok (.aload_n 0, 1) := by decide +kernel
theorem dX2_add_22 : decode cX2_add 22 = .ok (.getfield 21, 3) := by decide +kernel
theorem dX2_add_25 : decode cX2_add 25 = .ok (.aload_n 0, 1) := by decide +kernel
theorem dX2_add_26 : decode cX2_add 26 = .ok (.getfield 9, 3) := by decide +kernel
theorem dX2_add_29 : decode cX2_add 29 = .ok (.iload_n 1, 1) := by decide +kernel
theorem dX2_add_30 : decode cX2_add 30 = .ok (.iastore, 1) := by decide +kernel
theorem dX2_add_31 : decode cX2_add 31 = .ok (.aload_n 0, 1) := by decide +kernel
theorem dX2_add_32 : decode cX2_add 32 = .ok (.dup, 1) := by decide +kernel
theorem dX2_add_33 : decode cX2_add 33 = .ok (.getfield 9, 3) := by decide +kernel
theorem dX2_add_36 : decode cX2_add 36 = .ok (.iconst 1, 1) := by decide +kernel
theorem dX2_add_37 : decode cX2_add 37 = .ok (.iadd, 1) := by decide +kernel
theorem dX2_add_38 : decode cX2_add 38 = .ok (.putfield 9, 3) := by decide +kernel
theorem dX2_add_41 : decode cX2_add 41 = .ok (.iconst 1, 1) := by decide +kernel
theorem dX2_add_42 : decode cX2_add 42 = .ok (.ireturn, 1) := by decide +kernel
theorem dX2_at_0 : decode cX2_at 0 = .ok (.iload_n 1, 1) := by decide +kernel
theorem dX2_at_1 : decode cX2_at 1 = .ok (.ifCond .lt 29, 3) := by decide +kernel
theorem dX2_at_4 : decode cX2_at 4 = .ok (.iload_n 1, 1) := by decide +kernel
theorem dX2_at_5 : decode cX2_at 5 = .ok (.aload_n 0, 1) := by decide +kernel
theorem dX2_at_6 : decode cX2_at 6 = .ok (.getfield 9, 3) := by decide +kernel
theorem dX2_at_9 : decode cX2_at 9 = .ok (.if_icmp .ge 21, 3) := by decide +kernel
theorem dX2_at_12 : decode cX2_at 12 = .ok (.iload_n 1, 1) := by decide +kernel
theorem dX2_at_13 : decode cX2_at 13 = .ok (.aload_n 0, 1) := by decide +kernel
theorem dX2_at_14 : decode cX2_at 14 = .ok (.getfield 21, 3) := by decide +kernel
theorem dX2_at_17 : decode cX2_at 17 = .ok (.arraylength, 1) := by decide +kernel
theorem dX2_at_18 : decode cX2_at 18 = .ok (.if_icmp .ge 12, 3) := by decide +kernel
theorem dX2_at_21 : decode cX2_at 21 = .ok (.aload_n 0, 1) := by decide +kernel
theorem dX2_at_22 : decode cX2_at 22 = .ok (.getfield 21, 3) := by decide +kernel
theorem dX2_at_25 : decode cX2_at 25 = .ok (.iload_n 1, 1) := by decide +kernel
theorem dX2_at_26 : decode cX2_at 26 = .ok (.iaload, 1) := by decide +kernel
theorem dX2_at_27 : decode cX2_at 27 = .ok (.goto 6, 3) := by decide +kernel
theorem dX2_at_30 : decode cX2_at 30 = .ok (.sipush (-10001), 3) := by decide +kernel
theorem dX2_at_33 : decode cX2_at 33 = .ok (.ireturn, 1) := by decide +kernel
theorem dX2_removeAt_0 : decode cX2_removeAt 0 = .ok (.iload_n 1, 1) := by decide +kernel
theorem dX2_removeAt_1 : decode cX2_removeAt 1 = .ok (.iconst 0, 1) := by decide +kernel
theorem dX2_removeAt_2 : decode cX2_removeAt 2 = .ok (.aload_n 0, 1) := by decide +kernel
theorem dX2_removeAt_3 : decode cX2_removeAt 3 = .ok (.getfield 9, 3) := by decide +kernel
theorem dX2_removeAt_6 : decode cX2_removeAt 6 = .ok (.iconst 1, 1) := by decide +kernel
theorem dX2_removeAt_7 : decode cX2_removeAt 7 = .ok (.isub, 1) := by decide +kernel
theorem dX2_removeAt_8 : decode cX2_removeAt 8 = .ok (.invokestatic 25, 3) := by decide +kernel
theorem dX2_removeAt_11 : decode cX2_removeAt 11 = .ok (.ifCond .ne 7, 3) := by decide +kernel
theorem dX2_removeAt_14 : decode cX2_removeAt 14 = .ok (.sipush (-10001), 3) := by decide +kernel
theorem dX2_removeAt_17 : decode cX2_removeAt 17 = .ok (.ireturn, 1) := by decide +kernel
theorem dX2_removeAt_18 : decode cX2_removeAt 18 = .ok (.aload_n 0, 1) := by decide +kernel
theorem dX2_removeAt_19 : decode cX2_removeAt 19 = .ok (.iload_n 1, 1) := by decide +kernel
theorem dX2_removeAt_20 : decode cX2_removeAt 20 = .ok (.invokevirtual 29, 3) := by decide +kernel
theorem dX2_removeAt_23 : decode cX2_removeAt 23 = .ok (.istore_n 2, 1) := by decide +kernel
theorem dX2_removeAt_24 : decode cX2_removeAt 24 = .ok (.iload_n 1, 1) := by decide +kernel
theorem dX2_removeAt_25 : decode cX2_removeAt 25 = .ok (.iconst 1, 1) := by decide +kernel
theorem dX2_removeAt_26 : decode cX2_removeAt 26 = .ok (.iadd, 1) := by decide +kernel
theorem dX2_removeAt_27 : decode cX2_removeAt 27 = .ok (.istore_n 3, 1) := by decide +kernel
theorem dX2_removeAt_28 : decode cX2_removeAt 28 = .ok (.iload_n 3, 1) := by decide +kernel
theorem dX2_removeAt_29 : decode cX2_removeAt 29 = .ok (.aload_n 0, 1) := by decide +kernel
theorem dX2_removeAt_30 : decode cX2_removeAt 30 = .ok (.getfield 9, 3) := by decide +kernel
theorem dX2_removeAt_33 : decode cX2_removeAt 33 = .ok (.if_icmp .ge 32, 3) := by decide +kernel
theorem dX2_removeAt_36 : decode cX2_removeAt 36 = .ok (.iload_n 3, 1) := by decide +kernel
theorem dX2_removeAt_37 : decode cX2_removeAt 37 = .ok (.aload_n 0, 1) := by decide +kernel
theorem dX2_removeAt_38 : decode cX2_removeAt 38 = .ok (.getfield 21, 3) := by decide +kernel
theorem dX2_removeAt_41 : decode cX2_removeAt 41 = .ok (.arraylength, 1) := by decide +kernel
theorem dX2_removeAt_42 : decode cX2_removeAt 42 = .ok (.if_icmp .ge 23, 3) := by decide +kernel
theorem dX2_removeAt_45 : decode cX2_removeAt 45 = .ok (.aload_n 0, 1) := by decide +kernel
theorem dX2_removeAt_46 : decode cX2_removeAt 46 = .ok (.getfield 21, 3) := by decide +kernel
theorem dX2_removeAt_49 : decode cX2_removeAt 49 = .ok (.iload_n 3, 1) := by decide +kernel
theorem dX2_removeAt_50 : decode cX2_removeAt 50 = .ok (.iconst 1, 1) := by decide +kernel
theorem dX2_removeAt_51 : decode cX2_removeAt 51 = .ok (.isub, 1) := by decide +kernel
theorem dX2_removeAt_52 : decode cX2_removeAt 52 = .ok (.aload_n 0, 1) := by decide +kernel
theorem dX2_removeAt_53 : decode cX2_removeAt 53 = .ok (.getfield 21, 3) := by decide +kernel
theorem dX2_removeAt_56 : decode cX2_removeAt 56 = .ok (.iload_n 3, 1) := by decide +kernel
theorem dX2_removeAt_57 : decode cX2_removeAt 57 = .ok (.iaload, 1) := by decide +kernel
theorem dX2_removeAt_58 : decode cX2_removeAt 58 = .ok (.iastore, 1) := by decide +kernel
theorem dX2_removeAt_59 : decode cX2_removeAt 59 = .ok (.iinc 3 1, 3) := by decide +kernel
theorem dX2_removeAt_62 : decode cX2_removeAt 62 = .ok (.goto (-34), 3) := by decide +kernel
theorem dX2_removeAt_65 : decode cX2_removeAt 65 = .ok (.aload_n 0, 1) := by decide +kernel
theorem dX2_removeAt_66 : decode cX2_removeAt 66 = .ok (.dup, 1) := by decide +kernel
theorem dX2_removeAt_67 : decode cX2_removeAt 67 = .ok (.getfield 9, 3) := by decide +kernel
theorem dX2_removeAt_70 : decode cX2_removeAt 70 = .ok (.iconst 1, 1) := by decide +kernel
theorem dX2_removeAt_71 : decode cX2_removeAt 71 = .ok (.isub, 1) := by decide +kernel
theorem dX2_removeAt_72 : decode cX2_removeAt 72 = .ok (.putfield 9, 3) := by decide +kernel
theorem dX2_removeAt_75 : decode cX2_removeAt 75 = .ok (.iload_n 2, 1) := by decide +kernel
theorem dX2_removeAt_76 : decode cX2_removeAt 76 = .ok (.ireturn, 1) := by decide +kernel
theorem dX2_changeLast_0 : decode cX2_changeLast 0 = .ok (.aload_n 0, 1) := by decide +kernel
theorem dX2_changeLast_1 : decode cX2_changeLast 1 = .ok (.getfield 9, 3) := by decide +kernel
theorem dX2_changeLast_4 : decode cX2_changeLast 4 = .ok (.ifCond .le 27, 3) := by decide +kernel
theorem dX2_changeLast_7 : decode cX2_changeLast 7 = .ok (.aload_n 0, 1) := by decide +kernel
theorem dX2_changeLast_8 : decode cX2_changeLast 8 = .ok (.getfield 9, 3) := by decide +kernel
theorem dX2_changeLast_11 : decode cX2_changeLast 11 = .ok (.aload_n 0, 1) := by decide +kernel
theorem dX2_changeLast_12 : decode cX2_changeLast 12 = .ok (.getfield 21, 3) := by decide +kernel
theorem dX2_changeLast_15 : decode cX2_changeLast 15 = .ok (.arraylength, 1) := by decide +kernel
theorem dX2_changeLast_16 : decode cX2_changeLast 16 = .ok (.if_icmp .gt 15, 3) := by decide +kernel
theorem dX2_changeLast_19 : decode cX2_changeLast 19 = .ok (.aload_n 0, 1) := by decide +kernel
theorem dX2_changeLast_20 : decode cX2_changeLast 20 = .ok (.getfield 21, 3) := by decide +kernel
theorem dX2_changeLast_23 : decode cX2_changeLast 23 = .ok (.aload_n 0, 1) := by decide +kernel
theorem dX2_changeLast_24 : decode cX2_changeLast 24 = .ok (.getfield 9, 3) := by decide +kernel
theorem dX2_changeLast_27 : decode cX2_changeLast 27 = .ok (.iconst 1, 1) := by decide +kernel
theorem dX2_changeLast_28 : decode cX2_changeLast 28 = .ok (.isub, 1) := by decide +kernel
theorem dX2_changeLast_29 : decode cX2_changeLast 29 = .ok (.iload_n 1, 1) := by decide +kernel
theorem dX2_changeLast_30 : decode cX2_changeLast 30 = .ok (.iastore, 1) := by decide +kernel
theorem dX2_changeLast_31 : decode cX2_changeLast 31 = .ok (.return_, 1) := by decide +kernel
theorem dX2_copyFrom_0 : decode cX2_copyFrom 0 = .ok (.iconst 0, 1) := by decide +kernel
theorem dX2_copyFrom_1 : decode cX2_copyFrom 1 = .ok (.istore_n 2, 1) := by decide +kernel
theorem dX2_copyFrom_2 : decode cX2_copyFrom 2 = .ok (.iload_n 2, 1) := by decide +kernel
theorem dX2_copyFrom_3 : decode cX2_copyFrom 3 = .ok (.aload_n 0, 1) := by decide +kernel
theorem dX2_copyFrom_4 : decode cX2_copyFrom 4 = .ok (.getfield 21, 3) := by decide +kernel
theorem dX2_copyFrom_7 : decode cX2_copyFrom 7 = .ok (.arraylength, 1) := by decide +kernel
theorem dX2_copyFrom_8 : decode cX2_copyFrom 8 = .ok (.if_icmp .ge 30, 3) := by decide +kernel
theorem dX2_copyFrom_11 : decode cX2_copyFrom 11 = .ok (.iload_n 2, 1) := by decide +kernel
theorem dX2_copyFrom_12 : decode cX2_copyFrom 12 = .ok (.aload_n 1, 1) := by decide +kernel
theorem dX2_copyFrom_13 : decode cX2_copyFrom 13 = .ok (.getfield 21, 3) := by decide +kernel
theorem dX2_copyFrom_16 : decode cX2_copyFrom 16 = .ok (.arraylength, 1) := by decide +kernel
theorem dX2_copyFrom_17 : decode cX2_copyFrom 17 = .ok (.if_icmp .ge 21, 3) := by decide +kernel
theorem dX2_copyFrom_20 : decode cX2_copyFrom 20 = .ok (.aload_n 0, 1) := by decide +kernel
theorem dX2_copyFrom_21 : decode cX2_copyFrom 21 = .ok (.getfield 21, 3) := by decide +kernel
theorem dX2_copyFrom_24 : decode cX2_copyFrom 24 = .ok (.iload_n 2, 1) := by decide +kernel
theorem dX2_copyFrom_25 : decode cX2_copyFrom 25 = .ok (.aload_n 1, 1) := by decide +kernel
theorem dX2_copyFrom_26 : decode cX2_copyFrom 26 = .ok (.getfield 21, 3) := by decide +kernel
theorem dX2_copyFrom_29 : decode cX2_copyFrom 29 = .ok (.iload_n 2, 1) := by decide +kernel
theorem dX2_copyFrom_30 : decode cX2_copyFrom 30 = .ok (.iaload, 1) := by decide +kernel
theorem dX2_copyFrom_31 : decode cX2_copyFrom 31 = .ok (.iastore, 1) := by decide +kernel
theorem dX2_copyFrom_32 : decode cX2_copyFrom 32 = .ok (.iinc 2 1, 3) := by decide +kernel
theorem dX2_copyFrom_35 : decode cX2_copyFrom 35 = .ok (.goto (-33), 3) := by decide +kernel
theorem dX2_copyFrom_38 : decode cX2_copyFrom 38 = .ok (.aload_n 0, 1) := by decide +kernel
theorem dX2_copyFrom_39 : decode cX2_copyFrom 39 = .ok (.aload_n 1, 1) := by decide +kernel
theorem dX2_copyFrom_40 : decode cX2_copyFrom 40 = .ok (.getfield 9, 3) := by decide +kernel
theorem dX2_copyFrom_43 : decode cX2_copyFrom 43 = .ok (.putfield 9, 3) := by decide +kernel
theorem dX2_copyFrom_46 : decode cX2_copyFrom 46 = .ok (.return_, 1) := by decide +kernel
theorem dX2_digestFrom_0 : decode cX2_digestFrom 0 = .ok (.lload_n 1, 1) := by decide +kernel
theorem dX2_digestFrom_1 : decode cX2_digestFrom 1 = .ok (.lstore_n 3, 1) := by decide +kernel
theorem dX2_digestFrom_2 : decode cX2_digestFrom 2 = .ok (.iconst 0, 1) := by decide +kernel
theorem dX2_digestFrom_3 : decode cX2_digestFrom 3 = .ok (.istore 5, 2) := by decide +kernel
theorem dX2_digestFrom_5 : decode cX2_digestFrom 5 = .ok (.iload 5, 2) := by decide +kernel
theorem dX2_digestFrom_7 : decode cX2_digestFrom 7 = .ok (.aload_n 0, 1) := by decide +kernel
theorem dX2_digestFrom_8 : decode cX2_digestFrom 8 = .ok (.getfield 9, 3) := by decide +kernel
theorem dX2_digestFrom_11 : decode cX2_digestFrom 11 = .ok (.if_icmp .ge 23, 3) := by decide +kernel
theorem dX2_digestFrom_14 : decode cX2_digestFrom 14 = .ok (.ldc2_w 33, 3) := by decide +kernel
theorem dX2_digestFrom_17 : decode cX2_digestFrom 17 = .ok (.lload_n 3, 1) := by decide +kernel
theorem dX2_digestFrom_18 : decode cX2_digestFrom 18 = .ok (.lmul, 1) := by decide +kernel
theorem dX2_digestFrom_19 : decode cX2_digestFrom 19 = .ok (.aload_n 0, 1) := by decide +kernel
theorem dX2_digestFrom_20 : decode cX2_digestFrom 20 = .ok (.iload 5, 2) := by decide +kernel
theorem dX2_digestFrom_22 : decode cX2_digestFrom 22 = .ok (.invokevirtual 29, 3) := by decide +kernel
theorem dX2_digestFrom_25 : decode cX2_digestFrom 25 = .ok (.i2l, 1) := by decide +kernel
theorem dX2_digestFrom_26 : decode cX2_digestFrom 26 = .ok (.ladd, 1) := by decide +kernel
theorem dX2_digestFrom_27 : decode cX2_digestFrom 27 = .ok (.lstore_n 3, 1) := by decide +kernel
theorem dX2_digestFrom_28 : decode cX2_digestFrom 28 = .ok (.iinc 5 1, 3) := by decide +kernel
theorem dX2_digestFrom_31 : decode cX2_digestFrom 31 = .ok (.goto (-26), 3) := by decide +kernel
theorem dX2_digestFrom_34 : decode cX2_digestFrom 34 = .ok (.lload_n 3, 1) := by decide +kernel
theorem dX2_digestFrom_35 : decode cX2_digestFrom 35 = .ok (.lreturn, 1) := by decide +kernel
theorem dX3_init_0 : decode cX3_init 0 = .ok (.aload_n 0, 1) := by decide +kernel
theorem dX3_init_1 : decode cX3_init 1 = .ok (.invokespecial 3, 3) := by decide +kernel
theorem dX3_init_4 : decode cX3_init 4 = .ok (.aload_n 0, 1) := by decide +kernel
theorem dX3_init_5 : decode cX3_init 5 = .ok (.iconst 1, 1) := by decide +kernel
theorem dX3_init_6 : decode cX3_init 6 = .ok (.putfield 9, 3) := by decide +kernel
theorem dX3_init_9 : decode cX3_init 9 = .ok (.aload_n 0, 1) := by decide +kernel
theorem dX3_init_10 : decode cX3_init 10 = .ok (.bipush 16, 2) := by decide +kernel
theorem dX3_init_12 : decode cX3_init 12 = .ok (.newarray .int, 2) := by decide +kernel
theorem dX3_init_14 : decode cX3_init 14 = .ok (.putfield 15, 3) := by decide +kernel
theorem dX3_init_17 : decode cX3_init 17 = .ok (.aload_n 0, 1) := by decide +kernel
theorem dX3_init_18 : decode cX3_init 18 = .ok (.bipush 16, 2) := by decide +kernel
theorem dX3_init_20 : decode cX3_init 20 = .ok (.newarray .int, 2) := by decide +kernel
theorem dX3_init_22 : decode cX3_init 22 = .ok (.putfield 19, 3) := by decide +kernel
theorem dX3_init_25 : decode cX3_init 25 = .ok (.aload_n 0, 1) := by decide +kernel
theorem dX3_init_26 : decode cX3_init 26 = .ok (.bipush 16, 2) := by decide +kernel
theorem dX3_init_28 : decode cX3_init 28 = .ok (.newarray .int, 2) := by decide +kernel
theorem dX3_init_30 : decode cX3_init 30 = .ok (.putfield 22, 3) := by decide +kernel
theorem dX3_init_33 : decode cX3_init 33 = .ok (.aload_n 0, 1) := by decide +kernel
theorem dX3_init_34 : decode cX3_init 34 = .ok (.bipush 48, 2) := by decide +kernel
theorem dX3_init_36 : decode cX3_init 36 = .ok (.newarray .int, 2) := by decide +kernel
theorem dX3_init_38 : decode cX3_init 38 = .ok (.putfield 25, 3) := by decide +kernel
theorem dX3_init_41 : decode cX3_init 41 = .ok (.aload_n 0, 1) := by decide +kernel
theorem dX3_init_42 : decode cX3_init 42 = .ok (.new 28, 3) := by decide +kernel
theorem dX3_init_45 : decode cX3_init 45 = .ok (.dup, 1) := by decide +kernel
theorem dX3_init_46 : decode cX3_init 46 = .ok (.bipush 6, 2) := by decide +kernel
theorem dX3_init_48 : decode cX3_init 48 = .ok (.invokespecial 30, 3) := by decide +kernel
theorem dX3_init_51 : decode cX3_init 51 = .ok (.putfield 33, 3) := by decide +kernel
theorem dX3_init_54 : decode cX3_init 54 = .ok (.aload_n 0, 1) := by decide +kernel
theorem dX3_init_55 : decode cX3_init 55 = .ok (.new 28, 3) := by decide +kernel
theorem dX3_init_58 : decode cX3_init 58 = .ok (.dup, 1) := by decide +kernel
theorem dX3_init_59 : decode cX3_init 59 = .ok (.iconst 4, 1) := by decide +kernel
theorem dX3_init_60 : decode cX3_init 60 = .ok (.invokespecial 30, 3) := by decide +kernel
theorem dX3_init_63 : decode cX3_init 63 = .ok (.putfield 37, 3) := by decide +kernel
theorem dX3_init_66 : decode cX3_init 66 = .ok (.aload_n 0, 1) := by decide +kernel
theorem dX3_init_67 : decode cX3_init 67 = .ok (.new 28, 3) := by decide +kernel
theorem dX3_init_70 : decode cX3_init 70 = .ok (.dup, 1) := by decide +kernel
theorem dX3_init_71 : decode cX3_init 71 = .ok (.iconst 4, 1) := by decide +kernel
theorem dX3_init_72 : decode cX3_init 72 = .ok (.invokespecial 30, 3) := by decide +kernel
theorem dX3_init_75 : decode cX3_init 75 = .ok (.putfield 40, 3) := by decide +kernel
theorem dX3_init_78 : decode cX3_init 78 = .ok (.aload_n 0, 1) := by decide +kernel
theorem dX3_init_79 : decode cX3_init 79 = .ok (.iconst 0, 1) := by decide +kernel
theorem dX3_init_80 : decode cX3_init 80 = .ok (.putfield 43, 3) := by decide +kernel
theorem dX3_init_83 : decode cX3_init 83 = .ok (.aload_n 0, 1) := by decide +kernel
theorem dX3_init_84 : decode cX3_init 84 = .ok (.iconst 0, 1) := by decide +kernel
theorem dX3_init_85 : decode cX3_init 85 = .ok (.putfield 46, 3) := by decide +kernel
theorem dX3_init_88 : decode cX3_init 88 = .ok (.aload_n 0, 1) := by decide +kernel
theorem dX3_init_89 : decode cX3_init 89 = .ok (.iconst 0, 1) := by decide +kernel
theorem dX3_init_90 : decode cX3_init 90 = .ok (.putfield 49, 3) := by decide +kernel
theorem dX3_init_93 : decode cX3_init 93 = .ok (.aload_n 0, 1) := by decide +kernel
theorem dX3_init_94 : decode cX3_init 94 = .ok (.iconst 0, 1) := by decide +kernel
theorem dX3_init_95 : decode cX3_init 95 = .ok (.putfield 52, 3) := by decide +kernel
theorem dX3_init_98 : decode cX3_init 98 = .ok (.aload_n 0, 1) := by decide +kernel
theorem dX3_init_99 : decode cX3_init 99 = .ok (.iconst 0, 1) := by decide +kernel
theorem dX3_init_100 : decode cX3_init 100 = .ok (.putfield 55, 3) := by decide +kernel
theorem dX3_init_103 : decode cX3_init 103 = .ok (.aload_n 0, 1) := by decide +kernel
theorem dX3_init_104 : decode cX3_init 104 = .ok (.bipush 15, 2) := by decide +kernel
theorem dX3_init_106 : decode cX3_init 106 = .ok (.putfield 58, 3) := by decide +kernel
theorem dX3_init_109 : decode cX3_init 109 = .ok (.aload_n 0, 1) := by decide +kernel
theorem dX3_init_110 : decode cX3_init 110 = .ok (.iconst 0, 1) := by decide +kernel
theorem dX3_init_111 : decode cX3_init 111 = .ok (.putfield 61, 3) := by decide +kernel
theorem dX3_init_114 : decode cX3_init 114 = .ok (.aload_n 0, 1) := by decide +kernel
theorem dX3_init_115 : decode cX3_init 115 = .ok (.iconst 0, 1) := by decide +kernel
theorem dX3_init_116 : decode cX3_init 116 = .ok (.putfield 64, 3) := by decide +kernel
theorem dX3_init_119 : decode cX3_init 119 = .ok (.aload_n 0, 1) := by decide +kernel
theorem dX3_init_120 : decode cX3_init 120 = .ok (.iconst 0, 1) := by decide +kernel
theorem dX3_init_121 : decode cX3_init 121 = .ok (.putfield 67, 3) := by decide +kernel
theorem dX3_init_124 : decode cX3_init 124 = .ok (.return_, 1) := by decide +kernel
theorem dX3_copyFrom_0 : decode cX3_copyFrom 0 = .ok (.aload_n 0, 1) := by decide +kernel
theorem dX3_copyFrom_1 : decode cX3_copyFrom 1 = .ok (.aload_n 1, 1) := by decide +kernel
theorem dX3_copyFrom_2 : decode cX3_copyFrom 2 = .ok (.getfield 9, 3) := by decide +kernel
theorem dX3_copyFrom_5 : decode cX3_copyFrom 5 = .ok (.putfield 9, 3) := by decide +kernel
theorem dX3_copyFrom_8 : decode cX3_copyFrom 8 = .ok (.iconst 0, 1) := by decide +kernel
theorem dX3_copyFrom_9 : decode cX3_copyFrom 9 = .ok (.istore_n 2, 1) := by decide +kernel
theorem dX3_copyFrom_10 : decode cX3_copyFrom 10 = .ok (.iload_n 2, 1) := by decide +kernel
theorem dX3_copyFrom_11 : decode cX3_copyFrom 11 = .ok (.bipush 16, 2) := by decide +kernel
theorem dX3_copyFrom_13 : decode cX3_copyFrom 13 = .ok (.if_icmp .ge 45, 3) := by decide +kernel
theorem dX3_copyFrom_16 : decode cX3_copyFrom 16 = .ok (.aload_n 0, 1) := by decide +kernel
theorem dX3_copyFrom_17 : decode cX3_copyFrom 17 = .ok (.getfield 15, 3) := by decide +kernel
theorem dX3_copyFrom_20 : decode cX3_copyFrom 20 = .ok (.iload_n 2, 1) := by decide +kernel
theorem dX3_copyFrom_21 : decode cX3_copyFrom 21 = .ok (.aload_n 1, 1) := by decide +kernel
theorem dX3_copyFrom_22 : decode cX3_copyFrom 22 = .ok (.getfield 15, 3) := by decide +kernel
theorem dX3_copyFrom_25 : decode cX3_copyFrom 25 = .ok (.iload_n 2, 1) := by decide +kernel
theorem dX3_copyFrom_26 : decode cX3_copyFrom 26 = .ok (.iaload, 1) := by decide +kernel
theorem dX3_copyFrom_27 : decode cX3_copyFrom 27 = .ok (.iastore, 1) := by decide +kernel
theorem dX3_copyFrom_28 : decode cX3_copyFrom 28 = .ok (.aload_n 0, 1) := by decide +kernel
theorem dX3_copyFrom_29 : decode cX3_copyFrom 29 = .ok (.getfield 19, 3) := by decide +kernel
theorem dX3_copyFrom_32 : decode cX3_copyFrom 32 = .ok (.iload_n 2, 1) := by decide +kernel
theorem dX3_copyFrom_33 : decode cX3_copyFrom 33 = .ok (.aload_n 1, 1) := by decide +kernel
theorem dX3_copyFrom_34 : decode cX3_copyFrom 34 = .ok (.getfield 19, 3) := by decide +kernel
theorem dX3_copyFrom_37 : decode cX3_copyFrom 37 = .ok (.iload_n 2, 1) := by decide +kernel
theorem dX3_copyFrom_38 : decode cX3_copyFrom 38 = .ok (.iaload, 1) := by decide +kernel
theorem dX3_copyFrom_39 : decode cX3_copyFrom 39 = .ok (.iastore, 1) := by decide +kernel
theorem dX3_copyFrom_40 : decode cX3_copyFrom 40 = .ok (.aload_n 0, 1) := by decide +kernel
theorem dX3_copyFrom_41 : decode cX3_copyFrom 41 = .ok (.getfield 22, 3) := by decide +kernel
theorem dX3_copyFrom_44 : decode cX3_copyFrom 44 = .ok (.iload_n 2, 1) := by decide +kernel
theorem dX3_copyFrom_45 : decode cX3_copyFrom 45 = .ok (.aload_n 1, 1) := by decide +kernel
theorem dX3_copyFrom_46 : decode cX3_copyFrom 46 = .ok (.getfield 22, 3) := by decide +kernel
theorem dX3_copyFrom_49 : decode cX3_copyFrom 49 = .ok (.iload_n 2, 1) := by decide +kernel
theorem dX3_copyFrom_50 : decode cX3_copyFrom 50 = .ok (.iaload, 1) := by decide +kernel
theorem dX3_copyFrom_51 : decode cX3_copyFrom 51 = .ok (.iastore, 1) := by decide +kernel
theorem dX3_copyFrom_52 : decode cX3_copyFrom 52 = .ok (.iinc 2 1, 3) := by decide +kernel
theorem dX3_copyFrom_55 : decode cX3_copyFrom 55 = .ok (.goto (-45), 3) := by decide +kernel
theorem dX3_copyFrom_58 : decode cX3_copyFrom 58 = .ok (.iconst 0, 1) := by decide +kernel
theorem dX3_copyFrom_59 : decode cX3_copyFrom 59 = .ok (.istore_n 2, 1) := by decide +kernel
theorem dX3_copyFrom_60 : decode cX3_copyFrom 60 = .ok (.iload_n 2, 1) := by decide +kernel
theorem dX3_copyFrom_61 : decode cX3_copyFrom 61 = .ok (.bipush 48, 2) := by decide +kernel
theorem dX3_copyFrom_63 : decode cX3_copyFrom 63 = .ok (.if_icmp .ge 21, 3) := by decide +kernel
theorem dX3_copyFrom_66 : decode cX3_copyFrom 66 = .ok (.aload_n 0, 1) := by decide +kernel
theorem dX3_copyFrom_67 : decode cX3_copyFrom 67 = .ok (.getfield 25, 3) := by decide +kernel
theorem dX3_copyFrom_70 : decode cX3_copyFrom 70 = .ok (.iload_n 2, 1) := by decide +kernel
theorem dX3_copyFrom_71 : decode cX3_copyFrom 71 = .ok (.aload_n 1, 1) := by decide +kernel
theorem dX3_copyFrom_72 : decode cX3_copyFrom 72 = .ok (.getfield 25, 3) := by decide +kernel
theorem dX3_copyFrom_75 : decode cX3_copyFrom 75 = .ok (.iload_n 2, 1) := by decide +kernel
theorem dX3_copyFrom_76 : decode cX3_copyFrom 76 = .ok (.iaload, 1) := by decide +kernel
theorem dX3_copyFrom_77 : decode cX3_copyFrom 77 = .ok (.iastore, 1) := by decide +kernel
theorem dX3_copyFrom_78 : decode cX3_copyFrom 78 = .ok (.iinc 2 1, 3) := by decide +kernel
theorem dX3_copyFrom_81 : decode cX3_copyFrom 81 = .ok (.goto (-21), 3) := by decide +kernel
theorem dX3_copyFrom_84 : decode cX3_copyFrom 84 = .ok (.aload_n 0, 1) := by decide +kernel
theorem dX3_copyFrom_85 : decode cX3_copyFrom 85 = .ok (.getfield 33, 3) := by decide +kernel
theorem dX3_copyFrom_88 : decode cX3_copyFrom 88 = .ok (.aload_n 1, 1) := by decide +kernel
theorem dX3_copyFrom_89 : decode cX3_copyFrom 89 = .ok (.getfield 33, 3) := by decide +kernel
theorem dX3_copyFrom_92 : decode cX3_copyFrom 92 = .ok (.invokevirtual 71, 3) := by decide +kernel
theorem dX3_copyFrom_95 : decode cX3_copyFrom 95 = .ok (.aload_n 0, 1) := by decide +kernel
theorem dX3_copyFrom_96 : decode cX3_copyFrom 96 = .ok (.getfield 37, 3) := by decide +kernel
theorem dX3_copyFrom_99 : decode cX3_copyFrom 99 = .ok (.aload_n 1, 1) := by decide +kernel
theorem dX3_copyFrom_100 : decode cX3_copyFrom 100 = .ok (.getfield 37, 3) := by decide +kernel
theorem dX3_copyFrom_103 : decode cX3_copyFrom 103 = .ok (.invokevirtual 71, 3) := by decide +kernel
theorem dX3_copyFrom_106 : decode cX3_copyFrom 106 = .ok (.aload_n 0, 1) := by decide +kernel
theorem dX3_copyFrom_107 : decode cX3_copyFrom 107 = .ok (.getfield 40, 3) := by decide +kernel
theorem dX3_copyFrom_110 : decode cX3_copyFrom 110 = .ok (.aload_n 1, 1) := by decide +kernel
theorem dX3_copyFrom_111 : decode cX3_copyFrom 111 = .ok (.getfield 40, 3) := by decide +kernel
theorem dX3_copyFrom_114 : decode cX3_copyFrom 114 = .ok (.invokevirtual 71, 3) := by decide +kernel
theorem dX3_copyFrom_117 : decode cX3_copyFrom 117 = .ok (.aload_n 0, 1) := by decide +kernel
theorem dX3_copyFrom_118 : decode cX3_copyFrom 118 = .ok (.aload_n 1, 1) := by decide +kernel
theorem dX3_copyFrom_119 : decode cX3_copyFrom 119 = .ok (.getfield 43, 3) := by decide +kernel
theorem dX3_copyFrom_122 : decode cX3_copyFrom 122 = .ok (.putfield 43, 3) := by decide +kernel
theorem dX3_copyFrom_125 : decode cX3_copyFrom 125 = .ok (.aload_n 0, 1) := by decide +kernel
theorem dX3_copyFrom_126 : decode cX3_copyFrom 126 = .ok (.aload_n 1, 1) := by decide +kernel
theorem dX3_copyFrom_127 : decode cX3_copyFrom 127 = .ok (.getfield 46, 3) := by decide +kernel
theorem dX3_copyFrom_130 : decode cX3_copyFrom 130 = .ok (.putfield 46, 3) := by decide +kernel
theorem dX3_copyFrom_133 : decode cX3_copyFrom 133 = .ok (.aload_n 0, 1) := by decide +kernel
theorem dX3_copyFrom_134 : decode cX3_copyFrom 134 = .ok (.aload_n 1, 1) := by decide +kernel
theorem dX3_copyFrom_135 : decode cX3_copyFrom 135 = .ok (.getfield 49, 3) := by decide +kernel
theorem dX3_copyFrom_138 : decode cX3_copyFrom 138 = .ok (.putfield 49, 3) := by decide +kernel
theorem dX3_copyFrom_141 : decode cX3_copyFrom 141 = .ok (.aload_n 0, 1) := by decide +kernel
theorem dX3_copyFrom_142 : decode cX3_copyFrom 142 = .ok (.aload_n 1, 1) := by decide +kernel
theorem dX3_copyFrom_143 : decode cX3_copyFrom 143 = .ok (.getfield 52, 3) := by decide +kernel
theorem dX3_copyFrom_146 : decode cX3_copyFrom 146 = .ok (.putfield 52, 3) := by decide +kernel
theorem dX3_copyFrom_149 : decode cX3_copyFrom 149 = .ok (.aload_n 0, 1) := by decide +kernel
theorem dX3_copyFrom_150 : decode cX3_copyFrom 150 = .ok (.aload_n 1, 1) := by decide +kernel
theorem dX3_copyFrom_151 : decode cX3_copyFrom 151 = .ok (.getfield 55, 3) := by decide +kernel
theorem dX3_copyFrom_154 : decode cX3_copyFrom 154 = .ok (.putfield 55, 3) := by decide +kernel
theorem dX3_copyFrom_157 : decode cX3_copyFrom 157 = .ok (.aload_n 0, 1) := by decide +kernel
theorem dX3_copyFrom_158 : decode cX3_copyFrom 158 = .ok (.aload_n 1, 1) := by decide +kernel
theorem dX3_copyFrom_159 : decode cX3_copyFrom 159 = .ok (.getfield 58, 3) := by decide +kernel
theorem dX3_copyFrom_162 : decode cX3_copyFrom 162 = .ok (.putfield 58, 3) := by decide +kernel
theorem dX3_copyFrom_165 : decode cX3_copyFrom 165 = .ok (.aload_n 0, 1) := by decide +kernel
theorem dX3_copyFrom_166 : decode cX3_copyFrom 166 = .ok (.aload_n 1, 1) := by decide +kernel
theorem dX3_copyFrom_167 : decode cX3_copyFrom 167 = .ok (.getfield 61, 3) := by decide +kernel
theorem dX3_copyFrom_170 : decode cX3_copyFrom 170 = .ok (.putfield 61, 3) := by decide +kernel
theorem dX3_copyFrom_173 : decode cX3_copyFrom 173 = .ok (.aload_n 0, 1) := by decide +kernel
theorem dX3_copyFrom_174 : decode cX3_copyFrom 174 = .ok (.aload_n 1, 1) := by decide +kernel
theorem dX3_copyFrom_175 : decode cX3_copyFrom 175 = .ok (.getfield 64, 3) := by decide +kernel
theorem dX3_copyFrom_178 : decode cX3_copyFrom 178 = .ok (.putfield 64, 3) := by decide +kernel
theorem dX3_copyFrom_181 : decode cX3_copyFrom 181 = .ok (.aload_n 0, 1) := by decide +kernel
theorem dX3_copyFrom_182 : decode cX3_copyFrom 182 = .ok (.aload_n 1, 1) := by decide +kernel
theorem dX3_copyFrom_183 : decode cX3_copyFrom 183 = .ok (.getfield 67, 3) := by decide +kernel
theorem dX3_copyFrom_186 : decode cX3_copyFrom 186 = .ok (.putfield 67, 3) := by decide +kernel
theorem dX3_copyFrom_189 : decode cX3_copyFrom 189 = .ok (.return_, 1) := by decide +kernel
theorem dX3_addNode_0 : decode cX3_addNode 0 = .ok (.aload_n 0, 1) := by decide +kernel
theorem dX3_addNode_1 : decode cX3_addNode 1 = .ok (.getfield 9, 3) := by decide +kernel
theorem dX3_addNode_4 : decode cX3_addNode 4 = .ok (.ifCond .lt 60, 3) := by decide +kernel
theorem dX3_addNode_7 : decode cX3_addNode 7 = .ok (.aload_n 0, 1) := by decide +kernel
theorem dX3_addNode_8 : decode cX3_addNode 8 = .ok (.getfield 9, 3) := by decide +kernel
theorem dX3_addNode_11 : decode cX3_addNode 11 = .ok (.bipush 16, 2) := by decide +kernel
theorem dX3_addNode_13 : decode cX3_addNode 13 = .ok (.if_icmp .ge 51, 3) := by decide +kernel
theorem dX3_addNode_16 : decode cX3_addNode 16 = .ok (.aload_n 0, 1) := by decide +kernel
theorem dX3_addNode_17 : decode cX3_addNode 17 = .ok (.getfield 15, 3) := by decide +kernel
theorem dX3_addNode_20 : decode cX3_addNode 20 = .ok (.aload_n 0, 1) := by decide +kernel
theorem dX3_addNode_21 : decode cX3_addNode 21 = .ok (.getfield 9, 3) := by decide +kernel
theorem dX3_addNode_24 : decode cX3_addNode 24 = .ok (.iconst 0, 1) := by decide +kernel
theorem dX3_addNode_25 : decode cX3_addNode 25 = .ok (.iastore, 1) := by decide +kernel
theorem dX3_addNode_26 : decode cX3_addNode 26 = .ok (.aload_n 0, 1) := by decide +kernel
theorem dX3_addNode_27 : decode cX3_addNode 27 = .ok (.getfield 19, 3) := by decide +kernel
theorem dX3_addNode_30 : decode cX3_addNode 30 = .ok (.aload_n 0, 1) := by decide +kernel
theorem dX3_addNode_31 : decode cX3_addNode 31 = .ok (.getfield 9, 3) := by decide +kernel
theorem dX3_addNode_34 : decode cX3_addNode 34 = .ok (.iload_n 1, 1) := by decide +kernel
theorem dX3_addNode_35 : decode cX3_addNode 35 = .ok (.iastore, 1) := by decide +kernel
theorem dX3_addNode_36 : decode cX3_addNode 36 = .ok (.aload_n 0, 1) := by decide +kernel
theorem dX3_addNode_37 : decode cX3_addNode 37 = .ok (.getfield 22, 3) := by decide +kernel
theorem dX3_addNode_40 : decode cX3_addNode 40 = .ok (.aload_n 0, 1) := by decide +kernel
theorem dX3_addNode_41 : decode cX3_addNode 41 = .ok (.getfield 9, 3) := by decide +kernel
theorem dX3_addNode_44 : decode cX3_addNode 44 = .ok (.iconst 0, 1) := by decide +kernel
theorem dX3_addNode_45 : decode cX3_addNode 45 = .ok (.iastore, 1) := by decide +kernel
theorem dX3_addNode_46 : decode cX3_addNode 46 = .ok (.aload_n 0, 1) := by decide +kernel
theorem dX3_addNode_47 : decode cX3_addNode 47 = .ok (.aload_n 0, 1) := by decide +kernel
theorem dX3_addNode_48 : decode cX3_addNode 48 = .ok (.getfield 9, 3) := by decide +kernel
theorem dX3_addNode_51 : decode cX3_addNode 51 = .ok (.invokevirtual 75, 3) := by decide +kernel
theorem dX3_addNode_54 : decode cX3_addNode 54 = .ok (.aload_n 0, 1) := by decide +kernel
theorem dX3_addNode_55 : decode cX3_addNode 55 = .ok (.dup, 1) := by decide +kernel
theorem dX3_addNode_56 : decode cX3_addNode 56 = .ok (.getfield 9, 3) := by decide +kernel
theorem dX3_addNode_59 : decode cX3_addNode 59 = .ok (.iconst 1, 1) := by decide +kernel
theorem dX3_addNode_60 : decode cX3_addNode 60 = .ok (.iadd, 1) := by decide +kernel
theorem dX3_addNode_61 : decode cX3_addNode 61 = .ok (.putfield 9, 3) := by decide +kernel
theorem dX3_addNode_64 : decode cX3_addNode 64 = .ok (.return_, 1) := by decide +kernel
theorem dX3_lowerNumbers_0 : decode cX3_lowerNumbers 0 = .ok (.iconst 1, 1) := by decide +kernel
theorem dX3_lowerNumbers_1 : decode cX3_lowerNumbers 1 = .ok (.istore_n 2, 1) := by decide +kernel
theorem dX3_lowerNumbers_2 : decode cX3_lowerNumbers 2 = .ok (.iload_n 2, 1) := by decide +kernel
theorem dX3_lowerNumbers_3 : decode cX3_lowerNumbers 3 = .ok (.iconst 3, 1) := by decide +kernel
theorem dX3_lowerNumbers_4 : decode cX3_lowerNumbers 4 = .ok (.if_icmp .gt 21, 3) := by decide +kernel
theorem dX3_lowerNumbers_7 : decode cX3_lowerNumbers 7 = .ok (.aload_n 0, 1) := by decide +kernel
theorem dX3_lowerNumbers_8 : decode cX3_lowerNumbers 8 = .ok (.iload_n 1, 1) := by decide +kernel
theorem dX3_lowerNumbers_9 : decode cX3_lowerNumbers 9 = .ok (.iload_n 2, 1) := by decide +kernel
theorem dX3_lowerNumbers_10 : decode cX3_lowerNumbers 10 = .ok (.aload_n 0, 1) := by decide +kernel
theorem dX3_lowerNumbers_11 : decode cX3_lowerNumbers 11 = .ok (.getfield 15, 3) := by decide +kernel
theorem dX3_lowerNumbers_14 : decode cX3_lowerNumbers 14 = .ok (.iload_n 1, 1) := by decide +kernel
theorem dX3_lowerNumbers_15 : decode cX3_lowerNumbers 15 = .ok (.iaload, 1) := by decide +kernel
theorem dX3_lowerNumbers_16 : decode cX3_lowerNumbers 16 = .ok (.invokevirtual 78, 3) := by decide +kernel
theorem dX3_lowerNumbers_19 : decode cX3_lowerNumbers 19 = .ok (.iinc 2 1, 3) := by decide +kernel
theorem dX3_lowerNumbers_22 : decode cX3_lowerNumbers 22 = .ok (.goto (-20), 3) := by decide +kernel
theorem dX3_lowerNumbers_25 : decode cX3_lowerNumbers 25 = .ok (.return_, 1) := by decide +kernel
theorem dX3_numberOf_0 : decode cX3_numberOf 0 = .ok (.iload_n 1, 1) := by decide +kernel
theorem dX3_numberOf_1 : decode cX3_numberOf 1 = .ok (.iconst 3, 1) := by decide +kernel
theorem dX3_numberOf_2 : decode cX3_numberOf 2 = .ok (.imul, 1) := by decide +kernel
theorem dX3_numberOf_3 : decode cX3_numberOf 3 = .ok (.iload_n 2, 1) := by decide +kernel
theorem dX3_numberOf_4 : decode cX3_numberOf 4 = .ok (.iadd, 1) := by decide +kernel
theorem dX3_numberOf_5 : decode cX3_numberOf 5 = .ok (.iconst 1, 1) := by decide +kernel
theorem dX3_numberOf_6 : decode cX3_numberOf 6 = .ok (.isub, 1) := by decide +kernel
theorem dX3_numberOf_7 : decode cX3_numberOf 7 = .ok (.istore_n 3, 1) := by decide +kernel
theorem dX3_numberOf_8 : decode cX3_numberOf 8 = .ok (.iload_n 3, 1) := by decide +kernel
theorem dX3_numberOf_9 : decode cX3_numberOf 9 = .ok (.iconst 0, 1) := by decide +kernel
theorem dX3_numberOf_10 : decode cX3_numberOf 10 = .ok (.aload_n 0, 1) := by decide +kernel
theorem dX3_numberOf_11 : decode cX3_numberOf 11 = .ok (.getfield 25, 3) := by decide +kernel
theorem dX3_numberOf_14 : decode cX3_numberOf 14 = .ok (.arraylength, 1) := by decide +kernel
theorem dX3_numberOf_15 : decode cX3_numberOf 15 = .ok (.iconst 1, 1) := by decide +kernel
theorem dX3_numberOf_16 : decode cX3_numberOf 16 = .ok (.isub, 1) := by decide +kernel
theorem dX3_numberOf_17 : decode cX3_numberOf 17 = .ok (.invokestatic 82, 3) := by decide +kernel
theorem dX3_numberOf_20 : decode cX3_numberOf 20 = .ok (.ifCond .eq 12, 3) := by decide +kernel
theorem dX3_numberOf_23 : decode cX3_numberOf 23 = .ok (.aload_n 0, 1) := by decide +kernel
theorem dX3_numberOf_24 : decode cX3_numberOf 24 = .ok (.getfield 25, 3) := by decide +kernel
theorem dX3_numberOf_27 : decode cX3_numberOf 27 = .ok (.iload_n 3, 1) := by decide +kernel
theorem dX3_numberOf_28 : decode cX3_numberOf 28 = .ok (.iaload, 1) := by decide +kernel
theorem dX3_numberOf_29 : decode cX3_numberOf 29 = .ok (.goto 6, 3) := by decide +kernel
theorem dX3_numberOf_32 : decode cX3_numberOf 32 = .ok (.sipush (-10001), 3) := by decide +kernel
theorem dX3_numberOf_35 : decode cX3_numberOf 35 = .ok (.ireturn, 1) := by decide +kernel
theorem dX3_putNumber_0 : decode cX3_putNumber 0 = .ok (.iload_n 1, 1) := by decide +kernel
theorem dX3_putNumber_1 : decode cX3_putNumber 1 = .ok (.iconst 3, 1) := by decide +kernel
theorem dX3_putNumber_2 : decode cX3_putNumber 2 = .ok (.imul, 1) := by decide +kernel
theorem dX3_putNumber_3 : decode cX3_putNumber 3 = .ok (.iload_n 2, 1) := by decide +kernel
theorem dX3_putNumber_4 : decode cX3_putNumber 4 = .ok (.iadd, 1) := by decide +kernel
theorem dX3_putNumber_5 : decode cX3_putNumber 5 = .ok (.iconst 1, 1) := by decide +kernel
theorem dX3_putNumber_6 : decode cX3_putNumber 6 = .ok (.isub, 1) := by decide +kernel
theorem dX3_putNumber_7 : decode cX3_putNumber 7 = .ok (.istore 4, 2) := by decide +kernel
theorem dX3_putNumber_9 : decode cX3_putNumber 9 = .ok (.iload 4, 2) := by decide +kernel
theorem dX3_putNumber_11 : decode cX3_putNumber 11 = .ok (.iconst 0, 1) := by decide +kernel
theorem dX3_putNumber_12 : decode cX3_putNumber 12 = .ok (.aload_n 0, 1) := by decide +kernel
theorem dX3_putNumber_13 : decode cX3_putNumber 13 = .ok (.getfield 25, 3) := by decide +kernel
theorem dX3_putNumber_16 : decode cX3_putNumber 16 = .ok (.arraylength, 1) := by decide +kernel
theorem dX3_putNumber_17 : decode cX3_putNumber 17 = .ok (.iconst 1, 1) := by decide +kernel
theorem dX3_putNumber_18 : decode cX3_putNumber 18 = .ok (.isub, 1) := by decide +kernel
theorem dX3_putNumber_19 : decode cX3_putNumber 19 = .ok (.invokestatic 82, 3) := by decide +kernel
theorem dX3_putNumber_22 : decode cX3_putNumber 22 = .ok (.ifCond .eq 11, 3) := by decide +kernel
theorem dX3_putNumber_25 : decode cX3_putNumber 25 = .ok (.aload_n 0, 1) := by decide +kernel
theorem dX3_putNumber_26 : decode cX3_putNumber 26 = .ok (.getfield 25, 3) := by decide +kernel
theorem dX3_putNumber_29 : decode cX3_putNumber 29 = .ok (.iload 4, 2) := by decide +kernel
theorem dX3_putNumber_31 : decode cX3_putNumber 31 = .ok (.iload_n 3, 1) := by decide +kernel
theorem dX3_putNumber_32 : decode cX3_putNumber 32 = .ok (.iastore, 1) := by decide +kernel
theorem dX3_putNumber_33 : decode cX3_putNumber 33 = .ok (.return_, 1) := by decide +kernel
theorem dX3_setNumber_0 : decode cX3_setNumber 0 = .ok (.iload_n 3, 1) := by decide +kernel
theorem dX3_setNumber_1 : decode cX3_setNumber 1 = .ok (.aload_n 0, 1) := by decide +kernel
theorem dX3_setNumber_2 : decode cX3_setNumber 2 = .ok (.getfield 15, 3) := by decide +kernel
theorem dX3_setNumber_5 : decode cX3_setNumber 5 = .ok (.iload_n 1, 1) := by decide +kernel
theorem dX3_setNumber_6 : decode cX3_setNumber 6 = .ok (.iaload, 1) := by decide +kernel
theorem dX3_setNumber_7 : decode cX3_setNumber 7 = .ok (.aload_n 0, 1) := by decide +kernel
theorem dX3_setNumber_8 : decode cX3_setNumber 8 = .ok (.getfield 19, 3) := by decide +kernel
theorem dX3_setNumber_11 : decode cX3_setNumber 11 = .ok (.iload_n 1, 1) := by decide +kernel
theorem dX3_setNumber_12 : decode cX3_setNumber 12 = .ok (.iaload, 1) := by decide +kernel
theorem dX3_setNumber_13 : decode cX3_setNumber 13 = .ok (.invokestatic 82, 3) := by decide +kernel
theorem dX3_setNumber_16 : decode cX3_setNumber 16 = .ok (.ifCond .eq 13, 3) := by decide +kernel
theorem dX3_setNumber_19 : decode cX3_setNumber 19 = .ok (.aload_n 0, 1) := by decide +kernel
theorem dX3_setNumber_20 : decode cX3_setNumber 20 = .ok (.iload_n 1, 1) := by decide +kernel
theorem dX3_setNumber_21 : decode cX3_setNumber 21 = .ok (.iload_n 2, 1) := by decide +kernel
theorem dX3_setNumber_22 : decode cX3_setNumber 22 = .ok (.iload_n 3, 1) := by decide +kernel
theorem dX3_setNumber_23 : decode cX3_setNumber 23 = .ok (.invokevirtual 78, 3) := by decide +kernel
theorem dX3_setNumber_26 : decode cX3_setNumber 26 = .ok (.goto 10, 3) := by decide +kernel
theorem dX3_setNumber_29 : decode cX3_setNumber 29 = .ok (.aload_n 0, 1) := by decide +kernel
theorem dX3_setNumber_30 : decode cX3_setNumber 30 = .ok (.sipush (-222), 3) := by decide +kernel
theorem dX3_setNumber_33 : decode cX3_setNumber 33 = .ok (.invokevirtual 86, 3) := by decide +kernel
theorem dX3_setNumber_36 : decode cX3_setNumber 36 = .ok (.return_, 1) := by decide +kernel
theorem dX3_act_0 : decode cX3_act 0 = .ok (.iload_n 2, 1) := by decide +kernel
theorem dX3_act_1 : decode cX3_act 1 = .ok (.ifCond .eq 22, 3) := by decide +kernel
theorem dX3_act_4 : decode cX3_act 4 = .ok (.aload_n 0, 1) := by decide +kernel
theorem dX3_act_5 : decode cX3_act 5 = .ok (.getfield 40, 3) := by decide +kernel
theorem dX3_act_8 : decode cX3_act 8 = .ok (.iload_n 1, 1) := by decide +kernel
theorem dX3_act_9 : decode cX3_act 9 = .ok (.invokevirtual 89, 3) := by decide +kernel
theorem dX3_act_12 : decode cX3_act 12 = .ok (.ifCond .ne 11, 3) := by decide +kernel
theorem dX3_act_15 : decode cX3_act 15 = .ok (.aload_n 0, 1) := by decide +kernel
theorem dX3_act_16 : decode cX3_act 16 = .ok (.sipush (-222), 3) := by decide +kernel
theorem dX3_act_19 : decode cX3_act 19 = .ok (.invokevirtual 86, 3) := by decide +kernel
theorem dX3_act_22 : decode cX3_act 22 = .ok (.return_, 1) := by decide +kernel
theorem dX3_act_23 : decode cX3_act 23 = .ok (.aload_n 0, 1) := by decide +kernel
theorem dX3_act_24 : decode cX3_act 24 = .ok (.getfield 22, 3) := by decide +kernel
theorem dX3_act_27 : decode cX3_act 27 = .ok (.iload_n 1, 1) := by decide +kernel
theorem dX3_act_28 : decode cX3_act 28 = .ok (.dup2, 1) := by decide +kernel
theorem dX3_act_29 : decode cX3_act 29 = .ok (.iaload, 1) := by decide +kernel
theorem dX3_act_30 : decode cX3_act 30 = .ok (.iconst 1, 1) := by decide +kernel
theorem dX3_act_31 : decode cX3_act 31 = .ok (.iadd, 1) := by decide +kernel
theorem dX3_act_32 : decode cX3_act 32 = .ok (.iastore, 1) := by decide +kernel
theorem dX3_act_33 : decode cX3_act 33 = .ok (.return_, 1) := by decide +kernel
theorem dX3_finish_0 : decode cX3_finish 0 = .ok (.aload_n 0, 1) := by decide +kernel
theorem dX3_finish_1 : decode cX3_finish 1 = .ok (.getfield 40, 3) := by decide +kernel
theorem dX3_finish_4 : decode cX3_finish 4 = .ok (.iload_n 1, 1) := by decide +kernel
theorem dX3_finish_5 : decode cX3_finish 5 = .ok (.invokevirtual 93, 3) := by decide +kernel
theorem dX3_finish_8 : decode cX3_finish 8 = .ok (.pop, 1) := by decide +kernel
theorem dX3_finish_9 : decode cX3_finish 9 = .ok (.aload_n 0, 1) := by decide +kernel
theorem dX3_finish_10 : decode cX3_finish 10 = .ok (.getfield 40, 3) := by decide +kernel
theorem dX3_finish_13 : decode cX3_finish 13 = .ok (.getfield 97, 3) := by decide +kernel
theorem dX3_finish_16 : decode cX3_finish 16 = .ok (.ifCond .ne 25, 3) := by decide +kernel
theorem dX3_finish_19 : decode cX3_finish 19 = .ok (.aload_n 0, 1) := by decide +kernel
theorem dX3_finish_20 : decode cX3_finish 20 = .ok (.getfield 67, 3) := by decide +kernel
theorem dX3_finish_23 : decode cX3_finish 23 = .ok (.ifCond .eq 18, 3) := by decide +kernel
theorem dX3_finish_26 : decode cX3_finish 26 = .ok (.aload_n 0, 1) := by decide +kernel
theorem dX3_finish_27 : decode cX3_finish 27 = .ok (.dup, 1) := by decide +kernel
theorem dX3_finish_28 : decode cX3_finish 28 = .ok (.getfield 43, 3) := by decide +kernel
theorem dX3_finish_31 : decode cX3_finish 31 = .ok (.iconst 1, 1) := by decide +kernel
theorem dX3_finish_32 : decode cX3_finish 32 = .ok (.ior, 1) := by decide +kernel
theorem dX3_finish_33 : decode cX3_finish 33 = .ok (.putfield 43, 3) := by decide +kernel
theorem dX3_finish_36 : decode cX3_finish 36 = .ok (.aload_n 0, 1) := by decide +kernel
theorem dX3_finish_37 : decode cX3_finish 37 = .ok (.iconst 0, 1) := by decide +kernel
theorem dX3_finish_38 : decode cX3_finish 38 = .ok (.putfield 67, 3) := by decide +kernel
theorem dX3_finish_41 : decode cX3_finish 41 = .ok (.return_, 1) := by decide +kernel
theorem dX3_raise_0 : decode cX3_raise 0 = .ok (.aload_n 0, 1) := by decide +kernel
theorem dX3_raise_1 : decode cX3_raise 1 = .ok (.dup, 1) := by decide +kernel
theorem dX3_raise_2 : decode cX3_raise 2 = .ok (.getfield 43, 3) := by decide +kernel
theorem dX3_raise_5 : decode cX3_raise 5 = .ok (.iload_n 1, 1) := by decide +kernel
theorem dX3_raise_6 : decode cX3_raise 6 = .ok (.invokestatic 100, 3) := by decide +kernel
theorem dX3_raise_9 : decode cX3_raise 9 = .ok (.ior, 1) := by decide +kernel
theorem dX3_raise_10 : decode cX3_raise 10 = .ok (.putfield 43, 3) := by decide +kernel
theorem dX3_raise_13 : decode cX3_raise 13 = .ok (.aload_n 0, 1) := by decide +kernel
theorem dX3_raise_14 : decode cX3_raise 14 = .ok (.getfield 37, 3) := by decide +kernel
theorem dX3_raise_17 : decode cX3_raise 17 = .ok (.iload_n 1, 1) := by decide +kernel
theorem dX3_raise_18 : decode cX3_raise 18 = .ok (.invokevirtual 89, 3) := by decide +kernel
theorem dX3_raise_21 : decode cX3_raise 21 = .ok (.ifCond .ne 24, 3) := by decide +kernel
theorem dX3_raise_24 : decode cX3_raise 24 = .ok (.aload_n 0, 1) := by decide +kernel
theorem dX3_raise_25 : decode cX3_raise 25 = .ok (.getfield 37, 3) := by decide +kernel
theorem dX3_raise_28 : decode cX3_raise 28 = .ok (.sipush (-350), 3) := by decide +kernel
theorem dX3_raise_31 : decode cX3_raise 31 = .ok (.invokevirtual 103, 3) := by decide +kernel
theorem dX3_raise_34 : decode cX3_raise 34 = .ok (.aload_n 0, 1) := by decide +kernel
theorem dX3_raise_35 : decode cX3_raise 35 = .ok (.dup, 1) := by decide +kernel
theorem dX3_raise_36 : decode cX3_raise 36 = .ok (.getfield 43, 3) := by decide +kernel
theorem dX3_raise_39 : decode cX3_raise 39 = .ok (.bipush 8, 2) := by decide +kernel
theorem dX3_raise_41 : decode cX3_raise 41 = .ok (.ior, 1) := by decide +kernel
theorem dX3_raise_42 : decode cX3_raise 42 = .ok (.putfield 43, 3) := by decide +kernel
theorem dX3_raise_45 : decode cX3_raise 45 = .ok (.return_, 1) := by decide +kernel
theorem dX3_eventOf_0 : decode cX3_eventOf 0 = .ok (.iload_n 0, 1) := by decide +kernel
theorem dX3_eventOf_1 : decode cX3_eventOf 1 = .ok (.ineg, 1) := by decide +kernel
theorem dX3_eventOf_2 : decode cX3_eventOf 2 = .ok (.bipush 100, 2) := by decide +kernel
theorem dX3_eventOf_4 : decode cX3_eventOf 4 = .ok (.idiv, 1) := by decide +kernel
theorem dX3_eventOf_5 : decode cX3_eventOf 5 = .ok (.tableswitch 36 1 3 #[27, 30, 33], 27) := by decide +kernel
theorem dX3_eventOf_32 : decode cX3_eventOf 32 = .ok (.bipush 32, 2) := by decide +kernel
theorem dX3_eventOf_34 : decode cX3_eventOf 34 = .ok (.ireturn, 1) := by decide +kernel
theorem dX3_eventOf_35 : decode cX3_eventOf 35 = .ok (.bipush 16, 2) := by decide +kernel
theorem dX3_eventOf_37 : decode cX3_eventOf 37 = .ok (.ireturn, 1) := by decide +kernel
theorem dX3_eventOf_38 : decode cX3_eventOf 38 = .ok (.bipush 8, 2) := by decide +kernel
theorem dX3_eventOf_40 : decode cX3_eventOf 40 = .ok (.ireturn, 1) := by decide +kernel
theorem dX3_eventOf_41 : decode cX3_eventOf 41 = .ok (.iconst 4, 1) := by decide +kernel
theorem dX3_eventOf_42 : decode cX3_eventOf 42 = .ok (.ireturn, 1) := by decide +kernel
theorem dX3_reply_0 : decode cX3_reply 0 = .ok (.aload_n 0, 1) := by decide +kernel
theorem dX3_reply_1 : decode cX3_reply 1 = .ok (.getfield 33, 3) := by decide +kernel
theorem dX3_reply_4 : decode cX3_reply 4 = .ok (.iload_n 1, 1) := by decide +kernel
theorem dX3_reply_5 : decode cX3_reply 5 = .ok (.invokevirtual 89, 3) := by decide +kernel
theorem dX3_reply_8 : decode cX3_reply 8 = .ok (.ifCond .ne 10, 3) := by decide +kernel
theorem dX3_reply_11 : decode cX3_reply 11 = .ok (.aload_n 0, 1) := by decide +kernel
theorem dX3_reply_12 : decode cX3_reply 12 = .ok (.sipush (-430), 3) := by decide +kernel
theorem dX3_reply_15 : decode cX3_reply 15 = .ok (.invokevirtual 86, 3) := by decide +kernel
theorem dX3_reply_18 : decode cX3_reply 18 = .ok (.return_, 1) := by decide +kernel
theorem dX3_commonAnswer_0 : decode cX3_commonAnswer 0 = .ok (.iload_n 1, 1) := by decide +kernel
theorem dX3_commonAnswer_1 : decode cX3_commonAnswer 1 = .ok (.tableswitch 51 2 5 #[31, 36, 41, 46], 31) := by decide +kernel
theorem dX3_commonAnswer_32 : decode cX3_commonAnswer 32 = .ok (.aload_n 0, 1) := by decide +kernel
theorem dX3_commonAnswer_33 : decode cX3_commonAnswer 33 = .ok (.getfield 46, 3) := by decide +kernel
theorem dX3_commonAnswer_36 : decode cX3_commonAnswer 36 = .ok (.ireturn, 1) := by decide +kernel
theorem dX3_commonAnswer_37 : decode cX3_commonAnswer 37 = .ok (.aload_n 0, 1) := by decide +kernel
theorem dX3_commonAnswer_38 : decode cX3_commonAnswer 38 = .ok (.getfield 49, 3) := by decide +kernel
theorem dX3_commonAnswer_41 : decode cX3_commonAnswer 41 = .ok (.ireturn, 1) := by decide +kernel
theorem dX3_commonAnswer_42 : decode cX3_commonAnswer 42 = .ok (.aload_n 0, 1) := by decide +kernel
theorem dX3_commonAnswer_43 : decode cX3_commonAnswer 43 = .ok (.invokevirtual 106, 3) := by decide +kernel
theorem dX3_commonAnswer_46 : decode cX3_commonAnswer 46 = .ok (.ireturn, 1) := by decide +kernel
theorem dX3_commonAnswer_47 : decode cX3_commonAnswer 47 = .ok (.aload_n 0, 1) := by decide +kernel
theorem dX3_commonAnswer_48 : decode cX3_commonAnswer 48 = .ok (.invokevirtual 110, 3) := by decide +kernel
theorem dX3_commonAnswer_51 : decode cX3_commonAnswer 51 = .ok (.ireturn, 1) := by decide +kernel
theorem dX3_commonAnswer_52 : decode cX3_commonAnswer 52 = .ok (.aload_n 0, 1) := by decide +kernel
theorem dX3_commonAnswer_53 : decode cX3_commonAnswer 53 = .ok (.getfield 40, 3) := by decide +kernel
theorem dX3_commonAnswer_56 : decode cX3_commonAnswer 56 = .ok (.getfield 97, 3) := by decide +kernel
theorem dX3_commonAnswer_59 : decode cX3_commonAnswer 59 = .ok (.ifCond .ne 7, 3) := by decide +kernel
theorem dX3_commonAnswer_62 : decode cX3_commonAnswer 62 = .ok (.iconst 1, 1) := by decide +kernel
theorem dX3_commonAnswer_63 : decode cX3_commonAnswer 63 = .ok (.goto 4, 3) := by decide +kernel
theorem dX3_commonAnswer_66 : decode cX3_commonAnswer 66 = .ok (.iconst 0, 1) := by decide +kernel
theorem dX3_commonAnswer_67 : decode cX3_commonAnswer 67 = .ok (.ireturn, 1) := by decide +kernel
theorem dX3_takeEvents_0 : decode cX3_takeEvents 0 = .ok (.aload_n 0, 1) := by decide +kernel
theorem dX3_takeEvents_1 : decode cX3_takeEvents 1 = .ok (.getfield 43, 3) := by decide +kernel
theorem dX3_takeEvents_4 : decode cX3_takeEvents 4 = .ok (.istore_n 1, 1) := by decide +kernel
theorem dX3_takeEvents_5 : decode cX3_takeEvents 5 = .ok (.aload_n 0, 1) := by decide +kernel
theorem dX3_takeEvents_6 : decode cX3_takeEvents 6 = .ok (.iconst 0, 1) := by decide +kernel
theorem dX3_takeEvents_7 : decode cX3_takeEvents 7 = .ok (.putfield 43, 3) := by decide +kernel
theorem dX3_takeEvents_10 : decode cX3_takeEvents 10 = .ok (.iload_n 1, 1) := by decide +kernel
theorem dX3_takeEvents_11 : decode cX3_takeEvents 11 = .ok (.ireturn, 1) := by decide +kernel
theorem dX3_obeyCommon_0 : decode cX3_obeyCommon 0 = .ok (.iload_n 1, 1) := by decide +kernel
theorem dX3_obeyCommon_1 : decode cX3_obeyCommon 1 = .ok (.lookupswitch 56 #[(1, 35), (6, 42), (7, 49)], 35) := by decide +kernel
theorem dX3_obeyCommon_36 : decode cX3_obeyCommon 36 = .ok (.aload_n 0, 1) := by decide +kernel
theorem dX3_obeyCommon_37 : decode cX3_obeyCommon 37 = .ok (.invokevirtual 113, 3) := by decide +kernel
theorem dX3_obeyCommon_40 : decode cX3_obeyCommon 40 = .ok (.goto 23, 3) := by decide +kernel
theorem dX3_obeyCommon_43 : decode cX3_obeyCommon 43 = .ok (.aload_n 0, 1) := by decide +kernel
theorem dX3_obeyCommon_44 : decode cX3_obeyCommon 44 = .ok (.invokevirtual 116, 3) := by decide +kernel
theorem dX3_obeyCommon_47 : decode cX3_obeyCommon 47 = .ok (.goto 16, 3) := by decide +kernel
theorem dX3_obeyCommon_50 : decode cX3_obeyCommon 50 = .ok (.aload_n 0, 1) := by decide +kernel
theorem dX3_obeyCommon_51 : decode cX3_obeyCommon 51 = .ok (.invokevirtual 119, 3) := by decide +kernel
theorem dX3_obeyCommon_54 : decode cX3_obeyCommon 54 = .ok (.goto 9, 3) := by decide +kernel
theorem dX3_obeyCommon_57 : decode cX3_obeyCommon 57 = .ok (.aload_n 0, 1) := by decide +kernel
theorem dX3_obeyCommon_58 : decode cX3_obeyCommon 58 = .ok (.iload_n 1, 1) := by decide +kernel
theorem dX3_obeyCommon_59 : decode cX3_obeyCommon 59 = .ok (.iload_n 2, 1) := by decide +kernel
theorem dX3_obeyCommon_60 : decode cX3_obeyCommon 60 = .ok (.invokevirtual 122, 3) := by decide +kernel
theorem dX3_obeyCommon_63 : decode cX3_obeyCommon 63 = .ok (.return_, 1) := by decide +kernel
theorem dX3_clearStatus_0 : decode cX3_clearStatus 0 = .ok (.aload_n 0, 1) := by decide +kernel
theorem dX3_clearStatus_1 : decode cX3_clearStatus 1 = .ok (.iconst 0, 1) := by decide +kernel
theorem dX3_clearStatus_2 : decode cX3_clearStatus 2 = .ok (.putfield 43, 3) := by decide +kernel
theorem dX3_clearStatus_5 : decode cX3_clearStatus 5 = .ok (.aload_n 0, 1) := by decide +kernel
theorem dX3_clearStatus_6 : decode cX3_clearStatus 6 = .ok (.iconst 0, 1) := by decide +kernel
theorem dX3_clearStatus_7 : decode cX3_clearStatus 7 = .ok (.putfield 55, 3) := by decide +kernel
theorem dX3_clearStatus_10 : decode cX3_clearStatus 10 = .ok (.aload_n 0, 1) := by decide +kernel
theorem dX3_clearStatus_11 : decode cX3_clearStatus 11 = .ok (.getfield 37, 3) := by decide +kernel
theorem dX3_clearStatus_14 : decode cX3_clearStatus 14 = .ok (.iconst 0, 1) := by decide +kernel
theorem dX3_clearStatus_15 : decode cX3_clearStatus 15 = .ok (.putfield 97, 3) := by decide +kernel
theorem dX3_clearStatus_18 : decode cX3_clearStatus 18 = .ok (.aload_n 0, 1) := by decide +kernel
theorem dX3_clearStatus_19 : decode cX3_clearStatus 19 = .ok (.iconst 0, 1) := by decide +kernel
theorem dX3_clearStatus_20 : decode cX3_clearStatus 20 = .ok (.putfield 67, 3) := by decide +kernel
theorem dX3_clearStatus_23 : decode cX3_clearStatus 23 = .ok (.return_, 1) := by decide +kernel
theorem dX3_tellWhenOver_0 : decode cX3_tellWhenOver 0 = .ok (.aload_n 0, 1) := by decide +kernel
theorem dX3_tellWhenOver_1 : decode cX3_tellWhenOver 1 = .ok (.getfield 40, 3) := by decide +kernel
theorem dX3_tellWhenOver_4 : decode cX3_tellWhenOver 4 = .ok (.getfield 97, 3) := by decide +kernel
theorem dX3_tellWhenOver_7 : decode cX3_tellWhenOver 7 = .ok (.ifCond .ne 16, 3) := by decide +kernel
theorem dX3_tellWhenOver_10 : decode cX3_tellWhenOver 10 = .ok (.aload_n 0, 1) := by decide +kernel
theorem dX3_tellWhenOver_11 : decode cX3_tellWhenOver 11 = .ok (.dup, 1) := by decide +kernel
theorem dX3_tellWhenOver_12 : decode cX3_tellWhenOver 12 = .ok (.getfield 43, 3) := by decide +kernel
theorem dX3_tellWhenOver_15 : decode cX3_tellWhenOver 15 = .ok (.iconst 1, 1) := by decide +kernel
theorem dX3_tellWhenOver_16 : decode cX3_tellWhenOver 16 = .ok (.ior, 1) := by decide +kernel
theorem dX3_tellWhenOver_17 : decode cX3_tellWhenOver 17 = .ok (.putfield 43, 3) := by decide +kernel
theorem dX3_tellWhenOver_20 : decode cX3_tellWhenOver 20 = .ok (.goto 8, 3) := by decide +kernel
theorem dX3_tellWhenOver_23 : decode cX3_tellWhenOver 23 = .ok (.aload_n 0, 1) := by decide +kernel
theorem dX3_tellWhenOver_24 : decode cX3_tellWhenOver 24 = .ok (.iconst 1, 1) := by decide +kernel
theorem dX3_tellWhenOver_25 : decode cX3_tellWhenOver 25 = .ok (.putfield 67, 3) := by decide +kernel
theorem dX3_tellWhenOver_28 : decode cX3_tellWhenOver 28 = .ok (.return_, 1) := by decide +kernel
theorem dX3_reset_0 : decode cX3_reset 0 = .ok (.iconst 0, 1) := by decide +kernel
theorem dX3_reset_1 : decode cX3_reset 1 = .ok (.istore_n 1, 1) := by decide +kernel
theorem dX3_reset_2 : decode cX3_reset 2 = .ok (.iload_n 1, 1) := by decide +kernel
theorem dX3_reset_3 : decode cX3_reset 3 = .ok (.aload_n 0, 1) := by decide +kernel
theorem dX3_reset_4 : decode cX3_reset 4 = .ok (.getfield 9, 3) := by decide +kernel
theorem dX3_reset_7 : decode cX3_reset 7 = .ok (.if_icmp .ge 20, 3) := by decide +kernel
theorem dX3_reset_10 : decode cX3_reset 10 = .ok (.iload_n 1, 1) := by decide +kernel
theorem dX3_reset_11 : decode cX3_reset 11 = .ok (.bipush 16, 2) := by decide +kernel
theorem dX3_reset_13 : decode cX3_reset 13 = .ok (.if_icmp .ge 14, 3) := by decide +kernel
theorem dX3_reset_16 : decode cX3_reset 16 = .ok (.aload_n 0, 1) := by decide +kernel
theorem dX3_reset_17 : decode cX3_reset 17 = .ok (.iload_n 1, 1) := by decide +kernel
theorem dX3_reset_18 : decode cX3_reset 18 = .ok (.invokevirtual 75, 3) := by decide +kernel
theorem dX3_reset_21 : decode cX3_reset 21 = .ok (.iinc 1 1, 3) := by decide +kernel
theorem dX3_reset_24 : decode cX3_reset 24 = .ok (.goto (-22), 3) := by decide +kernel
theorem dX3_reset_27 : decode cX3_reset 27 = .ok (.aload_n 0, 1) := by decide +kernel
theorem dX3_reset_28 : decode cX3_reset 28 = .ok (.getfield 40, 3) := by decide +kernel
theorem dX3_reset_31 : decode cX3_reset 31 = .ok (.iconst 0, 1) := by decide +kernel
theorem dX3_reset_32 : decode cX3_reset 32 = .ok (.putfield 97, 3) := by decide +kernel
theorem dX3_reset_35 : decode cX3_reset 35 = .ok (.aload_n 0, 1) := by decide +kernel
theorem dX3_reset_36 : decode cX3_reset 36 = .ok (.iconst 0, 1) := by decide +kernel
theorem dX3_reset_37 : decode cX3_reset 37 = .ok (.putfield 67, 3) := by decide +kernel
theorem dX3_reset_40 : decode cX3_reset 40 = .ok (.return_, 1) := by decide +kernel
theorem dX3_setByteMask_0 : decode cX3_setByteMask 0 = .ok (.iload_n 2, 1) := by decide +kernel
theorem dX3_setByteMask_1 : decode cX3_setByteMask 1 = .ok (.iconst 0, 1) := by decide +kernel
theorem dX3_setByteMask_2 : decode cX3_setByteMask 2 = .ok (.sipush 255, 3) := by decide +kernel
theorem dX3_setByteMask_5 : decode cX3_setByteMask 5 = .ok (.invokestatic 82, 3) := by decide +kernel
theorem dX3_setByteMask_8 : decode cX3_setByteMask 8 = .ok (.ifCond .ne 13, 3) := by decide +kernel
theorem dX3_setByteMask_11 : decode cX3_setByteMask 11 = .ok (.aload_n 0, 1) := by decide +kernel
theorem dX3_setByteMask_12 : decode cX3_setByteMask 12 = .ok (.sipush (-222), 3) := by decide +kernel
theorem dX3_setByteMask_15 : decode cX3_setByteMask 15 = .ok (.invokevirtual 86, 3) := by decide +kernel
theorem dX3_setByteMask_18 : decode cX3_setByteMask 18 = .ok (.goto 21, 3) := by decide +kernel
theorem dX3_setByteMask_21 : decode cX3_setByteMask 21 = .ok (.iload_n 1, 1) := by decide +kernel
theorem dX3_setByteMask_22 : decode cX3_setByteMask 22 = .ok (.iconst 2, 1) := by decide +kernel
theorem dX3_setByteMask_23 : decode cX3_setByteMask 23 = .ok (.if_icmp .ne 11, 3) := by decide +kernel
theorem dX3_setByteMask_26 : decode cX3_setByteMask 26 = .ok (.aload_n 0, 1) := by decide +kernel
theorem dX3_setByteMask_27 : decode cX3_setByteMask 27 = .ok (.iload_n 2, 1) := by decide +kernel
theorem dX3_setByteMask_28 : decode cX3_setByteMask 28 = .ok (.putfield 46, 3) := by decide +kernel
theorem dX3_setByteMask_31 : decode cX3_setByteMask 31 = .ok (.goto 8, 3) := by decide +kernel
theorem dX3_setByteMask_34 : decode cX3_setByteMask 34 = .ok (.aload_n 0, 1) := by decide +kernel
theorem dX3_setByteMask_35 : decode cX3_setByteMask 35 = .ok (.iload_n 2, 1) := by decide +kernel
theorem dX3_setByteMask_36 : decode cX3_setByteMask 36 = .ok (.putfield 49, 3) := by decide +kernel
theorem dX3_setByteMask_39 : decode cX3_setByteMask 39 = .ok (.return_, 1) := by decide +kernel
theorem dX3_turnCondition_0 : decode cX3_turnCondition 0 = .ok (.aload_n 0, 1) := by decide +kernel
theorem dX3_turnCondition_1 : decode cX3_turnCondition 1 = .ok (.dup, 1) := by decide +kernel
theorem dX3_turnCondition_2 : decode cX3_turnCondition 2 = .ok (.getfield 52, 3) := by decide +kernel
theorem dX3_turnCondition_5 : decode cX3_turnCondition 5 = .ok (.iload_n 1, 1) := by decide +kernel
theorem dX3_turnCondition_6 : decode cX3_turnCondition 6 = .ok (.ixor, 1) := by decide +kernel
theorem dX3_turnCondition_7 : decode cX3_turnCondition 7 = .ok (.putfield 52, 3) := by decide +kernel
theorem dX3_turnCondition_10 : decode cX3_turnCondition 10 = .ok (.aload_n 0, 1) := by decide +kernel
theorem dX3_turnCondition_11 : decode cX3_turnCondition 11 = .ok (.getfield 52, 3) := by decide +kernel
theorem dX3_turnCondition_14 : decode cX3_turnCondition 14 = .ok (.iload_n 1, 1) := by decide +kernel
theorem dX3_turnCondition_15 : decode cX3_turnCondition 15 = .ok (.iand, 1) := by decide +kernel
theorem dX3_turnCondition_16 : decode cX3_turnCondition 16 = .ok (.ifCond .eq 10, 3) := by decide +kernel
theorem dX3_turnCondition_19 : decode cX3_turnCondition 19 = .ok (.aload_n 0, 1) := by decide +kernel
theorem dX3_turnCondition_20 : decode cX3_turnCondition 20 = .ok (.getfield 58, 3) := by decide +kernel
theorem dX3_turnCondition_23 : decode cX3_turnCondition 23 = .ok (.goto 7, 3) := by decide +kernel
theorem dX3_turnCondition_26 : decode cX3_turnCondition 26 = .ok (.aload_n 0, 1) := by decide +kernel
theorem dX3_turnCondition_27 : decode cX3_turnCondition 27 = .ok (.getfield 61, 3) := by decide +kernel
theorem dX3_turnCondition_30 : decode cX3_turnCondition 30 = .ok (.istore_n 2, 1) := by decide +kernel
theorem dX3_turnCondition_31 : decode cX3_turnCondition 31 = .ok (.aload_n 0, 1) := by decide +kernel
theorem dX3_turnCondition_32 : decode cX3_turnCondition 32 = .ok (.dup, 1) := by decide +kernel
theorem dX3_turnCondition_33 : decode cX3_turnCondition 33 = .ok (.getfield 55, 3) := by decide +kernel
theorem dX3_turnCondition_36 : decode cX3_turnCondition 36 = .ok (.iload_n 1, 1) := by decide +kernel
theorem dX3_turnCondition_37 : decode cX3_turnCondition 37 = .ok (.iload_n 2, 1) := by decide +kernel
theorem dX3_turnCondition_38 : decode cX3_turnCondition 38 = .ok (.iand, 1) := by decide +kernel
theorem dX3_turnCondition_39 : decode cX3_turnCondition 39 = .ok (.ior, 1) := by decide +kernel
theorem dX3_turnCondition_40 : decode cX3_turnCondition 40 = .ok (.putfield 55, 3) := by decide +kernel
theorem dX3_turnCondition_43 : decode cX3_turnCondition 43 = .ok (.return_, 1) := by decide +kernel
theorem dX3_changeMask_0 : decode cX3_changeMask 0 = .ok (.iload_n 1, 1) := by decide +kernel
theorem dX3_changeMask_1 : decode cX3_changeMask 1 = .ok (.ifCond .ne 16, 3) := by decide +kernel
theorem dX3_changeMask_4 : decode cX3_changeMask 4 = .ok (.aload_n 0, 1) := by decide +kernel
theorem dX3_changeMask_5 : decode cX3_changeMask 5 = .ok (.getfield 58, 3) := by decide +kernel
theorem dX3_changeMask_8 : decode cX3_changeMask 8 = .ok (.istore_n 3, 1) := by decide +kernel
theorem dX3_changeMask_9 : decode cX3_changeMask 9 = .ok (.aload_n 0, 1) := by decide +kernel
theorem dX3_changeMask_10 : decode cX3_changeMask 10 = .ok (.iload_n 2, 1) := by decide +kernel
theorem dX3_changeMask_11 : decode cX3_changeMask 11 = .ok (.putfield 58, 3) := by decide +kernel
theorem dX3_changeMask_14 : decode cX3_changeMask 14 = .ok (.goto 31, 3) := by decide +kernel
theorem dX3_changeMask_17 : decode cX3_changeMask 17 = .ok (.iload_n 1, 1) := by decide +kernel
theorem dX3_changeMask_18 : decode cX3_changeMask 18 = .ok (.iconst 1, 1) := by decide +kernel
theorem dX3_changeMask_19 : decode cX3_changeMask 19 = .ok (.if_icmp .ne 16, 3) := by decide +kernel
theorem dX3_changeMask_22 : decode cX3_changeMask 22 = .ok (.aload_n 0, 1) := by decide +kernel
theorem dX3_changeMask_23 : decode cX3_changeMask 23 = .ok (.getfield 61, 3) := by decide +kernel
theorem dX3_changeMask_26 : decode cX3_changeMask 26 = .ok (.istore_n 3, 1) := by decide +kernel
theorem dX3_changeMask_27 : decode cX3_changeMask 27 = .ok (.aload_n 0, 1) := by decide +kernel
theorem dX3_changeMask_28 : decode cX3_changeMask 28 = .ok (.iload_n 2, 1) := by decide +kernel
theorem dX3_changeMask_29 : decode cX3_changeMask 29 = .ok (.putfield 61, 3) := by decide +kernel
theorem dX3_changeMask_32 : decode cX3_changeMask 32 = .ok (.goto 13, 3) := by decide +kernel
theorem dX3_changeMask_35 : decode cX3_changeMask 35 = .ok (.aload_n 0, 1) := by decide +kernel
theorem dX3_changeMask_36 : decode cX3_changeMask 36 = .ok (.getfield 64, 3) := by decide +kernel
theorem dX3_changeMask_39 : decode cX3_changeMask 39 = .ok (.istore_n 3, 1) := by decide +kernel
theorem dX3_changeMask_40 : decode cX3_changeMask 40 = .ok (.aload_n 0, 1) := by decide +kernel
theorem dX3_changeMask_41 : decode cX3_changeMask 41 = .ok (.iload_n 2, 1) := by decide +kernel
theorem dX3_changeMask_42 : decode cX3_changeMask 42 = .ok (.putfield 64, 3) := by decide +kernel
theorem dX3_changeMask_45 : decode cX3_changeMask 45 = .ok (.iload_n 3, 1) := by decide +kernel
theorem dX3_changeMask_46 : decode cX3_changeMask 46 = .ok (.ireturn, 1) := by decide +kernel
theorem dX3_sum_0 : decode cX3_sum 0 = .ok (.iconst 0, 1) := by decide +kernel
theorem dX3_sum_1 : decode cX3_sum 1 = .ok (.istore_n 1, 1) := by decide +kernel
theorem dX3_sum_2 : decode cX3_sum 2 = .ok (.aload_n 0, 1) := by decide +kernel
theorem dX3_sum_3 : decode cX3_sum 3 = .ok (.getfield 37, 3) := by decide +kernel
theorem dX3_sum_6 : decode cX3_sum 6 = .ok (.getfield 97, 3) := by decide +kernel
theorem dX3_sum_9 : decode cX3_sum 9 = .ok (.ifCond .le 7, 3) := by decide +kernel
theorem dX3_sum_12 : decode cX3_sum 12 = .ok (.iload_n 1, 1) := by decide +kernel
theorem dX3_sum_13 : decode cX3_sum 13 = .ok (.iconst 4, 1) := by decide +kernel
theorem dX3_sum_14 : decode cX3_sum 14 = .ok (.ior, 1) := by decide +kernel
theorem dX3_sum_15 : decode cX3_sum 15 = .ok (.istore_n 1, 1) := by decide +kernel
theorem dX3_sum_16 : decode cX3_sum 16 = .ok (.aload_n 0, 1) := by decide +kernel
theorem dX3_sum_17 : decode cX3_sum 17 = .ok (.getfield 33, 3) := by decide +kernel
theorem dX3_sum_20 : decode cX3_sum 20 = .ok (.getfield 97, 3) := by decide +kernel
theorem dX3_sum_23 : decode cX3_sum 23 = .ok (.ifCond .le 8, 3) := by decide +kernel
theorem dX3_sum_26 : decode cX3_sum 26 = .ok (.iload_n 1, 1) := by decide +kernel
theorem dX3_sum_27 : decode cX3_sum 27 = .ok (.bipush 16, 2) := by decide +kernel
theorem dX3_sum_29 : decode cX3_sum 29 = .ok (.ior, 1) := by decide +kernel
theorem dX3_sum_30 : decode cX3_sum 30 = .ok (.istore_n 1, 1) := by decide +kernel
theorem dX3_sum_31 : decode cX3_sum 31 = .ok (.aload_n 0, 1) := by decide +kernel
theorem dX3_sum_32 : decode cX3_sum 32 = .ok (.getfield 43, 3) := by decide +kernel
theorem dX3_sum_35 : decode cX3_sum 35 = .ok (.aload_n 0, 1) := by decide +kernel
theorem dX3_sum_36 : decode cX3_sum 36 = .ok (.getfield 46, 3) := by decide +kernel
theorem dX3_sum_39 : decode cX3_sum 39 = .ok (.iand, 1) := by decide +kernel
theorem dX3_sum_40 : decode cX3_sum 40 = .ok (.ifCond .eq 8, 3) := by decide +kernel
theorem dX3_sum_43 : decode cX3_sum 43 = .ok (.iload_n 1, 1) := by decide +kernel
theorem dX3_sum_44 : decode cX3_sum 44 = .ok (.bipush 32, 2) := by decide +kernel
theorem dX3_sum_46 : decode cX3_sum 46 = .ok (.ior, 1) := by decide +kernel
theorem dX3_sum_47 : decode cX3_sum 47 = .ok (.istore_n 1, 1) := by decide +kernel
theorem dX3_sum_48 : decode cX3_sum 48 = .ok (.aload_n 0, 1) := by decide +kernel
theorem dX3_sum_49 : decode cX3_sum 49 = .ok (.getfield 55, 3) := by decide +kernel
theorem dX3_sum_52 : decode cX3_sum 52 = .ok (.aload_n 0, 1) := by decide +kernel
theorem dX3_sum_53 : decode cX3_sum 53 = .ok (.getfield 64, 3) := by decide +kernel
theorem dX3_sum_56 : decode cX3_sum 56 = .ok (.iand, 1) := by decide +kernel
theorem dX3_sum_57 : decode cX3_sum 57 = .ok (.ifCond .eq 9, 3) := by decide +kernel
theorem dX3_sum_60 : decode cX3_sum 60 = .ok (.iload_n 1, 1) := by decide +kernel
theorem dX3_sum_61 : decode cX3_sum 61 = .ok (.sipush 128, 3) := by decide +kernel
theorem dX3_sum_64 : decode cX3_sum 64 = .ok (.ior, 1) := by decide +kernel
theorem dX3_sum_65 : decode cX3_sum 65 = .ok (.istore_n 1, 1) := by decide +kernel
theorem dX3_sum_66 : decode cX3_sum 66 = .ok (.iload_n 1, 1) := by decide +kernel
theorem dX3_sum_67 : decode cX3_sum 67 = .ok (.aload_n 0, 1) := by decide +kernel
theorem dX3_sum_68 : decode cX3_sum 68 = .ok (.getfield 49, 3) := by decide +kernel
theorem dX3_sum_71 : decode cX3_sum 71 = .ok (.iand, 1) := by decide +kernel
theorem dX3_sum_72 : decode cX3_sum 72 = .ok (.ifCond .eq 10, 3) := by decide +kernel
theorem dX3_sum_75 : decode cX3_sum 75 = .ok (.iload_n 1, 1) := by decide +kernel
theorem dX3_sum_76 : decode cX3_sum 76 = .ok (.bipush 64, 2) := by decide +kernel
theorem dX3_sum_78 : decode cX3_sum 78 = .ok (.ior, 1) := by decide +kernel
theorem dX3_sum_79 : decode cX3_sum 79 = .ok (.goto 4, 3) := by decide +kernel
theorem dX3_sum_82 : decode cX3_sum 82 = .ok (.iload_n 1, 1) := by decide +kernel
theorem dX3_sum_83 : decode cX3_sum 83 = .ok (.ireturn, 1) := by decide +kernel
theorem dX3_reading_0 : decode cX3_reading 0 = .ok (.iload_n 1, 1) := by decide +kernel
theorem dX3_reading_1 : decode cX3_reading 1 = .ok (.tableswitch 149 0 12 #[67, 72, 77, 82, 87, 92, 97, 102, 107, 112, 120, 133, 141], 67) := by decide +kernel
theorem dX3_reading_68 : decode cX3_reading 68 = .ok (.aload_n 0, 1) := by decide +kernel
theorem dX3_reading_69 : decode cX3_reading 69 = .ok (.getfield 43, 3) := by decide +kernel
theorem dX3_reading_72 : decode cX3_reading 72 = .ok (.ireturn, 1) := by decide +kernel
theorem dX3_reading_73 : decode cX3_reading 73 = .ok (.aload_n 0, 1) := by decide +kernel
theorem dX3_reading_74 : decode cX3_reading 74 = .ok (.getfield 46, 3) := by decide +kernel
theorem dX3_reading_77 : decode cX3_reading 77 = .ok (.ireturn, 1) := by decide +kernel
theorem dX3_reading_78 : decode cX3_reading 78 = .ok (.aload_n 0, 1) := by decide +kernel
theorem dX3_reading_79 : decode cX3_reading 79 = .ok (.getfield 49, 3) := by decide +kernel
theorem dX3_reading_82 : decode cX3_reading 82 = .ok (.ireturn, 1) := by decide +kernel
theorem dX3_reading_83 : decode cX3_reading 83 = .ok (.aload_n 0, 1) := by decide +kernel
theorem dX3_reading_84 : decode cX3_reading 84 = .ok (.invokevirtual 110, 3) := by decide +kernel
theorem dX3_reading_87 : decode cX3_reading 87 = .ok (.ireturn, 1) := by decide +kernel
theorem dX3_reading_88 : decode cX3_reading 88 = .ok (.aload_n 0, 1) := by decide +kernel
theorem dX3_reading_89 : decode cX3_reading 89 = .ok (.getfield 52, 3) := by decide +kernel
theorem dX3_reading_92 : decode cX3_reading 92 = .ok (.ireturn, 1) := by decide +kernel
theorem dX3_reading_93 : decode cX3_reading 93 = .ok (.aload_n 0, 1) := by decide +kernel
theorem dX3_reading_94 : decode cX3_reading 94 = .ok (.getfield 55, 3) := by decide +kernel
theorem dX3_reading_97 : decode cX3_reading 97 = .ok (.ireturn, 1) := by decide +kernel
theorem dX3_reading_98 : decode cX3_reading 98 = .ok (.aload_n 0, 1) := by decide +kernel
theorem dX3_reading_99 : decode cX3_reading 99 = .ok (.getfield 58, 3) := by decide +kernel
theorem dX3_reading_102 : decode cX3_reading 102 = .ok (.ireturn, 1) := by decide +kernel
theorem dX3_reading_103 : decode cX3_reading 103 = .ok (.aload_n 0, 1) := by decide +kernel
theorem dX3_reading_104 : decode cX3_reading 104 = .ok (.getfield 61, 3) := by decide +kernel
theorem dX3_reading_107 : decode cX3_reading 107 = .ok (.ireturn, 1) := by decide +kernel
theorem dX3_reading_108 : decode cX3_reading 108 = .ok (.aload_n 0, 1) := by decide +kernel
theorem dX3_reading_109 : decode cX3_reading 109 = .ok (.getfield 64, 3) := by decide +kernel
theorem dX3_reading_112 : decode cX3_reading 112 = .ok (.ireturn, 1) := by decide +kernel
theorem dX3_reading_113 : decode cX3_reading 113 = .ok (.aload_n 0, 1) := by decide +kernel
theorem dX3_reading_114 : decode cX3_reading 114 = .ok (.getfield 40, 3) := by decide +kernel
theorem dX3_reading_117 : decode cX3_reading 117 = .ok (.getfield 97, 3) := by decide +kernel
theorem dX3_reading_120 : decode cX3_reading 120 = .ok (.ireturn, 1) := by decide +kernel
theorem dX3_reading_121 : decode cX3_reading 121 = .ok (.aload_n 0, 1) := by decide +kernel
theorem dX3_reading_122 : decode cX3_reading 122 = .ok (.getfield 67, 3) := by decide +kernel
theorem dX3_reading_125 : decode cX3_reading 125 = .ok (.ifCond .eq 7, 3) := by decide +kernel
theorem dX3_reading_128 : decode cX3_reading 128 = .ok (.iconst 1, 1) := by decide +kernel
theorem dX3_reading_129 : decode cX3_reading 129 = .ok (.goto 4, 3) := by decide +kernel
theorem dX3_reading_132 : decode cX3_reading 132 = .ok (.iconst 0, 1) := by decide +kernel
theorem dX3_reading_133 : decode cX3_reading 133 = .ok (.ireturn, 1) := by decide +kernel
theorem dX3_reading_134 : decode cX3_reading 134 = .ok (.aload_n 0, 1) := by decide +kernel
theorem dX3_reading_135 : decode cX3_reading 135 = .ok (.getfield 33, 3) := by decide +kernel
theorem dX3_reading_138 : decode cX3_reading 138 = .ok (.getfield 97, 3) := by decide +kernel
theorem dX3_reading_141 : decode cX3_reading 141 = .ok (.ireturn, 1) := by decide +kernel
theorem dX3_reading_142 : decode cX3_reading 142 = .ok (.aload_n 0, 1) := by decide +kernel
theorem dX3_reading_143 : decode cX3_reading 143 = .ok (.getfield 37, 3) := by decide +kernel
theorem dX3_reading_146 : decode cX3_reading 146 = .ok (.getfield 97, 3) := by decide +kernel
theorem dX3_reading_149 : decode cX3_reading 149 = .ok (.ireturn, 1) := by decide +kernel
theorem dX3_reading_150 : decode cX3_reading 150 = .ok (.aload_n 0, 1) := by decide +kernel
theorem dX3_reading_151 : decode cX3_reading 151 = .ok (.getfield 9, 3) := by decide +kernel
theorem dX3_reading_154 : decode cX3_reading 154 = .ok (.ireturn, 1) := by decide +kernel
theorem dX4_init_0 : decode cX4_init 0 = .ok (.aload_n 0, 1) := by decide +kernel
theorem dX4_init_1 : decode cX4_init 1 = .ok (.invokespecial 3, 3) := by decide +kernel
theorem dX4_init_4 : decode cX4_init 4 = .ok (.aload_n 0, 1) := by decide +kernel
theorem dX4_init_5 : decode cX4_init 5 = .ok (.bipush 100, 2) := by decide +kernel
theorem dX4_init_7 : decode cX4_init 7 = .ok (.newarray .byte, 2) := by decide +kernel
theorem dX4_init_9 : decode cX4_init 9 = .ok (.putfield 9, 3) := by decide +kernel
theorem dX4_init_12 : decode cX4_init 12 = .ok (.aload_n 0, 1) := by decide +kernel
theorem dX4_init_13 : decode cX4_init 13 = .ok (.iconst 0, 1) := by decide +kernel
theorem dX4_init_14 : decode cX4_init 14 = .ok (.putfield 15, 3) := by decide +kernel
theorem dX4_init_17 : decode cX4_init 17 = .ok (.return_, 1) := by decide +kernel
theorem dX4_append_0 : decode cX4_append 0 = .ok (.aload_n 0, 1) := by decide +kernel
theorem dX4_append_1 : decode cX4_append 1 = .ok (.getfield 15, 3) := by decide +kernel
theorem dX4_append_4 : decode cX4_append 4 = .ok (.ifCond .lt 33, 3) := by decide +kernel
theorem dX4_append_7 : decode cX4_append 7 = .ok (.aload_n 0, 1) := by decide +kernel
theorem dX4_append_8 : decode cX4_append 8 = .ok (.getfield 15, 3) := by decide +kernel
theorem dX4_append_11 : decode cX4_append 11 = .ok (.bipush 100, 2) := by decide +kernel
theorem dX4_append_13 : decode cX4_append 13 = .ok (.if_icmp .ge 24, 3) := by decide +kernel
theorem dX4_append_16 : decode cX4_append 16 = .ok (.aload_n 0, 1) := by decide +kernel
theorem dX4_append_17 : decode cX4_append 17 = .ok (.getfield 9, 3) := by decide +kernel
theorem dX4_append_20 : decode cX4_append 20 = .ok (.aload_n 0, 1) := by decide +kernel
theorem dX4_append_21 : decode cX4_append 21 = .ok (.getfield 15, 3) := by decide +kernel
theorem dX4_append_24 : decode cX4_append 24 = .ok (.iload_n 1, 1) := by decide +kernel
theorem dX4_append_25 : decode cX4_append 25 = .ok (.i2b, 1) := by decide +kernel
theorem dX4_append_26 : decode cX4_append 26 = .ok (.bastore, 1) := by decide +kernel
theorem dX4_append_27 : decode cX4_append 27 = .ok (.aload_n 0, 1) := by decide +kernel
theorem dX4_append_28 : decode cX4_append 28 = .ok (.dup, 1) := by decide +kernel
theorem dX4_append_29 : decode cX4_append 29 = .ok (.getfield 15, 3) := by decide +kernel
theorem dX4_append_32 : decode cX4_append 32 = .ok (.iconst 1, 1) := by decide +kernel
theorem dX4_append_33 : decode cX4_append 33 = .ok (.iadd, 1) := by decide +kernel
theorem dX4_append_34 : decode cX4_append 34 = .ok (.putfield 15, 3) := by decide +kernel
theorem dX4_append_37 : decode cX4_append 37 = .ok (.return_, 1) := by decide +kernel
theorem dX4_byteAt_0 : decode cX4_byteAt 0 = .ok (.iload_n 1, 1) := by decide +kernel
theorem dX4_byteAt_1 : decode cX4_byteAt 1 = .ok (.ifCond .lt 26, 3) := by decide +kernel
theorem dX4_byteAt_4 : decode cX4_byteAt 4 = .ok (.iload_n 1, 1) := by decide +kernel
theorem dX4_byteAt_5 : decode cX4_byteAt 5 = .ok (.aload_n 0, 1) := by decide +kernel
theorem dX4_byteAt_6 : decode cX4_byteAt 6 = .ok (.getfield 15, 3) := by decide +kernel
theorem dX4_byteAt_9 : decode cX4_byteAt 9 = .ok (.if_icmp .ge 18, 3) := by decide +kernel
theorem dX4_byteAt_12 : decode cX4_byteAt 12 = .ok (.iload_n 1, 1) := by decide +kernel
theorem dX4_byteAt_13 : decode cX4_byteAt 13 = .ok (.bipush 100, 2) := by decide +kernel
theorem dX4_byteAt_15 : decode cX4_byteAt 15 = .ok (.if_icmp .ge 12, 3) := by decide +kernel
theorem dX4_byteAt_18 : decode cX4_byteAt 18 = .ok (.aload_n 0, 1) := by decide +kernel
theorem dX4_byteAt_19 : decode cX4_byteAt 19 = .ok (.getfield 9, 3) := by decide +kernel
theorem dX4_byteAt_22 : decode cX4_byteAt 22 = .ok (.iload_n 1, 1) := by decide +kernel
theorem dX4_byteAt_23 : decode cX4_byteAt 23 = .ok (.baload, 1) := by decide +kernel
theorem dX4_byteAt_24 : decode cX4_byteAt 24 = .ok (.goto 4, 3) := by decide +kernel
theorem dX4_byteAt_27 : decode cX4_byteAt 27 = .ok (.iconst (-1), 1) := by decide +kernel
theorem dX4_byteAt_28 : decode cX4_byteAt 28 = .ok (.ireturn, 1) := by decide +kernel
theorem dX4_capitalAt_0 : decode cX4_capitalAt 0 = .ok (.iload_n 1, 1) := by decide +kernel
theorem dX4_capitalAt_1 : decode cX4_capitalAt 1 = .ok (.ifCond .lt 26, 3) := by decide +kernel
theorem dX4_capitalAt_4 : decode cX4_capitalAt 4 = .ok (.iload_n 1, 1) := by decide +kernel
theorem dX4_capitalAt_5 : decode cX4_capitalAt 5 = .ok (.aload_n 0, 1) := by decide +kernel
theorem dX4_capitalAt_6 : decode cX4_capitalAt 6 = .ok (.getfield 15, 3) := by decide +kernel
theorem dX4_capitalAt_9 : decode cX4_capitalAt 9 = .ok (.if_icmp .ge 18, 3) := by decide +kernel
theorem dX4_capitalAt_12 : decode cX4_capitalAt 12 = .ok (.iload_n 1, 1) := by decide +kernel
theorem dX4_capitalAt_13 : decode cX4_capitalAt 13 = .ok (.bipush 100, 2) := by decide +kernel
theorem dX4_capitalAt_15 : decode cX4_capitalAt 15 = .ok (.if_icmp .ge 12, 3) := by decide +kernel
theorem dX4_capitalAt_18 : decode cX4_capitalAt 18 = .ok (.aload_n 0, 1) := by decide +kernel
theorem dX4_capitalAt_19 : decode cX4_capitalAt 19 = .ok (.getfield 9, 3) := by decide +kernel
theorem dX4_capitalAt_22 : decode cX4_capitalAt 22 = .ok (.iload_n 1, 1) := by decide +kernel
theorem dX4_capitalAt_23 : decode cX4_capitalAt 23 = .ok (.baload, 1) := by decide +kernel
theorem dX4_capitalAt_24 : decode cX4_capitalAt 24 = .ok (.goto 4, 3) := by decide +kernel
theorem dX4_capitalAt_27 : decode cX4_capitalAt 27 = .ok (.iconst (-1), 1) := by decide +kernel
theorem dX4_capitalAt_28 : decode cX4_capitalAt 28 = .ok (.istore_n 2, 1) := by decide +kernel
theorem dX4_capitalAt_29 : decode cX4_capitalAt 29 = .ok (.iload_n 2, 1) := by decide +kernel
theorem dX4_capitalAt_30 : decode cX4_capitalAt 30 = .ok (.bipush 97, 2) := by decide +kernel
theorem dX4_capitalAt_32 : decode cX4_capitalAt 32 = .ok (.if_icmp .lt 19, 3) := by decide +kernel
theorem dX4_capitalAt_35 : decode cX4_capitalAt 35 = .ok (.iload_n 2, 1) := by decide +kernel
theorem dX4_capitalAt_36 : decode cX4_capitalAt 36 = .ok (.bipush 122, 2) := by decide +kernel
theorem dX4_capitalAt_38 : decode cX4_capitalAt 38 = .ok (.if_icmp .gt 13, 3) := by decide +kernel
theorem dX4_capitalAt_41 : decode cX4_capitalAt 41 = .ok (.iload_n 2, 1) := by decide +kernel
theorem dX4_capitalAt_42 : decode cX4_capitalAt 42 = .ok (.bipush 97, 2) := by decide +kernel
theorem dX4_capitalAt_44 : decode cX4_capitalAt 44 = .ok (.isub, 1) := by decide +kernel
theorem dX4_capitalAt_45 : decode cX4_capitalAt 45 = .ok (.bipush 65, 2) := by decide +kernel
theorem dX4_capitalAt_47 : decode cX4_capitalAt 47 = .ok (.iadd, 1) := by decide +kernel
theorem dX4_capitalAt_48 : decode cX4_capitalAt 48 = .ok (.goto 4, 3) := by decide +kernel
theorem dX4_capitalAt_51 : decode cX4_capitalAt 51 = .ok (.iload_n 2, 1) := by decide +kernel
theorem dX4_capitalAt_52 : decode cX4_capitalAt 52 = .ok (.ireturn, 1) := by decide +kernel
theorem dX4_pastLetters_0 : decode cX4_pastLetters 0 = .ok (.iload_n 1, 1) := by decide +kernel
theorem dX4_pastLetters_1 : decode cX4_pastLetters 1 = .ok (.istore_n 2, 1) := by decide +kernel
theorem dX4_pastLetters_2 : decode cX4_pastLetters 2 = .ok (.iload_n 2, 1) := by decide +kernel
theorem dX4_pastLetters_3 : decode cX4_pastLetters 3 = .ok (.aload_n 0, 1) := by decide +kernel
theorem dX4_pastLetters_4 : decode cX4_pastLetters 4 = .ok (.getfield 15, 3) := by decide +kernel
theorem dX4_pastLetters_7 : decode cX4_pastLetters 7 = .ok (.if_icmp .ge 20, 3) := by decide +kernel
theorem dX4_pastLetters_10 : decode cX4_pastLetters 10 = .ok (.aload_n 0, 1) := by decide +kernel
theorem dX4_pastLetters_11 : decode cX4_pastLetters 11 = .ok (.iload_n 2, 1) := by decide +kernel
theorem dX4_pastLetters_12 : decode cX4_pastLetters 12 = .ok (.invokevirtual 19, 3) := by decide +kernel
theorem dX4_pastLetters_15 : decode cX4_pastLetters 15 = .ok (.invokestatic 23, 3) := by decide +kernel
theorem dX4_pastLetters_18 : decode cX4_pastLetters 18 = .ok (.ifCond .eq 9, 3) := by decide +kernel
theorem dX4_pastLetters_21 : decode cX4_pastLetters 21 = .ok (.iinc 2 1, 3) := by decide +kernel
theorem dX4_pastLetters_24 : decode cX4_pastLetters 24 = .ok (.goto (-22), 3) := by decide +kernel
theorem dX4_pastLetters_27 : decode cX4_pastLetters 27 = .ok (.iload_n 2, 1) := by decide +kernel
theorem dX4_pastLetters_28 : decode cX4_pastLetters 28 = .ok (.ireturn, 1) := by decide +kernel
theorem dX4_pastCapitals_0 : decode cX4_pastCapitals 0 = .ok (.iload_n 1, 1) := by decide +kernel
theorem dX4_pastCapitals_1 : decode cX4_pastCapitals 1 = .ok (.istore_n 2, 1) := by decide +kernel
theorem dX4_pastCapitals_2 : decode cX4_pastCapitals 2 = .ok (.iload_n 2, 1) := by decide +kernel
theorem dX4_pastCapitals_3 : decode cX4_pastCapitals 3 = .ok (.aload_n 0, 1) := by decide +kernel
theorem dX4_pastCapitals_4 : decode cX4_pastCapitals 4 = .ok (.getfield 15, 3) := by decide +kernel
theorem dX4_pastCapitals_7 : decode cX4_pastCapitals 7 = .ok (.if_icmp .ge 20, 3) := by decide +kernel
theorem dX4_pastCapitals_10 : decode cX4_pastCapitals 10 = .ok (.aload_n 0, 1) := by decide +kernel
theorem dX4_pastCapitals_11 : decode cX4_pastCapitals 11 = .ok (.iload_n 2, 1) := by decide +kernel
theorem dX4_pastCapitals_12 : decode cX4_pastCapitals 12 = .ok (.invokevirtual 19, 3) := by decide +kernel
theorem dX4_pastCapitals_15 : decode cX4_pastCapitals 15 = .ok (.invokestatic 27, 3) := by decide +kernel
theorem dX4_pastCapitals_18 : decode cX4_pastCapitals 18 = .ok (.ifCond .eq 9, 3) := by decide +kernel
theorem dX4_pastCapitals_21 : decode cX4_pastCapitals 21 = .ok (.iinc 2 1, 3) := by decide +kernel
theorem dX4_pastCapitals_24 : decode cX4_pastCapitals 24 = .ok (.goto (-22), 3) := by decide +kernel
theorem dX4_pastCapitals_27 : decode cX4_pastCapitals 27 = .ok (.iload_n 2, 1) := by decide +kernel
theorem dX4_pastCapitals_28 : decode cX4_pastCapitals 28 = .ok (.ireturn, 1) := by decide +kernel
theorem dX4_pastBlanks_0 : decode cX4_pastBlanks 0 = .ok (.iload_n 1, 1) := by decide +kernel
theorem dX4_pastBlanks_1 : decode cX4_pastBlanks 1 = .ok (.istore_n 2, 1) := by decide +kernel
theorem dX4_pastBlanks_2 : decode cX4_pastBlanks 2 = .ok (.iload_n 2, 1) := by decide +kernel
theorem dX4_pastBlanks_3 : decode cX4_pastBlanks 3 = .ok (.aload_n 0, 1) := by decide +kernel
theorem dX4_pastBlanks_4 : decode cX4_pastBlanks 4 = .ok (.getfield 15, 3) := by decide +kernel
theorem dX4_pastBlanks_7 : decode cX4_pastBlanks 7 = .ok (.if_icmp .ge 19, 3) := by decide +kernel
theorem dX4_pastBlanks_10 : decode cX4_pastBlanks 10 = .ok (.aload_n 0, 1) := by decide +kernel
theorem dX4_pastBlanks_11 : decode cX4_pastBlanks 11 = .ok (.iload_n 2, 1) := by decide +kernel
theorem dX4_pastBlanks_12 : decode cX4_pastBlanks 12 = .ok (.invokevirtual 19, 3) := by decide +kernel
theorem dX4_pastBlanks_15 : decode cX4_pastBlanks 15 = .ok (.bipush 32, 2) := by decide +kernel
theorem dX4_pastBlanks_17 : decode cX4_pastBlanks 17 = .ok (.if_icmp .ne 9, 3) := by decide +kernel
theorem dX4_pastBlanks_20 : decode cX4_pastBlanks 20 = .ok (.iinc 2 1, 3) := by decide +kernel
theorem dX4_pastBlanks_23 : decode cX4_pastBlanks 23 = .ok (.goto (-21), 3) := by decide +kernel
theorem dX4_pastBlanks_26 : decode cX4_pastBlanks 26 = .ok (.iload_n 2, 1) := by decide +kernel
theorem dX4_pastBlanks_27 : decode cX4_pastBlanks 27 = .ok (.ireturn, 1) := by decide +kernel
theorem dX4_isName_0 : decode cX4_isName 0 = .ok (.aload_n 0, 1) := by decide +kernel
theorem dX4_isName_1 : decode cX4_isName 1 = .ok (.iconst 0, 1) := by decide +kernel
theorem dX4_isName_2 : decode cX4_isName 2 = .ok (.invokevirtual 30, 3) := by decide +kernel
theorem dX4_isName_5 : decode cX4_isName 5 = .ok (.istore_n 1, 1) := by decide +kernel
theorem dX4_isName_6 : decode cX4_isName 6 = .ok (.iload_n 1, 1) := by decide +kernel
theorem dX4_isName_7 : decode cX4_isName 7 = .ok (.ifCond .eq 12, 3) := by decide +kernel
theorem dX4_isName_10 : decode cX4_isName 10 = .ok (.aload_n 0, 1) := by decide +kernel
theorem dX4_isName_11 : decode cX4_isName 11 = .ok (.getfield 15, 3) := by decide +kernel
theorem dX4_isName_14 : decode cX4_isName 14 = .ok (.bipush 8, 2) := by decide +kernel
theorem dX4_isName_16 : decode cX4_isName 16 = .ok (.if_icmp .le 5, 3) := by decide +kernel
theorem dX4_isName_19 : decode cX4_isName 19 = .ok (.iconst 0, 1) := by decide +kernel
theorem dX4_isName_20 : decode cX4_isName 20 = .ok (.ireturn, 1) := by decide +kernel
theorem dX4_isName_21 : decode cX4_isName 21 = .ok (.iload_n 1, 1) := by decide +kernel
theorem dX4_isName_22 : decode cX4_isName 22 = .ok (.istore_n 2, 1) := by decide +kernel
theorem dX4_isName_23 : decode cX4_isName 23 = .ok (.iload_n 2, 1) := by decide +kernel
theorem dX4_isName_24 : decode cX4_isName 24 = .ok (.aload_n 0, 1) := by decide +kernel
theorem dX4_isName_25 : decode cX4_isName 25 = .ok (.getfield 15, 3) := by decide +kernel
theorem dX4_isName_28 : decode cX4_isName 28 = .ok (.if_icmp .ge 22, 3) := by decide +kernel
theorem dX4_isName_31 : decode cX4_isName 31 = .ok (.aload_n 0, 1) := by decide +kernel
theorem dX4_isName_32 : decode cX4_isName 32 = .ok (.iload_n 2, 1) := by decide +kernel
theorem dX4_isName_33 : decode cX4_isName 33 = .ok (.invokevirtual 19, 3) := by decide +kernel
theorem dX4_isName_36 : decode cX4_isName 36 = .ok (.invokestatic 33, 3) := by decide +kernel
theorem dX4_isName_39 : decode cX4_isName 39 = .ok (.ifCond .ne 5, 3) := by decide +kernel
theorem dX4_isName_42 : decode cX4_isName 42 = .ok (.iconst 0, 1) := by decide +kernel
theorem dX4_isName_43 : decode cX4_isName 43 = .ok (.ireturn, 1) := by decide +kernel
theorem dX4_isName_44 : decode cX4_isName 44 = .ok (.iinc 2 1, 3) := by decide +kernel
theorem dX4_isName_47 : decode cX4_isName 47 = .ok (.goto (-24), 3) := by decide +kernel
theorem dX4_isName_50 : decode cX4_isName 50 = .ok (.iconst 1, 1) := by decide +kernel
theorem dX4_isName_51 : decode cX4_isName 51 = .ok (.ireturn, 1) := by decide +kernel
theorem dX4_spells_0 : decode cX4_spells 0 = .ok (.iload_n 2, 1) := by decide +kernel
theorem dX4_spells_1 : decode cX4_spells 1 = .ok (.iload_n 1, 1) := by decide +kernel
theorem dX4_spells_2 : decode cX4_spells 2 = .ok (.isub, 1) := by decide +kernel
theorem dX4_spells_3 : decode cX4_spells 3 = .ok (.aload_n 3, 1) := by decide +kernel
theorem dX4_spells_4 : decode cX4_spells 4 = .ok (.invokevirtual 36, 3) := by decide +kernel
theorem dX4_spells_7 : decode cX4_spells 7 = .ok (.if_icmp .eq 5, 3) := by decide +kernel
theorem dX4_spells_10 : decode cX4_spells 10 = .ok (.iconst 0, 1) := by decide +kernel
theorem dX4_spells_11 : decode cX4_spells 11 = .ok (.ireturn, 1) := by decide +kernel
theorem dX4_spells_12 : decode cX4_spells 12 = .ok (.iconst 0, 1) := by decide +kernel
theorem dX4_spells_13 : decode cX4_spells 13 = .ok (.istore 4, 2) := by decide +kernel
theorem dX4_spells_15 : decode cX4_spells 15 = .ok (.iload 4, 2) := by decide +kernel
theorem dX4_spells_17 : decode cX4_spells 17 = .ok (.aload_n 3, 1) := by decide +kernel
theorem dX4_spells_18 : decode cX4_spells 18 = .ok (.invokevirtual 36, 3) := by decide +kernel
theorem dX4_spells_21 : decode cX4_spells 21 = .ok (.if_icmp .ge 28, 3) := by decide +kernel
theorem dX4_spells_24 : decode cX4_spells 24 = .ok (.aload_n 0, 1) := by decide +kernel
theorem dX4_spells_25 : decode cX4_spells 25 = .ok (.iload_n 1, 1) := by decide +kernel
theorem dX4_spells_26 : decode cX4_spells 26 = .ok (.iload 4, 2) := by decide +kernel
theorem dX4_spells_28 : decode cX4_spells 28 = .ok (.iadd, 1) := by decide +kernel
theorem dX4_spells_29 : decode cX4_spells 29 = .ok (.invokevirtual 41, 3) := by decide +kernel
theorem dX4_spells_32 : decode cX4_spells 32 = .ok (.aload_n 3, 1) := by decide +kernel
theorem dX4_spells_33 : decode cX4_spells 33 = .ok (.iload 4, 2) := by decide +kernel
theorem dX4_spells_35 : decode cX4_spells 35 = .ok (.invokevirtual 44, 3) := by decide +kernel
theorem dX4_spells_38 : decode cX4_spells 38 = .ok (.if_icmp .eq 5, 3) := by decide +kernel
theorem dX4_spells_41 : decode cX4_spells 41 = .ok (.iconst 0, 1) := by decide +kernel
theorem dX4_spells_42 : decode cX4_spells 42 = .ok (.ireturn, 1) := by decide +kernel
theorem dX4_spells_43 : decode cX4_spells 43 = .ok (.iinc 4 1, 3) := by decide +kernel
theorem dX4_spells_46 : decode cX4_spells 46 = .ok (.goto (-31), 3) := by decide +kernel
theorem dX4_spells_49 : decode cX4_spells 49 = .ok (.iconst 1, 1) := by decide +kernel
theorem dX4_spells_50 : decode cX4_spells 50 = .ok (.ireturn, 1) := by decide +kernel
theorem dX5_init_0 : decode cX5_init 0 = .ok (.aload_n 0, 1) := by decide +kernel
theorem dX5_init_1 : decode cX5_init 1 = .ok (.invokespecial 3, 3) := by decide +kernel
theorem dX5_init_4 : decode cX5_init 4 = .ok (.aload_n 0, 1) := by decide +kernel
theorem dX5_init_5 : decode cX5_init 5 = .ok (.bipush 16, 2) := by decide +kernel
theorem dX5_init_7 : decode cX5_init 7 = .ok (.anewarray 9, 3) := by decide +kernel
theorem dX5_init_10 : decode cX5_init 10 = .ok (.putfield 11, 3) := by decide +kernel
theorem dX5_init_13 : decode cX5_init 13 = .ok (.aload_n 0, 1) := by decide +kernel
theorem dX5_init_14 : decode cX5_init 14 = .ok (.bipush 16, 2) := by decide +kernel
theorem dX5_init_16 : decode cX5_init 16 = .ok (.newarray .int, 2) := by decide +kernel
theorem dX5_init_18 : decode cX5_init 18 = .ok (.putfield 17, 3) := by decide +kernel
theorem dX5_init_21 : decode cX5_init 21 = .ok (.aload_n 0, 1) := by decide +kernel
theorem dX5_init_22 : decode cX5_init 22 = .ok (.iconst 1, 1) := by decide +kernel
theorem dX5_init_23 : decode cX5_init 23 = .ok (.putfield 21, 3) := by decide +kernel
theorem dX5_init_26 : decode cX5_init 26 = .ok (.aload_n 0, 1) := by decide +kernel
theorem dX5_init_27 : decode cX5_init 27 = .ok (.iconst 1, 1) := by decide +kernel
theorem dX5_init_28 : decode cX5_init 28 = .ok (.putfield 25, 3) := by decide +kernel
theorem dX5_init_31 : decode cX5_init 31 = .ok (.iconst 0, 1) := by decide +kernel
theorem dX5_init_32 : decode cX5_init 32 = .ok (.istore_n 1, 1) := by decide +kernel
theorem dX5_init_33 : decode cX5_init 33 = .ok (.iload_n 1, 1) := by decide +kernel
theorem dX5_init_34 : decode cX5_init 34 = .ok (.bipush 16, 2) := by decide +kernel
theorem dX5_init_36 : decode cX5_init 36 = .ok (.if_icmp .ge 22, 3) := by decide +kernel
theorem dX5_init_39 : decode cX5_init 39 = .ok (.aload_n 0, 1) := by decide +kernel
theorem dX5_init_40 : decode cX5_init 40 = .ok (.getfield 11, 3) := by decide +kernel
theorem dX5_init_43 : decode cX5_init 43 = .ok (.iload_n 1, 1) := by decide +kernel
theorem dX5_init_44 : decode cX5_init 44 = .ok (.new 9, 3) := by decide +kernel
theorem dX5_init_47 : decode cX5_init 47 = .ok (.dup, 1) := by decide +kernel
theorem dX5_init_48 : decode cX5_init 48 = .ok (.invokespecial 28, 3) := by decide +kernel
theorem dX5_init_51 : decode cX5_init 51 = .ok (.aastore, 1) := by decide +kernel
theorem dX5_init_52 : decode cX5_init 52 = .ok (.iinc 1 1, 3) := by decide +kernel
theorem dX5_init_55 : decode cX5_init 55 = .ok (.goto (-22), 3) := by decide +kernel
theorem dX5_init_58 : decode cX5_init 58 = .ok (.return_, 1) := by decide +kernel
theorem dX5_find_0 : decode cX5_find 0 = .ok (.aload_n 0, 1) := by decide +kernel
theorem dX5_find_1 : decode cX5_find 1 = .ok (.iload_n 3, 1) := by decide +kernel
theorem dX5_find_2 : decode cX5_find 2 = .ok (.bipush 16, 2) := by decide +kernel
theorem dX5_find_4 : decode cX5_find 4 = .ok (.invokestatic 29, 3) := by decide +kernel
theorem dX5_find_7 : decode cX5_find 7 = .ok (.putfield 21, 3) := by decide +kernel
theorem dX5_find_10 : decode cX5_find 10 = .ok (.aload_n 0, 1) := by decide +kernel
theorem dX5_find_11 : decode cX5_find 11 = .ok (.iconst 1, 1) := by decide +kernel
theorem dX5_find_12 : decode cX5_find 12 = .ok (.putfield 25, 3) := by decide +kernel
theorem dX5_find_15 : decode cX5_find 15 = .ok (.iconst 0, 1) := by decide +kernel
theorem dX5_find_16 : decode cX5_find 16 = .ok (.istore 4, 2) := by decide +kernel
theorem dX5_find_18 : decode cX5_find 18 = .ok (.iload 4, 2) := by decide +kernel
theorem dX5_find_20 : decode cX5_find 20 = .ok (.bipush 16, 2) := by decide +kernel
theorem dX5_find_22 : decode cX5_find 22 = .ok (.if_icmp .ge 17, 3) := by decide +kernel
theorem dX5_find_25 : decode cX5_find 25 = .ok (.aload_n 0, 1) := by decide +kernel
theorem dX5_find_26 : decode cX5_find 26 = .ok (.getfield 17, 3) := by decide +kernel
theorem dX5_find_29 : decode cX5_find 29 = .ok (.iload 4, 2) := by decide +kernel
theorem dX5_find_31 : decode cX5_find 31 = .ok (.iconst 0, 1) := by decide +kernel
theorem dX5_find_32 : decode cX5_find 32 = .ok (.iastore, 1) := by decide +kernel
theorem dX5_find_33 : decode cX5_find 33 = .ok (.iinc 4 1, 3) := by decide +kernel
theorem dX5_find_36 : decode cX5_find 36 = .ok (.goto (-18), 3) := by decide +kernel
theorem dX5_find_39 : decode cX5_find 39 = .ok (.aload_n 0, 1) := by decide +kernel
theorem dX5_find_40 : decode cX5_find 40 = .ok (.iconst 0, 1) := by decide +kernel
theorem dX5_find_41 : decode cX5_find 41 = .ok (.aload_n 1, 1) := by decide +kernel
theorem dX5_find_42 : decode cX5_find 42 = .ok (.aload_n 2, 1) := by decide +kernel
theorem dX5_find_43 : decode cX5_find 43 = .ok (.iconst 0, 1) := by decide +kernel
theorem dX5_find_44 : decode cX5_find 44 = .ok (.iconst 0, 1) := by decide +kernel
theorem dX5_find_45 : decode cX5_find 45 = .ok (.invokevirtual 35, 3) := by decide +kernel
theorem dX5_find_48 : decode cX5_find 48 = .ok (.ireturn, 1) := by decide +kernel
theorem dX5_findFrom_0 : decode cX5_findFrom 0 = .ok (.iload 5, 2) := by decide +kernel
theorem dX5_findFrom_2 : decode cX5_findFrom 2 = .ok (.bipush 16, 2) := by decide +kernel
theorem dX5_findFrom_4 : decode cX5_findFrom 4 = .ok (.if_icmp .gt 17, 3) := by decide +kernel
theorem dX5_findFrom_7 : decode cX5_findFrom 7 = .ok (.aload_n 0, 1) := by decide +kernel
theorem dX5_findFrom_8 : decode cX5_findFrom 8 = .ok (.getfield 17, 3) := by decide +kernel
theorem dX5_findFrom_11 : decode cX5_findFrom 11 = .ok (.iload_n 1, 1) := by decide +kernel
theorem dX5_findFrom_12 : decode cX5_findFrom 12 = .ok (.iaload, 1) := by decide +kernel
theorem dX5_findFrom_13 : decode cX5_findFrom 13 = .ok (.iload 4, 2) := by decide +kernel
theorem dX5_findFrom_15 : decode cX5_findFrom 15 = .ok (.ishr, 1) := by decide +kernel
theorem dX5_findFrom_16 : decode cX5_findFrom 16 = .ok (.iconst 1, 1) := by decide +kernel
theorem dX5_findFrom_17 : decode cX5_findFrom 17 = .ok (.iand, 1) := by decide +kernel
theorem dX5_findFrom_18 : decode cX5_findFrom 18 = .ok (.ifCond .eq 7, 3) := by decide +kernel
theorem dX5_findFrom_21 : decode cX5_findFrom 21 = .ok (.sipush (-10001), 3) := by decide +kernel
theorem dX5_findFrom_24 : decode cX5_findFrom 24 = .ok (.ireturn, 1) := by decide +kernel
theorem dX5_findFrom_25 : decode cX5_findFrom 25 = .ok (.iload 4, 2) := by decide +kernel
theorem dX5_findFrom_27 : decode cX5_findFrom 27 = .ok (.aload_n 3, 1) := by decide +kernel
theorem dX5_findFrom_28 : decode cX5_findFrom 28 = .ok (.getfield 39, 3) := by decide +kernel
theorem dX5_findFrom_31 : decode cX5_findFrom 31 = .ok (.if_icmp .lt 17, 3) := by decide +kernel
theorem dX5_findFrom_34 : decode cX5_findFrom 34 = .ok (.aload_n 0, 1) := by decide +kernel
theorem dX5_findFrom_35 : decode cX5_findFrom 35 = .ok (.getfield 11, 3) := by decide +kernel
theorem dX5_findFrom_38 : decode cX5_findFrom 38 = .ok (.iload_n 1, 1) := by decide +kernel
theorem dX5_findFrom_39 : decode cX5_findFrom 39 = .ok (.aaload, 1) := by decide +kernel
theorem dX5_findFrom_40 : decode cX5_findFrom 40 = .ok (.getfield 42, 3) := by decide +kernel
theorem dX5_findFrom_43 : decode cX5_findFrom 43 = .ok (.ifCond .eq 5, 3) := by decide +kernel
theorem dX5_findFrom_46 : decode cX5_findFrom 46 = .ok (.iload_n 1, 1) := by decide +kernel
theorem dX5_findFrom_47 : decode cX5_findFrom 47 = .ok (.ireturn, 1) := by decide +kernel
theorem dX5_findFrom_48 : decode cX5_findFrom 48 = .ok (.iload 4, 2) := by decide +kernel
theorem dX5_findFrom_50 : decode cX5_findFrom 50 = .ok (.aload_n 3, 1) := by decide +kernel
theorem dX5_findFrom_51 : decode cX5_findFrom 51 = .ok (.getfield 39, 3) := by decide +kernel
theorem dX5_findFrom_54 : decode cX5_findFrom 54 = .ok (.if_icmp .ge 34, 3) := by decide +kernel
theorem dX5_findFrom_57 : decode cX5_findFrom 57 = .ok (.iload 4, 2) := by decide +kernel
theorem dX5_findFrom_59 : decode cX5_findFrom 59 = .ok (.bipush 6, 2) := by decide +kernel
theorem dX5_findFrom_61 : decode cX5_findFrom 61 = .ok (.if_icmp .ge 27, 3) := by decide +kernel
theorem dX5_findFrom_64 : decode cX5_findFrom 64 = .ok (.aload_n 0, 1) := by decide +kernel
theorem dX5_findFrom_65 : decode cX5_findFrom 65 = .ok (.iload_n 1, 1) := by decide +kernel
theorem dX5_findFrom_66 : decode cX5_findFrom 66 = .ok (.aload_n 2, 1) := by decide +kernel
theorem dX5_findFrom_67 : decode cX5_findFrom 67 = .ok (.aload_n 3, 1) := by decide +kernel
theorem dX5_findFrom_68 : decode cX5_findFrom 68 = .ok (.iload 4, 2) := by decide +kernel
theorem dX5_findFrom_70 : decode cX5_findFrom 70 = .ok (.iload 5, 2) := by decide +kernel
theorem dX5_findFrom_72 : decode cX5_findFrom 72 = .ok (.invokevirtual 45, 3) := by decide +kernel
theorem dX5_findFrom_75 : decode cX5_findFrom 75 = .ok (.istore 6, 2) := by decide +kernel
theorem dX5_findFrom_77 : decode cX5_findFrom 77 = .ok (.iload 6, 2) := by decide +kernel
theorem dX5_findFrom_79 : decode cX5_findFrom 79 = .ok (.sipush (-10001), 3) := by decide +kernel
theorem dX5_findFrom_82 : decode cX5_findFrom 82 = .ok (.if_icmp .eq 6, 3) := by decide +kernel
theorem dX5_findFrom_85 : decode cX5_findFrom 85 = .ok (.iload 6, 2) := by decide +kernel
theorem dX5_findFrom_87 : decode cX5_findFrom 87 = .ok (.ireturn, 1) := by decide +kernel
theorem dX5_findFrom_88 : decode cX5_findFrom 88 = .ok (.iload_n 1, 1) := by decide +kernel
theorem dX5_findFrom_89 : decode cX5_findFrom 89 = .ok (.iconst 1, 1) := by decide +kernel
theorem dX5_findFrom_90 : decode cX5_findFrom 90 = .ok (.iadd, 1) := by decide +kernel
theorem dX5_findFrom_91 : decode cX5_findFrom 91 = .ok (.istore 6, 2) := by decide +kernel
theorem dX5_findFrom_93 : decode cX5_findFrom 93 = .ok (.iload 6, 2) := by decide +kernel
theorem dX5_findFrom_95 : decode cX5_findFrom 95 = .ok (.aload_n 0, 1) := by decide +kernel
theorem dX5_findFrom_96 : decode cX5_findFrom 96 = .ok (.getfield 21, 3) := by decide +kernel
theorem dX5_findFrom_99 : decode cX5_findFrom 99 = .ok (.if_icmp .ge 64, 3) := by decide +kernel
theorem dX5_findFrom_102 : decode cX5_findFrom 102 = .ok (.aload_n 0, 1) := by decide +kernel
theorem dX5_findFrom_103 : decode cX5_findFrom 103 = .ok (.getfield 11, 3) := by decide +kernel
theorem dX5_findFrom_106 : decode cX5_findFrom 106 = .ok (.iload 6, 2) := by decide +kernel
theorem dX5_findFrom_108 : decode cX5_findFrom 108 = .ok (.aaload, 1) := by decide +kernel
theorem dX5_findFrom_109 : decode cX5_findFrom 109 = .ok (.getfield 48, 3) := by decide +kernel
theorem dX5_findFrom_112 : decode cX5_findFrom 112 = .ok (.iload_n 1, 1) := by decide +kernel
theorem dX5_findFrom_113 : decode cX5_findFrom 113 = .ok (.if_icmp .ne 44, 3) := by decide +kernel
theorem dX5_findFrom_116 : decode cX5_findFrom 116 = .ok (.aload_n 0, 1) := by decide +kernel
theorem dX5_findFrom_117 : decode cX5_findFrom 117 = .ok (.getfield 11, 3) := by decide +kernel
theorem dX5_findFrom_120 : decode cX5_findFrom 120 = .ok (.iload 6, 2) := by decide +kernel
theorem dX5_findFrom_122 : decode cX5_findFrom 122 = .ok (.aaload, 1) := by decide +kernel
theorem dX5_findFrom_123 : decode cX5_findFrom 123 = .ok (.getfield 51, 3) := by decide +kernel
theorem dX5_findFrom_126 : decode cX5_findFrom 126 = .ok (.iconst 1, 1) := by decide +kernel
theorem dX5_findFrom_127 : decode cX5_findFrom 127 = .ok (.if_icmp .ne 30, 3) := by decide +kernel
theorem dX5_findFrom_130 : decode cX5_findFrom 130 = .ok (.aload_n 0, 1) := by decide +kernel
theorem dX5_findFrom_131 : decode cX5_findFrom 131 = .ok (.iload 6, 2) := by decide +kernel
theorem dX5_findFrom_133 : decode cX5_findFrom 133 = .ok (.aload_n 2, 1) := by decide +kernel
theorem dX5_findFrom_134 : decode cX5_findFrom 134 = .ok (.aload_n 3, 1) := by decide +kernel
theorem dX5_findFrom_135 : decode cX5_findFrom 135 = .ok (.iload 4, 2) := by decide +kernel
theorem dX5_findFrom_137 : decode cX5_findFrom 137 = .ok (.iload 5, 2) := by decide +kernel
theorem dX5_findFrom_139 : decode cX5_findFrom 139 = .ok (.iconst 1, 1) := by decide +kernel
theorem dX5_findFrom_140 : decode cX5_findFrom 140 = .ok (.iadd, 1) := by decide +kernel
theorem dX5_findFrom_141 : decode cX5_findFrom 141 = .ok (.invokevirtual 35, 3) := by decide +kernel
theorem dX5_findFrom_144 : decode cX5_findFrom 144 = .ok (.istore 7, 2) := by decide +kernel
theorem dX5_findFrom_146 : decode cX5_findFrom 146 = .ok (.iload 7, 2) := by decide +kernel
theorem dX5_findFrom_148 : decode cX5_findFrom 148 = .ok (.sipush (-10001), 3) := by decide +kernel
theorem dX5_findFrom_151 : decode cX5_findFrom 151 = .ok (.if_icmp .eq 6, 3) := by decide +kernel
theorem dX5_findFrom_154 : decode cX5_findFrom 154 = .ok (.iload 7, 2) := by decide +kernel
theorem dX5_findFrom_156 : decode cX5_findFrom 156 = .ok (.ireturn, 1) := by decide +kernel
theorem dX5_findFrom_157 : decode cX5_findFrom 157 = .ok (.iinc 6 1, 3) := by decide +kernel
theorem dX5_findFrom_160 : decode cX5_findFrom 160 = .ok (.goto (-67), 3) := by decide +kernel
theorem dX5_findFrom_163 : decode cX5_findFrom 163 = .ok (.aload_n 0, 1) := by decide +kernel
theorem dX5_findFrom_164 : decode cX5_findFrom 164 = .ok (.getfield 17, 3) := by decide +kernel
theorem dX5_findFrom_167 : decode cX5_findFrom 167 = .ok (.iload_n 1, 1) := by decide +kernel
theorem dX5_findFrom_168 : decode cX5_findFrom 168 = .ok (.dup2, 1) := by decide +kernel
theorem dX5_findFrom_169 : decode cX5_findFrom 169 = .ok (.iaload, 1) := by decide +kernel
theorem dX5_findFrom_170 : decode cX5_findFrom 170 = .ok (.iconst 1, 1) := by decide +kernel
theorem dX5_findFrom_171 : decode cX5_findFrom 171 = .ok (.iload 4, 2) := by decide +kernel
theorem dX5_findFrom_173 : decode cX5_findFrom 173 = .ok (.ishl, 1) := by decide +kernel
theorem dX5_findFrom_174 : decode cX5_findFrom 174 = .ok (.ior, 1) := by decide +kernel
theorem dX5_findFrom_175 : decode cX5_findFrom 175 = .ok (.iastore, 1) := by decide +kernel
theorem dX5_findFrom_176 : decode cX5_findFrom 176 = .ok (.sipush (-10001), 3) := by decide +kernel
theorem dX5_findFrom_179 : decode cX5_findFrom 179 = .ok (.ireturn, 1) := by decide +kernel
theorem dX5_findByWord_0 : decode cX5_findByWord 0 = .ok (.aload_n 3, 1) := by decide +kernel
theorem dX5_findByWord_1 : decode cX5_findByWord 1 = .ok (.getfield 54, 3) := by decide +kernel
theorem dX5_findByWord_4 : decode cX5_findByWord 4 = .ok (.iload 4, 2) := by decide +kernel
theorem dX5_findByWord_6 : decode cX5_findByWord 6 = .ok (.iaload, 1) := by decide +kernel
theorem dX5_findByWord_7 : decode cX5_findByWord 7 = .ok (.istore 6, 2) := by decide +kernel
theorem dX5_findByWord_9 : decode cX5_findByWord 9 = .ok (.iload_n 1, 1) := by decide +kernel
theorem dX5_findByWord_10 : decode cX5_findByWord 10 = .ok (.iconst 1, 1) := by decide +kernel
theorem dX5_findByWord_11 : decode cX5_findByWord 11 = .ok (.iadd, 1) := by decide +kernel
theorem dX5_findByWord_12 : decode cX5_findByWord 12 = .ok (.istore 7, 2) := by decide +kernel
theorem dX5_findByWord_14 : decode cX5_findByWord 14 = .ok (.iload 7, 2) := by decide +kernel
theorem dX5_findByWord_16 : decode cX5_findByWord 16 = .ok (.aload_n 0, 1) := by decide +kernel
theorem dX5_findByWord_17 : decode cX5_findByWord 17 = .ok (.getfield 21, 3) := by decide +kernel
theorem dX5_findByWord_20 : decode cX5_findByWord 20 = .ok (.if_icmp .ge 113, 3) := by decide +kernel
theorem dX5_findByWord_23 : decode cX5_findByWord 23 = .ok (.aload_n 0, 1) := by decide +kernel
theorem dX5_findByWord_24 : decode cX5_findByWord 24 = .ok (.getfield 11, 3) := by decide +kernel
theorem dX5_findByWord_27 : decode cX5_findByWord 27 = .ok (.iload 7, 2) := by decide +kernel
theorem dX5_findByWord_29 : decode cX5_findByWord 29 = .ok (.aaload, 1) := by decide +kernel
theorem dX5_findByWord_30 : decode cX5_findByWord 30 = .ok (.astore 8, 2) := by decide +kernel
theorem dX5_findByWord_32 : decode cX5_findByWord 32 = .ok (.aload 8, 2) := by decide +kernel
theorem dX5_findByWord_34 : decode cX5_findByWord 34 = .ok (.getfield 48, 3) := by decide +kernel
theorem dX5_findByWord_37 : decode cX5_findByWord 37 = .ok (.iload_n 1, 1) := by decide +kernel
theorem dX5_findByWord_38 : decode cX5_findByWord 38 = .ok (.if_icmp .ne 89, 3) := by decide +kernel
theorem dX5_findByWord_41 : decode cX5_findByWord 41 = .ok (.aload 8, 2) := by decide +kernel
theorem dX5_findByWord_43 : decode cX5_findByWord 43 = .ok (.aload_n 2, 1) := by decide +kernel
theorem dX5_findByWord_44 : decode cX5_findByWord 44 = .ok (.aload_n 3, 1) := by decide +kernel
theorem dX5_findByWord_45 : decode cX5_findByWord 45 = .ok (.getfield 57, 3) := by decide +kernel
theorem dX5_findByWord_48 : decode cX5_findByWord 48 = .ok (.iload 4, 2) := by decide +kernel
theorem dX5_findByWord_50 : decode cX5_findByWord 50 = .ok (.iaload, 1) := by decide +kernel
theorem dX5_findByWord_51 : decode cX5_findByWord 51 = .ok (.aload_n 3, 1) := by decide +kernel
theorem dX5_findByWord_52 : decode cX5_findByWord 52 = .ok (.getfield 60, 3) := by decide +kernel
theorem dX5_findByWord_55 : decode cX5_findByWord 55 = .ok (.iload 4, 2) := by decide +kernel
theorem dX5_findByWord_57 : decode cX5_findByWord 57 = .ok (.iaload, 1) := by decide +kernel
theorem dX5_findByWord_58 : decode cX5_findByWord 58 = .ok (.iload 6, 2) := by decide +kernel
theorem dX5_findByWord_60 : decode cX5_findByWord 60 = .ok (.invokevirtual 63, 3) := by decide +kernel
theorem dX5_findByWord_63 : decode cX5_findByWord 63 = .ok (.ifCond .eq 64, 3) := by decide +kernel
theorem dX5_findByWord_66 : decode cX5_findByWord 66 = .ok (.aload_n 0, 1) := by decide +kernel
theorem dX5_findByWord_67 : decode cX5_findByWord 67 = .ok (.iload 7, 2) := by decide +kernel
theorem dX5_findByWord_69 : decode cX5_findByWord 69 = .ok (.aload_n 2, 1) := by decide +kernel
theorem dX5_findByWord_70 : decode cX5_findByWord 70 = .ok (.aload_n 3, 1) := by decide +kernel
theorem dX5_findByWord_71 : decode cX5_findByWord 71 = .ok (.iload 4, 2) := by decide +kernel
theorem dX5_findByWord_73 : decode cX5_findByWord 73 = .ok (.iconst 1, 1) := by decide +kernel
theorem dX5_findByWord_74 : decode cX5_findByWord 74 = .ok (.iadd, 1) := by decide +kernel
theorem dX5_findByWord_75 : decode cX5_findByWord 75 = .ok (.iload 5, 2) := by decide +kernel
theorem dX5_findByWord_77 : decode cX5_findByWord 77 = .ok (.iconst 1, 1) := by decide +kernel
theorem dX5_findByWord_78 : decode cX5_findByWord 78 = .ok (.iadd, 1) := by decide +kernel
theorem dX5_findByWord_79 : decode cX5_findByWord 79 = .ok (.invokevirtual 35, 3) := by decide +kernel
theorem dX5_findByWord_82 : decode cX5_findByWord 82 = .ok (.istore 9, 2) := by decide +kernel
theorem dX5_findByWord_84 : decode cX5_findByWord 84 = .ok (.iload 9, 2) := by decide +kernel
theorem dX5_findByWord_86 : decode cX5_findByWord 86 = .ok (.sipush (-10001), 3) := by decide +kernel
theorem dX5_findByWord_89 : decode cX5_findByWord 89 = .ok (.if_icmp .eq 38, 3) := by decide +kernel
theorem dX5_findByWord_92 : decode cX5_findByWord 92 = .ok (.iload 4, 2) := by decide +kernel
theorem dX5_findByWord_94 : decode cX5_findByWord 94 = .ok (.iconst 1, 1) := by decide +kernel
theorem dX5_findByWord_95 : decode cX5_findByWord 95 = .ok (.iadd, 1) := by decide +kernel
theorem dX5_findByWord_96 : decode cX5_findByWord 96 = .ok (.aload_n 3, 1) := by decide +kernel
theorem dX5_findByWord_97 : decode cX5_findByWord 97 = .ok (.getfield 39, 3) := by decide +kernel
theorem dX5_findByWord_100 : decode cX5_findByWord 100 = .ok (.if_icmp .ne 24, 3) := by decide +kernel
theorem dX5_findByWord_103 : decode cX5_findByWord 103 = .ok (.aload_n 0, 1) := by decide +kernel
theorem dX5_findByWord_104 : decode cX5_findByWord 104 = .ok (.iload 9, 2) := by decide +kernel
theorem dX5_findByWord_106 : decode cX5_findByWord 106 = .ok (.iload 7, 2) := by decide +kernel
theorem dX5_findByWord_108 : decode cX5_findByWord 108 = .ok (.if_icmp .ne 12, 3) := by decide +kernel
theorem dX5_findByWord_111 : decode cX5_findByWord 111 = .ok (.iload 6, 2) := by decide +kernel
theorem dX5_findByWord_113 : decode cX5_findByWord 113 = .ok (.iconst 1, 1) := by decide +kernel
theorem dX5_findByWord_114 : decode cX5_findByWord 114 = .ok (.invokestatic 67, 3) := by decide +kernel
theorem dX5_findByWord_117 : decode cX5_findByWord 117 = .ok (.goto 4, 3) := by decide +kernel
theorem dX5_findByWord_120 : decode cX5_findByWord 120 = .ok (.iconst 1, 1) := by decide +kernel
theorem dX5_findByWord_121 : decode cX5_findByWord 121 = .ok (.putfield 25, 3) := by decide +kernel
theorem dX5_findByWord_124 : decode cX5_findByWord 124 = .ok (.iload 9, 2) := by decide +kernel
theorem dX5_findByWord_126 : decode cX5_findByWord 126 = .ok (.ireturn, 1) := by decide +kernel
theorem dX5_findByWord_127 : decode cX5_findByWord 127 = .ok (.iinc 7 1, 3) := by decide +kernel
theorem dX5_findByWord_130 : decode cX5_findByWord 130 = .ok (.goto (-116), 3) := by decide +kernel
theorem dX5_findByWord_133 : decode cX5_findByWord 133 = .ok (.sipush (-10001), 3) := by decide +kernel
theorem dX5_findByWord_136 : decode cX5_findByWord 136 = .ok (.ireturn, 1) := by decide +kernel
theorem dX6_init_0 : decode cX6_init 0 = .ok (.aload_n 0, 1) := by decide +kernel
theorem dX6_init_1 : decode cX6_init 1 = .ok (.invokespecial 3, 3) := by decide +kernel
theorem dX6_init_4 : decode cX6_init 4 = .ok (.aload_n 0, 1) := by decide +kernel
theorem dX6_init_5 : decode cX6_init 5 = .ok (.new 9, 3) := by decide +kernel
theorem dX6_init_8 : decode cX6_init 8 = .ok (.dup, 1) := by decide +kernel
theorem dX6_init_9 : decode cX6_init 9 = .ok (.invokespecial 11, 3) := by decide +kernel
theorem dX6_init_12 : decode cX6_init 12 = .ok (.putfield 12, 3) := by decide +kernel
theorem dX6_init_15 : decode cX6_init 15 = .ok (.aload_n 0, 1) := by decide +kernel
theorem dX6_init_16 : decode cX6_init 16 = .ok (.iconst 0, 1) := by decide +kernel
theorem dX6_init_17 : decode cX6_init 17 = .ok (.putfield 18, 3) := by decide +kernel
theorem dX6_init_20 : decode cX6_init 20 = .ok (.aload_n 0, 1) := by decide +kernel
theorem dX6_init_21 : decode cX6_init 21 = .ok (.iconst 0, 1) := by decide +kernel
theorem dX6_init_22 : decode cX6_init 22 = .ok (.putfield 22, 3) := by decide +kernel
theorem dX6_init_25 : decode cX6_init 25 = .ok (.aload_n 0, 1) := by decide +kernel
theorem dX6_init_26 : decode cX6_init 26 = .ok (.iconst 0, 1) := by decide +kernel
theorem dX6_init_27 : decode cX6_init 27 = .ok (.putfield 25, 3) := by decide +kernel
theorem dX6_init_30 : decode cX6_init 30 = .ok (.aload_n 0, 1) := by decide +kernel
theorem dX6_init_31 : decode cX6_init 31 = .ok (.iconst 0, 1) := by decide +kernel
theorem dX6_init_32 : decode cX6_init 32 = .ok (.putfield 29, 3) := by decide +kernel
theorem dX6_init_35 : decode cX6_init 35 = .ok (.aload_n 0, 1) := by decide +kernel
theorem dX6_init_36 : decode cX6_init 36 = .ok (.iconst 0, 1) := by decide +kernel
theorem dX6_init_37 : decode cX6_init 37 = .ok (.putfield 32, 3) := by decide +kernel
theorem dX6_init_40 : decode cX6_init 40 = .ok (.aload_n 0, 1) := by decide +kernel
theorem dX6_init_41 : decode cX6_init 41 = .ok (.iconst 0, 1) := by decide +kernel
theorem dX6_init_42 : decode cX6_init 42 = .ok (.putfield 35, 3) := by decide +kernel
theorem dX6_init_45 : decode cX6_init 45 = .ok (.aload_n 0, 1) := by decide +kernel
theorem dX6_init_46 : decode cX6_init 46 = .ok (.iconst 0, 1) := by decide +kernel
theorem dX6_init_47 : decode cX6_init 47 = .ok (.putfield 38, 3) := by decide +kernel
theorem dX6_init_50 : decode cX6_init 50 = .ok (.aload_n 0, 1) := by decide +kernel
theorem dX6_init_51 : decode cX6_init 51 = .ok (.iconst 0, 1) := by decide +kernel
theorem dX6_init_52 : decode cX6_init 52 = .ok (.putfield 41, 3) := by decide +kernel
theorem dX6_init_55 : decode cX6_init 55 = .ok (.return_, 1) := by decide +kernel
theorem dX6_startMessage_0 : decode cX6_startMessage 0 = .ok (.aload_n 0, 1) := by decide +kernel
theorem dX6_startMessage_1 : decode cX6_startMessage 1 = .ok (.iconst 0, 1) := by decide +kernel
theorem dX6_startMessage_2 : decode cX6_startMessage 2 = .ok (.putfield 18, 3) := by decide +kernel
theorem dX6_startMessage_5 : decode cX6_startMessage 5 = .ok (.aload_n 0, 1) := by decide +kernel
theorem dX6_startMessage_6 : decode cX6_startMessage 6 = .ok (.iconst 0, 1) := by decide +kernel
theorem dX6_startMessage_7 : decode cX6_startMessage 7 = .ok (.putfield 22, 3) := by decide +kernel
theorem dX6_startMessage_10 : decode cX6_startMessage 10 = .ok (.return_, 1) := by decide +kernel
theorem dX6_keepBranch_0 : decode cX6_keepBranch 0 = .ok (.aload_n 0, 1) := by decide +kernel
theorem dX6_keepBranch_1 : decode cX6_keepBranch 1 = .ok (.aload_n 0, 1) := by decide +kernel
theorem dX6_keepBranch_2 : decode cX6_keepBranch 2 = .ok (.getfield 12, 3) := by decide +kernel
theorem dX6_keepBranch_5 : decode cX6_keepBranch 5 = .ok (.getfield 44, 3) := by decide +kernel
theorem dX6_keepBranch_8 : decode cX6_keepBranch 8 = .ok (.iconst 1, 1) := by decide +kernel
theorem dX6_keepBranch_9 : decode cX6_keepBranch 9 = .ok (.isub, 1) := by decide +kernel
theorem dX6_keepBranch_10 : decode cX6_keepBranch 10 = .ok (.iconst 0, 1) := by decide +kernel
theorem dX6_keepBranch_11 : decode cX6_keepBranch 11 = .ok (.invokestatic 47, 3) := by decide +kernel
theorem dX6_keepBranch_14 : decode cX6_keepBranch 14 = .ok (.putfield 22, 3) := by decide +kernel
theorem dX6_keepBranch_17 : decode cX6_keepBranch 17 = .ok (.return_, 1) := by decide +kernel
theorem dX6_passSemicolon_0 : decode cX6_passSemicolon 0 = .ok (.aload_n 1, 1) := by decide +kernel
theorem dX6_passSemicolon_1 : decode cX6_passSemicolon 1 = .ok (.aload_n 0, 1) := by decide +kernel
theorem dX6_passSemicolon_2 : decode cX6_passSemicolon 2 = .ok (.getfield 18, 3) := by decide +kernel
theorem dX6_passSemicolon_5 : decode cX6_passSemicolon 5 = .ok (.invokevirtual 53, 3) := by decide +kernel
theorem dX6_passSemicolon_8 : decode cX6_passSemicolon 8 = .ok (.bipush 59, 2) := by decide +kernel
theorem dX6_passSemicolon_10 : decode cX6_passSemicolon 10 = .ok (.if_icmp .eq 5, 3) := by decide +kernel
theorem dX6_passSemicolon_13 : decode cX6_passSemicolon 13 = .ok (.iconst 0, 1) := by decide +kernel
theorem dX6_passSemicolon_14 : decode cX6_passSemicolon 14 = .ok (.ireturn, 1) := by decide +kernel
theorem dX6_passSemicolon_15 : decode cX6_passSemicolon 15 = .ok (.aload_n 0, 1) := by decide +kernel
theorem dX6_passSemicolon_16 : decode cX6_passSemicolon 16 = .ok (.dup, 1) := by decide +kernel
theorem dX6_passSemicolon_17 : decode cX6_passSemicolon 17 = .ok (.getfield 18, 3) := by decide +kernel
theorem dX6_passSemicolon_20 : decode cX6_passSemicolon 20 = .ok (.iconst 1, 1) := by decide +kernel
theorem dX6_passSemicolon_21 : decode cX6_passSemicolon 21 = .ok (.iadd, 1) := by decide +kernel
theorem dX6_passSemicolon_22 : decode cX6_passSemicolon 22 = .ok (.putfield 18, 3) := by decide +kernel
theorem dX6_passSemicolon_25 : decode cX6_passSemicolon 25 = .ok (.iconst 1, 1) := by decide +kernel
theorem dX6_passSemicolon_26 : decode cX6_passSemicolon 26 = .ok (.ireturn, 1) := by decide +kernel
theorem dX6_readRowAlone_0 : decode cX6_readRowAlone 0 = .ok (.aload_n 0, 1) := by decide +kernel
theorem dX6_readRowAlone_1 : decode cX6_readRowAlone 1 = .ok (.iconst 0, 1) := by decide +kernel
theorem dX6_readRowAlone_2 : decode cX6_readRowAlone 2 = .ok (.putfield 18, 3) := by decide +kernel
theorem dX6_readRowAlone_5 : decode cX6_readRowAlone 5 = .ok (.aload_n 0, 1) := by decide +kernel
theorem dX6_readRowAlone_6 : decode cX6_readRowAlone 6 = .ok (.getfield 12, 3) := by decide +kernel
theorem dX6_readRowAlone_9 : decode cX6_readRowAlone 9 = .ok (.iconst 0, 1) := by decide +kernel
theorem dX6_readRowAlone_10 : decode cX6_readRowAlone 10 = .ok (.putfield 44, 3) := by decide +kernel
theorem dX6_readRowAlone_13 : decode cX6_readRowAlone 13 = .ok (.aload_n 0, 1) := by decide +kernel
theorem dX6_readRowAlone_14 : decode cX6_readRowAlone 14 = .ok (.aload_n 1, 1) := by decide +kernel
theorem dX6_readRowAlone_15 : decode cX6_readRowAlone 15 = .ok (.invokevirtual 59, 3) := by decide +kernel
theorem dX6_readRowAlone_18 : decode cX6_readRowAlone 18 = .ok (.ifCond .eq 19, 3) := by decide +kernel
theorem dX6_readRowAlone_21 : decode cX6_readRowAlone 21 = .ok (.aload_n 1, 1) := by decide +kernel
theorem dX6_readRowAlone_22 : decode cX6_readRowAlone 22 = .ok (.aload_n 0, 1) := by decide +kernel
theorem dX6_readRowAlone_23 : decode cX6_readRowAlone 23 = .ok (.getfield 18, 3) := by decide +kernel
theorem dX6_readRowAlone_26 : decode cX6_readRowAlone 26 = .ok (.invokevirtual 53, 3) := by decide +kernel
theorem dX6_readRowAlone_29 : decode cX6_readRowAlone 29 = .ok (.iconst (-1), 1) := by decide +kernel
theorem dX6_readRowAlone_30 : decode cX6_readRowAlone 30 = .ok (.if_icmp .ne 7, 3) := by decide +kernel
theorem dX6_readRowAlone_33 : decode cX6_readRowAlone 33 = .ok (.iconst 1, 1) := by decide +kernel
theorem dX6_readRowAlone_34 : decode cX6_readRowAlone 34 = .ok (.goto 4, 3) := by decide +kernel
theorem dX6_readRowAlone_37 : decode cX6_readRowAlone 37 = .ok (.iconst 0, 1) := by decide +kernel
theorem dX6_readRowAlone_38 : decode cX6_readRowAlone 38 = .ok (.ireturn, 1) := by decide +kernel
theorem dX6_read_0 : decode cX6_read 0 = .ok (.aload_n 0, 1) := by decide +kernel
theorem dX6_read_1 : decode cX6_read 1 = .ok (.aload_n 1, 1) := by decide +kernel
