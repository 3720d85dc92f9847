theorem dX8_isLetter_3 : decode cX8_isLetter 3 = .ok (.if_icmp .lt 9, 3) := by decide +kernel
theorem dX8_isLetter_6 : decode cX8_isLetter 6 = .ok (.iload_n 0, 1) := by decide +kernel
theorem dX8_isLetter_7 : decode cX8_isLetter 7 = .ok (.bipush 90, 2) := by decide +kernel
theorem dX8_isLetter_9 : decode cX8_isLetter 9 = .ok (.if_icmp .le 15, 3) := by decide +kernel
theorem dX8_isLetter_12 : decode cX8_isLetter 12 = .ok (.iload_n 0, 1) := by decide +kernel
theorem dX8_isLetter_13 : decode cX8_isLetter 13 = .ok (.bipush 97, 2) := by decide +kernel
theorem dX8_isLetter_15 : decode cX8_isLetter 15 = .ok (.if_icmp .lt 13, 3) := by decide +kernel
theorem dX8_isLetter_18 : decode cX8_isLetter 18 = .ok (.iload_n 0, 1) := by decide +kernel
theorem dX8_isLetter_19 : decode cX8_isLetter 19 = .ok (.bipush 122, 2) := by decide +kernel
theorem dX8_isLetter_21 : decode cX8_isLetter 21 = .ok (.if_icmp .gt 7, 3) := by decide +kernel
theorem dX8_isLetter_24 : decode cX8_isLetter 24 = .ok (.iconst 1, 1) := by decide +kernel
theorem dX8_isLetter_25 : decode cX8_isLetter 25 = .ok (.goto 4, 3) := by decide +kernel
theorem dX8_isLetter_28 : decode cX8_isLetter 28 = .ok (.iconst 0, 1) := by decide +kernel
theorem dX8_isLetter_29 : decode cX8_isLetter 29 = .ok (.ireturn, 1) := by decide +kernel
theorem dX8_isFigure_0 : decode cX8_isFigure 0 = .ok (.iload_n 0, 1) := by decide +kernel
theorem dX8_isFigure_1 : decode cX8_isFigure 1 = .ok (.bipush 48, 2) := by decide +kernel
theorem dX8_isFigure_3 : decode cX8_isFigure 3 = .ok (.if_icmp .lt 13, 3) := by decide +kernel
theorem dX8_isFigure_6 : decode cX8_isFigure 6 = .ok (.iload_n 0, 1) := by decide +kernel
theorem dX8_isFigure_7 : decode cX8_isFigure 7 = .ok (.bipush 57, 2) := by decide +kernel
theorem dX8_isFigure_9 : decode cX8_isFigure 9 = .ok (.if_icmp .gt 7, 3) := by decide +kernel
theorem dX8_isFigure_12 : decode cX8_isFigure 12 = .ok (.iconst 1, 1) := by decide +kernel
theorem dX8_isFigure_13 : decode cX8_isFigure 13 = .ok (.goto 4, 3) := by decide +kernel
theorem dX8_isFigure_16 : decode cX8_isFigure 16 = .ok (.iconst 0, 1) := by decide +kernel
theorem dX8_isFigure_17 : decode cX8_isFigure 17 = .ok (.ireturn, 1) := by decide +kernel
theorem dX9_init_0 : decode cX9_init 0 = .ok (.aload_n 0, 1) := by decide +kernel
theorem dX9_init_1 : decode cX9_init 1 = .ok (.invokespecial 1, 3) := by decide +kernel
theorem dX9_init_4 : decode cX9_init 4 = .ok (.aload_n 0, 1) := by decide +kernel
theorem dX9_init_5 : decode cX9_init 5 = .ok (.sipush 347, 3) := by decide +kernel
theorem dX9_init_8 : decode cX9_init 8 = .ok (.newarray .int, 2) := by decide +kernel
theorem dX9_init_10 : decode cX9_init 10 = .ok (.putfield 7, 3) := by decide +kernel
theorem dX9_init_13 : decode cX9_init 13 = .ok (.aload_n 0, 1) := by decide +kernel
theorem dX9_init_14 : decode cX9_init 14 = .ok (.sipush 347, 3) := by decide +kernel
theorem dX9_init_17 : decode cX9_init 17 = .ok (.newarray .int, 2) := by decide +kernel
theorem dX9_init_19 : decode cX9_init 19 = .ok (.putfield 13, 3) := by decide +kernel
theorem dX9_init_22 : decode cX9_init 22 = .ok (.aload_n 0, 1) := by decide +kernel
theorem dX9_init_23 : decode cX9_init 23 = .ok (.sipush 1735, 3) := by decide +kernel
theorem dX9_init_26 : decode cX9_init 26 = .ok (.newarray .int, 2) := by decide +kernel
theorem dX9_init_28 : decode cX9_init 28 = .ok (.putfield 16, 3) := by decide +kernel
theorem dX9_init_31 : decode cX9_init 31 = .ok (.aload_n 0, 1) := by decide +kernel
theorem dX9_init_32 : decode cX9_init 32 = .ok (.iconst 3, 1) := by decide +kernel
theorem dX9_init_33 : decode cX9_init 33 = .ok (.newarray .int, 2) := by decide +kernel
theorem dX9_init_35 : decode cX9_init 35 = .ok (.putfield 19, 3) := by decide +kernel
theorem dX9_init_38 : decode cX9_init 38 = .ok (.aload_n 0, 1) := by decide +kernel
theorem dX9_init_39 : decode cX9_init 39 = .ok (.bipush 100, 2) := by decide +kernel
theorem dX9_init_41 : decode cX9_init 41 = .ok (.newarray .int, 2) := by decide +kernel
theorem dX9_init_43 : decode cX9_init 43 = .ok (.putfield 22, 3) := by decide +kernel
theorem dX9_init_46 : decode cX9_init 46 = .ok (.aload_n 0, 1) := by decide +kernel
theorem dX9_init_47 : decode cX9_init 47 = .ok (.bipush 8, 2) := by decide +kernel
theorem dX9_init_49 : decode cX9_init 49 = .ok (.newarray .int, 2) := by decide +kernel
theorem dX9_init_51 : decode cX9_init 51 = .ok (.putfield 25, 3) := by decide +kernel
theorem dX9_init_54 : decode cX9_init 54 = .ok (.aload_n 0, 1) := by decide +kernel
theorem dX9_init_55 : decode cX9_init 55 = .ok (.bipush 8, 2) := by decide +kernel
theorem dX9_init_57 : decode cX9_init 57 = .ok (.newarray .int, 2) := by decide +kernel
theorem dX9_init_59 : decode cX9_init 59 = .ok (.putfield 28, 3) := by decide +kernel
theorem dX9_init_62 : decode cX9_init 62 = .ok (.aload_n 0, 1) := by decide +kernel
theorem dX9_init_63 : decode cX9_init 63 = .ok (.bipush 8, 2) := by decide +kernel
theorem dX9_init_65 : decode cX9_init 65 = .ok (.newarray .int, 2) := by decide +kernel
theorem dX9_init_67 : decode cX9_init 67 = .ok (.putfield 31, 3) := by decide +kernel
theorem dX9_init_70 : decode cX9_init 70 = .ok (.aload_n 0, 1) := by decide +kernel
theorem dX9_init_71 : decode cX9_init 71 = .ok (.bipush 20, 2) := by decide +kernel
theorem dX9_init_73 : decode cX9_init 73 = .ok (.newarray .int, 2) := by decide +kernel
theorem dX9_init_75 : decode cX9_init 75 = .ok (.putfield 34, 3) := by decide +kernel
theorem dX9_init_78 : decode cX9_init 78 = .ok (.aload_n 0, 1) := by decide +kernel
theorem dX9_init_79 : decode cX9_init 79 = .ok (.bipush 20, 2) := by decide +kernel
theorem dX9_init_81 : decode cX9_init 81 = .ok (.newarray .int, 2) := by decide +kernel
theorem dX9_init_83 : decode cX9_init 83 = .ok (.putfield 37, 3) := by decide +kernel
theorem dX9_init_86 : decode cX9_init 86 = .ok (.aload_n 0, 1) := by decide +kernel
theorem dX9_init_87 : decode cX9_init 87 = .ok (.bipush 20, 2) := by decide +kernel
theorem dX9_init_89 : decode cX9_init 89 = .ok (.newarray .boolean, 2) := by decide +kernel
theorem dX9_init_91 : decode cX9_init 91 = .ok (.putfield 40, 3) := by decide +kernel
theorem dX9_init_94 : decode cX9_init 94 = .ok (.aload_n 0, 1) := by decide +kernel
theorem dX9_init_95 : decode cX9_init 95 = .ok (.bipush 20, 2) := by decide +kernel
theorem dX9_init_97 : decode cX9_init 97 = .ok (.newarray .int, 2) := by decide +kernel
theorem dX9_init_99 : decode cX9_init 99 = .ok (.putfield 44, 3) := by decide +kernel
theorem dX9_init_102 : decode cX9_init 102 = .ok (.aload_n 0, 1) := by decide +kernel
theorem dX9_init_103 : decode cX9_init 103 = .ok (.getfield 7, 3) := by decide +kernel
theorem dX9_init_106 : decode cX9_init 106 = .ok (.iconst 0, 1) := by decide +kernel
theorem dX9_init_107 : decode cX9_init 107 = .ok (.iconst 1, 1) := by decide +kernel
theorem dX9_init_108 : decode cX9_init 108 = .ok (.iastore, 1) := by decide +kernel
theorem dX9_init_109 : decode cX9_init 109 = .ok (.aload_n 0, 1) := by decide +kernel
theorem dX9_init_110 : decode cX9_init 110 = .ok (.getfield 7, 3) := by decide +kernel
theorem dX9_init_113 : decode cX9_init 113 = .ok (.bipush 27, 2) := by decide +kernel
theorem dX9_init_115 : decode cX9_init 115 = .ok (.sipush (-10001), 3) := by decide +kernel
theorem dX9_init_118 : decode cX9_init 118 = .ok (.iastore, 1) := by decide +kernel
theorem dX9_init_119 : decode cX9_init 119 = .ok (.aload_n 0, 1) := by decide +kernel
theorem dX9_init_120 : decode cX9_init 120 = .ok (.getfield 7, 3) := by decide +kernel
theorem dX9_init_123 : decode cX9_init 123 = .ok (.bipush 6, 2) := by decide +kernel
theorem dX9_init_125 : decode cX9_init 125 = .ok (.bipush 15, 2) := by decide +kernel
theorem dX9_init_127 : decode cX9_init 127 = .ok (.iastore, 1) := by decide +kernel
theorem dX9_init_128 : decode cX9_init 128 = .ok (.return_, 1) := by decide +kernel
theorem dX9_in_0 : decode cX9_in 0 = .ok (.iload_n 0, 1) := by decide +kernel
theorem dX9_in_1 : decode cX9_in 1 = .ok (.iload_n 1, 1) := by decide +kernel
theorem dX9_in_2 : decode cX9_in 2 = .ok (.if_icmp .lt 12, 3) := by decide +kernel
theorem dX9_in_5 : decode cX9_in 5 = .ok (.iload_n 0, 1) := by decide +kernel
theorem dX9_in_6 : decode cX9_in 6 = .ok (.iload_n 2, 1) := by decide +kernel
theorem dX9_in_7 : decode cX9_in 7 = .ok (.if_icmp .gt 7, 3) := by decide +kernel
theorem dX9_in_10 : decode cX9_in 10 = .ok (.iconst 1, 1) := by decide +kernel
theorem dX9_in_11 : decode cX9_in 11 = .ok (.goto 4, 3) := by decide +kernel
theorem dX9_in_14 : decode cX9_in 14 = .ok (.iconst 0, 1) := by decide +kernel
theorem dX9_in_15 : decode cX9_in 15 = .ok (.ireturn, 1) := by decide +kernel
theorem dX9_refuses_0 : decode cX9_refuses 0 = .ok (.aload_n 0, 1) := by decide +kernel
theorem dX9_refuses_1 : decode cX9_refuses 1 = .ok (.getfield 19, 3) := by decide +kernel
theorem dX9_refuses_4 : decode cX9_refuses 4 = .ok (.sipush (-10002), 3) := by decide +kernel
theorem dX9_refuses_7 : decode cX9_refuses 7 = .ok (.iload_n 1, 1) := by decide +kernel
theorem dX9_refuses_8 : decode cX9_refuses 8 = .ok (.isub, 1) := by decide +kernel
theorem dX9_refuses_9 : decode cX9_refuses 9 = .ok (.dup2, 1) := by decide +kernel
theorem dX9_refuses_10 : decode cX9_refuses 10 = .ok (.iaload, 1) := by decide +kernel
theorem dX9_refuses_11 : decode cX9_refuses 11 = .ok (.iconst 1, 1) := by decide +kernel
theorem dX9_refuses_12 : decode cX9_refuses 12 = .ok (.iadd, 1) := by decide +kernel
theorem dX9_refuses_13 : decode cX9_refuses 13 = .ok (.iastore, 1) := by decide +kernel
theorem dX9_refuses_14 : decode cX9_refuses 14 = .ok (.iload_n 1, 1) := by decide +kernel
theorem dX9_refuses_15 : decode cX9_refuses 15 = .ok (.ireturn, 1) := by decide +kernel
theorem dX9_hold_0 : decode cX9_hold 0 = .ok (.iconst 0, 1) := by decide +kernel
theorem dX9_hold_1 : decode cX9_hold 1 = .ok (.istore_n 1, 1) := by decide +kernel
theorem dX9_hold_2 : decode cX9_hold 2 = .ok (.iload_n 1, 1) := by decide +kernel
theorem dX9_hold_3 : decode cX9_hold 3 = .ok (.sipush 347, 3) := by decide +kernel
theorem dX9_hold_6 : decode cX9_hold 6 = .ok (.if_icmp .ge 21, 3) := by decide +kernel
theorem dX9_hold_9 : decode cX9_hold 9 = .ok (.aload_n 0, 1) := by decide +kernel
theorem dX9_hold_10 : decode cX9_hold 10 = .ok (.getfield 13, 3) := by decide +kernel
theorem dX9_hold_13 : decode cX9_hold 13 = .ok (.iload_n 1, 1) := by decide +kernel
theorem dX9_hold_14 : decode cX9_hold 14 = .ok (.aload_n 0, 1) := by decide +kernel
theorem dX9_hold_15 : decode cX9_hold 15 = .ok (.getfield 7, 3) := by decide +kernel
theorem dX9_hold_18 : decode cX9_hold 18 = .ok (.iload_n 1, 1) := by decide +kernel
theorem dX9_hold_19 : decode cX9_hold 19 = .ok (.iaload, 1) := by decide +kernel
theorem dX9_hold_20 : decode cX9_hold 20 = .ok (.iastore, 1) := by decide +kernel
theorem dX9_hold_21 : decode cX9_hold 21 = .ok (.iinc 1 1, 3) := by decide +kernel
theorem dX9_hold_24 : decode cX9_hold 24 = .ok (.goto (-22), 3) := by decide +kernel
theorem dX9_hold_27 : decode cX9_hold 27 = .ok (.return_, 1) := by decide +kernel
theorem dX9_push_0 : decode cX9_push 0 = .ok (.aload_n 0, 1) := by decide +kernel
theorem dX9_push_1 : decode cX9_push 1 = .ok (.getfield 47, 3) := by decide +kernel
theorem dX9_push_4 : decode cX9_push 4 = .ok (.iconst 5, 1) := by decide +kernel
theorem dX9_push_5 : decode cX9_push 5 = .ok (.if_icmp .ne 44, 3) := by decide +kernel
theorem dX9_push_8 : decode cX9_push 8 = .ok (.iconst 0, 1) := by decide +kernel
theorem dX9_push_9 : decode cX9_push 9 = .ok (.istore_n 1, 1) := by decide +kernel
theorem dX9_push_10 : decode cX9_push 10 = .ok (.iload_n 1, 1) := by decide +kernel
theorem dX9_push_11 : decode cX9_push 11 = .ok (.sipush 1388, 3) := by decide +kernel
theorem dX9_push_14 : decode cX9_push 14 = .ok (.if_icmp .ge 25, 3) := by decide +kernel
theorem dX9_push_17 : decode cX9_push 17 = .ok (.aload_n 0, 1) := by decide +kernel
theorem dX9_push_18 : decode cX9_push 18 = .ok (.getfield 16, 3) := by decide +kernel
theorem dX9_push_21 : decode cX9_push 21 = .ok (.iload_n 1, 1) := by decide +kernel
theorem dX9_push_22 : decode cX9_push 22 = .ok (.aload_n 0, 1) := by decide +kernel
theorem dX9_push_23 : decode cX9_push 23 = .ok (.getfield 16, 3) := by decide +kernel
theorem dX9_push_26 : decode cX9_push 26 = .ok (.iload_n 1, 1) := by decide +kernel
theorem dX9_push_27 : decode cX9_push 27 = .ok (.sipush 347, 3) := by decide +kernel
theorem dX9_push_30 : decode cX9_push 30 = .ok (.iadd, 1) := by decide +kernel
theorem dX9_push_31 : decode cX9_push 31 = .ok (.iaload, 1) := by decide +kernel
theorem dX9_push_32 : decode cX9_push 32 = .ok (.iastore, 1) := by decide +kernel
theorem dX9_push_33 : decode cX9_push 33 = .ok (.iinc 1 1, 3) := by decide +kernel
theorem dX9_push_36 : decode cX9_push 36 = .ok (.goto (-26), 3) := by decide +kernel
theorem dX9_push_39 : decode cX9_push 39 = .ok (.aload_n 0, 1) := by decide +kernel
theorem dX9_push_40 : decode cX9_push 40 = .ok (.dup, 1) := by decide +kernel
theorem dX9_push_41 : decode cX9_push 41 = .ok (.getfield 47, 3) := by decide +kernel
theorem dX9_push_44 : decode cX9_push 44 = .ok (.iconst 1, 1) := by decide +kernel
theorem dX9_push_45 : decode cX9_push 45 = .ok (.isub, 1) := by decide +kernel
theorem dX9_push_46 : decode cX9_push 46 = .ok (.putfield 47, 3) := by decide +kernel
theorem dX9_push_49 : decode cX9_push 49 = .ok (.iconst 0, 1) := by decide +kernel
theorem dX9_push_50 : decode cX9_push 50 = .ok (.istore_n 1, 1) := by decide +kernel
theorem dX9_push_51 : decode cX9_push 51 = .ok (.iload_n 1, 1) := by decide +kernel
theorem dX9_push_52 : decode cX9_push 52 = .ok (.sipush 347, 3) := by decide +kernel
theorem dX9_push_55 : decode cX9_push 55 = .ok (.if_icmp .ge 30, 3) := by decide +kernel
theorem dX9_push_58 : decode cX9_push 58 = .ok (.aload_n 0, 1) := by decide +kernel
theorem dX9_push_59 : decode cX9_push 59 = .ok (.getfield 16, 3) := by decide +kernel
theorem dX9_push_62 : decode cX9_push 62 = .ok (.sipush 347, 3) := by decide +kernel
theorem dX9_push_65 : decode cX9_push 65 = .ok (.aload_n 0, 1) := by decide +kernel
theorem dX9_push_66 : decode cX9_push 66 = .ok (.getfield 47, 3) := by decide +kernel
theorem dX9_push_69 : decode cX9_push 69 = .ok (.imul, 1) := by decide +kernel
theorem dX9_push_70 : decode cX9_push 70 = .ok (.iload_n 1, 1) := by decide +kernel
theorem dX9_push_71 : decode cX9_push 71 = .ok (.iadd, 1) := by decide +kernel
theorem dX9_push_72 : decode cX9_push 72 = .ok (.aload_n 0, 1) := by decide +kernel
theorem dX9_push_73 : decode cX9_push 73 = .ok (.getfield 13, 3) := by decide +kernel
theorem dX9_push_76 : decode cX9_push 76 = .ok (.iload_n 1, 1) := by decide +kernel
theorem dX9_push_77 : decode cX9_push 77 = .ok (.iaload, 1) := by decide +kernel
theorem dX9_push_78 : decode cX9_push 78 = .ok (.iastore, 1) := by decide +kernel
theorem dX9_push_79 : decode cX9_push 79 = .ok (.iinc 1 1, 3) := by decide +kernel
theorem dX9_push_82 : decode cX9_push 82 = .ok (.goto (-31), 3) := by decide +kernel
theorem dX9_push_85 : decode cX9_push 85 = .ok (.aload_n 0, 1) := by decide +kernel
theorem dX9_push_86 : decode cX9_push 86 = .ok (.dup, 1) := by decide +kernel
theorem dX9_push_87 : decode cX9_push 87 = .ok (.getfield 47, 3) := by decide +kernel
theorem dX9_push_90 : decode cX9_push 90 = .ok (.iconst 1, 1) := by decide +kernel
theorem dX9_push_91 : decode cX9_push 91 = .ok (.iadd, 1) := by decide +kernel
theorem dX9_push_92 : decode cX9_push 92 = .ok (.putfield 47, 3) := by decide +kernel
theorem dX9_push_95 : decode cX9_push 95 = .ok (.return_, 1) := by decide +kernel
theorem dX9_back_0 : decode cX9_back 0 = .ok (.aload_n 0, 1) := by decide +kernel
theorem dX9_back_1 : decode cX9_back 1 = .ok (.getfield 47, 3) := by decide +kernel
theorem dX9_back_4 : decode cX9_back 4 = .ok (.ifCond .ne 11, 3) := by decide +kernel
theorem dX9_back_7 : decode cX9_back 7 = .ok (.aload_n 0, 1) := by decide +kernel
theorem dX9_back_8 : decode cX9_back 8 = .ok (.sipush (-10003), 3) := by decide +kernel
theorem dX9_back_11 : decode cX9_back 11 = .ok (.invokevirtual 51, 3) := by decide +kernel
theorem dX9_back_14 : decode cX9_back 14 = .ok (.ireturn, 1) := by decide +kernel
theorem dX9_back_15 : decode cX9_back 15 = .ok (.aload_n 0, 1) := by decide +kernel
theorem dX9_back_16 : decode cX9_back 16 = .ok (.dup, 1) := by decide +kernel
theorem dX9_back_17 : decode cX9_back 17 = .ok (.getfield 47, 3) := by decide +kernel
theorem dX9_back_20 : decode cX9_back 20 = .ok (.iconst 1, 1) := by decide +kernel
theorem dX9_back_21 : decode cX9_back 21 = .ok (.isub, 1) := by decide +kernel
theorem dX9_back_22 : decode cX9_back 22 = .ok (.putfield 47, 3) := by decide +kernel
theorem dX9_back_25 : decode cX9_back 25 = .ok (.iconst 0, 1) := by decide +kernel
theorem dX9_back_26 : decode cX9_back 26 = .ok (.istore_n 1, 1) := by decide +kernel
theorem dX9_back_27 : decode cX9_back 27 = .ok (.iload_n 1, 1) := by decide +kernel
theorem dX9_back_28 : decode cX9_back 28 = .ok (.sipush 347, 3) := by decide +kernel
theorem dX9_back_31 : decode cX9_back 31 = .ok (.if_icmp .ge 30, 3) := by decide +kernel
theorem dX9_back_34 : decode cX9_back 34 = .ok (.aload_n 0, 1) := by decide +kernel
theorem dX9_back_35 : decode cX9_back 35 = .ok (.getfield 7, 3) := by decide +kernel
theorem dX9_back_38 : decode cX9_back 38 = .ok (.iload_n 1, 1) := by decide +kernel
theorem dX9_back_39 : decode cX9_back 39 = .ok (.aload_n 0, 1) := by decide +kernel
theorem dX9_back_40 : decode cX9_back 40 = .ok (.getfield 16, 3) := by decide +kernel
theorem dX9_back_43 : decode cX9_back 43 = .ok (.sipush 347, 3) := by decide +kernel
theorem dX9_back_46 : decode cX9_back 46 = .ok (.aload_n 0, 1) := by decide +kernel
theorem dX9_back_47 : decode cX9_back 47 = .ok (.getfield 47, 3) := by decide +kernel
theorem dX9_back_50 : decode cX9_back 50 = .ok (.imul, 1) := by decide +kernel
theorem dX9_back_51 : decode cX9_back 51 = .ok (.iload_n 1, 1) := by decide +kernel
theorem dX9_back_52 : decode cX9_back 52 = .ok (.iadd, 1) := by decide +kernel
theorem dX9_back_53 : decode cX9_back 53 = .ok (.iaload, 1) := by decide +kernel
theorem dX9_back_54 : decode cX9_back 54 = .ok (.iastore, 1) := by decide +kernel
theorem dX9_back_55 : decode cX9_back 55 = .ok (.iinc 1 1, 3) := by decide +kernel
theorem dX9_back_58 : decode cX9_back 58 = .ok (.goto (-31), 3) := by decide +kernel
theorem dX9_back_61 : decode cX9_back 61 = .ok (.aload_n 0, 1) := by decide +kernel
theorem dX9_back_62 : decode cX9_back 62 = .ok (.getfield 47, 3) := by decide +kernel
theorem dX9_back_65 : decode cX9_back 65 = .ok (.ireturn, 1) := by decide +kernel
theorem dX9_isSmall_0 : decode cX9_isSmall 0 = .ok (.iload_n 0, 1) := by decide +kernel
theorem dX9_isSmall_1 : decode cX9_isSmall 1 = .ok (.bipush 97, 2) := by decide +kernel
theorem dX9_isSmall_3 : decode cX9_isSmall 3 = .ok (.bipush 122, 2) := by decide +kernel
theorem dX9_isSmall_5 : decode cX9_isSmall 5 = .ok (.invokestatic 55, 3) := by decide +kernel
theorem dX9_isSmall_8 : decode cX9_isSmall 8 = .ok (.ireturn, 1) := by decide +kernel
theorem dX9_isCapital_0 : decode cX9_isCapital 0 = .ok (.iload_n 0, 1) := by decide +kernel
theorem dX9_isCapital_1 : decode cX9_isCapital 1 = .ok (.bipush 65, 2) := by decide +kernel
theorem dX9_isCapital_3 : decode cX9_isCapital 3 = .ok (.bipush 90, 2) := by decide +kernel
theorem dX9_isCapital_5 : decode cX9_isCapital 5 = .ok (.invokestatic 55, 3) := by decide +kernel
theorem dX9_isCapital_8 : decode cX9_isCapital 8 = .ok (.ireturn, 1) := by decide +kernel
theorem dX9_isLetter_0 : decode cX9_isLetter 0 = .ok (.iload_n 0, 1) := by decide +kernel
theorem dX9_isLetter_1 : decode cX9_isLetter 1 = .ok (.invokestatic 59, 3) := by decide +kernel
theorem dX9_isLetter_4 : decode cX9_isLetter 4 = .ok (.ifCond .ne 10, 3) := by decide +kernel
theorem dX9_isLetter_7 : decode cX9_isLetter 7 = .ok (.iload_n 0, 1) := by decide +kernel
theorem dX9_isLetter_8 : decode cX9_isLetter 8 = .ok (.invokestatic 63, 3) := by decide +kernel
theorem dX9_isLetter_11 : decode cX9_isLetter 11 = .ok (.ifCond .eq 7, 3) := by decide +kernel
theorem dX9_isLetter_14 : decode cX9_isLetter 14 = .ok (.iconst 1, 1) := by decide +kernel
theorem dX9_isLetter_15 : decode cX9_isLetter 15 = .ok (.goto 4, 3) := by decide +kernel
theorem dX9_isLetter_18 : decode cX9_isLetter 18 = .ok (.iconst 0, 1) := by decide +kernel
theorem dX9_isLetter_19 : decode cX9_isLetter 19 = .ok (.ireturn, 1) := by decide +kernel
theorem dX9_small_0 : decode cX9_small 0 = .ok (.iload_n 0, 1) := by decide +kernel
theorem dX9_small_1 : decode cX9_small 1 = .ok (.invokestatic 63, 3) := by decide +kernel
theorem dX9_small_4 : decode cX9_small 4 = .ok (.ifCond .eq 10, 3) := by decide +kernel
theorem dX9_small_7 : decode cX9_small 7 = .ok (.iload_n 0, 1) := by decide +kernel
theorem dX9_small_8 : decode cX9_small 8 = .ok (.bipush 32, 2) := by decide +kernel
theorem dX9_small_10 : decode cX9_small 10 = .ok (.iadd, 1) := by decide +kernel
theorem dX9_small_11 : decode cX9_small 11 = .ok (.goto 4, 3) := by decide +kernel
theorem dX9_small_14 : decode cX9_small 14 = .ok (.iload_n 0, 1) := by decide +kernel
theorem dX9_small_15 : decode cX9_small 15 = .ok (.ireturn, 1) := by decide +kernel
theorem dX9_ofNode_0 : decode cX9_ofNode 0 = .ok (.aload_n 0, 1) := by decide +kernel
theorem dX9_ofNode_1 : decode cX9_ofNode 1 = .ok (.getfield 7, 3) := by decide +kernel
theorem dX9_ofNode_4 : decode cX9_ofNode 4 = .ok (.bipush 27, 2) := by decide +kernel
theorem dX9_ofNode_6 : decode cX9_ofNode 6 = .ok (.bipush 20, 2) := by decide +kernel
theorem dX9_ofNode_8 : decode cX9_ofNode 8 = .ok (.iload_n 1, 1) := by decide +kernel
theorem dX9_ofNode_9 : decode cX9_ofNode 9 = .ok (.imul, 1) := by decide +kernel
theorem dX9_ofNode_10 : decode cX9_ofNode 10 = .ok (.iadd, 1) := by decide +kernel
theorem dX9_ofNode_11 : decode cX9_ofNode 11 = .ok (.iload_n 2, 1) := by decide +kernel
theorem dX9_ofNode_12 : decode cX9_ofNode 12 = .ok (.iadd, 1) := by decide +kernel
theorem dX9_ofNode_13 : decode cX9_ofNode 13 = .ok (.iaload, 1) := by decide +kernel
theorem dX9_ofNode_14 : decode cX9_ofNode 14 = .ok (.ireturn, 1) := by decide +kernel
theorem dX9_put_0 : decode cX9_put 0 = .ok (.aload_n 0, 1) := by decide +kernel
theorem dX9_put_1 : decode cX9_put 1 = .ok (.getfield 7, 3) := by decide +kernel
theorem dX9_put_4 : decode cX9_put 4 = .ok (.bipush 27, 2) := by decide +kernel
theorem dX9_put_6 : decode cX9_put 6 = .ok (.bipush 20, 2) := by decide +kernel
theorem dX9_put_8 : decode cX9_put 8 = .ok (.iload_n 1, 1) := by decide +kernel
theorem dX9_put_9 : decode cX9_put 9 = .ok (.imul, 1) := by decide +kernel
theorem dX9_put_10 : decode cX9_put 10 = .ok (.iadd, 1) := by decide +kernel
theorem dX9_put_11 : decode cX9_put 11 = .ok (.iload_n 2, 1) := by decide +kernel
theorem dX9_put_12 : decode cX9_put 12 = .ok (.iadd, 1) := by decide +kernel
theorem dX9_put_13 : decode cX9_put 13 = .ok (.iload_n 3, 1) := by decide +kernel
theorem dX9_put_14 : decode cX9_put 14 = .ok (.iastore, 1) := by decide +kernel
theorem dX9_put_15 : decode cX9_put 15 = .ok (.return_, 1) := by decide +kernel
theorem dX9_isNode_0 : decode cX9_isNode 0 = .ok (.iload_n 1, 1) := by decide +kernel
theorem dX9_isNode_1 : decode cX9_isNode 1 = .ok (.iconst 0, 1) := by decide +kernel
theorem dX9_isNode_2 : decode cX9_isNode 2 = .ok (.aload_n 0, 1) := by decide +kernel
theorem dX9_isNode_3 : decode cX9_isNode 3 = .ok (.getfield 7, 3) := by decide +kernel
theorem dX9_isNode_6 : decode cX9_isNode 6 = .ok (.iconst 0, 1) := by decide +kernel
theorem dX9_isNode_7 : decode cX9_isNode 7 = .ok (.iaload, 1) := by decide +kernel
theorem dX9_isNode_8 : decode cX9_isNode 8 = .ok (.iconst 1, 1) := by decide +kernel
theorem dX9_isNode_9 : decode cX9_isNode 9 = .ok (.isub, 1) := by decide +kernel
theorem dX9_isNode_10 : decode cX9_isNode 10 = .ok (.invokestatic 55, 3) := by decide +kernel
theorem dX9_isNode_13 : decode cX9_isNode 13 = .ok (.ireturn, 1) := by decide +kernel
theorem dX9_isKind_0 : decode cX9_isKind 0 = .ok (.aload_n 0, 1) := by decide +kernel
theorem dX9_isKind_1 : decode cX9_isKind 1 = .ok (.iload_n 1, 1) := by decide +kernel
theorem dX9_isKind_2 : decode cX9_isKind 2 = .ok (.invokevirtual 66, 3) := by decide +kernel
theorem dX9_isKind_5 : decode cX9_isKind 5 = .ok (.ifCond .eq 21, 3) := by decide +kernel
theorem dX9_isKind_8 : decode cX9_isKind 8 = .ok (.iload_n 1, 1) := by decide +kernel
theorem dX9_isKind_9 : decode cX9_isKind 9 = .ok (.ifCond .le 17, 3) := by decide +kernel
theorem dX9_isKind_12 : decode cX9_isKind 12 = .ok (.aload_n 0, 1) := by decide +kernel
theorem dX9_isKind_13 : decode cX9_isKind 13 = .ok (.iload_n 1, 1) := by decide +kernel
theorem dX9_isKind_14 : decode cX9_isKind 14 = .ok (.iconst 1, 1) := by decide +kernel
theorem dX9_isKind_15 : decode cX9_isKind 15 = .ok (.invokevirtual 69, 3) := by decide +kernel
theorem dX9_isKind_18 : decode cX9_isKind 18 = .ok (.iload_n 2, 1) := by decide +kernel
theorem dX9_isKind_19 : decode cX9_isKind 19 = .ok (.if_icmp .ne 7, 3) := by decide +kernel
theorem dX9_isKind_22 : decode cX9_isKind 22 = .ok (.iconst 1, 1) := by decide +kernel
theorem dX9_isKind_23 : decode cX9_isKind 23 = .ok (.goto 4, 3) := by decide +kernel
theorem dX9_isKind_26 : decode cX9_isKind 26 = .ok (.iconst 0, 1) := by decide +kernel
theorem dX9_isKind_27 : decode cX9_isKind 27 = .ok (.ireturn, 1) := by decide +kernel
theorem dX9_capitals_0 : decode cX9_capitals 0 = .ok (.iconst 0, 1) := by decide +kernel
theorem dX9_capitals_1 : decode cX9_capitals 1 = .ok (.istore_n 1, 1) := by decide +kernel
theorem dX9_capitals_2 : decode cX9_capitals 2 = .ok (.iload_n 1, 1) := by decide +kernel
theorem dX9_capitals_3 : decode cX9_capitals 3 = .ok (.aload_n 0, 1) := by decide +kernel
theorem dX9_capitals_4 : decode cX9_capitals 4 = .ok (.getfield 73, 3) := by decide +kernel
theorem dX9_capitals_7 : decode cX9_capitals 7 = .ok (.if_icmp .ge 21, 3) := by decide +kernel
theorem dX9_capitals_10 : decode cX9_capitals 10 = .ok (.aload_n 0, 1) := by decide +kernel
theorem dX9_capitals_11 : decode cX9_capitals 11 = .ok (.getfield 22, 3) := by decide +kernel
theorem dX9_capitals_14 : decode cX9_capitals 14 = .ok (.iload_n 1, 1) := by decide +kernel
theorem dX9_capitals_15 : decode cX9_capitals 15 = .ok (.iaload, 1) := by decide +kernel
theorem dX9_capitals_16 : decode cX9_capitals 16 = .ok (.invokestatic 63, 3) := by decide +kernel
theorem dX9_capitals_19 : decode cX9_capitals 19 = .ok (.ifCond .eq 9, 3) := by decide +kernel
theorem dX9_capitals_22 : decode cX9_capitals 22 = .ok (.iinc 1 1, 3) := by decide +kernel
theorem dX9_capitals_25 : decode cX9_capitals 25 = .ok (.goto (-23), 3) := by decide +kernel
theorem dX9_capitals_28 : decode cX9_capitals 28 = .ok (.aload_n 0, 1) := by decide +kernel
theorem dX9_capitals_29 : decode cX9_capitals 29 = .ok (.getfield 73, 3) := by decide +kernel
theorem dX9_capitals_32 : decode cX9_capitals 32 = .ok (.bipush 8, 2) := by decide +kernel
theorem dX9_capitals_34 : decode cX9_capitals 34 = .ok (.if_icmp .gt 7, 3) := by decide +kernel
theorem dX9_capitals_37 : decode cX9_capitals 37 = .ok (.iconst 1, 1) := by decide +kernel
theorem dX9_capitals_38 : decode cX9_capitals 38 = .ok (.goto 4, 3) := by decide +kernel
theorem dX9_capitals_41 : decode cX9_capitals 41 = .ok (.iconst 0, 1) := by decide +kernel
theorem dX9_capitals_42 : decode cX9_capitals 42 = .ok (.istore_n 2, 1) := by decide +kernel
theorem dX9_capitals_43 : decode cX9_capitals 43 = .ok (.iload_n 1, 1) := by decide +kernel
theorem dX9_capitals_44 : decode cX9_capitals 44 = .ok (.istore_n 3, 1) := by decide +kernel
theorem dX9_capitals_45 : decode cX9_capitals 45 = .ok (.iload_n 3, 1) := by decide +kernel
theorem dX9_capitals_46 : decode cX9_capitals 46 = .ok (.aload_n 0, 1) := by decide +kernel
theorem dX9_capitals_47 : decode cX9_capitals 47 = .ok (.getfield 73, 3) := by decide +kernel
theorem dX9_capitals_50 : decode cX9_capitals 50 = .ok (.if_icmp .ge 31, 3) := by decide +kernel
theorem dX9_capitals_53 : decode cX9_capitals 53 = .ok (.iload_n 2, 1) := by decide +kernel
theorem dX9_capitals_54 : decode cX9_capitals 54 = .ok (.ifCond .eq 19, 3) := by decide +kernel
theorem dX9_capitals_57 : decode cX9_capitals 57 = .ok (.aload_n 0, 1) := by decide +kernel
theorem dX9_capitals_58 : decode cX9_capitals 58 = .ok (.getfield 22, 3) := by decide +kernel
theorem dX9_capitals_61 : decode cX9_capitals 61 = .ok (.iload_n 3, 1) := by decide +kernel
theorem dX9_capitals_62 : decode cX9_capitals 62 = .ok (.iaload, 1) := by decide +kernel
theorem dX9_capitals_63 : decode cX9_capitals 63 = .ok (.invokestatic 59, 3) := by decide +kernel
theorem dX9_capitals_66 : decode cX9_capitals 66 = .ok (.ifCond .eq 7, 3) := by decide +kernel
theorem dX9_capitals_69 : decode cX9_capitals 69 = .ok (.iconst 1, 1) := by decide +kernel
theorem dX9_capitals_70 : decode cX9_capitals 70 = .ok (.goto 4, 3) := by decide +kernel
theorem dX9_capitals_73 : decode cX9_capitals 73 = .ok (.iconst 0, 1) := by decide +kernel
theorem dX9_capitals_74 : decode cX9_capitals 74 = .ok (.istore_n 2, 1) := by decide +kernel
theorem dX9_capitals_75 : decode cX9_capitals 75 = .ok (.iinc 3 1, 3) := by decide +kernel
theorem dX9_capitals_78 : decode cX9_capitals 78 = .ok (.goto (-33), 3) := by decide +kernel
theorem dX9_capitals_81 : decode cX9_capitals 81 = .ok (.iload_n 2, 1) := by decide +kernel
theorem dX9_capitals_82 : decode cX9_capitals 82 = .ok (.ifCond .eq 7, 3) := by decide +kernel
theorem dX9_capitals_85 : decode cX9_capitals 85 = .ok (.iload_n 1, 1) := by decide +kernel
theorem dX9_capitals_86 : decode cX9_capitals 86 = .ok (.goto 4, 3) := by decide +kernel
theorem dX9_capitals_89 : decode cX9_capitals 89 = .ok (.iconst 0, 1) := by decide +kernel
theorem dX9_capitals_90 : decode cX9_capitals 90 = .ok (.ireturn, 1) := by decide +kernel
theorem dX9_node_0 : decode cX9_node 0 = .ok (.aload_n 0, 1) := by decide +kernel
theorem dX9_node_1 : decode cX9_node 1 = .ok (.iload_n 1, 1) := by decide +kernel
theorem dX9_node_2 : decode cX9_node 2 = .ok (.invokevirtual 66, 3) := by decide +kernel
theorem dX9_node_5 : decode cX9_node 5 = .ok (.ifCond .eq 40, 3) := by decide +kernel
theorem dX9_node_8 : decode cX9_node 8 = .ok (.aload_n 0, 1) := by decide +kernel
theorem dX9_node_9 : decode cX9_node 9 = .ok (.iload_n 1, 1) := by decide +kernel
theorem dX9_node_10 : decode cX9_node 10 = .ok (.iconst 1, 1) := by decide +kernel
theorem dX9_node_11 : decode cX9_node 11 = .ok (.invokevirtual 69, 3) := by decide +kernel
theorem dX9_node_14 : decode cX9_node 14 = .ok (.ifCond .ne 31, 3) := by decide +kernel
theorem dX9_node_17 : decode cX9_node 17 = .ok (.iload_n 2, 1) := by decide +kernel
theorem dX9_node_18 : decode cX9_node 18 = .ok (.iconst 0, 1) := by decide +kernel
theorem dX9_node_19 : decode cX9_node 19 = .ok (.iconst 3, 1) := by decide +kernel
theorem dX9_node_20 : decode cX9_node 20 = .ok (.invokestatic 55, 3) := by decide +kernel
theorem dX9_node_23 : decode cX9_node 23 = .ok (.ifCond .eq 22, 3) := by decide +kernel
theorem dX9_node_26 : decode cX9_node 26 = .ok (.iload_n 3, 1) := by decide +kernel
theorem dX9_node_27 : decode cX9_node 27 = .ok (.iconst 0, 1) := by decide +kernel
theorem dX9_node_28 : decode cX9_node 28 = .ok (.iconst 3, 1) := by decide +kernel
theorem dX9_node_29 : decode cX9_node 29 = .ok (.invokestatic 55, 3) := by decide +kernel
theorem dX9_node_32 : decode cX9_node 32 = .ok (.ifCond .eq 13, 3) := by decide +kernel
theorem dX9_node_35 : decode cX9_node 35 = .ok (.iload 4, 2) := by decide +kernel
theorem dX9_node_37 : decode cX9_node 37 = .ok (.iconst 0, 1) := by decide +kernel
theorem dX9_node_38 : decode cX9_node 38 = .ok (.iconst 1, 1) := by decide +kernel
theorem dX9_node_39 : decode cX9_node 39 = .ok (.invokestatic 55, 3) := by decide +kernel
theorem dX9_node_42 : decode cX9_node 42 = .ok (.ifCond .ne 11, 3) := by decide +kernel
theorem dX9_node_45 : decode cX9_node 45 = .ok (.aload_n 0, 1) := by decide +kernel
theorem dX9_node_46 : decode cX9_node 46 = .ok (.sipush (-10002), 3) := by decide +kernel
theorem dX9_node_49 : decode cX9_node 49 = .ok (.invokevirtual 51, 3) := by decide +kernel
theorem dX9_node_52 : decode cX9_node 52 = .ok (.ireturn, 1) := by decide +kernel
theorem dX9_node_53 : decode cX9_node 53 = .ok (.aload_n 0, 1) := by decide +kernel
theorem dX9_node_54 : decode cX9_node 54 = .ok (.invokevirtual 76, 3) := by decide +kernel
theorem dX9_node_57 : decode cX9_node 57 = .ok (.istore 5, 2) := by decide +kernel
theorem dX9_node_59 : decode cX9_node 59 = .ok (.iload 5, 2) := by decide +kernel
theorem dX9_node_61 : decode cX9_node 61 = .ok (.ifCond .ne 11, 3) := by decide +kernel
theorem dX9_node_64 : decode cX9_node 64 = .ok (.aload_n 0, 1) := by decide +kernel
theorem dX9_node_65 : decode cX9_node 65 = .ok (.sipush (-10003), 3) := by decide +kernel
theorem dX9_node_68 : decode cX9_node 68 = .ok (.invokevirtual 51, 3) := by decide +kernel
theorem dX9_node_71 : decode cX9_node 71 = .ok (.ireturn, 1) := by decide +kernel
theorem dX9_node_72 : decode cX9_node 72 = .ok (.aload_n 0, 1) := by decide +kernel
theorem dX9_node_73 : decode cX9_node 73 = .ok (.getfield 7, 3) := by decide +kernel
theorem dX9_node_76 : decode cX9_node 76 = .ok (.iconst 0, 1) := by decide +kernel
theorem dX9_node_77 : decode cX9_node 77 = .ok (.iaload, 1) := by decide +kernel
theorem dX9_node_78 : decode cX9_node 78 = .ok (.bipush 16, 2) := by decide +kernel
theorem dX9_node_80 : decode cX9_node 80 = .ok (.if_icmp .ne 11, 3) := by decide +kernel
theorem dX9_node_83 : decode cX9_node 83 = .ok (.aload_n 0, 1) := by decide +kernel
theorem dX9_node_84 : decode cX9_node 84 = .ok (.sipush (-10004), 3) := by decide +kernel
theorem dX9_node_87 : decode cX9_node 87 = .ok (.invokevirtual 51, 3) := by decide +kernel
theorem dX9_node_90 : decode cX9_node 90 = .ok (.ireturn, 1) := by decide +kernel
theorem dX9_node_91 : decode cX9_node 91 = .ok (.aload_n 0, 1) := by decide +kernel
theorem dX9_node_92 : decode cX9_node 92 = .ok (.invokevirtual 80, 3) := by decide +kernel
theorem dX9_node_95 : decode cX9_node 95 = .ok (.aload_n 0, 1) := by decide +kernel
theorem dX9_node_96 : decode cX9_node 96 = .ok (.getfield 7, 3) := by decide +kernel
theorem dX9_node_99 : decode cX9_node 99 = .ok (.iconst 0, 1) := by decide +kernel
theorem dX9_node_100 : decode cX9_node 100 = .ok (.iaload, 1) := by decide +kernel
theorem dX9_node_101 : decode cX9_node 101 = .ok (.istore 6, 2) := by decide +kernel
theorem dX9_node_103 : decode cX9_node 103 = .ok (.aload_n 0, 1) := by decide +kernel
theorem dX9_node_104 : decode cX9_node 104 = .ok (.getfield 7, 3) := by decide +kernel
theorem dX9_node_107 : decode cX9_node 107 = .ok (.iconst 0, 1) := by decide +kernel
theorem dX9_node_108 : decode cX9_node 108 = .ok (.dup2, 1) := by decide +kernel
theorem dX9_node_109 : decode cX9_node 109 = .ok (.iaload, 1) := by decide +kernel
theorem dX9_node_110 : decode cX9_node 110 = .ok (.iconst 1, 1) := by decide +kernel
theorem dX9_node_111 : decode cX9_node 111 = .ok (.iadd, 1) := by decide +kernel
theorem dX9_node_112 : decode cX9_node 112 = .ok (.iastore, 1) := by decide +kernel
theorem dX9_node_113 : decode cX9_node 113 = .ok (.iconst 0, 1) := by decide +kernel
theorem dX9_node_114 : decode cX9_node 114 = .ok (.istore 7, 2) := by decide +kernel
theorem dX9_node_116 : decode cX9_node 116 = .ok (.iload 7, 2) := by decide +kernel
theorem dX9_node_118 : decode cX9_node 118 = .ok (.bipush 20, 2) := by decide +kernel
theorem dX9_node_120 : decode cX9_node 120 = .ok (.if_icmp .ge 18, 3) := by decide +kernel
theorem dX9_node_123 : decode cX9_node 123 = .ok (.aload_n 0, 1) := by decide +kernel
theorem dX9_node_124 : decode cX9_node 124 = .ok (.iload 6, 2) := by decide +kernel
theorem dX9_node_126 : decode cX9_node 126 = .ok (.iload 7, 2) := by decide +kernel
theorem dX9_node_128 : decode cX9_node 128 = .ok (.iconst 0, 1) := by decide +kernel
theorem dX9_node_129 : decode cX9_node 129 = .ok (.invokevirtual 83, 3) := by decide +kernel
theorem dX9_node_132 : decode cX9_node 132 = .ok (.iinc 7 1, 3) := by decide +kernel
theorem dX9_node_135 : decode cX9_node 135 = .ok (.goto (-19), 3) := by decide +kernel
theorem dX9_node_138 : decode cX9_node 138 = .ok (.aload_n 0, 1) := by decide +kernel
theorem dX9_node_139 : decode cX9_node 139 = .ok (.iload 6, 2) := by decide +kernel
theorem dX9_node_141 : decode cX9_node 141 = .ok (.iconst 0, 1) := by decide +kernel
theorem dX9_node_142 : decode cX9_node 142 = .ok (.iload_n 1, 1) := by decide +kernel
theorem dX9_node_143 : decode cX9_node 143 = .ok (.invokevirtual 83, 3) := by decide +kernel
theorem dX9_node_146 : decode cX9_node 146 = .ok (.aload_n 0, 1) := by decide +kernel
theorem dX9_node_147 : decode cX9_node 147 = .ok (.iload 6, 2) := by decide +kernel
theorem dX9_node_149 : decode cX9_node 149 = .ok (.iconst 1, 1) := by decide +kernel
theorem dX9_node_150 : decode cX9_node 150 = .ok (.iload_n 2, 1) := by decide +kernel
theorem dX9_node_151 : decode cX9_node 151 = .ok (.invokevirtual 83, 3) := by decide +kernel
theorem dX9_node_154 : decode cX9_node 154 = .ok (.aload_n 0, 1) := by decide +kernel
theorem dX9_node_155 : decode cX9_node 155 = .ok (.iload 6, 2) := by decide +kernel
theorem dX9_node_157 : decode cX9_node 157 = .ok (.iconst 2, 1) := by decide +kernel
theorem dX9_node_158 : decode cX9_node 158 = .ok (.iload_n 3, 1) := by decide +kernel
theorem dX9_node_159 : decode cX9_node 159 = .ok (.invokevirtual 83, 3) := by decide +kernel
theorem dX9_node_162 : decode cX9_node 162 = .ok (.aload_n 0, 1) := by decide +kernel
theorem dX9_node_163 : decode cX9_node 163 = .ok (.iload 6, 2) := by decide +kernel
theorem dX9_node_165 : decode cX9_node 165 = .ok (.iconst 3, 1) := by decide +kernel
theorem dX9_node_166 : decode cX9_node 166 = .ok (.iload 4, 2) := by decide +kernel
theorem dX9_node_168 : decode cX9_node 168 = .ok (.invokevirtual 83, 3) := by decide +kernel
theorem dX9_node_171 : decode cX9_node 171 = .ok (.aload_n 0, 1) := by decide +kernel
theorem dX9_node_172 : decode cX9_node 172 = .ok (.iload 6, 2) := by decide +kernel
theorem dX9_node_174 : decode cX9_node 174 = .ok (.iconst 5, 1) := by decide +kernel
theorem dX9_node_175 : decode cX9_node 175 = .ok (.iload_n 2, 1) := by decide +kernel
theorem dX9_node_176 : decode cX9_node 176 = .ok (.iconst 1, 1) := by decide +kernel
theorem dX9_node_177 : decode cX9_node 177 = .ok (.if_icmp .ne 9, 3) := by decide +kernel
theorem dX9_node_180 : decode cX9_node 180 = .ok (.sipush 9999, 3) := by decide +kernel
theorem dX9_node_183 : decode cX9_node 183 = .ok (.goto 4, 3) := by decide +kernel
theorem dX9_node_186 : decode cX9_node 186 = .ok (.iconst 0, 1) := by decide +kernel
theorem dX9_node_187 : decode cX9_node 187 = .ok (.invokevirtual 83, 3) := by decide +kernel
theorem dX9_node_190 : decode cX9_node 190 = .ok (.aload_n 0, 1) := by decide +kernel
theorem dX9_node_191 : decode cX9_node 191 = .ok (.iload 6, 2) := by decide +kernel
theorem dX9_node_193 : decode cX9_node 193 = .ok (.bipush 10, 2) := by decide +kernel
theorem dX9_node_195 : decode cX9_node 195 = .ok (.iload 5, 2) := by decide +kernel
theorem dX9_node_197 : decode cX9_node 197 = .ok (.invokevirtual 83, 3) := by decide +kernel
theorem dX9_node_200 : decode cX9_node 200 = .ok (.aload_n 0, 1) := by decide +kernel
theorem dX9_node_201 : decode cX9_node 201 = .ok (.iload 6, 2) := by decide +kernel
theorem dX9_node_203 : decode cX9_node 203 = .ok (.bipush 11, 2) := by decide +kernel
theorem dX9_node_205 : decode cX9_node 205 = .ok (.aload_n 0, 1) := by decide +kernel
theorem dX9_node_206 : decode cX9_node 206 = .ok (.getfield 73, 3) := by decide +kernel
theorem dX9_node_209 : decode cX9_node 209 = .ok (.invokevirtual 83, 3) := by decide +kernel
theorem dX9_node_212 : decode cX9_node 212 = .ok (.iconst 0, 1) := by decide +kernel
theorem dX9_node_213 : decode cX9_node 213 = .ok (.istore 7, 2) := by decide +kernel
theorem dX9_node_215 : decode cX9_node 215 = .ok (.iload 7, 2) := by decide +kernel
theorem dX9_node_217 : decode cX9_node 217 = .ok (.aload_n 0, 1) := by decide +kernel
theorem dX9_node_218 : decode cX9_node 218 = .ok (.getfield 73, 3) := by decide +kernel
theorem dX9_node_221 : decode cX9_node 221 = .ok (.if_icmp .ge 30, 3) := by decide +kernel
theorem dX9_node_224 : decode cX9_node 224 = .ok (.aload_n 0, 1) := by decide +kernel
theorem dX9_node_225 : decode cX9_node 225 = .ok (.iload 6, 2) := by decide +kernel
theorem dX9_node_227 : decode cX9_node 227 = .ok (.bipush 12, 2) := by decide +kernel
theorem dX9_node_229 : decode cX9_node 229 = .ok (.iload 7, 2) := by decide +kernel
theorem dX9_node_231 : decode cX9_node 231 = .ok (.iadd, 1) := by decide +kernel
theorem dX9_node_232 : decode cX9_node 232 = .ok (.aload_n 0, 1) := by decide +kernel
theorem dX9_node_233 : decode cX9_node 233 = .ok (.getfield 22, 3) := by decide +kernel
theorem dX9_node_236 : decode cX9_node 236 = .ok (.iload 7, 2) := by decide +kernel
theorem dX9_node_238 : decode cX9_node 238 = .ok (.iaload, 1) := by decide +kernel
theorem dX9_node_239 : decode cX9_node 239 = .ok (.invokestatic 87, 3) := by decide +kernel
theorem dX9_node_242 : decode cX9_node 242 = .ok (.invokevirtual 83, 3) := by decide +kernel
theorem dX9_node_245 : decode cX9_node 245 = .ok (.iinc 7 1, 3) := by decide +kernel
theorem dX9_node_248 : decode cX9_node 248 = .ok (.goto (-33), 3) := by decide +kernel
theorem dX9_node_251 : decode cX9_node 251 = .ok (.aload_n 0, 1) := by decide +kernel
theorem dX9_node_252 : decode cX9_node 252 = .ok (.invokevirtual 90, 3) := by decide +kernel
theorem dX9_node_255 : decode cX9_node 255 = .ok (.iload 6, 2) := by decide +kernel
theorem dX9_node_257 : decode cX9_node 257 = .ok (.ireturn, 1) := by decide +kernel
theorem dX9_setAll_0 : decode cX9_setAll 0 = .ok (.iconst 0, 1) := by decide +kernel
theorem dX9_setAll_1 : decode cX9_setAll 1 = .ok (.istore_n 2, 1) := by decide +kernel
theorem dX9_setAll_2 : decode cX9_setAll 2 = .ok (.iload_n 2, 1) := by decide +kernel
theorem dX9_setAll_3 : decode cX9_setAll 3 = .ok (.iconst 3, 1) := by decide +kernel
theorem dX9_setAll_4 : decode cX9_setAll 4 = .ok (.if_icmp .ge 24, 3) := by decide +kernel
theorem dX9_setAll_7 : decode cX9_setAll 7 = .ok (.aload_n 0, 1) := by decide +kernel
theorem dX9_setAll_8 : decode cX9_setAll 8 = .ok (.iload_n 1, 1) := by decide +kernel
theorem dX9_setAll_9 : decode cX9_setAll 9 = .ok (.bipush 6, 2) := by decide +kernel
theorem dX9_setAll_11 : decode cX9_setAll 11 = .ok (.iload_n 2, 1) := by decide +kernel
theorem dX9_setAll_12 : decode cX9_setAll 12 = .ok (.iadd, 1) := by decide +kernel
theorem dX9_setAll_13 : decode cX9_setAll 13 = .ok (.aload_n 0, 1) := by decide +kernel
theorem dX9_setAll_14 : decode cX9_setAll 14 = .ok (.iload_n 1, 1) := by decide +kernel
theorem dX9_setAll_15 : decode cX9_setAll 15 = .ok (.iconst 4, 1) := by decide +kernel
theorem dX9_setAll_16 : decode cX9_setAll 16 = .ok (.invokevirtual 69, 3) := by decide +kernel
theorem dX9_setAll_19 : decode cX9_setAll 19 = .ok (.invokevirtual 83, 3) := by decide +kernel
theorem dX9_setAll_22 : decode cX9_setAll 22 = .ok (.iinc 2 1, 3) := by decide +kernel
theorem dX9_setAll_25 : decode cX9_setAll 25 = .ok (.goto (-23), 3) := by decide +kernel
theorem dX9_setAll_28 : decode cX9_setAll 28 = .ok (.return_, 1) := by decide +kernel
theorem dX9_range_0 : decode cX9_range 0 = .ok (.aload_n 0, 1) := by decide +kernel
theorem dX9_range_1 : decode cX9_range 1 = .ok (.iload_n 1, 1) := by decide +kernel
theorem dX9_range_2 : decode cX9_range 2 = .ok (.iconst 1, 1) := by decide +kernel
theorem dX9_range_3 : decode cX9_range 3 = .ok (.invokevirtual 93, 3) := by decide +kernel
theorem dX9_range_6 : decode cX9_range 6 = .ok (.ifCond .eq 27, 3) := by decide +kernel
theorem dX9_range_9 : decode cX9_range 9 = .ok (.iload_n 2, 1) := by decide +kernel
theorem dX9_range_10 : decode cX9_range 10 = .ok (.sipush (-9999), 3) := by decide +kernel
theorem dX9_range_13 : decode cX9_range 13 = .ok (.sipush 9999, 3) := by decide +kernel
theorem dX9_range_16 : decode cX9_range 16 = .ok (.invokestatic 55, 3) := by decide +kernel
theorem dX9_range_19 : decode cX9_range 19 = .ok (.ifCond .eq 14, 3) := by decide +kernel
theorem dX9_range_22 : decode cX9_range 22 = .ok (.iload_n 3, 1) := by decide +kernel
theorem dX9_range_23 : decode cX9_range 23 = .ok (.iload_n 2, 1) := by decide +kernel
theorem dX9_range_24 : decode cX9_range 24 = .ok (.sipush 9999, 3) := by decide +kernel
theorem dX9_range_27 : decode cX9_range 27 = .ok (.invokestatic 55, 3) := by decide +kernel
theorem dX9_range_30 : decode cX9_range 30 = .ok (.ifCond .ne 11, 3) := by decide +kernel
theorem dX9_range_33 : decode cX9_range 33 = .ok (.aload_n 0, 1) := by decide +kernel
theorem dX9_range_34 : decode cX9_range 34 = .ok (.sipush (-10002), 3) := by decide +kernel
theorem dX9_range_37 : decode cX9_range 37 = .ok (.invokevirtual 51, 3) := by decide +kernel
theorem dX9_range_40 : decode cX9_range 40 = .ok (.ireturn, 1) := by decide +kernel
theorem dX9_range_41 : decode cX9_range 41 = .ok (.aload_n 0, 1) := by decide +kernel
theorem dX9_range_42 : decode cX9_range 42 = .ok (.invokevirtual 80, 3) := by decide +kernel
theorem dX9_range_45 : decode cX9_range 45 = .ok (.aload_n 0, 1) := by decide +kernel
theorem dX9_range_46 : decode cX9_range 46 = .ok (.iload_n 1, 1) := by decide +kernel
theorem dX9_range_47 : decode cX9_range 47 = .ok (.iconst 4, 1) := by decide +kernel
theorem dX9_range_48 : decode cX9_range 48 = .ok (.invokevirtual 69, 3) := by decide +kernel
theorem dX9_range_51 : decode cX9_range 51 = .ok (.istore 4, 2) := by decide +kernel
theorem dX9_range_53 : decode cX9_range 53 = .ok (.aload_n 0, 1) := by decide +kernel
theorem dX9_range_54 : decode cX9_range 54 = .ok (.iload_n 1, 1) := by decide +kernel
theorem dX9_range_55 : decode cX9_range 55 = .ok (.iconst 4, 1) := by decide +kernel
theorem dX9_range_56 : decode cX9_range 56 = .ok (.iload_n 2, 1) := by decide +kernel
theorem dX9_range_57 : decode cX9_range 57 = .ok (.invokevirtual 83, 3) := by decide +kernel
theorem dX9_range_60 : decode cX9_range 60 = .ok (.aload_n 0, 1) := by decide +kernel
theorem dX9_range_61 : decode cX9_range 61 = .ok (.iload_n 1, 1) := by decide +kernel
theorem dX9_range_62 : decode cX9_range 62 = .ok (.iconst 5, 1) := by decide +kernel
theorem dX9_range_63 : decode cX9_range 63 = .ok (.iload_n 3, 1) := by decide +kernel
theorem dX9_range_64 : decode cX9_range 64 = .ok (.invokevirtual 83, 3) := by decide +kernel
theorem dX9_range_67 : decode cX9_range 67 = .ok (.aload_n 0, 1) := by decide +kernel
theorem dX9_range_68 : decode cX9_range 68 = .ok (.iload_n 1, 1) := by decide +kernel
theorem dX9_range_69 : decode cX9_range 69 = .ok (.invokevirtual 97, 3) := by decide +kernel
theorem dX9_range_72 : decode cX9_range 72 = .ok (.aload_n 0, 1) := by decide +kernel
theorem dX9_range_73 : decode cX9_range 73 = .ok (.invokevirtual 90, 3) := by decide +kernel
theorem dX9_range_76 : decode cX9_range 76 = .ok (.iload 4, 2) := by decide +kernel
theorem dX9_range_78 : decode cX9_range 78 = .ok (.ireturn, 1) := by decide +kernel
theorem dX9_toldOfNode_0 : decode cX9_toldOfNode 0 = .ok (.iload_n 2, 1) := by decide +kernel
theorem dX9_toldOfNode_1 : decode cX9_toldOfNode 1 = .ok (.tableswitch 51 6 8 #[27, 35, 43], 27) := by decide +kernel
theorem dX9_toldOfNode_28 : decode cX9_toldOfNode 28 = .ok (.aload_n 0, 1) := by decide +kernel
theorem dX9_toldOfNode_29 : decode cX9_toldOfNode 29 = .ok (.iload_n 1, 1) := by decide +kernel
theorem dX9_toldOfNode_30 : decode cX9_toldOfNode 30 = .ok (.bipush 10, 2) := by decide +kernel
theorem dX9_toldOfNode_32 : decode cX9_toldOfNode 32 = .ok (.invokevirtual 69, 3) := by decide +kernel
theorem dX9_toldOfNode_35 : decode cX9_toldOfNode 35 = .ok (.ireturn, 1) := by decide +kernel
theorem dX9_toldOfNode_36 : decode cX9_toldOfNode 36 = .ok (.aload_n 0, 1) := by decide +kernel
theorem dX9_toldOfNode_37 : decode cX9_toldOfNode 37 = .ok (.iload_n 1, 1) := by decide +kernel
theorem dX9_toldOfNode_38 : decode cX9_toldOfNode 38 = .ok (.bipush 11, 2) := by decide +kernel
theorem dX9_toldOfNode_40 : decode cX9_toldOfNode 40 = .ok (.invokevirtual 69, 3) := by decide +kernel
theorem dX9_toldOfNode_43 : decode cX9_toldOfNode 43 = .ok (.ireturn, 1) := by decide +kernel
theorem dX9_toldOfNode_44 : decode cX9_toldOfNode 44 = .ok (.aload_n 0, 1) := by decide +kernel
theorem dX9_toldOfNode_45 : decode cX9_toldOfNode 45 = .ok (.iload_n 1, 1) := by decide +kernel
theorem dX9_toldOfNode_46 : decode cX9_toldOfNode 46 = .ok (.bipush 9, 2) := by decide +kernel
theorem dX9_toldOfNode_48 : decode cX9_toldOfNode 48 = .ok (.invokevirtual 69, 3) := by decide +kernel
theorem dX9_toldOfNode_51 : decode cX9_toldOfNode 51 = .ok (.ireturn, 1) := by decide +kernel
theorem dX9_toldOfNode_52 : decode cX9_toldOfNode 52 = .ok (.aload_n 0, 1) := by decide +kernel
theorem dX9_toldOfNode_53 : decode cX9_toldOfNode 53 = .ok (.iload_n 1, 1) := by decide +kernel
theorem dX9_toldOfNode_54 : decode cX9_toldOfNode 54 = .ok (.iload_n 2, 1) := by decide +kernel
theorem dX9_toldOfNode_55 : decode cX9_toldOfNode 55 = .ok (.invokevirtual 69, 3) := by decide +kernel
theorem dX9_toldOfNode_58 : decode cX9_toldOfNode 58 = .ok (.ireturn, 1) := by decide +kernel
theorem dX9_of_0 : decode cX9_of 0 = .ok (.aload_n 0, 1) := by decide +kernel
theorem dX9_of_1 : decode cX9_of 1 = .ok (.iload_n 1, 1) := by decide +kernel
theorem dX9_of_2 : decode cX9_of 2 = .ok (.invokevirtual 66, 3) := by decide +kernel
theorem dX9_of_5 : decode cX9_of 5 = .ok (.ifCond .eq 22, 3) := by decide +kernel
theorem dX9_of_8 : decode cX9_of 8 = .ok (.iload_n 2, 1) := by decide +kernel
theorem dX9_of_9 : decode cX9_of 9 = .ok (.iconst 0, 1) := by decide +kernel
theorem dX9_of_10 : decode cX9_of 10 = .ok (.bipush 8, 2) := by decide +kernel
theorem dX9_of_12 : decode cX9_of 12 = .ok (.invokestatic 55, 3) := by decide +kernel
theorem dX9_of_15 : decode cX9_of 15 = .ok (.ifCond .eq 12, 3) := by decide +kernel
theorem dX9_of_18 : decode cX9_of 18 = .ok (.aload_n 0, 1) := by decide +kernel
theorem dX9_of_19 : decode cX9_of 19 = .ok (.iload_n 1, 1) := by decide +kernel
theorem dX9_of_20 : decode cX9_of 20 = .ok (.iload_n 2, 1) := by decide +kernel
theorem dX9_of_21 : decode cX9_of 21 = .ok (.invokevirtual 101, 3) := by decide +kernel
theorem dX9_of_24 : decode cX9_of 24 = .ok (.goto 10, 3) := by decide +kernel
theorem dX9_of_27 : decode cX9_of 27 = .ok (.aload_n 0, 1) := by decide +kernel
theorem dX9_of_28 : decode cX9_of 28 = .ok (.sipush (-10002), 3) := by decide +kernel
theorem dX9_of_31 : decode cX9_of 31 = .ok (.invokevirtual 51, 3) := by decide +kernel
theorem dX9_of_34 : decode cX9_of 34 = .ok (.ireturn, 1) := by decide +kernel
theorem dX9_value_0 : decode cX9_value 0 = .ok (.aload_n 0, 1) := by decide +kernel
theorem dX9_value_1 : decode cX9_value 1 = .ok (.iload_n 1, 1) := by decide +kernel
theorem dX9_value_2 : decode cX9_value 2 = .ok (.iconst 1, 1) := by decide +kernel
theorem dX9_value_3 : decode cX9_value 3 = .ok (.invokevirtual 93, 3) := by decide +kernel
theorem dX9_value_6 : decode cX9_value 6 = .ok (.ifCond .eq 26, 3) := by decide +kernel
theorem dX9_value_9 : decode cX9_value 9 = .ok (.iload_n 2, 1) := by decide +kernel
theorem dX9_value_10 : decode cX9_value 10 = .ok (.iconst 1, 1) := by decide +kernel
theorem dX9_value_11 : decode cX9_value 11 = .ok (.iconst 3, 1) := by decide +kernel
theorem dX9_value_12 : decode cX9_value 12 = .ok (.invokestatic 55, 3) := by decide +kernel
theorem dX9_value_15 : decode cX9_value 15 = .ok (.ifCond .eq 17, 3) := by decide +kernel
theorem dX9_value_18 : decode cX9_value 18 = .ok (.aload_n 0, 1) := by decide +kernel
theorem dX9_value_19 : decode cX9_value 19 = .ok (.iload_n 1, 1) := by decide +kernel
theorem dX9_value_20 : decode cX9_value 20 = .ok (.bipush 6, 2) := by decide +kernel
theorem dX9_value_22 : decode cX9_value 22 = .ok (.iload_n 2, 1) := by decide +kernel
theorem dX9_value_23 : decode cX9_value 23 = .ok (.iadd, 1) := by decide +kernel
theorem dX9_value_24 : decode cX9_value 24 = .ok (.iconst 1, 1) := by decide +kernel
theorem dX9_value_25 : decode cX9_value 25 = .ok (.isub, 1) := by decide +kernel
theorem dX9_value_26 : decode cX9_value 26 = .ok (.invokevirtual 69, 3) := by decide +kernel
theorem dX9_value_29 : decode cX9_value 29 = .ok (.goto 10, 3) := by decide +kernel
theorem dX9_value_32 : decode cX9_value 32 = .ok (.aload_n 0, 1) := by decide +kernel
theorem dX9_value_33 : decode cX9_value 33 = .ok (.sipush (-10002), 3) := by decide +kernel
theorem dX9_value_36 : decode cX9_value 36 = .ok (.invokevirtual 51, 3) := by decide +kernel
theorem dX9_value_39 : decode cX9_value 39 = .ok (.ireturn, 1) := by decide +kernel
theorem dX9_isSame_0 : decode cX9_isSame 0 = .ok (.iload_n 2, 1) := by decide +kernel
theorem dX9_isSame_1 : decode cX9_isSame 1 = .ok (.aload_n 0, 1) := by decide +kernel
theorem dX9_isSame_2 : decode cX9_isSame 2 = .ok (.getfield 28, 3) := by decide +kernel
theorem dX9_isSame_5 : decode cX9_isSame 5 = .ok (.iload_n 3, 1) := by decide +kernel
theorem dX9_isSame_6 : decode cX9_isSame 6 = .ok (.iaload, 1) := by decide +kernel
theorem dX9_isSame_7 : decode cX9_isSame 7 = .ok (.if_icmp .ne 7, 3) := by decide +kernel
theorem dX9_isSame_10 : decode cX9_isSame 10 = .ok (.iconst 1, 1) := by decide +kernel
theorem dX9_isSame_11 : decode cX9_isSame 11 = .ok (.goto 4, 3) := by decide +kernel
theorem dX9_isSame_14 : decode cX9_isSame 14 = .ok (.iconst 0, 1) := by decide +kernel
theorem dX9_isSame_15 : decode cX9_isSame 15 = .ok (.istore 4, 2) := by decide +kernel
theorem dX9_isSame_17 : decode cX9_isSame 17 = .ok (.iconst 0, 1) := by decide +kernel
theorem dX9_isSame_18 : decode cX9_isSame 18 = .ok (.istore 5, 2) := by decide +kernel
theorem dX9_isSame_20 : decode cX9_isSame 20 = .ok (.iload 5, 2) := by decide +kernel
theorem dX9_isSame_22 : decode cX9_isSame 22 = .ok (.iload_n 2, 1) := by decide +kernel
theorem dX9_isSame_23 : decode cX9_isSame 23 = .ok (.if_icmp .ge 51, 3) := by decide +kernel
theorem dX9_isSame_26 : decode cX9_isSame 26 = .ok (.iload 4, 2) := by decide +kernel
theorem dX9_isSame_28 : decode cX9_isSame 28 = .ok (.ifCond .eq 46, 3) := by decide +kernel
theorem dX9_isSame_31 : decode cX9_isSame 31 = .ok (.aload_n 0, 1) := by decide +kernel
theorem dX9_isSame_32 : decode cX9_isSame 32 = .ok (.iload_n 1, 1) := by decide +kernel
theorem dX9_isSame_33 : decode cX9_isSame 33 = .ok (.bipush 12, 2) := by decide +kernel
theorem dX9_isSame_35 : decode cX9_isSame 35 = .ok (.iload 5, 2) := by decide +kernel
theorem dX9_isSame_37 : decode cX9_isSame 37 = .ok (.iadd, 1) := by decide +kernel
theorem dX9_isSame_38 : decode cX9_isSame 38 = .ok (.invokevirtual 69, 3) := by decide +kernel
theorem dX9_isSame_41 : decode cX9_isSame 41 = .ok (.aload_n 0, 1) := by decide +kernel
theorem dX9_isSame_42 : decode cX9_isSame 42 = .ok (.getfield 22, 3) := by decide +kernel
theorem dX9_isSame_45 : decode cX9_isSame 45 = .ok (.aload_n 0, 1) := by decide +kernel
theorem dX9_isSame_46 : decode cX9_isSame 46 = .ok (.getfield 25, 3) := by decide +kernel
theorem dX9_isSame_49 : decode cX9_isSame 49 = .ok (.iload_n 3, 1) := by decide +kernel
theorem dX9_isSame_50 : decode cX9_isSame 50 = .ok (.iaload, 1) := by decide +kernel
theorem dX9_isSame_51 : decode cX9_isSame 51 = .ok (.iload 5, 2) := by decide +kernel
theorem dX9_isSame_53 : decode cX9_isSame 53 = .ok (.iadd, 1) := by decide +kernel
theorem dX9_isSame_54 : decode cX9_isSame 54 = .ok (.iaload, 1) := by decide +kernel
theorem dX9_isSame_55 : decode cX9_isSame 55 = .ok (.invokestatic 87, 3) := by decide +kernel
theorem dX9_isSame_58 : decode cX9_isSame 58 = .ok (.if_icmp .ne 7, 3) := by decide +kernel
theorem dX9_isSame_61 : decode cX9_isSame 61 = .ok (.iconst 1, 1) := by decide +kernel
theorem dX9_isSame_62 : decode cX9_isSame 62 = .ok (.goto 4, 3) := by decide +kernel
theorem dX9_isSame_65 : decode cX9_isSame 65 = .ok (.iconst 0, 1) := by decide +kernel
theorem dX9_isSame_66 : decode cX9_isSame 66 = .ok (.istore 4, 2) := by decide +kernel
theorem dX9_isSame_68 : decode cX9_isSame 68 = .ok (.iinc 5 1, 3) := by decide +kernel
theorem dX9_isSame_71 : decode cX9_isSame 71 = .ok (.goto (-51), 3) := by decide +kernel
theorem dX9_isSame_74 : decode cX9_isSame 74 = .ok (.iload 4, 2) := by decide +kernel
theorem dX9_isSame_76 : decode cX9_isSame 76 = .ok (.ireturn, 1) := by decide +kernel
theorem dX9_isFit_0 : decode cX9_isFit 0 = .ok (.aload_n 0, 1) := by decide +kernel
theorem dX9_isFit_1 : decode cX9_isFit 1 = .ok (.getfield 31, 3) := by decide +kernel
theorem dX9_isFit_4 : decode cX9_isFit 4 = .ok (.iload_n 2, 1) := by decide +kernel
theorem dX9_isFit_5 : decode cX9_isFit 5 = .ok (.iaload, 1) := by decide +kernel
theorem dX9_isFit_6 : decode cX9_isFit 6 = .ok (.aload_n 0, 1) := by decide +kernel
theorem dX9_isFit_7 : decode cX9_isFit 7 = .ok (.iload_n 1, 1) := by decide +kernel
theorem dX9_isFit_8 : decode cX9_isFit 8 = .ok (.iconst 2, 1) := by decide +kernel
theorem dX9_isFit_9 : decode cX9_isFit 9 = .ok (.invokevirtual 69, 3) := by decide +kernel
theorem dX9_isFit_12 : decode cX9_isFit 12 = .ok (.if_icmp .gt 39, 3) := by decide +kernel
theorem dX9_isFit_15 : decode cX9_isFit 15 = .ok (.aload_n 0, 1) := by decide +kernel
theorem dX9_isFit_16 : decode cX9_isFit 16 = .ok (.iload_n 1, 1) := by decide +kernel
theorem dX9_isFit_17 : decode cX9_isFit 17 = .ok (.aload_n 0, 1) := by decide +kernel
theorem dX9_isFit_18 : decode cX9_isFit 18 = .ok (.iload_n 1, 1) := by decide +kernel
theorem dX9_isFit_19 : decode cX9_isFit 19 = .ok (.bipush 10, 2) := by decide +kernel
theorem dX9_isFit_21 : decode cX9_isFit 21 = .ok (.invokevirtual 69, 3) := by decide +kernel
theorem dX9_isFit_24 : decode cX9_isFit 24 = .ok (.iload_n 2, 1) := by decide +kernel
theorem dX9_isFit_25 : decode cX9_isFit 25 = .ok (.invokevirtual 104, 3) := by decide +kernel
theorem dX9_isFit_28 : decode cX9_isFit 28 = .ok (.ifCond .ne 19, 3) := by decide +kernel
theorem dX9_isFit_31 : decode cX9_isFit 31 = .ok (.aload_n 0, 1) := by decide +kernel
theorem dX9_isFit_32 : decode cX9_isFit 32 = .ok (.iload_n 1, 1) := by decide +kernel
theorem dX9_isFit_33 : decode cX9_isFit 33 = .ok (.aload_n 0, 1) := by decide +kernel
theorem dX9_isFit_34 : decode cX9_isFit 34 = .ok (.iload_n 1, 1) := by decide +kernel
theorem dX9_isFit_35 : decode cX9_isFit 35 = .ok (.bipush 11, 2) := by decide +kernel
theorem dX9_isFit_37 : decode cX9_isFit 37 = .ok (.invokevirtual 69, 3) := by decide +kernel
theorem dX9_isFit_40 : decode cX9_isFit 40 = .ok (.iload_n 2, 1) := by decide +kernel
theorem dX9_isFit_41 : decode cX9_isFit 41 = .ok (.invokevirtual 104, 3) := by decide +kernel
theorem dX9_isFit_44 : decode cX9_isFit 44 = .ok (.ifCond .eq 7, 3) := by decide +kernel
theorem dX9_isFit_47 : decode cX9_isFit 47 = .ok (.iconst 1, 1) := by decide +kernel
theorem dX9_isFit_48 : decode cX9_isFit 48 = .ok (.goto 4, 3) := by decide +kernel
theorem dX9_isFit_51 : decode cX9_isFit 51 = .ok (.iconst 0, 1) := by decide +kernel
theorem dX9_isFit_52 : decode cX9_isFit 52 = .ok (.ireturn, 1) := by decide +kernel
theorem dX9_pass_0 : decode cX9_pass 0 = .ok (.aload_n 0, 1) := by decide +kernel
theorem dX9_pass_1 : decode cX9_pass 1 = .ok (.getfield 34, 3) := by decide +kernel
theorem dX9_pass_4 : decode cX9_pass 4 = .ok (.aload_n 0, 1) := by decide +kernel
theorem dX9_pass_5 : decode cX9_pass 5 = .ok (.getfield 107, 3) := by decide +kernel
theorem dX9_pass_8 : decode cX9_pass 8 = .ok (.iload_n 1, 1) := by decide +kernel
theorem dX9_pass_9 : decode cX9_pass 9 = .ok (.iastore, 1) := by decide +kernel
theorem dX9_pass_10 : decode cX9_pass 10 = .ok (.aload_n 0, 1) := by decide +kernel
theorem dX9_pass_11 : decode cX9_pass 11 = .ok (.getfield 37, 3) := by decide +kernel
theorem dX9_pass_14 : decode cX9_pass 14 = .ok (.aload_n 0, 1) := by decide +kernel
theorem dX9_pass_15 : decode cX9_pass 15 = .ok (.getfield 107, 3) := by decide +kernel
theorem dX9_pass_18 : decode cX9_pass 18 = .ok (.iload_n 2, 1) := by decide +kernel
theorem dX9_pass_19 : decode cX9_pass 19 = .ok (.iastore, 1) := by decide +kernel
theorem dX9_pass_20 : decode cX9_pass 20 = .ok (.aload_n 0, 1) := by decide +kernel
theorem dX9_pass_21 : decode cX9_pass 21 = .ok (.getfield 40, 3) := by decide +kernel
theorem dX9_pass_24 : decode cX9_pass 24 = .ok (.aload_n 0, 1) := by decide +kernel
theorem dX9_pass_25 : decode cX9_pass 25 = .ok (.getfield 107, 3) := by decide +kernel
theorem dX9_pass_28 : decode cX9_pass 28 = .ok (.iload_n 3, 1) := by decide +kernel
theorem dX9_pass_29 : decode cX9_pass 29 = .ok (.bastore, 1) := by decide +kernel
theorem dX9_pass_30 : decode cX9_pass 30 = .ok (.aload_n 0, 1) := by decide +kernel
theorem dX9_pass_31 : decode cX9_pass 31 = .ok (.getfield 44, 3) := by decide +kernel
theorem dX9_pass_34 : decode cX9_pass 34 = .ok (.aload_n 0, 1) := by decide +kernel
theorem dX9_pass_35 : decode cX9_pass 35 = .ok (.getfield 107, 3) := by decide +kernel
theorem dX9_pass_38 : decode cX9_pass 38 = .ok (.iconst 0, 1) := by decide +kernel
theorem dX9_pass_39 : decode cX9_pass 39 = .ok (.iastore, 1) := by decide +kernel
theorem dX9_pass_40 : decode cX9_pass 40 = .ok (.aload_n 0, 1) := by decide +kernel
theorem dX9_pass_41 : decode cX9_pass 41 = .ok (.dup, 1) := by decide +kernel
theorem dX9_pass_42 : decode cX9_pass 42 = .ok (.getfield 107, 3) := by decide +kernel
theorem dX9_pass_45 : decode cX9_pass 45 = .ok (.iconst 1, 1) := by decide +kernel
theorem dX9_pass_46 : decode cX9_pass 46 = .ok (.iadd, 1) := by decide +kernel
theorem dX9_pass_47 : decode cX9_pass 47 = .ok (.putfield 107, 3) := by decide +kernel
theorem dX9_pass_50 : decode cX9_pass 50 = .ok (.return_, 1) := by decide +kernel
theorem dX9_goesOn_0 : decode cX9_goesOn 0 = .ok (.aload_n 0, 1) := by decide +kernel
theorem dX9_goesOn_1 : decode cX9_goesOn 1 = .ok (.getfield 107, 3) := by decide +kernel
theorem dX9_goesOn_4 : decode cX9_goesOn 4 = .ok (.iconst 1, 1) := by decide +kernel
theorem dX9_goesOn_5 : decode cX9_goesOn 5 = .ok (.isub, 1) := by decide +kernel
theorem dX9_goesOn_6 : decode cX9_goesOn 6 = .ok (.istore_n 1, 1) := by decide +kernel
theorem dX9_goesOn_7 : decode cX9_goesOn 7 = .ok (.aload_n 0, 1) := by decide +kernel
theorem dX9_goesOn_8 : decode cX9_goesOn 8 = .ok (.getfield 34, 3) := by decide +kernel
theorem dX9_goesOn_11 : decode cX9_goesOn 11 = .ok (.iload_n 1, 1) := by decide +kernel
theorem dX9_goesOn_12 : decode cX9_goesOn 12 = .ok (.iaload, 1) := by decide +kernel
theorem dX9_goesOn_13 : decode cX9_goesOn 13 = .ok (.istore_n 2, 1) := by decide +kernel
theorem dX9_goesOn_14 : decode cX9_goesOn 14 = .ok (.aload_n 0, 1) := by decide +kernel
theorem dX9_goesOn_15 : decode cX9_goesOn 15 = .ok (.getfield 44, 3) := by decide +kernel
theorem dX9_goesOn_18 : decode cX9_goesOn 18 = .ok (.iload_n 1, 1) := by decide +kernel
theorem dX9_goesOn_19 : decode cX9_goesOn 19 = .ok (.iaload, 1) := by decide +kernel
theorem dX9_goesOn_20 : decode cX9_goesOn 20 = .ok (.bipush 32, 2) := by decide +kernel
theorem dX9_goesOn_22 : decode cX9_goesOn 22 = .ok (.if_icmp .ge 143, 3) := by decide +kernel
theorem dX9_goesOn_25 : decode cX9_goesOn 25 = .ok (.aload_n 0, 1) := by decide +kernel
theorem dX9_goesOn_26 : decode cX9_goesOn 26 = .ok (.getfield 44, 3) := by decide +kernel
theorem dX9_goesOn_29 : decode cX9_goesOn 29 = .ok (.iload_n 1, 1) := by decide +kernel
theorem dX9_goesOn_30 : decode cX9_goesOn 30 = .ok (.iaload, 1) := by decide +kernel
theorem dX9_goesOn_31 : decode cX9_goesOn 31 = .ok (.bipush 16, 2) := by decide +kernel
theorem dX9_goesOn_33 : decode cX9_goesOn 33 = .ok (.irem, 1) := by decide +kernel
theorem dX9_goesOn_34 : decode cX9_goesOn 34 = .ok (.istore_n 3, 1) := by decide +kernel
theorem dX9_goesOn_35 : decode cX9_goesOn 35 = .ok (.aload_n 0, 1) := by decide +kernel
theorem dX9_goesOn_36 : decode cX9_goesOn 36 = .ok (.getfield 44, 3) := by decide +kernel
theorem dX9_goesOn_39 : decode cX9_goesOn 39 = .ok (.iload_n 1, 1) := by decide +kernel
theorem dX9_goesOn_40 : decode cX9_goesOn 40 = .ok (.iaload, 1) := by decide +kernel
theorem dX9_goesOn_41 : decode cX9_goesOn 41 = .ok (.bipush 16, 2) := by decide +kernel
theorem dX9_goesOn_43 : decode cX9_goesOn 43 = .ok (.if_icmp .ge 7, 3) := by decide +kernel
theorem dX9_goesOn_46 : decode cX9_goesOn 46 = .ok (.iconst 1, 1) := by decide +kernel
theorem dX9_goesOn_47 : decode cX9_goesOn 47 = .ok (.goto 4, 3) := by decide +kernel
theorem dX9_goesOn_50 : decode cX9_goesOn 50 = .ok (.iconst 0, 1) := by decide +kernel
theorem dX9_goesOn_51 : decode cX9_goesOn 51 = .ok (.istore 4, 2) := by decide +kernel
theorem dX9_goesOn_53 : decode cX9_goesOn 53 = .ok (.aload_n 0, 1) := by decide +kernel
theorem dX9_goesOn_54 : decode cX9_goesOn 54 = .ok (.getfield 44, 3) := by decide +kernel
theorem dX9_goesOn_57 : decode cX9_goesOn 57 = .ok (.iload_n 1, 1) := by decide +kernel
theorem dX9_goesOn_58 : decode cX9_goesOn 58 = .ok (.dup2, 1) := by decide +kernel
theorem dX9_goesOn_59 : decode cX9_goesOn 59 = .ok (.iaload, 1) := by decide +kernel
theorem dX9_goesOn_60 : decode cX9_goesOn 60 = .ok (.iconst 1, 1) := by decide +kernel
theorem dX9_goesOn_61 : decode cX9_goesOn 61 = .ok (.iadd, 1) := by decide +kernel
theorem dX9_goesOn_62 : decode cX9_goesOn 62 = .ok (.iastore, 1) := by decide +kernel
theorem dX9_goesOn_63 : decode cX9_goesOn 63 = .ok (.iload_n 3, 1) := by decide +kernel
theorem dX9_goesOn_64 : decode cX9_goesOn 64 = .ok (.ifCond .le 98, 3) := by decide +kernel
theorem dX9_goesOn_67 : decode cX9_goesOn 67 = .ok (.aload_n 0, 1) := by decide +kernel
theorem dX9_goesOn_68 : decode cX9_goesOn 68 = .ok (.iload_n 3, 1) := by decide +kernel
theorem dX9_goesOn_69 : decode cX9_goesOn 69 = .ok (.invokevirtual 66, 3) := by decide +kernel
theorem dX9_goesOn_72 : decode cX9_goesOn 72 = .ok (.ifCond .eq 90, 3) := by decide +kernel
theorem dX9_goesOn_75 : decode cX9_goesOn 75 = .ok (.aload_n 0, 1) := by decide +kernel
theorem dX9_goesOn_76 : decode cX9_goesOn 76 = .ok (.iload_n 3, 1) := by decide +kernel
theorem dX9_goesOn_77 : decode cX9_goesOn 77 = .ok (.iconst 0, 1) := by decide +kernel
theorem dX9_goesOn_78 : decode cX9_goesOn 78 = .ok (.invokevirtual 69, 3) := by decide +kernel
theorem dX9_goesOn_81 : decode cX9_goesOn 81 = .ok (.iload_n 2, 1) := by decide +kernel
theorem dX9_goesOn_82 : decode cX9_goesOn 82 = .ok (.if_icmp .ne 80, 3) := by decide +kernel
theorem dX9_goesOn_85 : decode cX9_goesOn 85 = .ok (.iload 4, 2) := by decide +kernel
theorem dX9_goesOn_87 : decode cX9_goesOn 87 = .ok (.ifCond .eq 46, 3) := by decide +kernel
theorem dX9_goesOn_90 : decode cX9_goesOn 90 = .ok (.aload_n 0, 1) := by decide +kernel
theorem dX9_goesOn_91 : decode cX9_goesOn 91 = .ok (.getfield 37, 3) := by decide +kernel
theorem dX9_goesOn_94 : decode cX9_goesOn 94 = .ok (.iload_n 1, 1) := by decide +kernel
theorem dX9_goesOn_95 : decode cX9_goesOn 95 = .ok (.iaload, 1) := by decide +kernel
theorem dX9_goesOn_96 : decode cX9_goesOn 96 = .ok (.aload_n 0, 1) := by decide +kernel
theorem dX9_goesOn_97 : decode cX9_goesOn 97 = .ok (.getfield 110, 3) := by decide +kernel
theorem dX9_goesOn_100 : decode cX9_goesOn 100 = .ok (.if_icmp .ge 33, 3) := by decide +kernel
theorem dX9_goesOn_103 : decode cX9_goesOn 103 = .ok (.aload_n 0, 1) := by decide +kernel
theorem dX9_goesOn_104 : decode cX9_goesOn 104 = .ok (.iload_n 3, 1) := by decide +kernel
theorem dX9_goesOn_105 : decode cX9_goesOn 105 = .ok (.aload_n 0, 1) := by decide +kernel
theorem dX9_goesOn_106 : decode cX9_goesOn 106 = .ok (.getfield 37, 3) := by decide +kernel
theorem dX9_goesOn_109 : decode cX9_goesOn 109 = .ok (.iload_n 1, 1) := by decide +kernel
theorem dX9_goesOn_110 : decode cX9_goesOn 110 = .ok (.iaload, 1) := by decide +kernel
theorem dX9_goesOn_111 : decode cX9_goesOn 111 = .ok (.invokevirtual 113, 3) := by decide +kernel
theorem dX9_goesOn_114 : decode cX9_goesOn 114 = .ok (.ifCond .eq 19, 3) := by decide +kernel
theorem dX9_goesOn_117 : decode cX9_goesOn 117 = .ok (.aload_n 0, 1) := by decide +kernel
theorem dX9_goesOn_118 : decode cX9_goesOn 118 = .ok (.iload_n 3, 1) := by decide +kernel
theorem dX9_goesOn_119 : decode cX9_goesOn 119 = .ok (.aload_n 0, 1) := by decide +kernel
theorem dX9_goesOn_120 : decode cX9_goesOn 120 = .ok (.getfield 37, 3) := by decide +kernel
theorem dX9_goesOn_123 : decode cX9_goesOn 123 = .ok (.iload_n 1, 1) := by decide +kernel
theorem dX9_goesOn_124 : decode cX9_goesOn 124 = .ok (.iaload, 1) := by decide +kernel
theorem dX9_goesOn_125 : decode cX9_goesOn 125 = .ok (.iconst 1, 1) := by decide +kernel
theorem dX9_goesOn_126 : decode cX9_goesOn 126 = .ok (.iadd, 1) := by decide +kernel
theorem dX9_goesOn_127 : decode cX9_goesOn 127 = .ok (.iconst 1, 1) := by decide +kernel
theorem dX9_goesOn_128 : decode cX9_goesOn 128 = .ok (.invokevirtual 116, 3) := by decide +kernel
theorem dX9_goesOn_131 : decode cX9_goesOn 131 = .ok (.iconst 1, 1) := by decide +kernel
theorem dX9_goesOn_132 : decode cX9_goesOn 132 = .ok (.ireturn, 1) := by decide +kernel
theorem dX9_goesOn_133 : decode cX9_goesOn 133 = .ok (.iload 4, 2) := by decide +kernel
theorem dX9_goesOn_135 : decode cX9_goesOn 135 = .ok (.ifCond .ne 27, 3) := by decide +kernel
theorem dX9_goesOn_138 : decode cX9_goesOn 138 = .ok (.aload_n 0, 1) := by decide +kernel
theorem dX9_goesOn_139 : decode cX9_goesOn 139 = .ok (.iload_n 3, 1) := by decide +kernel
theorem dX9_goesOn_140 : decode cX9_goesOn 140 = .ok (.iconst 3, 1) := by decide +kernel
theorem dX9_goesOn_141 : decode cX9_goesOn 141 = .ok (.invokevirtual 69, 3) := by decide +kernel
theorem dX9_goesOn_144 : decode cX9_goesOn 144 = .ok (.iconst 1, 1) := by decide +kernel
theorem dX9_goesOn_145 : decode cX9_goesOn 145 = .ok (.if_icmp .ne 17, 3) := by decide +kernel
theorem dX9_goesOn_148 : decode cX9_goesOn 148 = .ok (.aload_n 0, 1) := by decide +kernel
theorem dX9_goesOn_149 : decode cX9_goesOn 149 = .ok (.iload_n 3, 1) := by decide +kernel
theorem dX9_goesOn_150 : decode cX9_goesOn 150 = .ok (.aload_n 0, 1) := by decide +kernel
theorem dX9_goesOn_151 : decode cX9_goesOn 151 = .ok (.getfield 37, 3) := by decide +kernel
theorem dX9_goesOn_154 : decode cX9_goesOn 154 = .ok (.iload_n 1, 1) := by decide +kernel
theorem dX9_goesOn_155 : decode cX9_goesOn 155 = .ok (.iaload, 1) := by decide +kernel
theorem dX9_goesOn_156 : decode cX9_goesOn 156 = .ok (.iconst 0, 1) := by decide +kernel
theorem dX9_goesOn_157 : decode cX9_goesOn 157 = .ok (.invokevirtual 116, 3) := by decide +kernel
theorem dX9_goesOn_160 : decode cX9_goesOn 160 = .ok (.iconst 1, 1) := by decide +kernel
theorem dX9_goesOn_161 : decode cX9_goesOn 161 = .ok (.ireturn, 1) := by decide +kernel
theorem dX9_goesOn_162 : decode cX9_goesOn 162 = .ok (.goto (-148), 3) := by decide +kernel
theorem dX9_goesOn_165 : decode cX9_goesOn 165 = .ok (.iconst 0, 1) := by decide +kernel
theorem dX9_goesOn_166 : decode cX9_goesOn 166 = .ok (.ireturn, 1) := by decide +kernel
theorem dX9_find_0 : decode cX9_find 0 = .ok (.aload_n 0, 1) := by decide +kernel
theorem dX9_find_1 : decode cX9_find 1 = .ok (.iconst 0, 1) := by decide +kernel
theorem dX9_find_2 : decode cX9_find 2 = .ok (.putfield 107, 3) := by decide +kernel
theorem dX9_find_5 : decode cX9_find 5 = .ok (.aload_n 0, 1) := by decide +kernel
theorem dX9_find_6 : decode cX9_find 6 = .ok (.iconst 0, 1) := by decide +kernel
theorem dX9_find_7 : decode cX9_find 7 = .ok (.iconst 0, 1) := by decide +kernel
theorem dX9_find_8 : decode cX9_find 8 = .ok (.iconst 0, 1) := by decide +kernel
theorem dX9_find_9 : decode cX9_find 9 = .ok (.invokevirtual 116, 3) := by decide +kernel
theorem dX9_find_12 : decode cX9_find 12 = .ok (.aload_n 0, 1) := by decide +kernel
theorem dX9_find_13 : decode cX9_find 13 = .ok (.getfield 107, 3) := by decide +kernel
theorem dX9_find_16 : decode cX9_find 16 = .ok (.ifCond .le 64, 3) := by decide +kernel
theorem dX9_find_19 : decode cX9_find 19 = .ok (.aload_n 0, 1) := by decide +kernel
theorem dX9_find_20 : decode cX9_find 20 = .ok (.getfield 34, 3) := by decide +kernel
theorem dX9_find_23 : decode cX9_find 23 = .ok (.aload_n 0, 1) := by decide +kernel
theorem dX9_find_24 : decode cX9_find 24 = .ok (.getfield 107, 3) := by decide +kernel
theorem dX9_find_27 : decode cX9_find 27 = .ok (.iconst 1, 1) := by decide +kernel
theorem dX9_find_28 : decode cX9_find 28 = .ok (.isub, 1) := by decide +kernel
theorem dX9_find_29 : decode cX9_find 29 = .ok (.iaload, 1) := by decide +kernel
theorem dX9_find_30 : decode cX9_find 30 = .ok (.istore_n 1, 1) := by decide +kernel
theorem dX9_find_31 : decode cX9_find 31 = .ok (.aload_n 0, 1) := by decide +kernel
theorem dX9_find_32 : decode cX9_find 32 = .ok (.getfield 37, 3) := by decide +kernel
theorem dX9_find_35 : decode cX9_find 35 = .ok (.aload_n 0, 1) := by decide +kernel
theorem dX9_find_36 : decode cX9_find 36 = .ok (.getfield 107, 3) := by decide +kernel
theorem dX9_find_39 : decode cX9_find 39 = .ok (.iconst 1, 1) := by decide +kernel
theorem dX9_find_40 : decode cX9_find 40 = .ok (.isub, 1) := by decide +kernel
theorem dX9_find_41 : decode cX9_find 41 = .ok (.iaload, 1) := by decide +kernel
theorem dX9_find_42 : decode cX9_find 42 = .ok (.aload_n 0, 1) := by decide +kernel
theorem dX9_find_43 : decode cX9_find 43 = .ok (.getfield 110, 3) := by decide +kernel
theorem dX9_find_46 : decode cX9_find 46 = .ok (.if_icmp .ne 14, 3) := by decide +kernel
theorem dX9_find_49 : decode cX9_find 49 = .ok (.aload_n 0, 1) := by decide +kernel
theorem dX9_find_50 : decode cX9_find 50 = .ok (.iload_n 1, 1) := by decide +kernel
theorem dX9_find_51 : decode cX9_find 51 = .ok (.iconst 1, 1) := by decide +kernel
theorem dX9_find_52 : decode cX9_find 52 = .ok (.invokevirtual 69, 3) := by decide +kernel
theorem dX9_find_55 : decode cX9_find 55 = .ok (.ifCond .eq 5, 3) := by decide +kernel
theorem dX9_find_58 : decode cX9_find 58 = .ok (.iload_n 1, 1) := by decide +kernel
theorem dX9_find_59 : decode cX9_find 59 = .ok (.ireturn, 1) := by decide +kernel
theorem dX9_find_60 : decode cX9_find 60 = .ok (.aload_n 0, 1) := by decide +kernel
theorem dX9_find_61 : decode cX9_find 61 = .ok (.invokevirtual 120, 3) := by decide +kernel
theorem dX9_find_64 : decode cX9_find 64 = .ok (.ifCond .ne 13, 3) := by decide +kernel
theorem dX9_find_67 : decode cX9_find 67 = .ok (.aload_n 0, 1) := by decide +kernel
theorem dX9_find_68 : decode cX9_find 68 = .ok (.dup, 1) := by decide +kernel
theorem dX9_find_69 : decode cX9_find 69 = .ok (.getfield 107, 3) := by decide +kernel
theorem dX9_find_72 : decode cX9_find 72 = .ok (.iconst 1, 1) := by decide +kernel
theorem dX9_find_73 : decode cX9_find 73 = .ok (.isub, 1) := by decide +kernel
theorem dX9_find_74 : decode cX9_find 74 = .ok (.putfield 107, 3) := by decide +kernel
theorem dX9_find_77 : decode cX9_find 77 = .ok (.goto (-65), 3) := by decide +kernel
theorem dX9_find_80 : decode cX9_find 80 = .ok (.sipush (-10001), 3) := by decide +kernel
theorem dX9_find_83 : decode cX9_find 83 = .ok (.ireturn, 1) := by decide +kernel
theorem dX9_addFault_0 : decode cX9_addFault 0 = .ok (.iload_n 1, 1) := by decide +kernel
theorem dX9_addFault_1 : decode cX9_addFault 1 = .ok (.ineg, 1) := by decide +kernel
theorem dX9_addFault_2 : decode cX9_addFault 2 = .ok (.bipush 100, 2) := by decide +kernel
theorem dX9_addFault_4 : decode cX9_addFault 4 = .ok (.idiv, 1) := by decide +kernel
theorem dX9_addFault_5 : decode cX9_addFault 5 = .ok (.istore_n 2, 1) := by decide +kernel
theorem dX9_addFault_6 : decode cX9_addFault 6 = .ok (.aload_n 0, 1) := by decide +kernel
theorem dX9_addFault_7 : decode cX9_addFault 7 = .ok (.getfield 7, 3) := by decide +kernel
theorem dX9_addFault_10 : decode cX9_addFault 10 = .ok (.iconst 1, 1) := by decide +kernel
theorem dX9_addFault_11 : decode cX9_addFault 11 = .ok (.dup2, 1) := by decide +kernel
theorem dX9_addFault_12 : decode cX9_addFault 12 = .ok (.iaload, 1) := by decide +kernel
theorem dX9_addFault_13 : decode cX9_addFault 13 = .ok (.iload_n 2, 1) := by decide +kernel
theorem dX9_addFault_14 : decode cX9_addFault 14 = .ok (.iconst 1, 1) := by decide +kernel
theorem dX9_addFault_15 : decode cX9_addFault 15 = .ok (.if_icmp .ne 8, 3) := by decide +kernel
theorem dX9_addFault_18 : decode cX9_addFault 18 = .ok (.bipush 32, 2) := by decide +kernel
theorem dX9_addFault_20 : decode cX9_addFault 20 = .ok (.goto 24, 3) := by decide +kernel
theorem dX9_addFault_23 : decode cX9_addFault 23 = .ok (.iload_n 2, 1) := by decide +kernel
theorem dX9_addFault_24 : decode cX9_addFault 24 = .ok (.iconst 2, 1) := by decide +kernel
theorem dX9_addFault_25 : decode cX9_addFault 25 = .ok (.if_icmp .ne 8, 3) := by decide +kernel
theorem dX9_addFault_28 : decode cX9_addFault 28 = .ok (.bipush 16, 2) := by decide +kernel
theorem dX9_addFault_30 : decode cX9_addFault 30 = .ok (.goto 14, 3) := by decide +kernel
theorem dX9_addFault_33 : decode cX9_addFault 33 = .ok (.iload_n 2, 1) := by decide +kernel
theorem dX9_addFault_34 : decode cX9_addFault 34 = .ok (.iconst 3, 1) := by decide +kernel
theorem dX9_addFault_35 : decode cX9_addFault 35 = .ok (.if_icmp .ne 8, 3) := by decide +kernel
theorem dX9_addFault_38 : decode cX9_addFault 38 = .ok (.bipush 8, 2) := by decide +kernel
theorem dX9_addFault_40 : decode cX9_addFault 40 = .ok (.goto 4, 3) := by decide +kernel
theorem dX9_addFault_43 : decode cX9_addFault 43 = .ok (.iconst 4, 1) := by decide +kernel
theorem dX9_addFault_44 : decode cX9_addFault 44 = .ok (.ior, 1) := by decide +kernel
theorem dX9_addFault_45 : decode cX9_addFault 45 = .ok (.iastore, 1) := by decide +kernel
theorem dX9_addFault_46 : decode cX9_addFault 46 = .ok (.aload_n 0, 1) := by decide +kernel
theorem dX9_addFault_47 : decode cX9_addFault 47 = .ok (.getfield 7, 3) := by decide +kernel
theorem dX9_addFault_50 : decode cX9_addFault 50 = .ok (.bipush 12, 2) := by decide +kernel
theorem dX9_addFault_52 : decode cX9_addFault 52 = .ok (.iaload, 1) := by decide +kernel
theorem dX9_addFault_53 : decode cX9_addFault 53 = .ok (.iconst 4, 1) := by decide +kernel
theorem dX9_addFault_54 : decode cX9_addFault 54 = .ok (.if_icmp .ne 27, 3) := by decide +kernel
theorem dX9_addFault_57 : decode cX9_addFault 57 = .ok (.aload_n 0, 1) := by decide +kernel
theorem dX9_addFault_58 : decode cX9_addFault 58 = .ok (.getfield 7, 3) := by decide +kernel
theorem dX9_addFault_61 : decode cX9_addFault 61 = .ok (.bipush 26, 2) := by decide +kernel
theorem dX9_addFault_63 : decode cX9_addFault 63 = .ok (.sipush (-350), 3) := by decide +kernel
theorem dX9_addFault_66 : decode cX9_addFault 66 = .ok (.iastore, 1) := by decide +kernel
theorem dX9_addFault_67 : decode cX9_addFault 67 = .ok (.aload_n 0, 1) := by decide +kernel
theorem dX9_addFault_68 : decode cX9_addFault 68 = .ok (.getfield 7, 3) := by decide +kernel
theorem dX9_addFault_71 : decode cX9_addFault 71 = .ok (.iconst 1, 1) := by decide +kernel
theorem dX9_addFault_72 : decode cX9_addFault 72 = .ok (.dup2, 1) := by decide +kernel
theorem dX9_addFault_73 : decode cX9_addFault 73 = .ok (.iaload, 1) := by decide +kernel
theorem dX9_addFault_74 : decode cX9_addFault 74 = .ok (.bipush 8, 2) := by decide +kernel
theorem dX9_addFault_76 : decode cX9_addFault 76 = .ok (.ior, 1) := by decide +kernel
theorem dX9_addFault_77 : decode cX9_addFault 77 = .ok (.iastore, 1) := by decide +kernel
theorem dX9_addFault_78 : decode cX9_addFault 78 = .ok (.goto 30, 3) := by decide +kernel
theorem dX9_addFault_81 : decode cX9_addFault 81 = .ok (.aload_n 0, 1) := by decide +kernel
theorem dX9_addFault_82 : decode cX9_addFault 82 = .ok (.getfield 7, 3) := by decide +kernel
theorem dX9_addFault_85 : decode cX9_addFault 85 = .ok (.bipush 23, 2) := by decide +kernel
theorem dX9_addFault_87 : decode cX9_addFault 87 = .ok (.aload_n 0, 1) := by decide +kernel
theorem dX9_addFault_88 : decode cX9_addFault 88 = .ok (.getfield 7, 3) := by decide +kernel
theorem dX9_addFault_91 : decode cX9_addFault 91 = .ok (.bipush 12, 2) := by decide +kernel
theorem dX9_addFault_93 : decode cX9_addFault 93 = .ok (.iaload, 1) := by decide +kernel
theorem dX9_addFault_94 : decode cX9_addFault 94 = .ok (.iadd, 1) := by decide +kernel
theorem dX9_addFault_95 : decode cX9_addFault 95 = .ok (.iload_n 1, 1) := by decide +kernel
theorem dX9_addFault_96 : decode cX9_addFault 96 = .ok (.iastore, 1) := by decide +kernel
theorem dX9_addFault_97 : decode cX9_addFault 97 = .ok (.aload_n 0, 1) := by decide +kernel
theorem dX9_addFault_98 : decode cX9_addFault 98 = .ok (.getfield 7, 3) := by decide +kernel
theorem dX9_addFault_101 : decode cX9_addFault 101 = .ok (.bipush 12, 2) := by decide +kernel
theorem dX9_addFault_103 : decode cX9_addFault 103 = .ok (.dup2, 1) := by decide +kernel
theorem dX9_addFault_104 : decode cX9_addFault 104 = .ok (.iaload, 1) := by decide +kernel
theorem dX9_addFault_105 : decode cX9_addFault 105 = .ok (.iconst 1, 1) := by decide +kernel
theorem dX9_addFault_106 : decode cX9_addFault 106 = .ok (.iadd, 1) := by decide +kernel
theorem dX9_addFault_107 : decode cX9_addFault 107 = .ok (.iastore, 1) := by decide +kernel
theorem dX9_addFault_108 : decode cX9_addFault 108 = .ok (.return_, 1) := by decide +kernel
theorem dX9_addAnswer_0 : decode cX9_addAnswer 0 = .ok (.aload_n 0, 1) := by decide +kernel
theorem dX9_addAnswer_1 : decode cX9_addAnswer 1 = .ok (.getfield 7, 3) := by decide +kernel
theorem dX9_addAnswer_4 : decode cX9_addAnswer 4 = .ok (.bipush 11, 2) := by decide +kernel
theorem dX9_addAnswer_6 : decode cX9_addAnswer 6 = .ok (.iaload, 1) := by decide +kernel
theorem dX9_addAnswer_7 : decode cX9_addAnswer 7 = .ok (.bipush 6, 2) := by decide +kernel
theorem dX9_addAnswer_9 : decode cX9_addAnswer 9 = .ok (.if_icmp .ne 13, 3) := by decide +kernel
theorem dX9_addAnswer_12 : decode cX9_addAnswer 12 = .ok (.aload_n 0, 1) := by decide +kernel
theorem dX9_addAnswer_13 : decode cX9_addAnswer 13 = .ok (.sipush (-430), 3) := by decide +kernel
theorem dX9_addAnswer_16 : decode cX9_addAnswer 16 = .ok (.invokevirtual 124, 3) := by decide +kernel
theorem dX9_addAnswer_19 : decode cX9_addAnswer 19 = .ok (.goto 30, 3) := by decide +kernel
theorem dX9_addAnswer_22 : decode cX9_addAnswer 22 = .ok (.aload_n 0, 1) := by decide +kernel
theorem dX9_addAnswer_23 : decode cX9_addAnswer 23 = .ok (.getfield 7, 3) := by decide +kernel
theorem dX9_addAnswer_26 : decode cX9_addAnswer 26 = .ok (.bipush 17, 2) := by decide +kernel
theorem dX9_addAnswer_28 : decode cX9_addAnswer 28 = .ok (.aload_n 0, 1) := by decide +kernel
theorem dX9_addAnswer_29 : decode cX9_addAnswer 29 = .ok (.getfield 7, 3) := by decide +kernel
theorem dX9_addAnswer_32 : decode cX9_addAnswer 32 = .ok (.bipush 11, 2) := by decide +kernel
theorem dX9_addAnswer_34 : decode cX9_addAnswer 34 = .ok (.iaload, 1) := by decide +kernel
theorem dX9_addAnswer_35 : decode cX9_addAnswer 35 = .ok (.iadd, 1) := by decide +kernel
theorem dX9_addAnswer_36 : decode cX9_addAnswer 36 = .ok (.iload_n 1, 1) := by decide +kernel
theorem dX9_addAnswer_37 : decode cX9_addAnswer 37 = .ok (.iastore, 1) := by decide +kernel
theorem dX9_addAnswer_38 : decode cX9_addAnswer 38 = .ok (.aload_n 0, 1) := by decide +kernel
theorem dX9_addAnswer_39 : decode cX9_addAnswer 39 = .ok (.getfield 7, 3) := by decide +kernel
theorem dX9_addAnswer_42 : decode cX9_addAnswer 42 = .ok (.bipush 11, 2) := by decide +kernel
theorem dX9_addAnswer_44 : decode cX9_addAnswer 44 = .ok (.dup2, 1) := by decide +kernel
theorem dX9_addAnswer_45 : decode cX9_addAnswer 45 = .ok (.iaload, 1) := by decide +kernel
theorem dX9_addAnswer_46 : decode cX9_addAnswer 46 = .ok (.iconst 1, 1) := by decide +kernel
theorem dX9_addAnswer_47 : decode cX9_addAnswer 47 = .ok (.iadd, 1) := by decide +kernel
theorem dX9_addAnswer_48 : decode cX9_addAnswer 48 = .ok (.iastore, 1) := by decide +kernel
theorem dX9_addAnswer_49 : decode cX9_addAnswer 49 = .ok (.return_, 1) := by decide +kernel
theorem dX9_sum_0 : decode cX9_sum 0 = .ok (.aload_n 0, 1) := by decide +kernel
theorem dX9_sum_1 : decode cX9_sum 1 = .ok (.getfield 7, 3) := by decide +kernel
theorem dX9_sum_4 : decode cX9_sum 4 = .ok (.bipush 12, 2) := by decide +kernel
theorem dX9_sum_6 : decode cX9_sum 6 = .ok (.iaload, 1) := by decide +kernel
theorem dX9_sum_7 : decode cX9_sum 7 = .ok (.ifCond .le 7, 3) := by decide +kernel
theorem dX9_sum_10 : decode cX9_sum 10 = .ok (.iconst 4, 1) := by decide +kernel
theorem dX9_sum_11 : decode cX9_sum 11 = .ok (.goto 4, 3) := by decide +kernel
theorem dX9_sum_14 : decode cX9_sum 14 = .ok (.iconst 0, 1) := by decide +kernel
theorem dX9_sum_15 : decode cX9_sum 15 = .ok (.aload_n 0, 1) := by decide +kernel
theorem dX9_sum_16 : decode cX9_sum 16 = .ok (.getfield 7, 3) := by decide +kernel
theorem dX9_sum_19 : decode cX9_sum 19 = .ok (.bipush 11, 2) := by decide +kernel
theorem dX9_sum_21 : decode cX9_sum 21 = .ok (.iaload, 1) := by decide +kernel
theorem dX9_sum_22 : decode cX9_sum 22 = .ok (.ifCond .le 8, 3) := by decide +kernel
theorem dX9_sum_25 : decode cX9_sum 25 = .ok (.bipush 16, 2) := by decide +kernel
theorem dX9_sum_27 : decode cX9_sum 27 = .ok (.goto 4, 3) := by decide +kernel
theorem dX9_sum_30 : decode cX9_sum 30 = .ok (.iconst 0, 1) := by decide +kernel
theorem dX9_sum_31 : decode cX9_sum 31 = .ok (.iadd, 1) := by decide +kernel
theorem dX9_sum_32 : decode cX9_sum 32 = .ok (.istore_n 1, 1) := by decide +kernel
theorem dX9_sum_33 : decode cX9_sum 33 = .ok (.iload_n 1, 1) := by decide +kernel
theorem dX9_sum_34 : decode cX9_sum 34 = .ok (.aload_n 0, 1) := by decide +kernel
theorem dX9_sum_35 : decode cX9_sum 35 = .ok (.getfield 7, 3) := by decide +kernel
theorem dX9_sum_38 : decode cX9_sum 38 = .ok (.iconst 1, 1) := by decide +kernel
theorem dX9_sum_39 : decode cX9_sum 39 = .ok (.iaload, 1) := by decide +kernel
theorem dX9_sum_40 : decode cX9_sum 40 = .ok (.aload_n 0, 1) := by decide +kernel
theorem dX9_sum_41 : decode cX9_sum 41 = .ok (.getfield 7, 3) := by decide +kernel
theorem dX9_sum_44 : decode cX9_sum 44 = .ok (.iconst 2, 1) := by decide +kernel
theorem dX9_sum_45 : decode cX9_sum 45 = .ok (.iaload, 1) := by decide +kernel
theorem dX9_sum_46 : decode cX9_sum 46 = .ok (.iand, 1) := by decide +kernel
theorem dX9_sum_47 : decode cX9_sum 47 = .ok (.ifCond .eq 8, 3) := by decide +kernel
theorem dX9_sum_50 : decode cX9_sum 50 = .ok (.bipush 32, 2) := by decide +kernel
theorem dX9_sum_52 : decode cX9_sum 52 = .ok (.goto 4, 3) := by decide +kernel
theorem dX9_sum_55 : decode cX9_sum 55 = .ok (.iconst 0, 1) := by decide +kernel
theorem dX9_sum_56 : decode cX9_sum 56 = .ok (.aload_n 0, 1) := by decide +kernel
theorem dX9_sum_57 : decode cX9_sum 57 = .ok (.getfield 7, 3) := by decide +kernel
theorem dX9_sum_60 : decode cX9_sum 60 = .ok (.iconst 5, 1) := by decide +kernel
theorem dX9_sum_61 : decode cX9_sum 61 = .ok (.iaload, 1) := by decide +kernel
theorem dX9_sum_62 : decode cX9_sum 62 = .ok (.aload_n 0, 1) := by decide +kernel
theorem dX9_sum_63 : decode cX9_sum 63 = .ok (.getfield 7, 3) := by decide +kernel
theorem dX9_sum_66 : decode cX9_sum 66 = .ok (.bipush 8, 2) := by decide +kernel
theorem dX9_sum_68 : decode cX9_sum 68 = .ok (.iaload, 1) := by decide +kernel
theorem dX9_sum_69 : decode cX9_sum 69 = .ok (.iand, 1) := by decide +kernel
theorem dX9_sum_70 : decode cX9_sum 70 = .ok (.ifCond .eq 9, 3) := by decide +kernel
theorem dX9_sum_73 : decode cX9_sum 73 = .ok (.sipush 128, 3) := by decide +kernel
theorem dX9_sum_76 : decode cX9_sum 76 = .ok (.goto 4, 3) := by decide +kernel
theorem dX9_sum_79 : decode cX9_sum 79 = .ok (.iconst 0, 1) := by decide +kernel
theorem dX9_sum_80 : decode cX9_sum 80 = .ok (.iadd, 1) := by decide +kernel
theorem dX9_sum_81 : decode cX9_sum 81 = .ok (.iadd, 1) := by decide +kernel
theorem dX9_sum_82 : decode cX9_sum 82 = .ok (.istore_n 1, 1) := by decide +kernel
theorem dX9_sum_83 : decode cX9_sum 83 = .ok (.iload_n 1, 1) := by decide +kernel
theorem dX9_sum_84 : decode cX9_sum 84 = .ok (.iload_n 1, 1) := by decide +kernel
theorem dX9_sum_85 : decode cX9_sum 85 = .ok (.aload_n 0, 1) := by decide +kernel
theorem dX9_sum_86 : decode cX9_sum 86 = .ok (.getfield 7, 3) := by decide +kernel
theorem dX9_sum_89 : decode cX9_sum 89 = .ok (.iconst 3, 1) := by decide +kernel
theorem dX9_sum_90 : decode cX9_sum 90 = .ok (.iaload, 1) := by decide +kernel
theorem dX9_sum_91 : decode cX9_sum 91 = .ok (.iand, 1) := by decide +kernel
theorem dX9_sum_92 : decode cX9_sum 92 = .ok (.ifCond .eq 8, 3) := by decide +kernel
theorem dX9_sum_95 : decode cX9_sum 95 = .ok (.bipush 64, 2) := by decide +kernel
theorem dX9_sum_97 : decode cX9_sum 97 = .ok (.goto 4, 3) := by decide +kernel
theorem dX9_sum_100 : decode cX9_sum 100 = .ok (.iconst 0, 1) := by decide +kernel
theorem dX9_sum_101 : decode cX9_sum 101 = .ok (.iadd, 1) := by decide +kernel
theorem dX9_sum_102 : decode cX9_sum 102 = .ok (.ireturn, 1) := by decide +kernel
theorem dX9_here_0 : decode cX9_here 0 = .ok (.aload_n 0, 1) := by decide +kernel
theorem dX9_here_1 : decode cX9_here 1 = .ok (.getfield 127, 3) := by decide +kernel
theorem dX9_here_4 : decode cX9_here 4 = .ok (.aload_n 0, 1) := by decide +kernel
theorem dX9_here_5 : decode cX9_here 5 = .ok (.getfield 73, 3) := by decide +kernel
theorem dX9_here_8 : decode cX9_here 8 = .ok (.if_icmp .ge 15, 3) := by decide +kernel
theorem dX9_here_11 : decode cX9_here 11 = .ok (.aload_n 0, 1) := by decide +kernel
theorem dX9_here_12 : decode cX9_here 12 = .ok (.getfield 22, 3) := by decide +kernel
theorem dX9_here_15 : decode cX9_here 15 = .ok (.aload_n 0, 1) := by decide +kernel
theorem dX9_here_16 : decode cX9_here 16 = .ok (.getfield 127, 3) := by decide +kernel
theorem dX9_here_19 : decode cX9_here 19 = .ok (.iaload, 1) := by decide +kernel
theorem dX9_here_20 : decode cX9_here 20 = .ok (.goto 4, 3) := by decide +kernel
theorem dX9_here_23 : decode cX9_here 23 = .ok (.iconst (-1), 1) := by decide +kernel
theorem dX9_here_24 : decode cX9_here 24 = .ok (.ireturn, 1) := by decide +kernel
theorem dX9_isFigure_0 : decode cX9_isFigure 0 = .ok (.aload_n 0, 1) := by decide +kernel
theorem dX9_isFigure_1 : decode cX9_isFigure 1 = .ok (.invokevirtual 130, 3) := by decide +kernel
theorem dX9_isFigure_4 : decode cX9_isFigure 4 = .ok (.bipush 48, 2) := by decide +kernel
theorem dX9_isFigure_6 : decode cX9_isFigure 6 = .ok (.bipush 57, 2) := by decide +kernel
theorem dX9_isFigure_8 : decode cX9_isFigure 8 = .ok (.invokestatic 55, 3) := by decide +kernel
theorem dX9_isFigure_11 : decode cX9_isFigure 11 = .ok (.ireturn, 1) := by decide +kernel
theorem dX9_blanks_0 : decode cX9_blanks 0 = .ok (.aload_n 0, 1) := by decide +kernel
theorem dX9_blanks_1 : decode cX9_blanks 1 = .ok (.invokevirtual 130, 3) := by decide +kernel
theorem dX9_blanks_4 : decode cX9_blanks 4 = .ok (.bipush 32, 2) := by decide +kernel
theorem dX9_blanks_6 : decode cX9_blanks 6 = .ok (.if_icmp .ne 16, 3) := by decide +kernel
theorem dX9_blanks_9 : decode cX9_blanks 9 = .ok (.aload_n 0, 1) := by decide +kernel
theorem dX9_blanks_10 : decode cX9_blanks 10 = .ok (.dup, 1) := by decide +kernel
theorem dX9_blanks_11 : decode cX9_blanks 11 = .ok (.getfield 127, 3) := by decide +kernel
theorem dX9_blanks_14 : decode cX9_blanks 14 = .ok (.iconst 1, 1) := by decide +kernel
theorem dX9_blanks_15 : decode cX9_blanks 15 = .ok (.iadd, 1) := by decide +kernel
theorem dX9_blanks_16 : decode cX9_blanks 16 = .ok (.putfield 127, 3) := by decide +kernel
theorem dX9_blanks_19 : decode cX9_blanks 19 = .ok (.goto (-19), 3) := by decide +kernel
theorem dX9_blanks_22 : decode cX9_blanks 22 = .ok (.return_, 1) := by decide +kernel
theorem dX9_isWord_0 : decode cX9_isWord 0 = .ok (.aload_n 0, 1) := by decide +kernel
theorem dX9_isWord_1 : decode cX9_isWord 1 = .ok (.getfield 25, 3) := by decide +kernel
theorem dX9_isWord_4 : decode cX9_isWord 4 = .ok (.aload_n 0, 1) := by decide +kernel
theorem dX9_isWord_5 : decode cX9_isWord 5 = .ok (.getfield 110, 3) := by decide +kernel
theorem dX9_isWord_8 : decode cX9_isWord 8 = .ok (.aload_n 0, 1) := by decide +kernel
theorem dX9_isWord_9 : decode cX9_isWord 9 = .ok (.getfield 127, 3) := by decide +kernel
theorem dX9_isWord_12 : decode cX9_isWord 12 = .ok (.iastore, 1) := by decide +kernel
theorem dX9_isWord_13 : decode cX9_isWord 13 = .ok (.aload_n 0, 1) := by decide +kernel
theorem dX9_isWord_14 : decode cX9_isWord 14 = .ok (.invokevirtual 130, 3) := by decide +kernel
theorem dX9_isWord_17 : decode cX9_isWord 17 = .ok (.invokestatic 133, 3) := by decide +kernel
theorem dX9_isWord_20 : decode cX9_isWord 20 = .ok (.ifCond .eq 16, 3) := by decide +kernel
theorem dX9_isWord_23 : decode cX9_isWord 23 = .ok (.aload_n 0, 1) := by decide +kernel
theorem dX9_isWord_24 : decode cX9_isWord 24 = .ok (.dup, 1) := by decide +kernel
theorem dX9_isWord_25 : decode cX9_isWord 25 = .ok (.getfield 127, 3) := by decide +kernel
theorem dX9_isWord_28 : decode cX9_isWord 28 = .ok (.iconst 1, 1) := by decide +kernel
theorem dX9_isWord_29 : decode cX9_isWord 29 = .ok (.iadd, 1) := by decide +kernel
theorem dX9_isWord_30 : decode cX9_isWord 30 = .ok (.putfield 127, 3) := by decide +kernel
theorem dX9_isWord_33 : decode cX9_isWord 33 = .ok (.goto (-20), 3) := by decide +kernel
theorem dX9_isWord_36 : decode cX9_isWord 36 = .ok (.aload_n 0, 1) := by decide +kernel
theorem dX9_isWord_37 : decode cX9_isWord 37 = .ok (.getfield 28, 3) := by decide +kernel
theorem dX9_isWord_40 : decode cX9_isWord 40 = .ok (.aload_n 0, 1) := by decide +kernel
theorem dX9_isWord_41 : decode cX9_isWord 41 = .ok (.getfield 110, 3) := by decide +kernel
theorem dX9_isWord_44 : decode cX9_isWord 44 = .ok (.aload_n 0, 1) := by decide +kernel
theorem dX9_isWord_45 : decode cX9_isWord 45 = .ok (.getfield 127, 3) := by decide +kernel
theorem dX9_isWord_48 : decode cX9_isWord 48 = .ok (.aload_n 0, 1) := by decide +kernel
theorem dX9_isWord_49 : decode cX9_isWord 49 = .ok (.getfield 25, 3) := by decide +kernel
theorem dX9_isWord_52 : decode cX9_isWord 52 = .ok (.aload_n 0, 1) := by decide +kernel
theorem dX9_isWord_53 : decode cX9_isWord 53 = .ok (.getfield 110, 3) := by decide +kernel
theorem dX9_isWord_56 : decode cX9_isWord 56 = .ok (.iaload, 1) := by decide +kernel
theorem dX9_isWord_57 : decode cX9_isWord 57 = .ok (.isub, 1) := by decide +kernel
theorem dX9_isWord_58 : decode cX9_isWord 58 = .ok (.iastore, 1) := by decide +kernel
theorem dX9_isWord_59 : decode cX9_isWord 59 = .ok (.aload_n 0, 1) := by decide +kernel
theorem dX9_isWord_60 : decode cX9_isWord 60 = .ok (.getfield 31, 3) := by decide +kernel
theorem dX9_isWord_63 : decode cX9_isWord 63 = .ok (.aload_n 0, 1) := by decide +kernel
theorem dX9_isWord_64 : decode cX9_isWord 64 = .ok (.getfield 110, 3) := by decide +kernel
theorem dX9_isWord_67 : decode cX9_isWord 67 = .ok (.iconst 0, 1) := by decide +kernel
theorem dX9_isWord_68 : decode cX9_isWord 68 = .ok (.iastore, 1) := by decide +kernel
theorem dX9_isWord_69 : decode cX9_isWord 69 = .ok (.aload_n 0, 1) := by decide +kernel
theorem dX9_isWord_70 : decode cX9_isWord 70 = .ok (.getfield 28, 3) := by decide +kernel
theorem dX9_isWord_73 : decode cX9_isWord 73 = .ok (.aload_n 0, 1) := by decide +kernel
theorem dX9_isWord_74 : decode cX9_isWord 74 = .ok (.getfield 110, 3) := by decide +kernel
theorem dX9_isWord_77 : decode cX9_isWord 77 = .ok (.iaload, 1) := by decide +kernel
theorem dX9_isWord_78 : decode cX9_isWord 78 = .ok (.iconst 1, 1) := by decide +kernel
theorem dX9_isWord_79 : decode cX9_isWord 79 = .ok (.bipush 8, 2) := by decide +kernel
theorem dX9_isWord_81 : decode cX9_isWord 81 = .ok (.invokestatic 55, 3) := by decide +kernel
theorem dX9_isWord_84 : decode cX9_isWord 84 = .ok (.ifCond .ne 5, 3) := by decide +kernel
theorem dX9_isWord_87 : decode cX9_isWord 87 = .ok (.iconst 0, 1) := by decide +kernel
theorem dX9_isWord_88 : decode cX9_isWord 88 = .ok (.ireturn, 1) := by decide +kernel
theorem dX9_isWord_89 : decode cX9_isWord 89 = .ok (.aload_n 0, 1) := by decide +kernel
theorem dX9_isWord_90 : decode cX9_isWord 90 = .ok (.invokevirtual 136, 3) := by decide +kernel
theorem dX9_isWord_93 : decode cX9_isWord 93 = .ok (.ifCond .eq 29, 3) := by decide +kernel
theorem dX9_isWord_96 : decode cX9_isWord 96 = .ok (.aload_n 0, 1) := by decide +kernel
theorem dX9_isWord_97 : decode cX9_isWord 97 = .ok (.getfield 31, 3) := by decide +kernel
theorem dX9_isWord_100 : decode cX9_isWord 100 = .ok (.aload_n 0, 1) := by decide +kernel
theorem dX9_isWord_101 : decode cX9_isWord 101 = .ok (.getfield 110, 3) := by decide +kernel
theorem dX9_isWord_104 : decode cX9_isWord 104 = .ok (.aload_n 0, 1) := by decide +kernel
theorem dX9_isWord_105 : decode cX9_isWord 105 = .ok (.invokevirtual 130, 3) := by decide +kernel
theorem dX9_isWord_108 : decode cX9_isWord 108 = .ok (.bipush 48, 2) := by decide +kernel
theorem dX9_isWord_110 : decode cX9_isWord 110 = .ok (.isub, 1) := by decide +kernel
theorem dX9_isWord_111 : decode cX9_isWord 111 = .ok (.iastore, 1) := by decide +kernel
theorem dX9_isWord_112 : decode cX9_isWord 112 = .ok (.aload_n 0, 1) := by decide +kernel
theorem dX9_isWord_113 : decode cX9_isWord 113 = .ok (.dup, 1) := by decide +kernel
theorem dX9_isWord_114 : decode cX9_isWord 114 = .ok (.getfield 127, 3) := by decide +kernel
theorem dX9_isWord_117 : decode cX9_isWord 117 = .ok (.iconst 1, 1) := by decide +kernel
theorem dX9_isWord_118 : decode cX9_isWord 118 = .ok (.iadd, 1) := by decide +kernel
theorem dX9_isWord_119 : decode cX9_isWord 119 = .ok (.putfield 127, 3) := by decide +kernel
theorem dX9_isWord_122 : decode cX9_isWord 122 = .ok (.aload_n 0, 1) := by decide +kernel
theorem dX9_isWord_123 : decode cX9_isWord 123 = .ok (.invokevirtual 136, 3) := by decide +kernel
theorem dX9_isWord_126 : decode cX9_isWord 126 = .ok (.ifCond .ne 40, 3) := by decide +kernel
theorem dX9_isWord_129 : decode cX9_isWord 129 = .ok (.aload_n 0, 1) := by decide +kernel
theorem dX9_isWord_130 : decode cX9_isWord 130 = .ok (.getfield 31, 3) := by decide +kernel
theorem dX9_isWord_133 : decode cX9_isWord 133 = .ok (.aload_n 0, 1) := by decide +kernel
theorem dX9_isWord_134 : decode cX9_isWord 134 = .ok (.getfield 110, 3) := by decide +kernel
theorem dX9_isWord_137 : decode cX9_isWord 137 = .ok (.iaload, 1) := by decide +kernel
theorem dX9_isWord_138 : decode cX9_isWord 138 = .ok (.ifCond .gt 24, 3) := by decide +kernel
theorem dX9_isWord_141 : decode cX9_isWord 141 = .ok (.aload_n 0, 1) := by decide +kernel
theorem dX9_isWord_142 : decode cX9_isWord 142 = .ok (.getfield 22, 3) := by decide +kernel
theorem dX9_isWord_145 : decode cX9_isWord 145 = .ok (.aload_n 0, 1) := by decide +kernel
theorem dX9_isWord_146 : decode cX9_isWord 146 = .ok (.getfield 127, 3) := by decide +kernel
theorem dX9_isWord_149 : decode cX9_isWord 149 = .ok (.iconst 1, 1) := by decide +kernel
theorem dX9_isWord_150 : decode cX9_isWord 150 = .ok (.isub, 1) := by decide +kernel
theorem dX9_isWord_151 : decode cX9_isWord 151 = .ok (.iaload, 1) := by decide +kernel
theorem dX9_isWord_152 : decode cX9_isWord 152 = .ok (.bipush 48, 2) := by decide +kernel
theorem dX9_isWord_154 : decode cX9_isWord 154 = .ok (.bipush 57, 2) := by decide +kernel
theorem dX9_isWord_156 : decode cX9_isWord 156 = .ok (.invokestatic 55, 3) := by decide +kernel
theorem dX9_isWord_159 : decode cX9_isWord 159 = .ok (.ifCond .ne 7, 3) := by decide +kernel
theorem dX9_isWord_162 : decode cX9_isWord 162 = .ok (.iconst 1, 1) := by decide +kernel
theorem dX9_isWord_163 : decode cX9_isWord 163 = .ok (.goto 4, 3) := by decide +kernel
theorem dX9_isWord_166 : decode cX9_isWord 166 = .ok (.iconst 0, 1) := by decide +kernel
theorem dX9_isWord_167 : decode cX9_isWord 167 = .ok (.istore_n 1, 1) := by decide +kernel
theorem dX9_isWord_168 : decode cX9_isWord 168 = .ok (.aload_n 0, 1) := by decide +kernel
theorem dX9_isWord_169 : decode cX9_isWord 169 = .ok (.dup, 1) := by decide +kernel
theorem dX9_isWord_170 : decode cX9_isWord 170 = .ok (.getfield 110, 3) := by decide +kernel
theorem dX9_isWord_173 : decode cX9_isWord 173 = .ok (.iconst 1, 1) := by decide +kernel
theorem dX9_isWord_174 : decode cX9_isWord 174 = .ok (.iadd, 1) := by decide +kernel
theorem dX9_isWord_175 : decode cX9_isWord 175 = .ok (.putfield 110, 3) := by decide +kernel
theorem dX9_isWord_178 : decode cX9_isWord 178 = .ok (.iload_n 1, 1) := by decide +kernel
theorem dX9_isWord_179 : decode cX9_isWord 179 = .ok (.ireturn, 1) := by decide +kernel
theorem dX9_areWords_0 : decode cX9_areWords 0 = .ok (.aload_n 0, 1) := by decide +kernel
theorem dX9_areWords_1 : decode cX9_areWords 1 = .ok (.getfield 110, 3) := by decide +kernel
theorem dX9_areWords_4 : decode cX9_areWords 4 = .ok (.istore_n 1, 1) := by decide +kernel
theorem dX9_areWords_5 : decode cX9_areWords 5 = .ok (.aload_n 0, 1) := by decide +kernel
theorem dX9_areWords_6 : decode cX9_areWords 6 = .ok (.getfield 110, 3) := by decide +kernel
theorem dX9_areWords_9 : decode cX9_areWords 9 = .ok (.bipush 7, 2) := by decide +kernel
theorem dX9_areWords_11 : decode cX9_areWords 11 = .ok (.if_icmp .ge 14, 3) := by decide +kernel
theorem dX9_areWords_14 : decode cX9_areWords 14 = .ok (.aload_n 0, 1) := by decide +kernel
theorem dX9_areWords_15 : decode cX9_areWords 15 = .ok (.invokevirtual 139, 3) := by decide +kernel
theorem dX9_areWords_18 : decode cX9_areWords 18 = .ok (.ifCond .eq 7, 3) := by decide +kernel
theorem dX9_areWords_21 : decode cX9_areWords 21 = .ok (.iconst 1, 1) := by decide +kernel
theorem dX9_areWords_22 : decode cX9_areWords 22 = .ok (.goto 4, 3) := by decide +kernel
theorem dX9_areWords_25 : decode cX9_areWords 25 = .ok (.iconst 0, 1) := by decide +kernel
theorem dX9_areWords_26 : decode cX9_areWords 26 = .ok (.istore_n 2, 1) := by decide +kernel
theorem dX9_areWords_27 : decode cX9_areWords 27 = .ok (.iload_n 2, 1) := by decide +kernel
theorem dX9_areWords_28 : decode cX9_areWords 28 = .ok (.ifCond .eq 57, 3) := by decide +kernel
theorem dX9_areWords_31 : decode cX9_areWords 31 = .ok (.aload_n 0, 1) := by decide +kernel
theorem dX9_areWords_32 : decode cX9_areWords 32 = .ok (.invokevirtual 130, 3) := by decide +kernel
theorem dX9_areWords_35 : decode cX9_areWords 35 = .ok (.bipush 58, 2) := by decide +kernel
theorem dX9_areWords_37 : decode cX9_areWords 37 = .ok (.if_icmp .ne 48, 3) := by decide +kernel
theorem dX9_areWords_40 : decode cX9_areWords 40 = .ok (.aload_n 0, 1) := by decide +kernel
theorem dX9_areWords_41 : decode cX9_areWords 41 = .ok (.dup, 1) := by decide +kernel
theorem dX9_areWords_42 : decode cX9_areWords 42 = .ok (.getfield 127, 3) := by decide +kernel
theorem dX9_areWords_45 : decode cX9_areWords 45 = .ok (.iconst 1, 1) := by decide +kernel
theorem dX9_areWords_46 : decode cX9_areWords 46 = .ok (.iadd, 1) := by decide +kernel
theorem dX9_areWords_47 : decode cX9_areWords 47 = .ok (.putfield 127, 3) := by decide +kernel
theorem dX9_areWords_50 : decode cX9_areWords 50 = .ok (.aload_n 0, 1) := by decide +kernel
theorem dX9_areWords_51 : decode cX9_areWords 51 = .ok (.getfield 110, 3) := by decide +kernel
theorem dX9_areWords_54 : decode cX9_areWords 54 = .ok (.iload_n 1, 1) := by decide +kernel
theorem dX9_areWords_55 : decode cX9_areWords 55 = .ok (.isub, 1) := by decide +kernel
theorem dX9_areWords_56 : decode cX9_areWords 56 = .ok (.iconst 4, 1) := by decide +kernel
theorem dX9_areWords_57 : decode cX9_areWords 57 = .ok (.if_icmp .ge 23, 3) := by decide +kernel
theorem dX9_areWords_60 : decode cX9_areWords 60 = .ok (.aload_n 0, 1) := by decide +kernel
theorem dX9_areWords_61 : decode cX9_areWords 61 = .ok (.getfield 110, 3) := by decide +kernel
theorem dX9_areWords_64 : decode cX9_areWords 64 = .ok (.bipush 7, 2) := by decide +kernel
theorem dX9_areWords_66 : decode cX9_areWords 66 = .ok (.if_icmp .ge 14, 3) := by decide +kernel
theorem dX9_areWords_69 : decode cX9_areWords 69 = .ok (.aload_n 0, 1) := by decide +kernel
theorem dX9_areWords_70 : decode cX9_areWords 70 = .ok (.invokevirtual 139, 3) := by decide +kernel
theorem dX9_areWords_73 : decode cX9_areWords 73 = .ok (.ifCond .eq 7, 3) := by decide +kernel
theorem dX9_areWords_76 : decode cX9_areWords 76 = .ok (.iconst 1, 1) := by decide +kernel
theorem dX9_areWords_77 : decode cX9_areWords 77 = .ok (.goto 4, 3) := by decide +kernel
theorem dX9_areWords_80 : decode cX9_areWords 80 = .ok (.iconst 0, 1) := by decide +kernel
theorem dX9_areWords_81 : decode cX9_areWords 81 = .ok (.istore_n 2, 1) := by decide +kernel
theorem dX9_areWords_82 : decode cX9_areWords 82 = .ok (.goto (-55), 3) := by decide +kernel
theorem dX9_areWords_85 : decode cX9_areWords 85 = .ok (.iload_n 2, 1) := by decide +kernel
theorem dX9_areWords_86 : decode cX9_areWords 86 = .ok (.ireturn, 1) := by decide +kernel
theorem dX9_isCommonWord_0 : decode cX9_isCommonWord 0 = .ok (.aload_n 0, 1) := by decide +kernel
theorem dX9_isCommonWord_1 : decode cX9_isCommonWord 1 = .ok (.dup, 1) := by decide +kernel
theorem dX9_isCommonWord_2 : decode cX9_isCommonWord 2 = .ok (.getfield 127, 3) := by decide +kernel
theorem dX9_isCommonWord_5 : decode cX9_isCommonWord 5 = .ok (.iconst 1, 1) := by decide +kernel
theorem dX9_isCommonWord_6 : decode cX9_isCommonWord 6 = .ok (.iadd, 1) := by decide +kernel
theorem dX9_isCommonWord_7 : decode cX9_isCommonWord 7 = .ok (.putfield 127, 3) := by decide +kernel
theorem dX9_isCommonWord_10 : decode cX9_isCommonWord 10 = .ok (.iconst 0, 1) := by decide +kernel
theorem dX9_isCommonWord_11 : decode cX9_isCommonWord 11 = .ok (.istore_n 1, 1) := by decide +kernel
theorem dX9_isCommonWord_12 : decode cX9_isCommonWord 12 = .ok (.aload_n 0, 1) := by decide +kernel
theorem dX9_isCommonWord_13 : decode cX9_isCommonWord 13 = .ok (.iconst 0, 1) := by decide +kernel
theorem dX9_isCommonWord_14 : decode cX9_isCommonWord 14 = .ok (.putfield 142, 3) := by decide +kernel
theorem dX9_isCommonWord_17 : decode cX9_isCommonWord 17 = .ok (.aload_n 0, 1) := by decide +kernel
theorem dX9_isCommonWord_18 : decode cX9_isCommonWord 18 = .ok (.invokevirtual 130, 3) := by decide +kernel
theorem dX9_isCommonWord_21 : decode cX9_isCommonWord 21 = .ok (.invokestatic 133, 3) := by decide +kernel
theorem dX9_isCommonWord_24 : decode cX9_isCommonWord 24 = .ok (.ifCond .eq 55, 3) := by decide +kernel
theorem dX9_isCommonWord_27 : decode cX9_isCommonWord 27 = .ok (.aload_n 0, 1) := by decide +kernel
theorem dX9_isCommonWord_28 : decode cX9_isCommonWord 28 = .ok (.iload_n 1, 1) := by decide +kernel
theorem dX9_isCommonWord_29 : decode cX9_isCommonWord 29 = .ok (.iconst 4, 1) := by decide +kernel
theorem dX9_isCommonWord_30 : decode cX9_isCommonWord 30 = .ok (.if_icmp .ge 26, 3) := by decide +kernel
theorem dX9_isCommonWord_33 : decode cX9_isCommonWord 33 = .ok (.bipush 32, 2) := by decide +kernel
theorem dX9_isCommonWord_35 : decode cX9_isCommonWord 35 = .ok (.aload_n 0, 1) := by decide +kernel
theorem dX9_isCommonWord_36 : decode cX9_isCommonWord 36 = .ok (.getfield 142, 3) := by decide +kernel
theorem dX9_isCommonWord_39 : decode cX9_isCommonWord 39 = .ok (.imul, 1) := by decide +kernel
theorem dX9_isCommonWord_40 : decode cX9_isCommonWord 40 = .ok (.aload_n 0, 1) := by decide +kernel
theorem dX9_isCommonWord_41 : decode cX9_isCommonWord 41 = .ok (.invokevirtual 130, 3) := by decide +kernel
theorem dX9_isCommonWord_44 : decode cX9_isCommonWord 44 = .ok (.invokestatic 87, 3) := by decide +kernel
theorem dX9_isCommonWord_47 : decode cX9_isCommonWord 47 = .ok (.iadd, 1) := by decide +kernel
theorem dX9_isCommonWord_48 : decode cX9_isCommonWord 48 = .ok (.bipush 97, 2) := by decide +kernel
theorem dX9_isCommonWord_50 : decode cX9_isCommonWord 50 = .ok (.isub, 1) := by decide +kernel
theorem dX9_isCommonWord_51 : decode cX9_isCommonWord 51 = .ok (.iconst 1, 1) := by decide +kernel
theorem dX9_isCommonWord_52 : decode cX9_isCommonWord 52 = .ok (.iadd, 1) := by decide +kernel
theorem dX9_isCommonWord_53 : decode cX9_isCommonWord 53 = .ok (.goto 7, 3) := by decide +kernel
theorem dX9_isCommonWord_56 : decode cX9_isCommonWord 56 = .ok (.aload_n 0, 1) := by decide +kernel
theorem dX9_isCommonWord_57 : decode cX9_isCommonWord 57 = .ok (.getfield 142, 3) := by decide +kernel
theorem dX9_isCommonWord_60 : decode cX9_isCommonWord 60 = .ok (.putfield 142, 3) := by decide +kernel
theorem dX9_isCommonWord_63 : decode cX9_isCommonWord 63 = .ok (.iinc 1 1, 3) := by decide +kernel
theorem dX9_isCommonWord_66 : decode cX9_isCommonWord 66 = .ok (.aload_n 0, 1) := by decide +kernel
theorem dX9_isCommonWord_67 : decode cX9_isCommonWord 67 = .ok (.dup, 1) := by decide +kernel
theorem dX9_isCommonWord_68 : decode cX9_isCommonWord 68 = .ok (.getfield 127, 3) := by decide +kernel
theorem dX9_isCommonWord_71 : decode cX9_isCommonWord 71 = .ok (.iconst 1, 1) := by decide +kernel
theorem dX9_isCommonWord_72 : decode cX9_isCommonWord 72 = .ok (.iadd, 1) := by decide +kernel
theorem dX9_isCommonWord_73 : decode cX9_isCommonWord 73 = .ok (.putfield 127, 3) := by decide +kernel
theorem dX9_isCommonWord_76 : decode cX9_isCommonWord 76 = .ok (.goto (-59), 3) := by decide +kernel
theorem dX9_isCommonWord_79 : decode cX9_isCommonWord 79 = .ok (.aload_n 0, 1) := by decide +kernel
theorem dX9_isCommonWord_80 : decode cX9_isCommonWord 80 = .ok (.iconst 1, 1) := by decide +kernel
theorem dX9_isCommonWord_81 : decode cX9_isCommonWord 81 = .ok (.putfield 145, 3) := by decide +kernel
theorem dX9_isCommonWord_84 : decode cX9_isCommonWord 84 = .ok (.iload_n 1, 1) := by decide +kernel
theorem dX9_isCommonWord_85 : decode cX9_isCommonWord 85 = .ok (.iconst 1, 1) := by decide +kernel
theorem dX9_isCommonWord_86 : decode cX9_isCommonWord 86 = .ok (.bipush 8, 2) := by decide +kernel
theorem dX9_isCommonWord_88 : decode cX9_isCommonWord 88 = .ok (.invokestatic 55, 3) := by decide +kernel
theorem dX9_isCommonWord_91 : decode cX9_isCommonWord 91 = .ok (.ireturn, 1) := by decide +kernel
theorem dX9_isHeader_0 : decode cX9_isHeader 0 = .ok (.aload_n 0, 1) := by decide +kernel
theorem dX9_isHeader_1 : decode cX9_isHeader 1 = .ok (.iconst 0, 1) := by decide +kernel
theorem dX9_isHeader_2 : decode cX9_isHeader 2 = .ok (.putfield 145, 3) := by decide +kernel
theorem dX9_isHeader_5 : decode cX9_isHeader 5 = .ok (.aload_n 0, 1) := by decide +kernel
theorem dX9_isHeader_6 : decode cX9_isHeader 6 = .ok (.aload_n 0, 1) := by decide +kernel
theorem dX9_isHeader_7 : decode cX9_isHeader 7 = .ok (.getfield 149, 3) := by decide +kernel
theorem dX9_isHeader_10 : decode cX9_isHeader 10 = .ok (.putfield 110, 3) := by decide +kernel
theorem dX9_isHeader_13 : decode cX9_isHeader 13 = .ok (.aload_n 0, 1) := by decide +kernel
theorem dX9_isHeader_14 : decode cX9_isHeader 14 = .ok (.invokevirtual 130, 3) := by decide +kernel
theorem dX9_isHeader_17 : decode cX9_isHeader 17 = .ok (.bipush 42, 2) := by decide +kernel
theorem dX9_isHeader_19 : decode cX9_isHeader 19 = .ok (.if_icmp .ne 8, 3) := by decide +kernel
theorem dX9_isHeader_22 : decode cX9_isHeader 22 = .ok (.aload_n 0, 1) := by decide +kernel
theorem dX9_isHeader_23 : decode cX9_isHeader 23 = .ok (.invokevirtual 152, 3) := by decide +kernel
theorem dX9_isHeader_26 : decode cX9_isHeader 26 = .ok (.ireturn, 1) := by decide +kernel
theorem dX9_isHeader_27 : decode cX9_isHeader 27 = .ok (.aload_n 0, 1) := by decide +kernel
theorem dX9_isHeader_28 : decode cX9_isHeader 28 = .ok (.invokevirtual 130, 3) := by decide +kernel
theorem dX9_isHeader_31 : decode cX9_isHeader 31 = .ok (.bipush 58, 2) := by decide +kernel
theorem dX9_isHeader_33 : decode cX9_isHeader 33 = .ok (.if_icmp .ne 18, 3) := by decide +kernel
theorem dX9_isHeader_36 : decode cX9_isHeader 36 = .ok (.aload_n 0, 1) := by decide +kernel
theorem dX9_isHeader_37 : decode cX9_isHeader 37 = .ok (.dup, 1) := by decide +kernel
theorem dX9_isHeader_38 : decode cX9_isHeader 38 = .ok (.getfield 127, 3) := by decide +kernel
theorem dX9_isHeader_41 : decode cX9_isHeader 41 = .ok (.iconst 1, 1) := by decide +kernel
theorem dX9_isHeader_42 : decode cX9_isHeader 42 = .ok (.iadd, 1) := by decide +kernel
theorem dX9_isHeader_43 : decode cX9_isHeader 43 = .ok (.putfield 127, 3) := by decide +kernel
theorem dX9_isHeader_46 : decode cX9_isHeader 46 = .ok (.aload_n 0, 1) := by decide +kernel
theorem dX9_isHeader_47 : decode cX9_isHeader 47 = .ok (.iconst 0, 1) := by decide +kernel
theorem dX9_isHeader_48 : decode cX9_isHeader 48 = .ok (.putfield 110, 3) := by decide +kernel
theorem dX9_isHeader_51 : decode cX9_isHeader 51 = .ok (.aload_n 0, 1) := by decide +kernel
theorem dX9_isHeader_52 : decode cX9_isHeader 52 = .ok (.invokevirtual 155, 3) := by decide +kernel
theorem dX9_isHeader_55 : decode cX9_isHeader 55 = .ok (.ifCond .eq 16, 3) := by decide +kernel
theorem dX9_isHeader_58 : decode cX9_isHeader 58 = .ok (.aload_n 0, 1) := by decide +kernel
theorem dX9_isHeader_59 : decode cX9_isHeader 59 = .ok (.getfield 110, 3) := by decide +kernel
theorem dX9_isHeader_62 : decode cX9_isHeader 62 = .ok (.bipush 6, 2) := by decide +kernel
theorem dX9_isHeader_64 : decode cX9_isHeader 64 = .ok (.if_icmp .gt 7, 3) := by decide +kernel
theorem dX9_isHeader_67 : decode cX9_isHeader 67 = .ok (.iconst 1, 1) := by decide +kernel
theorem dX9_isHeader_68 : decode cX9_isHeader 68 = .ok (.goto 4, 3) := by decide +kernel
theorem dX9_isHeader_71 : decode cX9_isHeader 71 = .ok (.iconst 0, 1) := by decide +kernel
theorem dX9_isHeader_72 : decode cX9_isHeader 72 = .ok (.ireturn, 1) := by decide +kernel
theorem dX9_isWordValue_0 : decode cX9_isWordValue 0 = .ok (.aload_n 0, 1) := by decide +kernel
theorem dX9_isWordValue_1 : decode cX9_isWordValue 1 = .ok (.getfield 127, 3) := by decide +kernel
theorem dX9_isWordValue_4 : decode cX9_isWordValue 4 = .ok (.istore_n 1, 1) := by decide +kernel
theorem dX9_isWordValue_5 : decode cX9_isWordValue 5 = .ok (.aload_n 0, 1) := by decide +kernel
theorem dX9_isWordValue_6 : decode cX9_isWordValue 6 = .ok (.invokevirtual 130, 3) := by decide +kernel
theorem dX9_isWordValue_9 : decode cX9_isWordValue 9 = .ok (.invokestatic 133, 3) := by decide +kernel
theorem dX9_isWordValue_12 : decode cX9_isWordValue 12 = .ok (.ifCond .eq 16, 3) := by decide +kernel
theorem dX9_isWordValue_15 : decode cX9_isWordValue 15 = .ok (.aload_n 0, 1) := by decide +kernel
theorem dX9_isWordValue_16 : decode cX9_isWordValue 16 = .ok (.dup, 1) := by decide +kernel
theorem dX9_isWordValue_17 : decode cX9_isWordValue 17 = .ok (.getfield 127, 3) := by decide +kernel
theorem dX9_isWordValue_20 : decode cX9_isWordValue 20 = .ok (.iconst 1, 1) := by decide +kernel
theorem dX9_isWordValue_21 : decode cX9_isWordValue 21 = .ok (.iadd, 1) := by decide +kernel
theorem dX9_isWordValue_22 : decode cX9_isWordValue 22 = .ok (.putfield 127, 3) := by decide +kernel
theorem dX9_isWordValue_25 : decode cX9_isWordValue 25 = .ok (.goto (-20), 3) := by decide +kernel
theorem dX9_isWordValue_28 : decode cX9_isWordValue 28 = .ok (.aload_n 0, 1) := by decide +kernel
theorem dX9_isWordValue_29 : decode cX9_isWordValue 29 = .ok (.getfield 127, 3) := by decide +kernel
theorem dX9_isWordValue_32 : decode cX9_isWordValue 32 = .ok (.iload_n 1, 1) := by decide +kernel
theorem dX9_isWordValue_33 : decode cX9_isWordValue 33 = .ok (.isub, 1) := by decide +kernel
theorem dX9_isWordValue_34 : decode cX9_isWordValue 34 = .ok (.iconst 2, 1) := by decide +kernel
theorem dX9_isWordValue_35 : decode cX9_isWordValue 35 = .ok (.if_icmp .ne 37, 3) := by decide +kernel
theorem dX9_isWordValue_38 : decode cX9_isWordValue 38 = .ok (.aload_n 0, 1) := by decide +kernel
theorem dX9_isWordValue_39 : decode cX9_isWordValue 39 = .ok (.getfield 22, 3) := by decide +kernel
theorem dX9_isWordValue_42 : decode cX9_isWordValue 42 = .ok (.iload_n 1, 1) := by decide +kernel
theorem dX9_isWordValue_43 : decode cX9_isWordValue 43 = .ok (.iaload, 1) := by decide +kernel
theorem dX9_isWordValue_44 : decode cX9_isWordValue 44 = .ok (.invokestatic 87, 3) := by decide +kernel
theorem dX9_isWordValue_47 : decode cX9_isWordValue 47 = .ok (.bipush 111, 2) := by decide +kernel
theorem dX9_isWordValue_49 : decode cX9_isWordValue 49 = .ok (.if_icmp .ne 23, 3) := by decide +kernel
theorem dX9_isWordValue_52 : decode cX9_isWordValue 52 = .ok (.aload_n 0, 1) := by decide +kernel
theorem dX9_isWordValue_53 : decode cX9_isWordValue 53 = .ok (.getfield 22, 3) := by decide +kernel
theorem dX9_isWordValue_56 : decode cX9_isWordValue 56 = .ok (.iload_n 1, 1) := by decide +kernel
theorem dX9_isWordValue_57 : decode cX9_isWordValue 57 = .ok (.iconst 1, 1) := by decide +kernel
theorem dX9_isWordValue_58 : decode cX9_isWordValue 58 = .ok (.iadd, 1) := by decide +kernel
theorem dX9_isWordValue_59 : decode cX9_isWordValue 59 = .ok (.iaload, 1) := by decide +kernel
theorem dX9_isWordValue_60 : decode cX9_isWordValue 60 = .ok (.invokestatic 87, 3) := by decide +kernel
theorem dX9_isWordValue_63 : decode cX9_isWordValue 63 = .ok (.bipush 110, 2) := by decide +kernel
theorem dX9_isWordValue_65 : decode cX9_isWordValue 65 = .ok (.if_icmp .ne 7, 3) := by decide +kernel
theorem dX9_isWordValue_68 : decode cX9_isWordValue 68 = .ok (.iconst 1, 1) := by decide +kernel
theorem dX9_isWordValue_69 : decode cX9_isWordValue 69 = .ok (.goto 4, 3) := by decide +kernel
theorem dX9_isWordValue_72 : decode cX9_isWordValue 72 = .ok (.iconst 0, 1) := by decide +kernel
theorem dX9_isWordValue_73 : decode cX9_isWordValue 73 = .ok (.istore_n 2, 1) := by decide +kernel
theorem dX9_isWordValue_74 : decode cX9_isWordValue 74 = .ok (.aload_n 0, 1) := by decide +kernel
theorem dX9_isWordValue_75 : decode cX9_isWordValue 75 = .ok (.getfield 127, 3) := by decide +kernel
theorem dX9_isWordValue_78 : decode cX9_isWordValue 78 = .ok (.iload_n 1, 1) := by decide +kernel
theorem dX9_isWordValue_79 : decode cX9_isWordValue 79 = .ok (.isub, 1) := by decide +kernel
theorem dX9_isWordValue_80 : decode cX9_isWordValue 80 = .ok (.iconst 3, 1) := by decide +kernel
theorem dX9_isWordValue_81 : decode cX9_isWordValue 81 = .ok (.if_icmp .ne 53, 3) := by decide +kernel
theorem dX9_isWordValue_84 : decode cX9_isWordValue 84 = .ok (.aload_n 0, 1) := by decide +kernel
theorem dX9_isWordValue_85 : decode cX9_isWordValue 85 = .ok (.getfield 22, 3) := by decide +kernel
theorem dX9_isWordValue_88 : decode cX9_isWordValue 88 = .ok (.iload_n 1, 1) := by decide +kernel
theorem dX9_isWordValue_89 : decode cX9_isWordValue 89 = .ok (.iaload, 1) := by decide +kernel
theorem dX9_isWordValue_90 : decode cX9_isWordValue 90 = .ok (.invokestatic 87, 3) := by decide +kernel
theorem dX9_isWordValue_93 : decode cX9_isWordValue 93 = .ok (.bipush 111, 2) := by decide +kernel
theorem dX9_isWordValue_95 : decode cX9_isWordValue 95 = .ok (.if_icmp .ne 39, 3) := by decide +kernel
theorem dX9_isWordValue_98 : decode cX9_isWordValue 98 = .ok (.aload_n 0, 1) := by decide +kernel
theorem dX9_isWordValue_99 : decode cX9_isWordValue 99 = .ok (.getfield 22, 3) := by decide +kernel
theorem dX9_isWordValue_102 : decode cX9_isWordValue 102 = .ok (.iload_n 1, 1) := by decide +kernel
theorem dX9_isWordValue_103 : decode cX9_isWordValue 103 = .ok (.iconst 1, 1) := by decide +kernel
theorem dX9_isWordValue_104 : decode cX9_isWordValue 104 = .ok (.iadd, 1) := by decide +kernel
theorem dX9_isWordValue_105 : decode cX9_isWordValue 105 = .ok (.iaload, 1) := by decide +kernel
theorem dX9_isWordValue_106 : decode cX9_isWordValue 106 = .ok (.invokestatic 87, 3) := by decide +kernel
theorem dX9_isWordValue_109 : decode cX9_isWordValue 109 = .ok (.bipush 102, 2) := by decide +kernel
theorem dX9_isWordValue_111 : decode cX9_isWordValue 111 = .ok (.if_icmp .ne 23, 3) := by decide +kernel
theorem dX9_isWordValue_114 : decode cX9_isWordValue 114 = .ok (.aload_n 0, 1) := by decide +kernel
theorem dX9_isWordValue_115 : decode cX9_isWordValue 115 = .ok (.getfield 22, 3) := by decide +kernel
theorem dX9_isWordValue_118 : decode cX9_isWordValue 118 = .ok (.iload_n 1, 1) := by decide +kernel
theorem dX9_isWordValue_119 : decode cX9_isWordValue 119 = .ok (.iconst 2, 1) := by decide +kernel
theorem dX9_isWordValue_120 : decode cX9_isWordValue 120 = .ok (.iadd, 1) := by decide +kernel
theorem dX9_isWordValue_121 : decode cX9_isWordValue 121 = .ok (.iaload, 1) := by decide +kernel
theorem dX9_isWordValue_122 : decode cX9_isWordValue 122 = .ok (.invokestatic 87, 3) := by decide +kernel
theorem dX9_isWordValue_125 : decode cX9_isWordValue 125 = .ok (.bipush 102, 2) := by decide +kernel
theorem dX9_isWordValue_127 : decode cX9_isWordValue 127 = .ok (.if_icmp .ne 7, 3) := by decide +kernel
theorem dX9_isWordValue_130 : decode cX9_isWordValue 130 = .ok (.iconst 1, 1) := by decide +kernel
theorem dX9_isWordValue_131 : decode cX9_isWordValue 131 = .ok (.goto 4, 3) := by decide +kernel
theorem dX9_isWordValue_134 : decode cX9_isWordValue 134 = .ok (.iconst 0, 1) := by decide +kernel
theorem dX9_isWordValue_135 : decode cX9_isWordValue 135 = .ok (.istore_n 3, 1) := by decide +kernel
theorem dX9_isWordValue_136 : decode cX9_isWordValue 136 = .ok (.aload_n 0, 1) := by decide +kernel
theorem dX9_isWordValue_137 : decode cX9_isWordValue 137 = .ok (.iload_n 2, 1) := by decide +kernel
theorem dX9_isWordValue_138 : decode cX9_isWordValue 138 = .ok (.ifCond .eq 7, 3) := by decide +kernel
theorem dX9_isWordValue_141 : decode cX9_isWordValue 141 = .ok (.iconst 1, 1) := by decide +kernel
theorem dX9_isWordValue_142 : decode cX9_isWordValue 142 = .ok (.goto 4, 3) := by decide +kernel
theorem dX9_isWordValue_145 : decode cX9_isWordValue 145 = .ok (.iconst 0, 1) := by decide +kernel
theorem dX9_isWordValue_146 : decode cX9_isWordValue 146 = .ok (.putfield 158, 3) := by decide +kernel
theorem dX9_isWordValue_149 : decode cX9_isWordValue 149 = .ok (.iload_n 2, 1) := by decide +kernel
theorem dX9_isWordValue_150 : decode cX9_isWordValue 150 = .ok (.ifCond .ne 7, 3) := by decide +kernel
theorem dX9_isWordValue_153 : decode cX9_isWordValue 153 = .ok (.iload_n 3, 1) := by decide +kernel
theorem dX9_isWordValue_154 : decode cX9_isWordValue 154 = .ok (.ifCond .eq 7, 3) := by decide +kernel
theorem dX9_isWordValue_157 : decode cX9_isWordValue 157 = .ok (.iconst 1, 1) := by decide +kernel
theorem dX9_isWordValue_158 : decode cX9_isWordValue 158 = .ok (.goto 4, 3) := by decide +kernel
theorem dX9_isWordValue_161 : decode cX9_isWordValue 161 = .ok (.iconst 0, 1) := by decide +kernel
theorem dX9_isWordValue_162 : decode cX9_isWordValue 162 = .ok (.ireturn, 1) := by decide +kernel
theorem dX9_isUnitValue_0 : decode cX9_isUnitValue 0 = .ok (.aload_n 0, 1) := by decide +kernel
theorem dX9_isUnitValue_1 : decode cX9_isUnitValue 1 = .ok (.iconst 1, 1) := by decide +kernel
theorem dX9_isUnitValue_2 : decode cX9_isUnitValue 2 = .ok (.putfield 161, 3) := by decide +kernel
theorem dX9_isUnitValue_5 : decode cX9_isUnitValue 5 = .ok (.aload_n 0, 1) := by decide +kernel
theorem dX9_isUnitValue_6 : decode cX9_isUnitValue 6 = .ok (.invokevirtual 130, 3) := by decide +kernel
theorem dX9_isUnitValue_9 : decode cX9_isUnitValue 9 = .ok (.invokestatic 133, 3) := by decide +kernel
theorem dX9_isUnitValue_12 : decode cX9_isUnitValue 12 = .ok (.ifCond .eq 8, 3) := by decide +kernel
theorem dX9_isUnitValue_15 : decode cX9_isUnitValue 15 = .ok (.aload_n 0, 1) := by decide +kernel
theorem dX9_isUnitValue_16 : decode cX9_isUnitValue 16 = .ok (.invokevirtual 164, 3) := by decide +kernel
theorem dX9_isUnitValue_19 : decode cX9_isUnitValue 19 = .ok (.ireturn, 1) := by decide +kernel
theorem dX9_isUnitValue_20 : decode cX9_isUnitValue 20 = .ok (.aload_n 0, 1) := by decide +kernel
theorem dX9_isUnitValue_21 : decode cX9_isUnitValue 21 = .ok (.invokevirtual 130, 3) := by decide +kernel
theorem dX9_isUnitValue_24 : decode cX9_isUnitValue 24 = .ok (.bipush 45, 2) := by decide +kernel
theorem dX9_isUnitValue_26 : decode cX9_isUnitValue 26 = .ok (.if_icmp .ne 7, 3) := by decide +kernel
theorem dX9_isUnitValue_29 : decode cX9_isUnitValue 29 = .ok (.iconst (-1), 1) := by decide +kernel
theorem dX9_isUnitValue_30 : decode cX9_isUnitValue 30 = .ok (.goto 4, 3) := by decide +kernel
theorem dX9_isUnitValue_33 : decode cX9_isUnitValue 33 = .ok (.iconst 1, 1) := by decide +kernel
theorem dX9_isUnitValue_34 : decode cX9_isUnitValue 34 = .ok (.istore_n 1, 1) := by decide +kernel
theorem dX9_isUnitValue_35 : decode cX9_isUnitValue 35 = .ok (.aload_n 0, 1) := by decide +kernel
theorem dX9_isUnitValue_36 : decode cX9_isUnitValue 36 = .ok (.dup, 1) := by decide +kernel
theorem dX9_isUnitValue_37 : decode cX9_isUnitValue 37 = .ok (.getfield 127, 3) := by decide +kernel
theorem dX9_isUnitValue_40 : decode cX9_isUnitValue 40 = .ok (.aload_n 0, 1) := by decide +kernel
theorem dX9_isUnitValue_41 : decode cX9_isUnitValue 41 = .ok (.invokevirtual 130, 3) := by decide +kernel
theorem dX9_isUnitValue_44 : decode cX9_isUnitValue 44 = .ok (.bipush 45, 2) := by decide +kernel
theorem dX9_isUnitValue_46 : decode cX9_isUnitValue 46 = .ok (.if_icmp .eq 12, 3) := by decide +kernel
theorem dX9_isUnitValue_49 : decode cX9_isUnitValue 49 = .ok (.aload_n 0, 1) := by decide +kernel
theorem dX9_isUnitValue_50 : decode cX9_isUnitValue 50 = .ok (.invokevirtual 130, 3) := by decide +kernel
theorem dX9_isUnitValue_53 : decode cX9_isUnitValue 53 = .ok (.bipush 43, 2) := by decide +kernel
theorem dX9_isUnitValue_55 : decode cX9_isUnitValue 55 = .ok (.if_icmp .ne 7, 3) := by decide +kernel
theorem dX9_isUnitValue_58 : decode cX9_isUnitValue 58 = .ok (.iconst 1, 1) := by decide +kernel
theorem dX9_isUnitValue_59 : decode cX9_isUnitValue 59 = .ok (.goto 4, 3) := by decide +kernel
theorem dX9_isUnitValue_62 : decode cX9_isUnitValue 62 = .ok (.iconst 0, 1) := by decide +kernel
theorem dX9_isUnitValue_63 : decode cX9_isUnitValue 63 = .ok (.iadd, 1) := by decide +kernel
theorem dX9_isUnitValue_64 : decode cX9_isUnitValue 64 = .ok (.putfield 127, 3) := by decide +kernel
theorem dX9_isUnitValue_67 : decode cX9_isUnitValue 67 = .ok (.iconst 0, 1) := by decide +kernel
theorem dX9_isUnitValue_68 : decode cX9_isUnitValue 68 = .ok (.istore_n 2, 1) := by decide +kernel
theorem dX9_isUnitValue_69 : decode cX9_isUnitValue 69 = .ok (.aload_n 0, 1) := by decide +kernel
theorem dX9_isUnitValue_70 : decode cX9_isUnitValue 70 = .ok (.iconst 0, 1) := by decide +kernel
theorem dX9_isUnitValue_71 : decode cX9_isUnitValue 71 = .ok (.putfield 158, 3) := by decide +kernel
theorem dX9_isUnitValue_74 : decode cX9_isUnitValue 74 = .ok (.aload_n 0, 1) := by decide +kernel
theorem dX9_isUnitValue_75 : decode cX9_isUnitValue 75 = .ok (.invokevirtual 136, 3) := by decide +kernel
theorem dX9_isUnitValue_78 : decode cX9_isUnitValue 78 = .ok (.ifCond .eq 44, 3) := by decide +kernel
theorem dX9_isUnitValue_81 : decode cX9_isUnitValue 81 = .ok (.iload_n 2, 1) := by decide +kernel
theorem dX9_isUnitValue_82 : decode cX9_isUnitValue 82 = .ok (.bipush 7, 2) := by decide +kernel
theorem dX9_isUnitValue_84 : decode cX9_isUnitValue 84 = .ok (.if_icmp .ge 38, 3) := by decide +kernel
theorem dX9_isUnitValue_87 : decode cX9_isUnitValue 87 = .ok (.aload_n 0, 1) := by decide +kernel
theorem dX9_isUnitValue_88 : decode cX9_isUnitValue 88 = .ok (.bipush 10, 2) := by decide +kernel
theorem dX9_isUnitValue_90 : decode cX9_isUnitValue 90 = .ok (.aload_n 0, 1) := by decide +kernel
theorem dX9_isUnitValue_91 : decode cX9_isUnitValue 91 = .ok (.getfield 158, 3) := by decide +kernel
theorem dX9_isUnitValue_94 : decode cX9_isUnitValue 94 = .ok (.imul, 1) := by decide +kernel
theorem dX9_isUnitValue_95 : decode cX9_isUnitValue 95 = .ok (.aload_n 0, 1) := by decide +kernel
theorem dX9_isUnitValue_96 : decode cX9_isUnitValue 96 = .ok (.invokevirtual 130, 3) := by decide +kernel
theorem dX9_isUnitValue_99 : decode cX9_isUnitValue 99 = .ok (.iadd, 1) := by decide +kernel
theorem dX9_isUnitValue_100 : decode cX9_isUnitValue 100 = .ok (.bipush 48, 2) := by decide +kernel
theorem dX9_isUnitValue_102 : decode cX9_isUnitValue 102 = .ok (.isub, 1) := by decide +kernel
theorem dX9_isUnitValue_103 : decode cX9_isUnitValue 103 = .ok (.putfield 158, 3) := by decide +kernel
theorem dX9_isUnitValue_106 : decode cX9_isUnitValue 106 = .ok (.iinc 2 1, 3) := by decide +kernel
theorem dX9_isUnitValue_109 : decode cX9_isUnitValue 109 = .ok (.aload_n 0, 1) := by decide +kernel
theorem dX9_isUnitValue_110 : decode cX9_isUnitValue 110 = .ok (.dup, 1) := by decide +kernel
theorem dX9_isUnitValue_111 : decode cX9_isUnitValue 111 = .ok (.getfield 127, 3) := by decide +kernel
theorem dX9_isUnitValue_114 : decode cX9_isUnitValue 114 = .ok (.iconst 1, 1) := by decide +kernel
theorem dX9_isUnitValue_115 : decode cX9_isUnitValue 115 = .ok (.iadd, 1) := by decide +kernel
theorem dX9_isUnitValue_116 : decode cX9_isUnitValue 116 = .ok (.putfield 127, 3) := by decide +kernel
theorem dX9_isUnitValue_119 : decode cX9_isUnitValue 119 = .ok (.goto (-45), 3) := by decide +kernel
theorem dX9_isUnitValue_122 : decode cX9_isUnitValue 122 = .ok (.aload_n 0, 1) := by decide +kernel
theorem dX9_isUnitValue_123 : decode cX9_isUnitValue 123 = .ok (.invokevirtual 130, 3) := by decide +kernel
theorem dX9_isUnitValue_126 : decode cX9_isUnitValue 126 = .ok (.invokestatic 87, 3) := by decide +kernel
theorem dX9_isUnitValue_129 : decode cX9_isUnitValue 129 = .ok (.bipush 107, 2) := by decide +kernel
theorem dX9_isUnitValue_131 : decode cX9_isUnitValue 131 = .ok (.if_icmp .ne 25, 3) := by decide +kernel
theorem dX9_isUnitValue_134 : decode cX9_isUnitValue 134 = .ok (.aload_n 0, 1) := by decide +kernel
theorem dX9_isUnitValue_135 : decode cX9_isUnitValue 135 = .ok (.dup, 1) := by decide +kernel
theorem dX9_isUnitValue_136 : decode cX9_isUnitValue 136 = .ok (.getfield 158, 3) := by decide +kernel
theorem dX9_isUnitValue_139 : decode cX9_isUnitValue 139 = .ok (.sipush 1000, 3) := by decide +kernel
theorem dX9_isUnitValue_142 : decode cX9_isUnitValue 142 = .ok (.imul, 1) := by decide +kernel
theorem dX9_isUnitValue_143 : decode cX9_isUnitValue 143 = .ok (.putfield 158, 3) := by decide +kernel
theorem dX9_isUnitValue_146 : decode cX9_isUnitValue 146 = .ok (.aload_n 0, 1) := by decide +kernel
theorem dX9_isUnitValue_147 : decode cX9_isUnitValue 147 = .ok (.dup, 1) := by decide +kernel
theorem dX9_isUnitValue_148 : decode cX9_isUnitValue 148 = .ok (.getfield 127, 3) := by decide +kernel
theorem dX9_isUnitValue_151 : decode cX9_isUnitValue 151 = .ok (.iconst 1, 1) := by decide +kernel
theorem dX9_isUnitValue_152 : decode cX9_isUnitValue 152 = .ok (.iadd, 1) := by decide +kernel
theorem dX9_isUnitValue_153 : decode cX9_isUnitValue 153 = .ok (.putfield 127, 3) := by decide +kernel
theorem dX9_isUnitValue_156 : decode cX9_isUnitValue 156 = .ok (.aload_n 0, 1) := by decide +kernel
theorem dX9_isUnitValue_157 : decode cX9_isUnitValue 157 = .ok (.dup, 1) := by decide +kernel
theorem dX9_isUnitValue_158 : decode cX9_isUnitValue 158 = .ok (.getfield 158, 3) := by decide +kernel
theorem dX9_isUnitValue_161 : decode cX9_isUnitValue 161 = .ok (.iload_n 1, 1) := by decide +kernel
theorem dX9_isUnitValue_162 : decode cX9_isUnitValue 162 = .ok (.imul, 1) := by decide +kernel
theorem dX9_isUnitValue_163 : decode cX9_isUnitValue 163 = .ok (.putfield 158, 3) := by decide +kernel
theorem dX9_isUnitValue_166 : decode cX9_isUnitValue 166 = .ok (.iload_n 2, 1) := by decide +kernel
theorem dX9_isUnitValue_167 : decode cX9_isUnitValue 167 = .ok (.iconst 1, 1) := by decide +kernel
theorem dX9_isUnitValue_168 : decode cX9_isUnitValue 168 = .ok (.bipush 6, 2) := by decide +kernel
theorem dX9_isUnitValue_170 : decode cX9_isUnitValue 170 = .ok (.invokestatic 55, 3) := by decide +kernel
theorem dX9_isUnitValue_173 : decode cX9_isUnitValue 173 = .ok (.ireturn, 1) := by decide +kernel
theorem dX9_isEnd_0 : decode cX9_isEnd 0 = .ok (.aload_n 0, 1) := by decide +kernel
theorem dX9_isEnd_1 : decode cX9_isEnd 1 = .ok (.invokevirtual 130, 3) := by decide +kernel
theorem dX9_isEnd_4 : decode cX9_isEnd 4 = .ok (.iconst (-1), 1) := by decide +kernel
theorem dX9_isEnd_5 : decode cX9_isEnd 5 = .ok (.if_icmp .eq 12, 3) := by decide +kernel
theorem dX9_isEnd_8 : decode cX9_isEnd 8 = .ok (.aload_n 0, 1) := by decide +kernel
theorem dX9_isEnd_9 : decode cX9_isEnd 9 = .ok (.invokevirtual 130, 3) := by decide +kernel
theorem dX9_isEnd_12 : decode cX9_isEnd 12 = .ok (.bipush 59, 2) := by decide +kernel
theorem dX9_isEnd_14 : decode cX9_isEnd 14 = .ok (.if_icmp .ne 7, 3) := by decide +kernel
theorem dX9_isEnd_17 : decode cX9_isEnd 17 = .ok (.iconst 1, 1) := by decide +kernel
theorem dX9_isEnd_18 : decode cX9_isEnd 18 = .ok (.goto 4, 3) := by decide +kernel
theorem dX9_isEnd_21 : decode cX9_isEnd 21 = .ok (.iconst 0, 1) := by decide +kernel
theorem dX9_isEnd_22 : decode cX9_isEnd 22 = .ok (.ireturn, 1) := by decide +kernel
theorem dX9_isUnit_0 : decode cX9_isUnit 0 = .ok (.aload_n 0, 1) := by decide +kernel
theorem dX9_isUnit_1 : decode cX9_isUnit 1 = .ok (.invokevirtual 167, 3) := by decide +kernel
theorem dX9_isUnit_4 : decode cX9_isUnit 4 = .ok (.aload_n 0, 1) := by decide +kernel
theorem dX9_isUnit_5 : decode cX9_isUnit 5 = .ok (.iconst 0, 1) := by decide +kernel
theorem dX9_isUnit_6 : decode cX9_isUnit 6 = .ok (.putfield 161, 3) := by decide +kernel
theorem dX9_isUnit_9 : decode cX9_isUnit 9 = .ok (.aload_n 0, 1) := by decide +kernel
theorem dX9_isUnit_10 : decode cX9_isUnit 10 = .ok (.invokevirtual 170, 3) := by decide +kernel
theorem dX9_isUnit_13 : decode cX9_isUnit 13 = .ok (.ifCond .ne 5, 3) := by decide +kernel
theorem dX9_isUnit_16 : decode cX9_isUnit 16 = .ok (.iconst 0, 1) := by decide +kernel
theorem dX9_isUnit_17 : decode cX9_isUnit 17 = .ok (.ireturn, 1) := by decide +kernel
theorem dX9_isUnit_18 : decode cX9_isUnit 18 = .ok (.aload_n 0, 1) := by decide +kernel
theorem dX9_isUnit_19 : decode cX9_isUnit 19 = .ok (.aload_n 0, 1) := by decide +kernel
theorem dX9_isUnit_20 : decode cX9_isUnit 20 = .ok (.invokevirtual 130, 3) := by decide +kernel
theorem dX9_isUnit_23 : decode cX9_isUnit 23 = .ok (.bipush 63, 2) := by decide +kernel
theorem dX9_isUnit_25 : decode cX9_isUnit 25 = .ok (.if_icmp .ne 7, 3) := by decide +kernel
theorem dX9_isUnit_28 : decode cX9_isUnit 28 = .ok (.iconst 1, 1) := by decide +kernel
theorem dX9_isUnit_29 : decode cX9_isUnit 29 = .ok (.goto 4, 3) := by decide +kernel
theorem dX9_isUnit_32 : decode cX9_isUnit 32 = .ok (.iconst 0, 1) := by decide +kernel
theorem dX9_isUnit_33 : decode cX9_isUnit 33 = .ok (.putfield 173, 3) := by decide +kernel
theorem dX9_isUnit_36 : decode cX9_isUnit 36 = .ok (.aload_n 0, 1) := by decide +kernel
theorem dX9_isUnit_37 : decode cX9_isUnit 37 = .ok (.dup, 1) := by decide +kernel
theorem dX9_isUnit_38 : decode cX9_isUnit 38 = .ok (.getfield 127, 3) := by decide +kernel
theorem dX9_isUnit_41 : decode cX9_isUnit 41 = .ok (.aload_n 0, 1) := by decide +kernel
theorem dX9_isUnit_42 : decode cX9_isUnit 42 = .ok (.getfield 173, 3) := by decide +kernel
