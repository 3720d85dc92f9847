theorem dX6_read_2 : decode cX6_read 2 = .ok (.aload_n 0, 1) := by decide +kernel
theorem dX6_read_3 : decode cX6_read 3 = .ok (.getfield 18, 3) := by decide +kernel
theorem dX6_read_6 : decode cX6_read 6 = .ok (.invokevirtual 63, 3) := by decide +kernel
theorem dX6_read_9 : decode cX6_read 9 = .ok (.putfield 18, 3) := by decide +kernel
theorem dX6_read_12 : decode cX6_read 12 = .ok (.aload_n 0, 1) := by decide +kernel
theorem dX6_read_13 : decode cX6_read 13 = .ok (.aload_n 1, 1) := by decide +kernel
theorem dX6_read_14 : decode cX6_read 14 = .ok (.aload_n 0, 1) := by decide +kernel
theorem dX6_read_15 : decode cX6_read 15 = .ok (.getfield 18, 3) := by decide +kernel
theorem dX6_read_18 : decode cX6_read 18 = .ok (.invokevirtual 53, 3) := by decide +kernel
theorem dX6_read_21 : decode cX6_read 21 = .ok (.bipush 42, 2) := by decide +kernel
theorem dX6_read_23 : decode cX6_read 23 = .ok (.if_icmp .ne 7, 3) := by decide +kernel
theorem dX6_read_26 : decode cX6_read 26 = .ok (.iconst 1, 1) := by decide +kernel
theorem dX6_read_27 : decode cX6_read 27 = .ok (.goto 4, 3) := by decide +kernel
theorem dX6_read_30 : decode cX6_read 30 = .ok (.iconst 0, 1) := by decide +kernel
theorem dX6_read_31 : decode cX6_read 31 = .ok (.putfield 25, 3) := by decide +kernel
theorem dX6_read_34 : decode cX6_read 34 = .ok (.aload_n 0, 1) := by decide +kernel
theorem dX6_read_35 : decode cX6_read 35 = .ok (.getfield 25, 3) := by decide +kernel
theorem dX6_read_38 : decode cX6_read 38 = .ok (.ifCond .eq 11, 3) := by decide +kernel
theorem dX6_read_41 : decode cX6_read 41 = .ok (.aload_n 0, 1) := by decide +kernel
theorem dX6_read_42 : decode cX6_read 42 = .ok (.aload_n 1, 1) := by decide +kernel
theorem dX6_read_43 : decode cX6_read 43 = .ok (.invokevirtual 66, 3) := by decide +kernel
theorem dX6_read_46 : decode cX6_read 46 = .ok (.goto 8, 3) := by decide +kernel
theorem dX6_read_49 : decode cX6_read 49 = .ok (.aload_n 0, 1) := by decide +kernel
theorem dX6_read_50 : decode cX6_read 50 = .ok (.aload_n 1, 1) := by decide +kernel
theorem dX6_read_51 : decode cX6_read 51 = .ok (.invokevirtual 69, 3) := by decide +kernel
theorem dX6_read_54 : decode cX6_read 54 = .ok (.istore_n 2, 1) := by decide +kernel
theorem dX6_read_55 : decode cX6_read 55 = .ok (.iload_n 2, 1) := by decide +kernel
theorem dX6_read_56 : decode cX6_read 56 = .ok (.ifCond .ne 5, 3) := by decide +kernel
theorem dX6_read_59 : decode cX6_read 59 = .ok (.iconst 0, 1) := by decide +kernel
theorem dX6_read_60 : decode cX6_read 60 = .ok (.ireturn, 1) := by decide +kernel
theorem dX6_read_61 : decode cX6_read 61 = .ok (.aload_n 0, 1) := by decide +kernel
theorem dX6_read_62 : decode cX6_read 62 = .ok (.aload_n 1, 1) := by decide +kernel
theorem dX6_read_63 : decode cX6_read 63 = .ok (.aload_n 0, 1) := by decide +kernel
theorem dX6_read_64 : decode cX6_read 64 = .ok (.getfield 18, 3) := by decide +kernel
theorem dX6_read_67 : decode cX6_read 67 = .ok (.invokevirtual 53, 3) := by decide +kernel
theorem dX6_read_70 : decode cX6_read 70 = .ok (.bipush 63, 2) := by decide +kernel
theorem dX6_read_72 : decode cX6_read 72 = .ok (.if_icmp .ne 7, 3) := by decide +kernel
theorem dX6_read_75 : decode cX6_read 75 = .ok (.iconst 1, 1) := by decide +kernel
theorem dX6_read_76 : decode cX6_read 76 = .ok (.goto 4, 3) := by decide +kernel
theorem dX6_read_79 : decode cX6_read 79 = .ok (.iconst 0, 1) := by decide +kernel
theorem dX6_read_80 : decode cX6_read 80 = .ok (.putfield 35, 3) := by decide +kernel
theorem dX6_read_83 : decode cX6_read 83 = .ok (.aload_n 0, 1) := by decide +kernel
theorem dX6_read_84 : decode cX6_read 84 = .ok (.getfield 35, 3) := by decide +kernel
theorem dX6_read_87 : decode cX6_read 87 = .ok (.ifCond .eq 13, 3) := by decide +kernel
theorem dX6_read_90 : decode cX6_read 90 = .ok (.aload_n 0, 1) := by decide +kernel
theorem dX6_read_91 : decode cX6_read 91 = .ok (.dup, 1) := by decide +kernel
theorem dX6_read_92 : decode cX6_read 92 = .ok (.getfield 18, 3) := by decide +kernel
theorem dX6_read_95 : decode cX6_read 95 = .ok (.iconst 1, 1) := by decide +kernel
theorem dX6_read_96 : decode cX6_read 96 = .ok (.iadd, 1) := by decide +kernel
theorem dX6_read_97 : decode cX6_read 97 = .ok (.putfield 18, 3) := by decide +kernel
theorem dX6_read_100 : decode cX6_read 100 = .ok (.aload_n 0, 1) := by decide +kernel
theorem dX6_read_101 : decode cX6_read 101 = .ok (.aload_n 1, 1) := by decide +kernel
theorem dX6_read_102 : decode cX6_read 102 = .ok (.invokevirtual 72, 3) := by decide +kernel
theorem dX6_read_105 : decode cX6_read 105 = .ok (.ireturn, 1) := by decide +kernel
theorem dX6_commonWord_0 : decode cX6_commonWord 0 = .ok (.aload_n 1, 1) := by decide +kernel
theorem dX6_commonWord_1 : decode cX6_commonWord 1 = .ok (.aload_n 0, 1) := by decide +kernel
theorem dX6_commonWord_2 : decode cX6_commonWord 2 = .ok (.getfield 29, 3) := by decide +kernel
theorem dX6_commonWord_5 : decode cX6_commonWord 5 = .ok (.aload_n 0, 1) := by decide +kernel
theorem dX6_commonWord_6 : decode cX6_commonWord 6 = .ok (.getfield 32, 3) := by decide +kernel
theorem dX6_commonWord_9 : decode cX6_commonWord 9 = .ok (.ldc 75, 2) := by decide +kernel
theorem dX6_commonWord_11 : decode cX6_commonWord 11 = .ok (.invokevirtual 77, 3) := by decide +kernel
theorem dX6_commonWord_14 : decode cX6_commonWord 14 = .ok (.ifCond .eq 5, 3) := by decide +kernel
theorem dX6_commonWord_17 : decode cX6_commonWord 17 = .ok (.iconst 1, 1) := by decide +kernel
theorem dX6_commonWord_18 : decode cX6_commonWord 18 = .ok (.ireturn, 1) := by decide +kernel
theorem dX6_commonWord_19 : decode cX6_commonWord 19 = .ok (.aload_n 1, 1) := by decide +kernel
theorem dX6_commonWord_20 : decode cX6_commonWord 20 = .ok (.aload_n 0, 1) := by decide +kernel
theorem dX6_commonWord_21 : decode cX6_commonWord 21 = .ok (.getfield 29, 3) := by decide +kernel
theorem dX6_commonWord_24 : decode cX6_commonWord 24 = .ok (.aload_n 0, 1) := by decide +kernel
theorem dX6_commonWord_25 : decode cX6_commonWord 25 = .ok (.getfield 32, 3) := by decide +kernel
theorem dX6_commonWord_28 : decode cX6_commonWord 28 = .ok (.ldc 81, 2) := by decide +kernel
theorem dX6_commonWord_30 : decode cX6_commonWord 30 = .ok (.invokevirtual 77, 3) := by decide +kernel
theorem dX6_commonWord_33 : decode cX6_commonWord 33 = .ok (.ifCond .eq 5, 3) := by decide +kernel
theorem dX6_commonWord_36 : decode cX6_commonWord 36 = .ok (.iconst 2, 1) := by decide +kernel
theorem dX6_commonWord_37 : decode cX6_commonWord 37 = .ok (.ireturn, 1) := by decide +kernel
theorem dX6_commonWord_38 : decode cX6_commonWord 38 = .ok (.aload_n 1, 1) := by decide +kernel
theorem dX6_commonWord_39 : decode cX6_commonWord 39 = .ok (.aload_n 0, 1) := by decide +kernel
theorem dX6_commonWord_40 : decode cX6_commonWord 40 = .ok (.getfield 29, 3) := by decide +kernel
theorem dX6_commonWord_43 : decode cX6_commonWord 43 = .ok (.aload_n 0, 1) := by decide +kernel
theorem dX6_commonWord_44 : decode cX6_commonWord 44 = .ok (.getfield 32, 3) := by decide +kernel
theorem dX6_commonWord_47 : decode cX6_commonWord 47 = .ok (.ldc 83, 2) := by decide +kernel
theorem dX6_commonWord_49 : decode cX6_commonWord 49 = .ok (.invokevirtual 77, 3) := by decide +kernel
theorem dX6_commonWord_52 : decode cX6_commonWord 52 = .ok (.ifCond .eq 5, 3) := by decide +kernel
theorem dX6_commonWord_55 : decode cX6_commonWord 55 = .ok (.iconst 3, 1) := by decide +kernel
theorem dX6_commonWord_56 : decode cX6_commonWord 56 = .ok (.ireturn, 1) := by decide +kernel
theorem dX6_commonWord_57 : decode cX6_commonWord 57 = .ok (.aload_n 1, 1) := by decide +kernel
theorem dX6_commonWord_58 : decode cX6_commonWord 58 = .ok (.aload_n 0, 1) := by decide +kernel
theorem dX6_commonWord_59 : decode cX6_commonWord 59 = .ok (.getfield 29, 3) := by decide +kernel
theorem dX6_commonWord_62 : decode cX6_commonWord 62 = .ok (.aload_n 0, 1) := by decide +kernel
theorem dX6_commonWord_63 : decode cX6_commonWord 63 = .ok (.getfield 32, 3) := by decide +kernel
theorem dX6_commonWord_66 : decode cX6_commonWord 66 = .ok (.ldc 85, 2) := by decide +kernel
theorem dX6_commonWord_68 : decode cX6_commonWord 68 = .ok (.invokevirtual 77, 3) := by decide +kernel
theorem dX6_commonWord_71 : decode cX6_commonWord 71 = .ok (.ifCond .eq 5, 3) := by decide +kernel
theorem dX6_commonWord_74 : decode cX6_commonWord 74 = .ok (.iconst 4, 1) := by decide +kernel
theorem dX6_commonWord_75 : decode cX6_commonWord 75 = .ok (.ireturn, 1) := by decide +kernel
theorem dX6_commonWord_76 : decode cX6_commonWord 76 = .ok (.aload_n 1, 1) := by decide +kernel
theorem dX6_commonWord_77 : decode cX6_commonWord 77 = .ok (.aload_n 0, 1) := by decide +kernel
theorem dX6_commonWord_78 : decode cX6_commonWord 78 = .ok (.getfield 29, 3) := by decide +kernel
theorem dX6_commonWord_81 : decode cX6_commonWord 81 = .ok (.aload_n 0, 1) := by decide +kernel
theorem dX6_commonWord_82 : decode cX6_commonWord 82 = .ok (.getfield 32, 3) := by decide +kernel
theorem dX6_commonWord_85 : decode cX6_commonWord 85 = .ok (.ldc 87, 2) := by decide +kernel
theorem dX6_commonWord_87 : decode cX6_commonWord 87 = .ok (.invokevirtual 77, 3) := by decide +kernel
theorem dX6_commonWord_90 : decode cX6_commonWord 90 = .ok (.ifCond .eq 5, 3) := by decide +kernel
theorem dX6_commonWord_93 : decode cX6_commonWord 93 = .ok (.iconst 5, 1) := by decide +kernel
theorem dX6_commonWord_94 : decode cX6_commonWord 94 = .ok (.ireturn, 1) := by decide +kernel
theorem dX6_commonWord_95 : decode cX6_commonWord 95 = .ok (.aload_n 1, 1) := by decide +kernel
theorem dX6_commonWord_96 : decode cX6_commonWord 96 = .ok (.aload_n 0, 1) := by decide +kernel
theorem dX6_commonWord_97 : decode cX6_commonWord 97 = .ok (.getfield 29, 3) := by decide +kernel
theorem dX6_commonWord_100 : decode cX6_commonWord 100 = .ok (.aload_n 0, 1) := by decide +kernel
theorem dX6_commonWord_101 : decode cX6_commonWord 101 = .ok (.getfield 32, 3) := by decide +kernel
theorem dX6_commonWord_104 : decode cX6_commonWord 104 = .ok (.ldc 89, 2) := by decide +kernel
theorem dX6_commonWord_106 : decode cX6_commonWord 106 = .ok (.invokevirtual 77, 3) := by decide +kernel
theorem dX6_commonWord_109 : decode cX6_commonWord 109 = .ok (.ifCond .eq 6, 3) := by decide +kernel
theorem dX6_commonWord_112 : decode cX6_commonWord 112 = .ok (.bipush 6, 2) := by decide +kernel
theorem dX6_commonWord_114 : decode cX6_commonWord 114 = .ok (.ireturn, 1) := by decide +kernel
theorem dX6_commonWord_115 : decode cX6_commonWord 115 = .ok (.aload_n 1, 1) := by decide +kernel
theorem dX6_commonWord_116 : decode cX6_commonWord 116 = .ok (.aload_n 0, 1) := by decide +kernel
theorem dX6_commonWord_117 : decode cX6_commonWord 117 = .ok (.getfield 29, 3) := by decide +kernel
theorem dX6_commonWord_120 : decode cX6_commonWord 120 = .ok (.aload_n 0, 1) := by decide +kernel
theorem dX6_commonWord_121 : decode cX6_commonWord 121 = .ok (.getfield 32, 3) := by decide +kernel
theorem dX6_commonWord_124 : decode cX6_commonWord 124 = .ok (.ldc 91, 2) := by decide +kernel
theorem dX6_commonWord_126 : decode cX6_commonWord 126 = .ok (.invokevirtual 77, 3) := by decide +kernel
theorem dX6_commonWord_129 : decode cX6_commonWord 129 = .ok (.ifCond .eq 8, 3) := by decide +kernel
theorem dX6_commonWord_132 : decode cX6_commonWord 132 = .ok (.bipush 7, 2) := by decide +kernel
theorem dX6_commonWord_134 : decode cX6_commonWord 134 = .ok (.goto 4, 3) := by decide +kernel
theorem dX6_commonWord_137 : decode cX6_commonWord 137 = .ok (.iconst 0, 1) := by decide +kernel
theorem dX6_commonWord_138 : decode cX6_commonWord 138 = .ok (.ireturn, 1) := by decide +kernel
theorem dX6_valueFault_0 : decode cX6_valueFault 0 = .ok (.iload_n 1, 1) := by decide +kernel
theorem dX6_valueFault_1 : decode cX6_valueFault 1 = .ok (.ifCond .eq 14, 3) := by decide +kernel
theorem dX6_valueFault_4 : decode cX6_valueFault 4 = .ok (.aload_n 0, 1) := by decide +kernel
theorem dX6_valueFault_5 : decode cX6_valueFault 5 = .ok (.getfield 35, 3) := by decide +kernel
theorem dX6_valueFault_8 : decode cX6_valueFault 8 = .ok (.ifCond .ne 7, 3) := by decide +kernel
theorem dX6_valueFault_11 : decode cX6_valueFault 11 = .ok (.iconst 1, 1) := by decide +kernel
theorem dX6_valueFault_12 : decode cX6_valueFault 12 = .ok (.goto 4, 3) := by decide +kernel
theorem dX6_valueFault_15 : decode cX6_valueFault 15 = .ok (.iconst 0, 1) := by decide +kernel
theorem dX6_valueFault_16 : decode cX6_valueFault 16 = .ok (.istore_n 2, 1) := by decide +kernel
theorem dX6_valueFault_17 : decode cX6_valueFault 17 = .ok (.aload_n 0, 1) := by decide +kernel
theorem dX6_valueFault_18 : decode cX6_valueFault 18 = .ok (.getfield 38, 3) := by decide +kernel
theorem dX6_valueFault_21 : decode cX6_valueFault 21 = .ok (.ifCond .eq 10, 3) := by decide +kernel
theorem dX6_valueFault_24 : decode cX6_valueFault 24 = .ok (.iload_n 2, 1) := by decide +kernel
theorem dX6_valueFault_25 : decode cX6_valueFault 25 = .ok (.ifCond .ne 6, 3) := by decide +kernel
theorem dX6_valueFault_28 : decode cX6_valueFault 28 = .ok (.bipush (-108), 2) := by decide +kernel
theorem dX6_valueFault_30 : decode cX6_valueFault 30 = .ok (.ireturn, 1) := by decide +kernel
theorem dX6_valueFault_31 : decode cX6_valueFault 31 = .ok (.iload_n 2, 1) := by decide +kernel
theorem dX6_valueFault_32 : decode cX6_valueFault 32 = .ok (.ifCond .eq 15, 3) := by decide +kernel
theorem dX6_valueFault_35 : decode cX6_valueFault 35 = .ok (.aload_n 0, 1) := by decide +kernel
theorem dX6_valueFault_36 : decode cX6_valueFault 36 = .ok (.getfield 38, 3) := by decide +kernel
theorem dX6_valueFault_39 : decode cX6_valueFault 39 = .ok (.ifCond .ne 8, 3) := by decide +kernel
theorem dX6_valueFault_42 : decode cX6_valueFault 42 = .ok (.bipush (-109), 2) := by decide +kernel
theorem dX6_valueFault_44 : decode cX6_valueFault 44 = .ok (.goto 4, 3) := by decide +kernel
theorem dX6_valueFault_47 : decode cX6_valueFault 47 = .ok (.iconst 0, 1) := by decide +kernel
theorem dX6_valueFault_48 : decode cX6_valueFault 48 = .ok (.ireturn, 1) := by decide +kernel
theorem dX6_readCommonHeader_0 : decode cX6_readCommonHeader 0 = .ok (.aload_n 0, 1) := by decide +kernel
theorem dX6_readCommonHeader_1 : decode cX6_readCommonHeader 1 = .ok (.aload_n 0, 1) := by decide +kernel
theorem dX6_readCommonHeader_2 : decode cX6_readCommonHeader 2 = .ok (.getfield 18, 3) := by decide +kernel
theorem dX6_readCommonHeader_5 : decode cX6_readCommonHeader 5 = .ok (.iconst 1, 1) := by decide +kernel
theorem dX6_readCommonHeader_6 : decode cX6_readCommonHeader 6 = .ok (.iadd, 1) := by decide +kernel
theorem dX6_readCommonHeader_7 : decode cX6_readCommonHeader 7 = .ok (.putfield 29, 3) := by decide +kernel
theorem dX6_readCommonHeader_10 : decode cX6_readCommonHeader 10 = .ok (.aload_n 0, 1) := by decide +kernel
theorem dX6_readCommonHeader_11 : decode cX6_readCommonHeader 11 = .ok (.aload_n 1, 1) := by decide +kernel
theorem dX6_readCommonHeader_12 : decode cX6_readCommonHeader 12 = .ok (.aload_n 0, 1) := by decide +kernel
theorem dX6_readCommonHeader_13 : decode cX6_readCommonHeader 13 = .ok (.getfield 29, 3) := by decide +kernel
theorem dX6_readCommonHeader_16 : decode cX6_readCommonHeader 16 = .ok (.invokevirtual 93, 3) := by decide +kernel
theorem dX6_readCommonHeader_19 : decode cX6_readCommonHeader 19 = .ok (.putfield 32, 3) := by decide +kernel
theorem dX6_readCommonHeader_22 : decode cX6_readCommonHeader 22 = .ok (.aload_n 0, 1) := by decide +kernel
theorem dX6_readCommonHeader_23 : decode cX6_readCommonHeader 23 = .ok (.aload_n 0, 1) := by decide +kernel
theorem dX6_readCommonHeader_24 : decode cX6_readCommonHeader 24 = .ok (.getfield 32, 3) := by decide +kernel
theorem dX6_readCommonHeader_27 : decode cX6_readCommonHeader 27 = .ok (.putfield 18, 3) := by decide +kernel
theorem dX6_readCommonHeader_30 : decode cX6_readCommonHeader 30 = .ok (.aload_n 0, 1) := by decide +kernel
theorem dX6_readCommonHeader_31 : decode cX6_readCommonHeader 31 = .ok (.getfield 32, 3) := by decide +kernel
theorem dX6_readCommonHeader_34 : decode cX6_readCommonHeader 34 = .ok (.aload_n 0, 1) := by decide +kernel
theorem dX6_readCommonHeader_35 : decode cX6_readCommonHeader 35 = .ok (.getfield 29, 3) := by decide +kernel
theorem dX6_readCommonHeader_38 : decode cX6_readCommonHeader 38 = .ok (.isub, 1) := by decide +kernel
theorem dX6_readCommonHeader_39 : decode cX6_readCommonHeader 39 = .ok (.iconst 1, 1) := by decide +kernel
theorem dX6_readCommonHeader_40 : decode cX6_readCommonHeader 40 = .ok (.bipush 8, 2) := by decide +kernel
theorem dX6_readCommonHeader_42 : decode cX6_readCommonHeader 42 = .ok (.invokestatic 96, 3) := by decide +kernel
theorem dX6_readCommonHeader_45 : decode cX6_readCommonHeader 45 = .ok (.ireturn, 1) := by decide +kernel
theorem dX6_readWordsHeader_0 : decode cX6_readWordsHeader 0 = .ok (.aload_n 1, 1) := by decide +kernel
theorem dX6_readWordsHeader_1 : decode cX6_readWordsHeader 1 = .ok (.aload_n 0, 1) := by decide +kernel
theorem dX6_readWordsHeader_2 : decode cX6_readWordsHeader 2 = .ok (.getfield 18, 3) := by decide +kernel
theorem dX6_readWordsHeader_5 : decode cX6_readWordsHeader 5 = .ok (.invokevirtual 53, 3) := by decide +kernel
theorem dX6_readWordsHeader_8 : decode cX6_readWordsHeader 8 = .ok (.bipush 58, 2) := by decide +kernel
theorem dX6_readWordsHeader_10 : decode cX6_readWordsHeader 10 = .ok (.if_icmp .ne 7, 3) := by decide +kernel
theorem dX6_readWordsHeader_13 : decode cX6_readWordsHeader 13 = .ok (.iconst 1, 1) := by decide +kernel
theorem dX6_readWordsHeader_14 : decode cX6_readWordsHeader 14 = .ok (.goto 4, 3) := by decide +kernel
theorem dX6_readWordsHeader_17 : decode cX6_readWordsHeader 17 = .ok (.iconst 0, 1) := by decide +kernel
theorem dX6_readWordsHeader_18 : decode cX6_readWordsHeader 18 = .ok (.istore_n 2, 1) := by decide +kernel
theorem dX6_readWordsHeader_19 : decode cX6_readWordsHeader 19 = .ok (.iload_n 2, 1) := by decide +kernel
theorem dX6_readWordsHeader_20 : decode cX6_readWordsHeader 20 = .ok (.ifCond .eq 13, 3) := by decide +kernel
theorem dX6_readWordsHeader_23 : decode cX6_readWordsHeader 23 = .ok (.aload_n 0, 1) := by decide +kernel
theorem dX6_readWordsHeader_24 : decode cX6_readWordsHeader 24 = .ok (.dup, 1) := by decide +kernel
theorem dX6_readWordsHeader_25 : decode cX6_readWordsHeader 25 = .ok (.getfield 18, 3) := by decide +kernel
theorem dX6_readWordsHeader_28 : decode cX6_readWordsHeader 28 = .ok (.iconst 1, 1) := by decide +kernel
theorem dX6_readWordsHeader_29 : decode cX6_readWordsHeader 29 = .ok (.iadd, 1) := by decide +kernel
theorem dX6_readWordsHeader_30 : decode cX6_readWordsHeader 30 = .ok (.putfield 18, 3) := by decide +kernel
theorem dX6_readWordsHeader_33 : decode cX6_readWordsHeader 33 = .ok (.aload_n 0, 1) := by decide +kernel
theorem dX6_readWordsHeader_34 : decode cX6_readWordsHeader 34 = .ok (.getfield 12, 3) := by decide +kernel
theorem dX6_readWordsHeader_37 : decode cX6_readWordsHeader 37 = .ok (.iload_n 2, 1) := by decide +kernel
theorem dX6_readWordsHeader_38 : decode cX6_readWordsHeader 38 = .ok (.ifCond .eq 7, 3) := by decide +kernel
theorem dX6_readWordsHeader_41 : decode cX6_readWordsHeader 41 = .ok (.iconst 0, 1) := by decide +kernel
theorem dX6_readWordsHeader_42 : decode cX6_readWordsHeader 42 = .ok (.goto 7, 3) := by decide +kernel
theorem dX6_readWordsHeader_45 : decode cX6_readWordsHeader 45 = .ok (.aload_n 0, 1) := by decide +kernel
theorem dX6_readWordsHeader_46 : decode cX6_readWordsHeader 46 = .ok (.getfield 22, 3) := by decide +kernel
theorem dX6_readWordsHeader_49 : decode cX6_readWordsHeader 49 = .ok (.putfield 44, 3) := by decide +kernel
theorem dX6_readWordsHeader_52 : decode cX6_readWordsHeader 52 = .ok (.aload_n 0, 1) := by decide +kernel
theorem dX6_readWordsHeader_53 : decode cX6_readWordsHeader 53 = .ok (.aload_n 1, 1) := by decide +kernel
theorem dX6_readWordsHeader_54 : decode cX6_readWordsHeader 54 = .ok (.invokevirtual 59, 3) := by decide +kernel
theorem dX6_readWordsHeader_57 : decode cX6_readWordsHeader 57 = .ok (.ireturn, 1) := by decide +kernel
theorem dX6_readWords_0 : decode cX6_readWords 0 = .ok (.iconst 0, 1) := by decide +kernel
theorem dX6_readWords_1 : decode cX6_readWords 1 = .ok (.istore_n 2, 1) := by decide +kernel
theorem dX6_readWords_2 : decode cX6_readWords 2 = .ok (.iload_n 2, 1) := by decide +kernel
theorem dX6_readWords_3 : decode cX6_readWords 3 = .ok (.iconst 4, 1) := by decide +kernel
theorem dX6_readWords_4 : decode cX6_readWords 4 = .ok (.if_icmp .ge 44, 3) := by decide +kernel
theorem dX6_readWords_7 : decode cX6_readWords 7 = .ok (.aload_n 0, 1) := by decide +kernel
theorem dX6_readWords_8 : decode cX6_readWords 8 = .ok (.aload_n 1, 1) := by decide +kernel
theorem dX6_readWords_9 : decode cX6_readWords 9 = .ok (.invokevirtual 100, 3) := by decide +kernel
theorem dX6_readWords_12 : decode cX6_readWords 12 = .ok (.ifCond .ne 5, 3) := by decide +kernel
theorem dX6_readWords_15 : decode cX6_readWords 15 = .ok (.iconst 0, 1) := by decide +kernel
theorem dX6_readWords_16 : decode cX6_readWords 16 = .ok (.ireturn, 1) := by decide +kernel
theorem dX6_readWords_17 : decode cX6_readWords 17 = .ok (.aload_n 1, 1) := by decide +kernel
theorem dX6_readWords_18 : decode cX6_readWords 18 = .ok (.aload_n 0, 1) := by decide +kernel
theorem dX6_readWords_19 : decode cX6_readWords 19 = .ok (.getfield 18, 3) := by decide +kernel
theorem dX6_readWords_22 : decode cX6_readWords 22 = .ok (.invokevirtual 53, 3) := by decide +kernel
theorem dX6_readWords_25 : decode cX6_readWords 25 = .ok (.bipush 58, 2) := by decide +kernel
theorem dX6_readWords_27 : decode cX6_readWords 27 = .ok (.if_icmp .eq 5, 3) := by decide +kernel
theorem dX6_readWords_30 : decode cX6_readWords 30 = .ok (.iconst 1, 1) := by decide +kernel
theorem dX6_readWords_31 : decode cX6_readWords 31 = .ok (.ireturn, 1) := by decide +kernel
theorem dX6_readWords_32 : decode cX6_readWords 32 = .ok (.aload_n 0, 1) := by decide +kernel
theorem dX6_readWords_33 : decode cX6_readWords 33 = .ok (.dup, 1) := by decide +kernel
theorem dX6_readWords_34 : decode cX6_readWords 34 = .ok (.getfield 18, 3) := by decide +kernel
theorem dX6_readWords_37 : decode cX6_readWords 37 = .ok (.iconst 1, 1) := by decide +kernel
theorem dX6_readWords_38 : decode cX6_readWords 38 = .ok (.iadd, 1) := by decide +kernel
theorem dX6_readWords_39 : decode cX6_readWords 39 = .ok (.putfield 18, 3) := by decide +kernel
theorem dX6_readWords_42 : decode cX6_readWords 42 = .ok (.iinc 2 1, 3) := by decide +kernel
theorem dX6_readWords_45 : decode cX6_readWords 45 = .ok (.goto (-43), 3) := by decide +kernel
theorem dX6_readWords_48 : decode cX6_readWords 48 = .ok (.iconst 0, 1) := by decide +kernel
theorem dX6_readWords_49 : decode cX6_readWords 49 = .ok (.ireturn, 1) := by decide +kernel
theorem dX6_readWord_0 : decode cX6_readWord 0 = .ok (.aload_n 0, 1) := by decide +kernel
theorem dX6_readWord_1 : decode cX6_readWord 1 = .ok (.getfield 18, 3) := by decide +kernel
theorem dX6_readWord_4 : decode cX6_readWord 4 = .ok (.istore_n 2, 1) := by decide +kernel
theorem dX6_readWord_5 : decode cX6_readWord 5 = .ok (.aload_n 1, 1) := by decide +kernel
theorem dX6_readWord_6 : decode cX6_readWord 6 = .ok (.iload_n 2, 1) := by decide +kernel
theorem dX6_readWord_7 : decode cX6_readWord 7 = .ok (.invokevirtual 93, 3) := by decide +kernel
theorem dX6_readWord_10 : decode cX6_readWord 10 = .ok (.istore_n 3, 1) := by decide +kernel
theorem dX6_readWord_11 : decode cX6_readWord 11 = .ok (.iload_n 3, 1) := by decide +kernel
theorem dX6_readWord_12 : decode cX6_readWord 12 = .ok (.iload_n 2, 1) := by decide +kernel
theorem dX6_readWord_13 : decode cX6_readWord 13 = .ok (.isub, 1) := by decide +kernel
theorem dX6_readWord_14 : decode cX6_readWord 14 = .ok (.iconst 1, 1) := by decide +kernel
theorem dX6_readWord_15 : decode cX6_readWord 15 = .ok (.bipush 8, 2) := by decide +kernel
theorem dX6_readWord_17 : decode cX6_readWord 17 = .ok (.invokestatic 96, 3) := by decide +kernel
theorem dX6_readWord_20 : decode cX6_readWord 20 = .ok (.ifCond .ne 5, 3) := by decide +kernel
theorem dX6_readWord_23 : decode cX6_readWord 23 = .ok (.iconst 0, 1) := by decide +kernel
theorem dX6_readWord_24 : decode cX6_readWord 24 = .ok (.ireturn, 1) := by decide +kernel
theorem dX6_readWord_25 : decode cX6_readWord 25 = .ok (.aload_n 0, 1) := by decide +kernel
theorem dX6_readWord_26 : decode cX6_readWord 26 = .ok (.iload_n 3, 1) := by decide +kernel
theorem dX6_readWord_27 : decode cX6_readWord 27 = .ok (.putfield 18, 3) := by decide +kernel
theorem dX6_readWord_30 : decode cX6_readWord 30 = .ok (.iconst 0, 1) := by decide +kernel
theorem dX6_readWord_31 : decode cX6_readWord 31 = .ok (.istore 4, 2) := by decide +kernel
theorem dX6_readWord_33 : decode cX6_readWord 33 = .ok (.aload_n 1, 1) := by decide +kernel
theorem dX6_readWord_34 : decode cX6_readWord 34 = .ok (.aload_n 0, 1) := by decide +kernel
theorem dX6_readWord_35 : decode cX6_readWord 35 = .ok (.getfield 18, 3) := by decide +kernel
theorem dX6_readWord_38 : decode cX6_readWord 38 = .ok (.invokevirtual 53, 3) := by decide +kernel
theorem dX6_readWord_41 : decode cX6_readWord 41 = .ok (.bipush 49, 2) := by decide +kernel
theorem dX6_readWord_43 : decode cX6_readWord 43 = .ok (.bipush 57, 2) := by decide +kernel
theorem dX6_readWord_45 : decode cX6_readWord 45 = .ok (.invokestatic 96, 3) := by decide +kernel
theorem dX6_readWord_48 : decode cX6_readWord 48 = .ok (.ifCond .eq 26, 3) := by decide +kernel
theorem dX6_readWord_51 : decode cX6_readWord 51 = .ok (.aload_n 1, 1) := by decide +kernel
theorem dX6_readWord_52 : decode cX6_readWord 52 = .ok (.aload_n 0, 1) := by decide +kernel
theorem dX6_readWord_53 : decode cX6_readWord 53 = .ok (.getfield 18, 3) := by decide +kernel
theorem dX6_readWord_56 : decode cX6_readWord 56 = .ok (.invokevirtual 53, 3) := by decide +kernel
theorem dX6_readWord_59 : decode cX6_readWord 59 = .ok (.bipush 48, 2) := by decide +kernel
theorem dX6_readWord_61 : decode cX6_readWord 61 = .ok (.isub, 1) := by decide +kernel
theorem dX6_readWord_62 : decode cX6_readWord 62 = .ok (.istore 4, 2) := by decide +kernel
theorem dX6_readWord_64 : decode cX6_readWord 64 = .ok (.aload_n 0, 1) := by decide +kernel
theorem dX6_readWord_65 : decode cX6_readWord 65 = .ok (.dup, 1) := by decide +kernel
theorem dX6_readWord_66 : decode cX6_readWord 66 = .ok (.getfield 18, 3) := by decide +kernel
theorem dX6_readWord_69 : decode cX6_readWord 69 = .ok (.iconst 1, 1) := by decide +kernel
theorem dX6_readWord_70 : decode cX6_readWord 70 = .ok (.iadd, 1) := by decide +kernel
theorem dX6_readWord_71 : decode cX6_readWord 71 = .ok (.putfield 18, 3) := by decide +kernel
theorem dX6_readWord_74 : decode cX6_readWord 74 = .ok (.aload_n 0, 1) := by decide +kernel
theorem dX6_readWord_75 : decode cX6_readWord 75 = .ok (.getfield 12, 3) := by decide +kernel
theorem dX6_readWord_78 : decode cX6_readWord 78 = .ok (.iload_n 2, 1) := by decide +kernel
theorem dX6_readWord_79 : decode cX6_readWord 79 = .ok (.iload_n 3, 1) := by decide +kernel
theorem dX6_readWord_80 : decode cX6_readWord 80 = .ok (.iload_n 2, 1) := by decide +kernel
theorem dX6_readWord_81 : decode cX6_readWord 81 = .ok (.isub, 1) := by decide +kernel
theorem dX6_readWord_82 : decode cX6_readWord 82 = .ok (.iload 4, 2) := by decide +kernel
theorem dX6_readWord_84 : decode cX6_readWord 84 = .ok (.invokevirtual 103, 3) := by decide +kernel
theorem dX6_readWord_87 : decode cX6_readWord 87 = .ok (.ireturn, 1) := by decide +kernel
theorem dX6_readBehindHeader_0 : decode cX6_readBehindHeader 0 = .ok (.aload_n 0, 1) := by decide +kernel
theorem dX6_readBehindHeader_1 : decode cX6_readBehindHeader 1 = .ok (.getfield 18, 3) := by decide +kernel
theorem dX6_readBehindHeader_4 : decode cX6_readBehindHeader 4 = .ok (.istore_n 2, 1) := by decide +kernel
theorem dX6_readBehindHeader_5 : decode cX6_readBehindHeader 5 = .ok (.aload_n 0, 1) := by decide +kernel
theorem dX6_readBehindHeader_6 : decode cX6_readBehindHeader 6 = .ok (.aload_n 1, 1) := by decide +kernel
theorem dX6_readBehindHeader_7 : decode cX6_readBehindHeader 7 = .ok (.aload_n 0, 1) := by decide +kernel
theorem dX6_readBehindHeader_8 : decode cX6_readBehindHeader 8 = .ok (.getfield 18, 3) := by decide +kernel
theorem dX6_readBehindHeader_11 : decode cX6_readBehindHeader 11 = .ok (.invokevirtual 63, 3) := by decide +kernel
theorem dX6_readBehindHeader_14 : decode cX6_readBehindHeader 14 = .ok (.putfield 18, 3) := by decide +kernel
theorem dX6_readBehindHeader_17 : decode cX6_readBehindHeader 17 = .ok (.aload_n 0, 1) := by decide +kernel
theorem dX6_readBehindHeader_18 : decode cX6_readBehindHeader 18 = .ok (.aload_n 0, 1) := by decide +kernel
theorem dX6_readBehindHeader_19 : decode cX6_readBehindHeader 19 = .ok (.aload_n 1, 1) := by decide +kernel
theorem dX6_readBehindHeader_20 : decode cX6_readBehindHeader 20 = .ok (.invokevirtual 106, 3) := by decide +kernel
theorem dX6_readBehindHeader_23 : decode cX6_readBehindHeader 23 = .ok (.ifCond .ne 7, 3) := by decide +kernel
theorem dX6_readBehindHeader_26 : decode cX6_readBehindHeader 26 = .ok (.iconst 1, 1) := by decide +kernel
theorem dX6_readBehindHeader_27 : decode cX6_readBehindHeader 27 = .ok (.goto 4, 3) := by decide +kernel
theorem dX6_readBehindHeader_30 : decode cX6_readBehindHeader 30 = .ok (.iconst 0, 1) := by decide +kernel
theorem dX6_readBehindHeader_31 : decode cX6_readBehindHeader 31 = .ok (.putfield 38, 3) := by decide +kernel
theorem dX6_readBehindHeader_34 : decode cX6_readBehindHeader 34 = .ok (.aload_n 0, 1) := by decide +kernel
theorem dX6_readBehindHeader_35 : decode cX6_readBehindHeader 35 = .ok (.getfield 38, 3) := by decide +kernel
theorem dX6_readBehindHeader_38 : decode cX6_readBehindHeader 38 = .ok (.ifCond .ne 5, 3) := by decide +kernel
theorem dX6_readBehindHeader_41 : decode cX6_readBehindHeader 41 = .ok (.iconst 1, 1) := by decide +kernel
theorem dX6_readBehindHeader_42 : decode cX6_readBehindHeader 42 = .ok (.ireturn, 1) := by decide +kernel
theorem dX6_readBehindHeader_43 : decode cX6_readBehindHeader 43 = .ok (.aload_n 0, 1) := by decide +kernel
theorem dX6_readBehindHeader_44 : decode cX6_readBehindHeader 44 = .ok (.getfield 18, 3) := by decide +kernel
theorem dX6_readBehindHeader_47 : decode cX6_readBehindHeader 47 = .ok (.iload_n 2, 1) := by decide +kernel
theorem dX6_readBehindHeader_48 : decode cX6_readBehindHeader 48 = .ok (.if_icmp .eq 11, 3) := by decide +kernel
theorem dX6_readBehindHeader_51 : decode cX6_readBehindHeader 51 = .ok (.aload_n 0, 1) := by decide +kernel
theorem dX6_readBehindHeader_52 : decode cX6_readBehindHeader 52 = .ok (.aload_n 1, 1) := by decide +kernel
theorem dX6_readBehindHeader_53 : decode cX6_readBehindHeader 53 = .ok (.invokevirtual 109, 3) := by decide +kernel
theorem dX6_readBehindHeader_56 : decode cX6_readBehindHeader 56 = .ok (.ifCond .ne 5, 3) := by decide +kernel
theorem dX6_readBehindHeader_59 : decode cX6_readBehindHeader 59 = .ok (.iconst 0, 1) := by decide +kernel
theorem dX6_readBehindHeader_60 : decode cX6_readBehindHeader 60 = .ok (.ireturn, 1) := by decide +kernel
theorem dX6_readBehindHeader_61 : decode cX6_readBehindHeader 61 = .ok (.aload_n 0, 1) := by decide +kernel
theorem dX6_readBehindHeader_62 : decode cX6_readBehindHeader 62 = .ok (.aload_n 1, 1) := by decide +kernel
theorem dX6_readBehindHeader_63 : decode cX6_readBehindHeader 63 = .ok (.aload_n 0, 1) := by decide +kernel
theorem dX6_readBehindHeader_64 : decode cX6_readBehindHeader 64 = .ok (.getfield 18, 3) := by decide +kernel
theorem dX6_readBehindHeader_67 : decode cX6_readBehindHeader 67 = .ok (.invokevirtual 63, 3) := by decide +kernel
theorem dX6_readBehindHeader_70 : decode cX6_readBehindHeader 70 = .ok (.putfield 18, 3) := by decide +kernel
theorem dX6_readBehindHeader_73 : decode cX6_readBehindHeader 73 = .ok (.aload_n 0, 1) := by decide +kernel
theorem dX6_readBehindHeader_74 : decode cX6_readBehindHeader 74 = .ok (.aload_n 1, 1) := by decide +kernel
theorem dX6_readBehindHeader_75 : decode cX6_readBehindHeader 75 = .ok (.invokevirtual 106, 3) := by decide +kernel
theorem dX6_readBehindHeader_78 : decode cX6_readBehindHeader 78 = .ok (.ireturn, 1) := by decide +kernel
theorem dX6_isUnitEnd_0 : decode cX6_isUnitEnd 0 = .ok (.aload_n 1, 1) := by decide +kernel
theorem dX6_isUnitEnd_1 : decode cX6_isUnitEnd 1 = .ok (.aload_n 0, 1) := by decide +kernel
theorem dX6_isUnitEnd_2 : decode cX6_isUnitEnd 2 = .ok (.getfield 18, 3) := by decide +kernel
theorem dX6_isUnitEnd_5 : decode cX6_isUnitEnd 5 = .ok (.invokevirtual 53, 3) := by decide +kernel
theorem dX6_isUnitEnd_8 : decode cX6_isUnitEnd 8 = .ok (.istore_n 2, 1) := by decide +kernel
theorem dX6_isUnitEnd_9 : decode cX6_isUnitEnd 9 = .ok (.iload_n 2, 1) := by decide +kernel
theorem dX6_isUnitEnd_10 : decode cX6_isUnitEnd 10 = .ok (.bipush 59, 2) := by decide +kernel
theorem dX6_isUnitEnd_12 : decode cX6_isUnitEnd 12 = .ok (.if_icmp .eq 8, 3) := by decide +kernel
theorem dX6_isUnitEnd_15 : decode cX6_isUnitEnd 15 = .ok (.iload_n 2, 1) := by decide +kernel
theorem dX6_isUnitEnd_16 : decode cX6_isUnitEnd 16 = .ok (.iconst (-1), 1) := by decide +kernel
theorem dX6_isUnitEnd_17 : decode cX6_isUnitEnd 17 = .ok (.if_icmp .ne 7, 3) := by decide +kernel
theorem dX6_isUnitEnd_20 : decode cX6_isUnitEnd 20 = .ok (.iconst 1, 1) := by decide +kernel
theorem dX6_isUnitEnd_21 : decode cX6_isUnitEnd 21 = .ok (.goto 4, 3) := by decide +kernel
theorem dX6_isUnitEnd_24 : decode cX6_isUnitEnd 24 = .ok (.iconst 0, 1) := by decide +kernel
theorem dX6_isUnitEnd_25 : decode cX6_isUnitEnd 25 = .ok (.ireturn, 1) := by decide +kernel
theorem dX6_readValue_0 : decode cX6_readValue 0 = .ok (.aload_n 1, 1) := by decide +kernel
theorem dX6_readValue_1 : decode cX6_readValue 1 = .ok (.aload_n 0, 1) := by decide +kernel
theorem dX6_readValue_2 : decode cX6_readValue 2 = .ok (.getfield 18, 3) := by decide +kernel
theorem dX6_readValue_5 : decode cX6_readValue 5 = .ok (.invokevirtual 53, 3) := by decide +kernel
theorem dX6_readValue_8 : decode cX6_readValue 8 = .ok (.invokestatic 112, 3) := by decide +kernel
theorem dX6_readValue_11 : decode cX6_readValue 11 = .ok (.ifCond .eq 11, 3) := by decide +kernel
theorem dX6_readValue_14 : decode cX6_readValue 14 = .ok (.aload_n 0, 1) := by decide +kernel
theorem dX6_readValue_15 : decode cX6_readValue 15 = .ok (.aload_n 1, 1) := by decide +kernel
theorem dX6_readValue_16 : decode cX6_readValue 16 = .ok (.invokevirtual 116, 3) := by decide +kernel
theorem dX6_readValue_19 : decode cX6_readValue 19 = .ok (.goto 8, 3) := by decide +kernel
theorem dX6_readValue_22 : decode cX6_readValue 22 = .ok (.aload_n 0, 1) := by decide +kernel
theorem dX6_readValue_23 : decode cX6_readValue 23 = .ok (.aload_n 1, 1) := by decide +kernel
theorem dX6_readValue_24 : decode cX6_readValue 24 = .ok (.invokevirtual 119, 3) := by decide +kernel
theorem dX6_readValue_27 : decode cX6_readValue 27 = .ok (.ireturn, 1) := by decide +kernel
theorem dX6_readSwitch_0 : decode cX6_readSwitch 0 = .ok (.aload_n 0, 1) := by decide +kernel
theorem dX6_readSwitch_1 : decode cX6_readSwitch 1 = .ok (.getfield 18, 3) := by decide +kernel
theorem dX6_readSwitch_4 : decode cX6_readSwitch 4 = .ok (.istore_n 2, 1) := by decide +kernel
theorem dX6_readSwitch_5 : decode cX6_readSwitch 5 = .ok (.aload_n 0, 1) := by decide +kernel
theorem dX6_readSwitch_6 : decode cX6_readSwitch 6 = .ok (.aload_n 1, 1) := by decide +kernel
theorem dX6_readSwitch_7 : decode cX6_readSwitch 7 = .ok (.iload_n 2, 1) := by decide +kernel
theorem dX6_readSwitch_8 : decode cX6_readSwitch 8 = .ok (.invokevirtual 93, 3) := by decide +kernel
theorem dX6_readSwitch_11 : decode cX6_readSwitch 11 = .ok (.putfield 18, 3) := by decide +kernel
theorem dX6_readSwitch_14 : decode cX6_readSwitch 14 = .ok (.aload_n 1, 1) := by decide +kernel
theorem dX6_readSwitch_15 : decode cX6_readSwitch 15 = .ok (.iload_n 2, 1) := by decide +kernel
theorem dX6_readSwitch_16 : decode cX6_readSwitch 16 = .ok (.aload_n 0, 1) := by decide +kernel
theorem dX6_readSwitch_17 : decode cX6_readSwitch 17 = .ok (.getfield 18, 3) := by decide +kernel
theorem dX6_readSwitch_20 : decode cX6_readSwitch 20 = .ok (.ldc 122, 2) := by decide +kernel
theorem dX6_readSwitch_22 : decode cX6_readSwitch 22 = .ok (.invokevirtual 77, 3) := by decide +kernel
theorem dX6_readSwitch_25 : decode cX6_readSwitch 25 = .ok (.istore_n 3, 1) := by decide +kernel
theorem dX6_readSwitch_26 : decode cX6_readSwitch 26 = .ok (.aload_n 0, 1) := by decide +kernel
theorem dX6_readSwitch_27 : decode cX6_readSwitch 27 = .ok (.iload_n 3, 1) := by decide +kernel
theorem dX6_readSwitch_28 : decode cX6_readSwitch 28 = .ok (.ifCond .eq 7, 3) := by decide +kernel
theorem dX6_readSwitch_31 : decode cX6_readSwitch 31 = .ok (.iconst 1, 1) := by decide +kernel
theorem dX6_readSwitch_32 : decode cX6_readSwitch 32 = .ok (.goto 4, 3) := by decide +kernel
theorem dX6_readSwitch_35 : decode cX6_readSwitch 35 = .ok (.iconst 0, 1) := by decide +kernel
theorem dX6_readSwitch_36 : decode cX6_readSwitch 36 = .ok (.putfield 41, 3) := by decide +kernel
theorem dX6_readSwitch_39 : decode cX6_readSwitch 39 = .ok (.iload_n 3, 1) := by decide +kernel
theorem dX6_readSwitch_40 : decode cX6_readSwitch 40 = .ok (.ifCond .ne 17, 3) := by decide +kernel
theorem dX6_readSwitch_43 : decode cX6_readSwitch 43 = .ok (.aload_n 1, 1) := by decide +kernel
theorem dX6_readSwitch_44 : decode cX6_readSwitch 44 = .ok (.iload_n 2, 1) := by decide +kernel
theorem dX6_readSwitch_45 : decode cX6_readSwitch 45 = .ok (.aload_n 0, 1) := by decide +kernel
theorem dX6_readSwitch_46 : decode cX6_readSwitch 46 = .ok (.getfield 18, 3) := by decide +kernel
theorem dX6_readSwitch_49 : decode cX6_readSwitch 49 = .ok (.ldc 124, 2) := by decide +kernel
theorem dX6_readSwitch_51 : decode cX6_readSwitch 51 = .ok (.invokevirtual 77, 3) := by decide +kernel
theorem dX6_readSwitch_54 : decode cX6_readSwitch 54 = .ok (.ifCond .eq 7, 3) := by decide +kernel
theorem dX6_readSwitch_57 : decode cX6_readSwitch 57 = .ok (.iconst 1, 1) := by decide +kernel
theorem dX6_readSwitch_58 : decode cX6_readSwitch 58 = .ok (.goto 4, 3) := by decide +kernel
theorem dX6_readSwitch_61 : decode cX6_readSwitch 61 = .ok (.iconst 0, 1) := by decide +kernel
theorem dX6_readSwitch_62 : decode cX6_readSwitch 62 = .ok (.ireturn, 1) := by decide +kernel
theorem dX6_readNumber_0 : decode cX6_readNumber 0 = .ok (.aload_n 1, 1) := by decide +kernel
theorem dX6_readNumber_1 : decode cX6_readNumber 1 = .ok (.aload_n 0, 1) := by decide +kernel
theorem dX6_readNumber_2 : decode cX6_readNumber 2 = .ok (.getfield 18, 3) := by decide +kernel
theorem dX6_readNumber_5 : decode cX6_readNumber 5 = .ok (.invokevirtual 53, 3) := by decide +kernel
theorem dX6_readNumber_8 : decode cX6_readNumber 8 = .ok (.istore_n 2, 1) := by decide +kernel
theorem dX6_readNumber_9 : decode cX6_readNumber 9 = .ok (.iload_n 2, 1) := by decide +kernel
theorem dX6_readNumber_10 : decode cX6_readNumber 10 = .ok (.bipush 43, 2) := by decide +kernel
theorem dX6_readNumber_12 : decode cX6_readNumber 12 = .ok (.if_icmp .eq 9, 3) := by decide +kernel
theorem dX6_readNumber_15 : decode cX6_readNumber 15 = .ok (.iload_n 2, 1) := by decide +kernel
theorem dX6_readNumber_16 : decode cX6_readNumber 16 = .ok (.bipush 45, 2) := by decide +kernel
theorem dX6_readNumber_18 : decode cX6_readNumber 18 = .ok (.if_icmp .ne 13, 3) := by decide +kernel
theorem dX6_readNumber_21 : decode cX6_readNumber 21 = .ok (.aload_n 0, 1) := by decide +kernel
theorem dX6_readNumber_22 : decode cX6_readNumber 22 = .ok (.dup, 1) := by decide +kernel
theorem dX6_readNumber_23 : decode cX6_readNumber 23 = .ok (.getfield 18, 3) := by decide +kernel
theorem dX6_readNumber_26 : decode cX6_readNumber 26 = .ok (.iconst 1, 1) := by decide +kernel
theorem dX6_readNumber_27 : decode cX6_readNumber 27 = .ok (.iadd, 1) := by decide +kernel
theorem dX6_readNumber_28 : decode cX6_readNumber 28 = .ok (.putfield 18, 3) := by decide +kernel
theorem dX6_readNumber_31 : decode cX6_readNumber 31 = .ok (.iconst 0, 1) := by decide +kernel
theorem dX6_readNumber_32 : decode cX6_readNumber 32 = .ok (.istore_n 3, 1) := by decide +kernel
theorem dX6_readNumber_33 : decode cX6_readNumber 33 = .ok (.iconst 0, 1) := by decide +kernel
theorem dX6_readNumber_34 : decode cX6_readNumber 34 = .ok (.istore 4, 2) := by decide +kernel
theorem dX6_readNumber_36 : decode cX6_readNumber 36 = .ok (.iload 4, 2) := by decide +kernel
theorem dX6_readNumber_38 : decode cX6_readNumber 38 = .ok (.bipush 6, 2) := by decide +kernel
theorem dX6_readNumber_40 : decode cX6_readNumber 40 = .ok (.if_icmp .ge 50, 3) := by decide +kernel
theorem dX6_readNumber_43 : decode cX6_readNumber 43 = .ok (.aload_n 1, 1) := by decide +kernel
theorem dX6_readNumber_44 : decode cX6_readNumber 44 = .ok (.aload_n 0, 1) := by decide +kernel
theorem dX6_readNumber_45 : decode cX6_readNumber 45 = .ok (.getfield 18, 3) := by decide +kernel
theorem dX6_readNumber_48 : decode cX6_readNumber 48 = .ok (.invokevirtual 53, 3) := by decide +kernel
theorem dX6_readNumber_51 : decode cX6_readNumber 51 = .ok (.invokestatic 126, 3) := by decide +kernel
theorem dX6_readNumber_54 : decode cX6_readNumber 54 = .ok (.ifCond .eq 36, 3) := by decide +kernel
theorem dX6_readNumber_57 : decode cX6_readNumber 57 = .ok (.bipush 10, 2) := by decide +kernel
theorem dX6_readNumber_59 : decode cX6_readNumber 59 = .ok (.iload_n 3, 1) := by decide +kernel
theorem dX6_readNumber_60 : decode cX6_readNumber 60 = .ok (.imul, 1) := by decide +kernel
theorem dX6_readNumber_61 : decode cX6_readNumber 61 = .ok (.aload_n 1, 1) := by decide +kernel
theorem dX6_readNumber_62 : decode cX6_readNumber 62 = .ok (.aload_n 0, 1) := by decide +kernel
theorem dX6_readNumber_63 : decode cX6_readNumber 63 = .ok (.getfield 18, 3) := by decide +kernel
theorem dX6_readNumber_66 : decode cX6_readNumber 66 = .ok (.invokevirtual 53, 3) := by decide +kernel
theorem dX6_readNumber_69 : decode cX6_readNumber 69 = .ok (.iadd, 1) := by decide +kernel
theorem dX6_readNumber_70 : decode cX6_readNumber 70 = .ok (.bipush 48, 2) := by decide +kernel
theorem dX6_readNumber_72 : decode cX6_readNumber 72 = .ok (.isub, 1) := by decide +kernel
theorem dX6_readNumber_73 : decode cX6_readNumber 73 = .ok (.istore_n 3, 1) := by decide +kernel
theorem dX6_readNumber_74 : decode cX6_readNumber 74 = .ok (.iinc 4 1, 3) := by decide +kernel
theorem dX6_readNumber_77 : decode cX6_readNumber 77 = .ok (.aload_n 0, 1) := by decide +kernel
theorem dX6_readNumber_78 : decode cX6_readNumber 78 = .ok (.dup, 1) := by decide +kernel
theorem dX6_readNumber_79 : decode cX6_readNumber 79 = .ok (.getfield 18, 3) := by decide +kernel
theorem dX6_readNumber_82 : decode cX6_readNumber 82 = .ok (.iconst 1, 1) := by decide +kernel
theorem dX6_readNumber_83 : decode cX6_readNumber 83 = .ok (.iadd, 1) := by decide +kernel
theorem dX6_readNumber_84 : decode cX6_readNumber 84 = .ok (.putfield 18, 3) := by decide +kernel
theorem dX6_readNumber_87 : decode cX6_readNumber 87 = .ok (.goto (-51), 3) := by decide +kernel
theorem dX6_readNumber_90 : decode cX6_readNumber 90 = .ok (.aload_n 1, 1) := by decide +kernel
theorem dX6_readNumber_91 : decode cX6_readNumber 91 = .ok (.aload_n 0, 1) := by decide +kernel
theorem dX6_readNumber_92 : decode cX6_readNumber 92 = .ok (.getfield 18, 3) := by decide +kernel
theorem dX6_readNumber_95 : decode cX6_readNumber 95 = .ok (.invokevirtual 129, 3) := by decide +kernel
theorem dX6_readNumber_98 : decode cX6_readNumber 98 = .ok (.bipush 75, 2) := by decide +kernel
theorem dX6_readNumber_100 : decode cX6_readNumber 100 = .ok (.if_icmp .ne 19, 3) := by decide +kernel
theorem dX6_readNumber_103 : decode cX6_readNumber 103 = .ok (.sipush 1000, 3) := by decide +kernel
theorem dX6_readNumber_106 : decode cX6_readNumber 106 = .ok (.iload_n 3, 1) := by decide +kernel
theorem dX6_readNumber_107 : decode cX6_readNumber 107 = .ok (.imul, 1) := by decide +kernel
theorem dX6_readNumber_108 : decode cX6_readNumber 108 = .ok (.istore_n 3, 1) := by decide +kernel
theorem dX6_readNumber_109 : decode cX6_readNumber 109 = .ok (.aload_n 0, 1) := by decide +kernel
theorem dX6_readNumber_110 : decode cX6_readNumber 110 = .ok (.dup, 1) := by decide +kernel
theorem dX6_readNumber_111 : decode cX6_readNumber 111 = .ok (.getfield 18, 3) := by decide +kernel
theorem dX6_readNumber_114 : decode cX6_readNumber 114 = .ok (.iconst 1, 1) := by decide +kernel
theorem dX6_readNumber_115 : decode cX6_readNumber 115 = .ok (.iadd, 1) := by decide +kernel
theorem dX6_readNumber_116 : decode cX6_readNumber 116 = .ok (.putfield 18, 3) := by decide +kernel
theorem dX6_readNumber_119 : decode cX6_readNumber 119 = .ok (.aload_n 0, 1) := by decide +kernel
theorem dX6_readNumber_120 : decode cX6_readNumber 120 = .ok (.iload_n 2, 1) := by decide +kernel
theorem dX6_readNumber_121 : decode cX6_readNumber 121 = .ok (.bipush 45, 2) := by decide +kernel
theorem dX6_readNumber_123 : decode cX6_readNumber 123 = .ok (.if_icmp .ne 8, 3) := by decide +kernel
theorem dX6_readNumber_126 : decode cX6_readNumber 126 = .ok (.iload_n 3, 1) := by decide +kernel
theorem dX6_readNumber_127 : decode cX6_readNumber 127 = .ok (.ineg, 1) := by decide +kernel
theorem dX6_readNumber_128 : decode cX6_readNumber 128 = .ok (.goto 4, 3) := by decide +kernel
theorem dX6_readNumber_131 : decode cX6_readNumber 131 = .ok (.iload_n 3, 1) := by decide +kernel
theorem dX6_readNumber_132 : decode cX6_readNumber 132 = .ok (.putfield 41, 3) := by decide +kernel
theorem dX6_readNumber_135 : decode cX6_readNumber 135 = .ok (.iload 4, 2) := by decide +kernel
theorem dX6_readNumber_137 : decode cX6_readNumber 137 = .ok (.ifCond .le 7, 3) := by decide +kernel
theorem dX6_readNumber_140 : decode cX6_readNumber 140 = .ok (.iconst 1, 1) := by decide +kernel
theorem dX6_readNumber_141 : decode cX6_readNumber 141 = .ok (.goto 4, 3) := by decide +kernel
theorem dX6_readNumber_144 : decode cX6_readNumber 144 = .ok (.iconst 0, 1) := by decide +kernel
theorem dX6_readNumber_145 : decode cX6_readNumber 145 = .ok (.ireturn, 1) := by decide +kernel
theorem dX7_init_0 : decode cX7_init 0 = .ok (.aload_n 0, 1) := by decide +kernel
theorem dX7_init_1 : decode cX7_init 1 = .ok (.invokespecial 3, 3) := by decide +kernel
theorem dX7_init_4 : decode cX7_init 4 = .ok (.aload_n 0, 1) := by decide +kernel
theorem dX7_init_5 : decode cX7_init 5 = .ok (.bipush 6, 2) := by decide +kernel
theorem dX7_init_7 : decode cX7_init 7 = .ok (.newarray .int, 2) := by decide +kernel
theorem dX7_init_9 : decode cX7_init 9 = .ok (.putfield 9, 3) := by decide +kernel
theorem dX7_init_12 : decode cX7_init 12 = .ok (.aload_n 0, 1) := by decide +kernel
theorem dX7_init_13 : decode cX7_init 13 = .ok (.bipush 6, 2) := by decide +kernel
theorem dX7_init_15 : decode cX7_init 15 = .ok (.newarray .int, 2) := by decide +kernel
theorem dX7_init_17 : decode cX7_init 17 = .ok (.putfield 15, 3) := by decide +kernel
theorem dX7_init_20 : decode cX7_init 20 = .ok (.aload_n 0, 1) := by decide +kernel
theorem dX7_init_21 : decode cX7_init 21 = .ok (.bipush 6, 2) := by decide +kernel
theorem dX7_init_23 : decode cX7_init 23 = .ok (.newarray .int, 2) := by decide +kernel
theorem dX7_init_25 : decode cX7_init 25 = .ok (.putfield 18, 3) := by decide +kernel
theorem dX7_init_28 : decode cX7_init 28 = .ok (.aload_n 0, 1) := by decide +kernel
theorem dX7_init_29 : decode cX7_init 29 = .ok (.iconst 0, 1) := by decide +kernel
theorem dX7_init_30 : decode cX7_init 30 = .ok (.putfield 21, 3) := by decide +kernel
theorem dX7_init_33 : decode cX7_init 33 = .ok (.return_, 1) := by decide +kernel
theorem dX7_add_0 : decode cX7_add 0 = .ok (.aload_n 0, 1) := by decide +kernel
theorem dX7_add_1 : decode cX7_add 1 = .ok (.getfield 21, 3) := by decide +kernel
theorem dX7_add_4 : decode cX7_add 4 = .ok (.ifCond .lt 12, 3) := by decide +kernel
theorem dX7_add_7 : decode cX7_add 7 = .ok (.aload_n 0, 1) := by decide +kernel
theorem dX7_add_8 : decode cX7_add 8 = .ok (.getfield 21, 3) := by decide +kernel
theorem dX7_add_11 : decode cX7_add 11 = .ok (.bipush 6, 2) := by decide +kernel
theorem dX7_add_13 : decode cX7_add 13 = .ok (.if_icmp .lt 5, 3) := by decide +kernel
theorem dX7_add_16 : decode cX7_add 16 = .ok (.iconst 0, 1) := by decide +kernel
theorem dX7_add_17 : decode cX7_add 17 = .ok (.ireturn, 1) := by decide +kernel
theorem dX7_add_18 : decode cX7_add 18 = .ok (.aload_n 0, 1) := by decide +kernel
theorem dX7_add_19 : decode cX7_add 19 = .ok (.getfield 9, 3) := by decide +kernel
theorem dX7_add_22 : decode cX7_add 22 = .ok (.aload_n 0, 1) := by decide +kernel
theorem dX7_add_23 : decode cX7_add 23 = .ok (.getfield 21, 3) := by decide +kernel
theorem dX7_add_26 : decode cX7_add 26 = .ok (.iload_n 1, 1) := by decide +kernel
theorem dX7_add_27 : decode cX7_add 27 = .ok (.iastore, 1) := by decide +kernel
theorem dX7_add_28 : decode cX7_add 28 = .ok (.aload_n 0, 1) := by decide +kernel
theorem dX7_add_29 : decode cX7_add 29 = .ok (.getfield 15, 3) := by decide +kernel
theorem dX7_add_32 : decode cX7_add 32 = .ok (.aload_n 0, 1) := by decide +kernel
theorem dX7_add_33 : decode cX7_add 33 = .ok (.getfield 21, 3) := by decide +kernel
theorem dX7_add_36 : decode cX7_add 36 = .ok (.iload_n 2, 1) := by decide +kernel
theorem dX7_add_37 : decode cX7_add 37 = .ok (.iastore, 1) := by decide +kernel
theorem dX7_add_38 : decode cX7_add 38 = .ok (.aload_n 0, 1) := by decide +kernel
theorem dX7_add_39 : decode cX7_add 39 = .ok (.getfield 18, 3) := by decide +kernel
theorem dX7_add_42 : decode cX7_add 42 = .ok (.aload_n 0, 1) := by decide +kernel
theorem dX7_add_43 : decode cX7_add 43 = .ok (.getfield 21, 3) := by decide +kernel
theorem dX7_add_46 : decode cX7_add 46 = .ok (.iload_n 3, 1) := by decide +kernel
theorem dX7_add_47 : decode cX7_add 47 = .ok (.iastore, 1) := by decide +kernel
theorem dX7_add_48 : decode cX7_add 48 = .ok (.aload_n 0, 1) := by decide +kernel
theorem dX7_add_49 : decode cX7_add 49 = .ok (.dup, 1) := by decide +kernel
theorem dX7_add_50 : decode cX7_add 50 = .ok (.getfield 21, 3) := by decide +kernel
theorem dX7_add_53 : decode cX7_add 53 = .ok (.iconst 1, 1) := by decide +kernel
theorem dX7_add_54 : decode cX7_add 54 = .ok (.iadd, 1) := by decide +kernel
theorem dX7_add_55 : decode cX7_add 55 = .ok (.putfield 21, 3) := by decide +kernel
theorem dX7_add_58 : decode cX7_add 58 = .ok (.iconst 1, 1) := by decide +kernel
theorem dX7_add_59 : decode cX7_add 59 = .ok (.ireturn, 1) := by decide +kernel
theorem dX8_init_0 : decode cX8_init 0 = .ok (.aload_n 0, 1) := by decide +kernel
theorem dX8_init_1 : decode cX8_init 1 = .ok (.invokespecial 1, 3) := by decide +kernel
theorem dX8_init_4 : decode cX8_init 4 = .ok (.aload_n 0, 1) := by decide +kernel
theorem dX8_init_5 : decode cX8_init 5 = .ok (.iconst 0, 1) := by decide +kernel
theorem dX8_init_6 : decode cX8_init 6 = .ok (.putfield 7, 3) := by decide +kernel
theorem dX8_init_9 : decode cX8_init 9 = .ok (.aload_n 0, 1) := by decide +kernel
theorem dX8_init_10 : decode cX8_init 10 = .ok (.iconst 0, 1) := by decide +kernel
theorem dX8_init_11 : decode cX8_init 11 = .ok (.putfield 13, 3) := by decide +kernel
theorem dX8_init_14 : decode cX8_init 14 = .ok (.aload_n 0, 1) := by decide +kernel
theorem dX8_init_15 : decode cX8_init 15 = .ok (.iconst 0, 1) := by decide +kernel
theorem dX8_init_16 : decode cX8_init 16 = .ok (.putfield 16, 3) := by decide +kernel
theorem dX8_init_19 : decode cX8_init 19 = .ok (.aload_n 0, 1) := by decide +kernel
theorem dX8_init_20 : decode cX8_init 20 = .ok (.new 19, 3) := by decide +kernel
theorem dX8_init_23 : decode cX8_init 23 = .ok (.dup, 1) := by decide +kernel
theorem dX8_init_24 : decode cX8_init 24 = .ok (.invokespecial 21, 3) := by decide +kernel
theorem dX8_init_27 : decode cX8_init 27 = .ok (.putfield 22, 3) := by decide +kernel
theorem dX8_init_30 : decode cX8_init 30 = .ok (.aload_n 0, 1) := by decide +kernel
theorem dX8_init_31 : decode cX8_init 31 = .ok (.new 26, 3) := by decide +kernel
theorem dX8_init_34 : decode cX8_init 34 = .ok (.dup, 1) := by decide +kernel
theorem dX8_init_35 : decode cX8_init 35 = .ok (.invokespecial 28, 3) := by decide +kernel
theorem dX8_init_38 : decode cX8_init 38 = .ok (.putfield 29, 3) := by decide +kernel
theorem dX8_init_41 : decode cX8_init 41 = .ok (.aload_n 0, 1) := by decide +kernel
theorem dX8_init_42 : decode cX8_init 42 = .ok (.new 33, 3) := by decide +kernel
theorem dX8_init_45 : decode cX8_init 45 = .ok (.dup, 1) := by decide +kernel
theorem dX8_init_46 : decode cX8_init 46 = .ok (.invokespecial 35, 3) := by decide +kernel
theorem dX8_init_49 : decode cX8_init 49 = .ok (.putfield 36, 3) := by decide +kernel
theorem dX8_init_52 : decode cX8_init 52 = .ok (.aload_n 0, 1) := by decide +kernel
theorem dX8_init_53 : decode cX8_init 53 = .ok (.new 40, 3) := by decide +kernel
theorem dX8_init_56 : decode cX8_init 56 = .ok (.dup, 1) := by decide +kernel
theorem dX8_init_57 : decode cX8_init 57 = .ok (.invokespecial 42, 3) := by decide +kernel
theorem dX8_init_60 : decode cX8_init 60 = .ok (.putfield 43, 3) := by decide +kernel
theorem dX8_init_63 : decode cX8_init 63 = .ok (.aload_n 0, 1) := by decide +kernel
theorem dX8_init_64 : decode cX8_init 64 = .ok (.new 47, 3) := by decide +kernel
theorem dX8_init_67 : decode cX8_init 67 = .ok (.dup, 1) := by decide +kernel
theorem dX8_init_68 : decode cX8_init 68 = .ok (.invokespecial 49, 3) := by decide +kernel
theorem dX8_init_71 : decode cX8_init 71 = .ok (.putfield 50, 3) := by decide +kernel
theorem dX8_init_74 : decode cX8_init 74 = .ok (.return_, 1) := by decide +kernel
theorem dX8_node_0 : decode cX8_node 0 = .ok (.aload_n 0, 1) := by decide +kernel
theorem dX8_node_1 : decode cX8_node 1 = .ok (.iload_n 1, 1) := by decide +kernel
theorem dX8_node_2 : decode cX8_node 2 = .ok (.invokevirtual 54, 3) := by decide +kernel
theorem dX8_node_5 : decode cX8_node 5 = .ok (.ifCond .eq 31, 3) := by decide +kernel
theorem dX8_node_8 : decode cX8_node 8 = .ok (.iload_n 2, 1) := by decide +kernel
theorem dX8_node_9 : decode cX8_node 9 = .ok (.iconst 0, 1) := by decide +kernel
theorem dX8_node_10 : decode cX8_node 10 = .ok (.iconst 3, 1) := by decide +kernel
theorem dX8_node_11 : decode cX8_node 11 = .ok (.invokestatic 58, 3) := by decide +kernel
theorem dX8_node_14 : decode cX8_node 14 = .ok (.ifCond .eq 22, 3) := by decide +kernel
theorem dX8_node_17 : decode cX8_node 17 = .ok (.iload_n 3, 1) := by decide +kernel
theorem dX8_node_18 : decode cX8_node 18 = .ok (.iconst 0, 1) := by decide +kernel
theorem dX8_node_19 : decode cX8_node 19 = .ok (.iconst 3, 1) := by decide +kernel
theorem dX8_node_20 : decode cX8_node 20 = .ok (.invokestatic 58, 3) := by decide +kernel
theorem dX8_node_23 : decode cX8_node 23 = .ok (.ifCond .eq 13, 3) := by decide +kernel
theorem dX8_node_26 : decode cX8_node 26 = .ok (.iload 4, 2) := by decide +kernel
theorem dX8_node_28 : decode cX8_node 28 = .ok (.iconst 0, 1) := by decide +kernel
theorem dX8_node_29 : decode cX8_node 29 = .ok (.iconst 1, 1) := by decide +kernel
theorem dX8_node_30 : decode cX8_node 30 = .ok (.invokestatic 58, 3) := by decide +kernel
theorem dX8_node_33 : decode cX8_node 33 = .ok (.ifCond .ne 11, 3) := by decide +kernel
theorem dX8_node_36 : decode cX8_node 36 = .ok (.aload_n 0, 1) := by decide +kernel
theorem dX8_node_37 : decode cX8_node 37 = .ok (.sipush (-10002), 3) := by decide +kernel
theorem dX8_node_40 : decode cX8_node 40 = .ok (.invokevirtual 62, 3) := by decide +kernel
theorem dX8_node_43 : decode cX8_node 43 = .ok (.ireturn, 1) := by decide +kernel
theorem dX8_node_44 : decode cX8_node 44 = .ok (.aload_n 0, 1) := by decide +kernel
theorem dX8_node_45 : decode cX8_node 45 = .ok (.getfield 22, 3) := by decide +kernel
theorem dX8_node_48 : decode cX8_node 48 = .ok (.invokevirtual 66, 3) := by decide +kernel
theorem dX8_node_51 : decode cX8_node 51 = .ok (.ifCond .ne 11, 3) := by decide +kernel
theorem dX8_node_54 : decode cX8_node 54 = .ok (.aload_n 0, 1) := by decide +kernel
theorem dX8_node_55 : decode cX8_node 55 = .ok (.sipush (-10003), 3) := by decide +kernel
theorem dX8_node_58 : decode cX8_node 58 = .ok (.invokevirtual 62, 3) := by decide +kernel
theorem dX8_node_61 : decode cX8_node 61 = .ok (.ireturn, 1) := by decide +kernel
theorem dX8_node_62 : decode cX8_node 62 = .ok (.aload_n 0, 1) := by decide +kernel
theorem dX8_node_63 : decode cX8_node 63 = .ok (.getfield 43, 3) := by decide +kernel
theorem dX8_node_66 : decode cX8_node 66 = .ok (.getfield 70, 3) := by decide +kernel
theorem dX8_node_69 : decode cX8_node 69 = .ok (.bipush 16, 2) := by decide +kernel
theorem dX8_node_71 : decode cX8_node 71 = .ok (.if_icmp .lt 11, 3) := by decide +kernel
theorem dX8_node_74 : decode cX8_node 74 = .ok (.aload_n 0, 1) := by decide +kernel
theorem dX8_node_75 : decode cX8_node 75 = .ok (.sipush (-10004), 3) := by decide +kernel
theorem dX8_node_78 : decode cX8_node 78 = .ok (.invokevirtual 62, 3) := by decide +kernel
theorem dX8_node_81 : decode cX8_node 81 = .ok (.ireturn, 1) := by decide +kernel
theorem dX8_node_82 : decode cX8_node 82 = .ok (.aload_n 0, 1) := by decide +kernel
theorem dX8_node_83 : decode cX8_node 83 = .ok (.getfield 50, 3) := by decide +kernel
theorem dX8_node_86 : decode cX8_node 86 = .ok (.aload_n 0, 1) := by decide +kernel
theorem dX8_node_87 : decode cX8_node 87 = .ok (.getfield 43, 3) := by decide +kernel
theorem dX8_node_90 : decode cX8_node 90 = .ok (.invokevirtual 73, 3) := by decide +kernel
theorem dX8_node_93 : decode cX8_node 93 = .ok (.aload_n 0, 1) := by decide +kernel
theorem dX8_node_94 : decode cX8_node 94 = .ok (.getfield 43, 3) := by decide +kernel
theorem dX8_node_97 : decode cX8_node 97 = .ok (.getfield 70, 3) := by decide +kernel
theorem dX8_node_100 : decode cX8_node 100 = .ok (.istore 5, 2) := by decide +kernel
theorem dX8_node_102 : decode cX8_node 102 = .ok (.aload_n 0, 1) := by decide +kernel
theorem dX8_node_103 : decode cX8_node 103 = .ok (.getfield 29, 3) := by decide +kernel
theorem dX8_node_106 : decode cX8_node 106 = .ok (.getfield 77, 3) := by decide +kernel
theorem dX8_node_109 : decode cX8_node 109 = .ok (.iload 5, 2) := by decide +kernel
theorem dX8_node_111 : decode cX8_node 111 = .ok (.aaload, 1) := by decide +kernel
theorem dX8_node_112 : decode cX8_node 112 = .ok (.astore 6, 2) := by decide +kernel
theorem dX8_node_114 : decode cX8_node 114 = .ok (.aload 6, 2) := by decide +kernel
theorem dX8_node_116 : decode cX8_node 116 = .ok (.iload_n 1, 1) := by decide +kernel
theorem dX8_node_117 : decode cX8_node 117 = .ok (.putfield 80, 3) := by decide +kernel
theorem dX8_node_120 : decode cX8_node 120 = .ok (.aload 6, 2) := by decide +kernel
theorem dX8_node_122 : decode cX8_node 122 = .ok (.iload_n 2, 1) := by decide +kernel
theorem dX8_node_123 : decode cX8_node 123 = .ok (.putfield 85, 3) := by decide +kernel
theorem dX8_node_126 : decode cX8_node 126 = .ok (.aload 6, 2) := by decide +kernel
theorem dX8_node_128 : decode cX8_node 128 = .ok (.iload_n 3, 1) := by decide +kernel
theorem dX8_node_129 : decode cX8_node 129 = .ok (.putfield 88, 3) := by decide +kernel
theorem dX8_node_132 : decode cX8_node 132 = .ok (.aload 6, 2) := by decide +kernel
theorem dX8_node_134 : decode cX8_node 134 = .ok (.iload 4, 2) := by decide +kernel
theorem dX8_node_136 : decode cX8_node 136 = .ok (.putfield 91, 3) := by decide +kernel
theorem dX8_node_139 : decode cX8_node 139 = .ok (.aload 6, 2) := by decide +kernel
theorem dX8_node_141 : decode cX8_node 141 = .ok (.aload_n 0, 1) := by decide +kernel
theorem dX8_node_142 : decode cX8_node 142 = .ok (.getfield 22, 3) := by decide +kernel
theorem dX8_node_145 : decode cX8_node 145 = .ok (.invokevirtual 94, 3) := by decide +kernel
theorem dX8_node_148 : decode cX8_node 148 = .ok (.aload_n 0, 1) := by decide +kernel
theorem dX8_node_149 : decode cX8_node 149 = .ok (.getfield 43, 3) := by decide +kernel
theorem dX8_node_152 : decode cX8_node 152 = .ok (.iload_n 2, 1) := by decide +kernel
theorem dX8_node_153 : decode cX8_node 153 = .ok (.iconst 1, 1) := by decide +kernel
theorem dX8_node_154 : decode cX8_node 154 = .ok (.if_icmp .ne 9, 3) := by decide +kernel
theorem dX8_node_157 : decode cX8_node 157 = .ok (.sipush 9999, 3) := by decide +kernel
theorem dX8_node_160 : decode cX8_node 160 = .ok (.goto 4, 3) := by decide +kernel
theorem dX8_node_163 : decode cX8_node 163 = .ok (.iconst 0, 1) := by decide +kernel
theorem dX8_node_164 : decode cX8_node 164 = .ok (.invokevirtual 98, 3) := by decide +kernel
theorem dX8_node_167 : decode cX8_node 167 = .ok (.iload 5, 2) := by decide +kernel
theorem dX8_node_169 : decode cX8_node 169 = .ok (.ireturn, 1) := by decide +kernel
theorem dX8_range_0 : decode cX8_range 0 = .ok (.aload_n 0, 1) := by decide +kernel
theorem dX8_range_1 : decode cX8_range 1 = .ok (.iload_n 1, 1) := by decide +kernel
theorem dX8_range_2 : decode cX8_range 2 = .ok (.invokevirtual 102, 3) := by decide +kernel
theorem dX8_range_5 : decode cX8_range 5 = .ok (.ifCond .eq 27, 3) := by decide +kernel
theorem dX8_range_8 : decode cX8_range 8 = .ok (.iload_n 2, 1) := by decide +kernel
theorem dX8_range_9 : decode cX8_range 9 = .ok (.sipush (-9999), 3) := by decide +kernel
theorem dX8_range_12 : decode cX8_range 12 = .ok (.sipush 9999, 3) := by decide +kernel
theorem dX8_range_15 : decode cX8_range 15 = .ok (.invokestatic 58, 3) := by decide +kernel
theorem dX8_range_18 : decode cX8_range 18 = .ok (.ifCond .eq 14, 3) := by decide +kernel
theorem dX8_range_21 : decode cX8_range 21 = .ok (.iload_n 3, 1) := by decide +kernel
theorem dX8_range_22 : decode cX8_range 22 = .ok (.iload_n 2, 1) := by decide +kernel
theorem dX8_range_23 : decode cX8_range 23 = .ok (.sipush 9999, 3) := by decide +kernel
theorem dX8_range_26 : decode cX8_range 26 = .ok (.invokestatic 58, 3) := by decide +kernel
theorem dX8_range_29 : decode cX8_range 29 = .ok (.ifCond .ne 11, 3) := by decide +kernel
theorem dX8_range_32 : decode cX8_range 32 = .ok (.aload_n 0, 1) := by decide +kernel
theorem dX8_range_33 : decode cX8_range 33 = .ok (.sipush (-10002), 3) := by decide +kernel
theorem dX8_range_36 : decode cX8_range 36 = .ok (.invokevirtual 62, 3) := by decide +kernel
theorem dX8_range_39 : decode cX8_range 39 = .ok (.ireturn, 1) := by decide +kernel
theorem dX8_range_40 : decode cX8_range 40 = .ok (.aload_n 0, 1) := by decide +kernel
theorem dX8_range_41 : decode cX8_range 41 = .ok (.getfield 50, 3) := by decide +kernel
theorem dX8_range_44 : decode cX8_range 44 = .ok (.aload_n 0, 1) := by decide +kernel
theorem dX8_range_45 : decode cX8_range 45 = .ok (.getfield 43, 3) := by decide +kernel
theorem dX8_range_48 : decode cX8_range 48 = .ok (.invokevirtual 73, 3) := by decide +kernel
theorem dX8_range_51 : decode cX8_range 51 = .ok (.aload_n 0, 1) := by decide +kernel
theorem dX8_range_52 : decode cX8_range 52 = .ok (.getfield 43, 3) := by decide +kernel
theorem dX8_range_55 : decode cX8_range 55 = .ok (.getfield 105, 3) := by decide +kernel
theorem dX8_range_58 : decode cX8_range 58 = .ok (.iload_n 1, 1) := by decide +kernel
theorem dX8_range_59 : decode cX8_range 59 = .ok (.iaload, 1) := by decide +kernel
theorem dX8_range_60 : decode cX8_range 60 = .ok (.istore 4, 2) := by decide +kernel
theorem dX8_range_62 : decode cX8_range 62 = .ok (.aload_n 0, 1) := by decide +kernel
theorem dX8_range_63 : decode cX8_range 63 = .ok (.getfield 43, 3) := by decide +kernel
theorem dX8_range_66 : decode cX8_range 66 = .ok (.getfield 105, 3) := by decide +kernel
theorem dX8_range_69 : decode cX8_range 69 = .ok (.iload_n 1, 1) := by decide +kernel
theorem dX8_range_70 : decode cX8_range 70 = .ok (.iload_n 2, 1) := by decide +kernel
theorem dX8_range_71 : decode cX8_range 71 = .ok (.iastore, 1) := by decide +kernel
theorem dX8_range_72 : decode cX8_range 72 = .ok (.aload_n 0, 1) := by decide +kernel
theorem dX8_range_73 : decode cX8_range 73 = .ok (.getfield 43, 3) := by decide +kernel
theorem dX8_range_76 : decode cX8_range 76 = .ok (.getfield 109, 3) := by decide +kernel
theorem dX8_range_79 : decode cX8_range 79 = .ok (.iload_n 1, 1) := by decide +kernel
theorem dX8_range_80 : decode cX8_range 80 = .ok (.iload_n 3, 1) := by decide +kernel
theorem dX8_range_81 : decode cX8_range 81 = .ok (.iastore, 1) := by decide +kernel
theorem dX8_range_82 : decode cX8_range 82 = .ok (.aload_n 0, 1) := by decide +kernel
theorem dX8_range_83 : decode cX8_range 83 = .ok (.getfield 43, 3) := by decide +kernel
theorem dX8_range_86 : decode cX8_range 86 = .ok (.iload_n 1, 1) := by decide +kernel
theorem dX8_range_87 : decode cX8_range 87 = .ok (.invokevirtual 112, 3) := by decide +kernel
theorem dX8_range_90 : decode cX8_range 90 = .ok (.iload 4, 2) := by decide +kernel
theorem dX8_range_92 : decode cX8_range 92 = .ok (.ireturn, 1) := by decide +kernel
theorem dX8_of_0 : decode cX8_of 0 = .ok (.aload_n 0, 1) := by decide +kernel
theorem dX8_of_1 : decode cX8_of 1 = .ok (.iload_n 1, 1) := by decide +kernel
theorem dX8_of_2 : decode cX8_of 2 = .ok (.invokevirtual 115, 3) := by decide +kernel
theorem dX8_of_5 : decode cX8_of 5 = .ok (.ifCond .eq 13, 3) := by decide +kernel
theorem dX8_of_8 : decode cX8_of 8 = .ok (.iload_n 2, 1) := by decide +kernel
theorem dX8_of_9 : decode cX8_of 9 = .ok (.iconst 0, 1) := by decide +kernel
theorem dX8_of_10 : decode cX8_of 10 = .ok (.bipush 8, 2) := by decide +kernel
theorem dX8_of_12 : decode cX8_of 12 = .ok (.invokestatic 58, 3) := by decide +kernel
theorem dX8_of_15 : decode cX8_of 15 = .ok (.ifCond .ne 11, 3) := by decide +kernel
theorem dX8_of_18 : decode cX8_of 18 = .ok (.aload_n 0, 1) := by decide +kernel
theorem dX8_of_19 : decode cX8_of 19 = .ok (.sipush (-10002), 3) := by decide +kernel
theorem dX8_of_22 : decode cX8_of 22 = .ok (.invokevirtual 62, 3) := by decide +kernel
theorem dX8_of_25 : decode cX8_of 25 = .ok (.ireturn, 1) := by decide +kernel
theorem dX8_of_26 : decode cX8_of 26 = .ok (.aload_n 0, 1) := by decide +kernel
theorem dX8_of_27 : decode cX8_of 27 = .ok (.iload_n 1, 1) := by decide +kernel
theorem dX8_of_28 : decode cX8_of 28 = .ok (.iload_n 2, 1) := by decide +kernel
theorem dX8_of_29 : decode cX8_of 29 = .ok (.invokevirtual 118, 3) := by decide +kernel
theorem dX8_of_32 : decode cX8_of 32 = .ok (.ireturn, 1) := by decide +kernel
theorem dX8_value_0 : decode cX8_value 0 = .ok (.aload_n 0, 1) := by decide +kernel
theorem dX8_value_1 : decode cX8_value 1 = .ok (.iload_n 1, 1) := by decide +kernel
theorem dX8_value_2 : decode cX8_value 2 = .ok (.invokevirtual 102, 3) := by decide +kernel
theorem dX8_value_5 : decode cX8_value 5 = .ok (.ifCond .eq 12, 3) := by decide +kernel
theorem dX8_value_8 : decode cX8_value 8 = .ok (.iload_n 2, 1) := by decide +kernel
theorem dX8_value_9 : decode cX8_value 9 = .ok (.iconst 1, 1) := by decide +kernel
theorem dX8_value_10 : decode cX8_value 10 = .ok (.iconst 3, 1) := by decide +kernel
theorem dX8_value_11 : decode cX8_value 11 = .ok (.invokestatic 58, 3) := by decide +kernel
theorem dX8_value_14 : decode cX8_value 14 = .ok (.ifCond .ne 11, 3) := by decide +kernel
theorem dX8_value_17 : decode cX8_value 17 = .ok (.aload_n 0, 1) := by decide +kernel
theorem dX8_value_18 : decode cX8_value 18 = .ok (.sipush (-10002), 3) := by decide +kernel
theorem dX8_value_21 : decode cX8_value 21 = .ok (.invokevirtual 62, 3) := by decide +kernel
theorem dX8_value_24 : decode cX8_value 24 = .ok (.ireturn, 1) := by decide +kernel
theorem dX8_value_25 : decode cX8_value 25 = .ok (.aload_n 0, 1) := by decide +kernel
theorem dX8_value_26 : decode cX8_value 26 = .ok (.getfield 43, 3) := by decide +kernel
theorem dX8_value_29 : decode cX8_value 29 = .ok (.iload_n 1, 1) := by decide +kernel
theorem dX8_value_30 : decode cX8_value 30 = .ok (.iload_n 2, 1) := by decide +kernel
theorem dX8_value_31 : decode cX8_value 31 = .ok (.invokevirtual 122, 3) := by decide +kernel
theorem dX8_value_34 : decode cX8_value 34 = .ok (.ireturn, 1) := by decide +kernel
theorem dX8_type_0 : decode cX8_type 0 = .ok (.iload_n 1, 1) := by decide +kernel
theorem dX8_type_1 : decode cX8_type 1 = .ok (.iconst 0, 1) := by decide +kernel
theorem dX8_type_2 : decode cX8_type 2 = .ok (.bipush 127, 2) := by decide +kernel
theorem dX8_type_4 : decode cX8_type 4 = .ok (.invokestatic 58, 3) := by decide +kernel
theorem dX8_type_7 : decode cX8_type 7 = .ok (.ifCond .ne 11, 3) := by decide +kernel
theorem dX8_type_10 : decode cX8_type 10 = .ok (.aload_n 0, 1) := by decide +kernel
theorem dX8_type_11 : decode cX8_type 11 = .ok (.sipush (-10002), 3) := by decide +kernel
theorem dX8_type_14 : decode cX8_type 14 = .ok (.invokevirtual 62, 3) := by decide +kernel
theorem dX8_type_17 : decode cX8_type 17 = .ok (.ireturn, 1) := by decide +kernel
theorem dX8_type_18 : decode cX8_type 18 = .ok (.aload_n 0, 1) := by decide +kernel
theorem dX8_type_19 : decode cX8_type 19 = .ok (.getfield 22, 3) := by decide +kernel
theorem dX8_type_22 : decode cX8_type 22 = .ok (.getfield 125, 3) := by decide +kernel
theorem dX8_type_25 : decode cX8_type 25 = .ok (.bipush 100, 2) := by decide +kernel
theorem dX8_type_27 : decode cX8_type 27 = .ok (.if_icmp .lt 11, 3) := by decide +kernel
theorem dX8_type_30 : decode cX8_type 30 = .ok (.aload_n 0, 1) := by decide +kernel
theorem dX8_type_31 : decode cX8_type 31 = .ok (.sipush (-10004), 3) := by decide +kernel
theorem dX8_type_34 : decode cX8_type 34 = .ok (.invokevirtual 62, 3) := by decide +kernel
theorem dX8_type_37 : decode cX8_type 37 = .ok (.ireturn, 1) := by decide +kernel
theorem dX8_type_38 : decode cX8_type 38 = .ok (.aload_n 0, 1) := by decide +kernel
theorem dX8_type_39 : decode cX8_type 39 = .ok (.getfield 22, 3) := by decide +kernel
theorem dX8_type_42 : decode cX8_type 42 = .ok (.iload_n 1, 1) := by decide +kernel
theorem dX8_type_43 : decode cX8_type 43 = .ok (.invokevirtual 128, 3) := by decide +kernel
theorem dX8_type_46 : decode cX8_type 46 = .ok (.aload_n 0, 1) := by decide +kernel
theorem dX8_type_47 : decode cX8_type 47 = .ok (.getfield 22, 3) := by decide +kernel
theorem dX8_type_50 : decode cX8_type 50 = .ok (.getfield 125, 3) := by decide +kernel
theorem dX8_type_53 : decode cX8_type 53 = .ok (.ireturn, 1) := by decide +kernel
theorem dX8_clear_0 : decode cX8_clear 0 = .ok (.aload_n 0, 1) := by decide +kernel
theorem dX8_clear_1 : decode cX8_clear 1 = .ok (.getfield 22, 3) := by decide +kernel
theorem dX8_clear_4 : decode cX8_clear 4 = .ok (.getfield 125, 3) := by decide +kernel
theorem dX8_clear_7 : decode cX8_clear 7 = .ok (.istore_n 1, 1) := by decide +kernel
theorem dX8_clear_8 : decode cX8_clear 8 = .ok (.aload_n 0, 1) := by decide +kernel
theorem dX8_clear_9 : decode cX8_clear 9 = .ok (.getfield 22, 3) := by decide +kernel
theorem dX8_clear_12 : decode cX8_clear 12 = .ok (.iconst 0, 1) := by decide +kernel
theorem dX8_clear_13 : decode cX8_clear 13 = .ok (.putfield 125, 3) := by decide +kernel
theorem dX8_clear_16 : decode cX8_clear 16 = .ok (.iload_n 1, 1) := by decide +kernel
theorem dX8_clear_17 : decode cX8_clear 17 = .ok (.ireturn, 1) := by decide +kernel
theorem dX8_sends_0 : decode cX8_sends 0 = .ok (.aload_n 0, 1) := by decide +kernel
theorem dX8_sends_1 : decode cX8_sends 1 = .ok (.getfield 50, 3) := by decide +kernel
theorem dX8_sends_4 : decode cX8_sends 4 = .ok (.aload_n 0, 1) := by decide +kernel
theorem dX8_sends_5 : decode cX8_sends 5 = .ok (.getfield 43, 3) := by decide +kernel
theorem dX8_sends_8 : decode cX8_sends 8 = .ok (.invokevirtual 73, 3) := by decide +kernel
theorem dX8_sends_11 : decode cX8_sends 11 = .ok (.aload_n 0, 1) := by decide +kernel
theorem dX8_sends_12 : decode cX8_sends 12 = .ok (.getfield 36, 3) := by decide +kernel
theorem dX8_sends_15 : decode cX8_sends 15 = .ok (.invokevirtual 131, 3) := by decide +kernel
theorem dX8_sends_18 : decode cX8_sends 18 = .ok (.iconst 0, 1) := by decide +kernel
theorem dX8_sends_19 : decode cX8_sends 19 = .ok (.istore_n 1, 1) := by decide +kernel
theorem dX8_sends_20 : decode cX8_sends 20 = .ok (.iconst 0, 1) := by decide +kernel
theorem dX8_sends_21 : decode cX8_sends 21 = .ok (.istore_n 2, 1) := by decide +kernel
theorem dX8_sends_22 : decode cX8_sends 22 = .ok (.iload_n 2, 1) := by decide +kernel
theorem dX8_sends_23 : decode cX8_sends 23 = .ok (.bipush 100, 2) := by decide +kernel
theorem dX8_sends_25 : decode cX8_sends 25 = .ok (.if_icmp .gt 81, 3) := by decide +kernel
theorem dX8_sends_28 : decode cX8_sends 28 = .ok (.bipush (-102), 2) := by decide +kernel
theorem dX8_sends_30 : decode cX8_sends 30 = .ok (.istore_n 3, 1) := by decide +kernel
theorem dX8_sends_31 : decode cX8_sends 31 = .ok (.aload_n 0, 1) := by decide +kernel
theorem dX8_sends_32 : decode cX8_sends 32 = .ok (.getfield 36, 3) := by decide +kernel
theorem dX8_sends_35 : decode cX8_sends 35 = .ok (.aload_n 0, 1) := by decide +kernel
theorem dX8_sends_36 : decode cX8_sends 36 = .ok (.getfield 22, 3) := by decide +kernel
theorem dX8_sends_39 : decode cX8_sends 39 = .ok (.invokevirtual 134, 3) := by decide +kernel
theorem dX8_sends_42 : decode cX8_sends 42 = .ok (.ifCond .eq 25, 3) := by decide +kernel
theorem dX8_sends_45 : decode cX8_sends 45 = .ok (.aload_n 0, 1) := by decide +kernel
theorem dX8_sends_46 : decode cX8_sends 46 = .ok (.getfield 36, 3) := by decide +kernel
theorem dX8_sends_49 : decode cX8_sends 49 = .ok (.getfield 138, 3) := by decide +kernel
theorem dX8_sends_52 : decode cX8_sends 52 = .ok (.ifCond .eq 10, 3) := by decide +kernel
theorem dX8_sends_55 : decode cX8_sends 55 = .ok (.aload_n 0, 1) := by decide +kernel
theorem dX8_sends_56 : decode cX8_sends 56 = .ok (.invokevirtual 142, 3) := by decide +kernel
theorem dX8_sends_59 : decode cX8_sends 59 = .ok (.goto 7, 3) := by decide +kernel
theorem dX8_sends_62 : decode cX8_sends 62 = .ok (.aload_n 0, 1) := by decide +kernel
theorem dX8_sends_63 : decode cX8_sends 63 = .ok (.invokevirtual 146, 3) := by decide +kernel
theorem dX8_sends_66 : decode cX8_sends 66 = .ok (.istore_n 3, 1) := by decide +kernel
theorem dX8_sends_67 : decode cX8_sends 67 = .ok (.iload_n 3, 1) := by decide +kernel
theorem dX8_sends_68 : decode cX8_sends 68 = .ok (.ifCond .eq 13, 3) := by decide +kernel
theorem dX8_sends_71 : decode cX8_sends 71 = .ok (.aload_n 0, 1) := by decide +kernel
theorem dX8_sends_72 : decode cX8_sends 72 = .ok (.getfield 43, 3) := by decide +kernel
theorem dX8_sends_75 : decode cX8_sends 75 = .ok (.iload_n 3, 1) := by decide +kernel
theorem dX8_sends_76 : decode cX8_sends 76 = .ok (.invokevirtual 149, 3) := by decide +kernel
theorem dX8_sends_79 : decode cX8_sends 79 = .ok (.iload_n 1, 1) := by decide +kernel
theorem dX8_sends_80 : decode cX8_sends 80 = .ok (.ireturn, 1) := by decide +kernel
theorem dX8_sends_81 : decode cX8_sends 81 = .ok (.iinc 1 1, 3) := by decide +kernel
theorem dX8_sends_84 : decode cX8_sends 84 = .ok (.aload_n 0, 1) := by decide +kernel
theorem dX8_sends_85 : decode cX8_sends 85 = .ok (.getfield 36, 3) := by decide +kernel
theorem dX8_sends_88 : decode cX8_sends 88 = .ok (.aload_n 0, 1) := by decide +kernel
theorem dX8_sends_89 : decode cX8_sends 89 = .ok (.getfield 22, 3) := by decide +kernel
theorem dX8_sends_92 : decode cX8_sends 92 = .ok (.invokevirtual 152, 3) := by decide +kernel
theorem dX8_sends_95 : decode cX8_sends 95 = .ok (.ifCond .ne 5, 3) := by decide +kernel
theorem dX8_sends_98 : decode cX8_sends 98 = .ok (.iload_n 1, 1) := by decide +kernel
theorem dX8_sends_99 : decode cX8_sends 99 = .ok (.ireturn, 1) := by decide +kernel
theorem dX8_sends_100 : decode cX8_sends 100 = .ok (.iinc 2 1, 3) := by decide +kernel
theorem dX8_sends_103 : decode cX8_sends 103 = .ok (.goto (-81), 3) := by decide +kernel
theorem dX8_sends_106 : decode cX8_sends 106 = .ok (.iload_n 1, 1) := by decide +kernel
theorem dX8_sends_107 : decode cX8_sends 107 = .ok (.ireturn, 1) := by decide +kernel
theorem dX8_finds_0 : decode cX8_finds 0 = .ok (.aload_n 0, 1) := by decide +kernel
theorem dX8_finds_1 : decode cX8_finds 1 = .ok (.getfield 36, 3) := by decide +kernel
theorem dX8_finds_4 : decode cX8_finds 4 = .ok (.aload_n 0, 1) := by decide +kernel
theorem dX8_finds_5 : decode cX8_finds 5 = .ok (.getfield 22, 3) := by decide +kernel
theorem dX8_finds_8 : decode cX8_finds 8 = .ok (.invokevirtual 155, 3) := by decide +kernel
theorem dX8_finds_11 : decode cX8_finds 11 = .ok (.ifCond .ne 7, 3) := by decide +kernel
theorem dX8_finds_14 : decode cX8_finds 14 = .ok (.sipush (-10001), 3) := by decide +kernel
theorem dX8_finds_17 : decode cX8_finds 17 = .ok (.ireturn, 1) := by decide +kernel
theorem dX8_finds_18 : decode cX8_finds 18 = .ok (.aload_n 0, 1) := by decide +kernel
theorem dX8_finds_19 : decode cX8_finds 19 = .ok (.getfield 29, 3) := by decide +kernel
theorem dX8_finds_22 : decode cX8_finds 22 = .ok (.aload_n 0, 1) := by decide +kernel
theorem dX8_finds_23 : decode cX8_finds 23 = .ok (.getfield 22, 3) := by decide +kernel
theorem dX8_finds_26 : decode cX8_finds 26 = .ok (.aload_n 0, 1) := by decide +kernel
theorem dX8_finds_27 : decode cX8_finds 27 = .ok (.getfield 36, 3) := by decide +kernel
theorem dX8_finds_30 : decode cX8_finds 30 = .ok (.getfield 158, 3) := by decide +kernel
theorem dX8_finds_33 : decode cX8_finds 33 = .ok (.aload_n 0, 1) := by decide +kernel
theorem dX8_finds_34 : decode cX8_finds 34 = .ok (.getfield 43, 3) := by decide +kernel
theorem dX8_finds_37 : decode cX8_finds 37 = .ok (.getfield 70, 3) := by decide +kernel
theorem dX8_finds_40 : decode cX8_finds 40 = .ok (.invokevirtual 162, 3) := by decide +kernel
theorem dX8_finds_43 : decode cX8_finds 43 = .ok (.ireturn, 1) := by decide +kernel
theorem dX8_answer_0 : decode cX8_answer 0 = .ok (.aload_n 0, 1) := by decide +kernel
theorem dX8_answer_1 : decode cX8_answer 1 = .ok (.getfield 43, 3) := by decide +kernel
theorem dX8_answer_4 : decode cX8_answer 4 = .ok (.getfield 166, 3) := by decide +kernel
theorem dX8_answer_7 : decode cX8_answer 7 = .ok (.getfield 170, 3) := by decide +kernel
theorem dX8_answer_10 : decode cX8_answer 10 = .ok (.ifCond .ne 11, 3) := by decide +kernel
theorem dX8_answer_13 : decode cX8_answer 13 = .ok (.aload_n 0, 1) := by decide +kernel
theorem dX8_answer_14 : decode cX8_answer 14 = .ok (.sipush (-10003), 3) := by decide +kernel
theorem dX8_answer_17 : decode cX8_answer 17 = .ok (.invokevirtual 62, 3) := by decide +kernel
theorem dX8_answer_20 : decode cX8_answer 20 = .ok (.ireturn, 1) := by decide +kernel
theorem dX8_answer_21 : decode cX8_answer 21 = .ok (.aload_n 0, 1) := by decide +kernel
theorem dX8_answer_22 : decode cX8_answer 22 = .ok (.getfield 50, 3) := by decide +kernel
theorem dX8_answer_25 : decode cX8_answer 25 = .ok (.aload_n 0, 1) := by decide +kernel
theorem dX8_answer_26 : decode cX8_answer 26 = .ok (.getfield 43, 3) := by decide +kernel
theorem dX8_answer_29 : decode cX8_answer 29 = .ok (.invokevirtual 73, 3) := by decide +kernel
theorem dX8_answer_32 : decode cX8_answer 32 = .ok (.aload_n 0, 1) := by decide +kernel
theorem dX8_answer_33 : decode cX8_answer 33 = .ok (.getfield 43, 3) := by decide +kernel
theorem dX8_answer_36 : decode cX8_answer 36 = .ok (.getfield 166, 3) := by decide +kernel
theorem dX8_answer_39 : decode cX8_answer 39 = .ok (.iconst 0, 1) := by decide +kernel
theorem dX8_answer_40 : decode cX8_answer 40 = .ok (.invokevirtual 175, 3) := by decide +kernel
theorem dX8_answer_43 : decode cX8_answer 43 = .ok (.ireturn, 1) := by decide +kernel
theorem dX8_fault_0 : decode cX8_fault 0 = .ok (.aload_n 0, 1) := by decide +kernel
theorem dX8_fault_1 : decode cX8_fault 1 = .ok (.getfield 43, 3) := by decide +kernel
theorem dX8_fault_4 : decode cX8_fault 4 = .ok (.getfield 178, 3) := by decide +kernel
theorem dX8_fault_7 : decode cX8_fault 7 = .ok (.getfield 170, 3) := by decide +kernel
theorem dX8_fault_10 : decode cX8_fault 10 = .ok (.ifCond .ne 11, 3) := by decide +kernel
theorem dX8_fault_13 : decode cX8_fault 13 = .ok (.aload_n 0, 1) := by decide +kernel
theorem dX8_fault_14 : decode cX8_fault 14 = .ok (.sipush (-10003), 3) := by decide +kernel
theorem dX8_fault_17 : decode cX8_fault 17 = .ok (.invokevirtual 62, 3) := by decide +kernel
theorem dX8_fault_20 : decode cX8_fault 20 = .ok (.ireturn, 1) := by decide +kernel
theorem dX8_fault_21 : decode cX8_fault 21 = .ok (.aload_n 0, 1) := by decide +kernel
theorem dX8_fault_22 : decode cX8_fault 22 = .ok (.getfield 50, 3) := by decide +kernel
theorem dX8_fault_25 : decode cX8_fault 25 = .ok (.aload_n 0, 1) := by decide +kernel
theorem dX8_fault_26 : decode cX8_fault 26 = .ok (.getfield 43, 3) := by decide +kernel
theorem dX8_fault_29 : decode cX8_fault 29 = .ok (.invokevirtual 73, 3) := by decide +kernel
theorem dX8_fault_32 : decode cX8_fault 32 = .ok (.aload_n 0, 1) := by decide +kernel
theorem dX8_fault_33 : decode cX8_fault 33 = .ok (.getfield 43, 3) := by decide +kernel
theorem dX8_fault_36 : decode cX8_fault 36 = .ok (.getfield 178, 3) := by decide +kernel
theorem dX8_fault_39 : decode cX8_fault 39 = .ok (.iconst 0, 1) := by decide +kernel
theorem dX8_fault_40 : decode cX8_fault 40 = .ok (.invokevirtual 175, 3) := by decide +kernel
theorem dX8_fault_43 : decode cX8_fault 43 = .ok (.ireturn, 1) := by decide +kernel
theorem dX8_condition_0 : decode cX8_condition 0 = .ok (.iload_n 1, 1) := by decide +kernel
theorem dX8_condition_1 : decode cX8_condition 1 = .ok (.iconst 0, 1) := by decide +kernel
theorem dX8_condition_2 : decode cX8_condition 2 = .ok (.iconst 3, 1) := by decide +kernel
theorem dX8_condition_3 : decode cX8_condition 3 = .ok (.invokestatic 58, 3) := by decide +kernel
theorem dX8_condition_6 : decode cX8_condition 6 = .ok (.ifCond .eq 12, 3) := by decide +kernel
theorem dX8_condition_9 : decode cX8_condition 9 = .ok (.iload_n 2, 1) := by decide +kernel
theorem dX8_condition_10 : decode cX8_condition 10 = .ok (.iconst 0, 1) := by decide +kernel
theorem dX8_condition_11 : decode cX8_condition 11 = .ok (.iconst 1, 1) := by decide +kernel
theorem dX8_condition_12 : decode cX8_condition 12 = .ok (.invokestatic 58, 3) := by decide +kernel
theorem dX8_condition_15 : decode cX8_condition 15 = .ok (.ifCond .ne 11, 3) := by decide +kernel
theorem dX8_condition_18 : decode cX8_condition 18 = .ok (.aload_n 0, 1) := by decide +kernel
theorem dX8_condition_19 : decode cX8_condition 19 = .ok (.sipush (-10002), 3) := by decide +kernel
theorem dX8_condition_22 : decode cX8_condition 22 = .ok (.invokevirtual 62, 3) := by decide +kernel
theorem dX8_condition_25 : decode cX8_condition 25 = .ok (.ireturn, 1) := by decide +kernel
theorem dX8_condition_26 : decode cX8_condition 26 = .ok (.aload_n 0, 1) := by decide +kernel
theorem dX8_condition_27 : decode cX8_condition 27 = .ok (.getfield 50, 3) := by decide +kernel
theorem dX8_condition_30 : decode cX8_condition 30 = .ok (.aload_n 0, 1) := by decide +kernel
theorem dX8_condition_31 : decode cX8_condition 31 = .ok (.getfield 43, 3) := by decide +kernel
theorem dX8_condition_34 : decode cX8_condition 34 = .ok (.invokevirtual 73, 3) := by decide +kernel
theorem dX8_condition_37 : decode cX8_condition 37 = .ok (.aload_n 0, 1) := by decide +kernel
theorem dX8_condition_38 : decode cX8_condition 38 = .ok (.getfield 43, 3) := by decide +kernel
theorem dX8_condition_41 : decode cX8_condition 41 = .ok (.getfield 181, 3) := by decide +kernel
theorem dX8_condition_44 : decode cX8_condition 44 = .ok (.iload_n 1, 1) := by decide +kernel
theorem dX8_condition_45 : decode cX8_condition 45 = .ok (.ishr, 1) := by decide +kernel
theorem dX8_condition_46 : decode cX8_condition 46 = .ok (.iconst 1, 1) := by decide +kernel
theorem dX8_condition_47 : decode cX8_condition 47 = .ok (.iand, 1) := by decide +kernel
theorem dX8_condition_48 : decode cX8_condition 48 = .ok (.istore_n 3, 1) := by decide +kernel
theorem dX8_condition_49 : decode cX8_condition 49 = .ok (.iload_n 3, 1) := by decide +kernel
theorem dX8_condition_50 : decode cX8_condition 50 = .ok (.iload_n 2, 1) := by decide +kernel
theorem dX8_condition_51 : decode cX8_condition 51 = .ok (.if_icmp .eq 13, 3) := by decide +kernel
theorem dX8_condition_54 : decode cX8_condition 54 = .ok (.aload_n 0, 1) := by decide +kernel
theorem dX8_condition_55 : decode cX8_condition 55 = .ok (.getfield 43, 3) := by decide +kernel
theorem dX8_condition_58 : decode cX8_condition 58 = .ok (.iconst 1, 1) := by decide +kernel
theorem dX8_condition_59 : decode cX8_condition 59 = .ok (.iload_n 1, 1) := by decide +kernel
theorem dX8_condition_60 : decode cX8_condition 60 = .ok (.ishl, 1) := by decide +kernel
theorem dX8_condition_61 : decode cX8_condition 61 = .ok (.invokevirtual 184, 3) := by decide +kernel
theorem dX8_condition_64 : decode cX8_condition 64 = .ok (.iload_n 3, 1) := by decide +kernel
theorem dX8_condition_65 : decode cX8_condition 65 = .ok (.ireturn, 1) := by decide +kernel
theorem dX8_masks_0 : decode cX8_masks 0 = .ok (.iload_n 1, 1) := by decide +kernel
theorem dX8_masks_1 : decode cX8_masks 1 = .ok (.iconst 0, 1) := by decide +kernel
theorem dX8_masks_2 : decode cX8_masks 2 = .ok (.iconst 2, 1) := by decide +kernel
theorem dX8_masks_3 : decode cX8_masks 3 = .ok (.invokestatic 58, 3) := by decide +kernel
theorem dX8_masks_6 : decode cX8_masks 6 = .ok (.ifCond .eq 13, 3) := by decide +kernel
theorem dX8_masks_9 : decode cX8_masks 9 = .ok (.iload_n 2, 1) := by decide +kernel
theorem dX8_masks_10 : decode cX8_masks 10 = .ok (.iconst 0, 1) := by decide +kernel
theorem dX8_masks_11 : decode cX8_masks 11 = .ok (.bipush 15, 2) := by decide +kernel
theorem dX8_masks_13 : decode cX8_masks 13 = .ok (.invokestatic 58, 3) := by decide +kernel
theorem dX8_masks_16 : decode cX8_masks 16 = .ok (.ifCond .ne 11, 3) := by decide +kernel
theorem dX8_masks_19 : decode cX8_masks 19 = .ok (.aload_n 0, 1) := by decide +kernel
theorem dX8_masks_20 : decode cX8_masks 20 = .ok (.sipush (-10002), 3) := by decide +kernel
theorem dX8_masks_23 : decode cX8_masks 23 = .ok (.invokevirtual 62, 3) := by decide +kernel
theorem dX8_masks_26 : decode cX8_masks 26 = .ok (.ireturn, 1) := by decide +kernel
theorem dX8_masks_27 : decode cX8_masks 27 = .ok (.aload_n 0, 1) := by decide +kernel
theorem dX8_masks_28 : decode cX8_masks 28 = .ok (.getfield 50, 3) := by decide +kernel
theorem dX8_masks_31 : decode cX8_masks 31 = .ok (.aload_n 0, 1) := by decide +kernel
theorem dX8_masks_32 : decode cX8_masks 32 = .ok (.getfield 43, 3) := by decide +kernel
theorem dX8_masks_35 : decode cX8_masks 35 = .ok (.invokevirtual 73, 3) := by decide +kernel
theorem dX8_masks_38 : decode cX8_masks 38 = .ok (.aload_n 0, 1) := by decide +kernel
theorem dX8_masks_39 : decode cX8_masks 39 = .ok (.getfield 43, 3) := by decide +kernel
theorem dX8_masks_42 : decode cX8_masks 42 = .ok (.iload_n 1, 1) := by decide +kernel
theorem dX8_masks_43 : decode cX8_masks 43 = .ok (.iload_n 2, 1) := by decide +kernel
theorem dX8_masks_44 : decode cX8_masks 44 = .ok (.invokevirtual 187, 3) := by decide +kernel
theorem dX8_masks_47 : decode cX8_masks 47 = .ok (.ireturn, 1) := by decide +kernel
theorem dX8_edges_0 : decode cX8_edges 0 = .ok (.aload_n 0, 1) := by decide +kernel
theorem dX8_edges_1 : decode cX8_edges 1 = .ok (.getfield 50, 3) := by decide +kernel
theorem dX8_edges_4 : decode cX8_edges 4 = .ok (.aload_n 0, 1) := by decide +kernel
theorem dX8_edges_5 : decode cX8_edges 5 = .ok (.getfield 43, 3) := by decide +kernel
theorem dX8_edges_8 : decode cX8_edges 8 = .ok (.invokevirtual 73, 3) := by decide +kernel
theorem dX8_edges_11 : decode cX8_edges 11 = .ok (.aload_n 0, 1) := by decide +kernel
theorem dX8_edges_12 : decode cX8_edges 12 = .ok (.getfield 43, 3) := by decide +kernel
theorem dX8_edges_15 : decode cX8_edges 15 = .ok (.getfield 190, 3) := by decide +kernel
theorem dX8_edges_18 : decode cX8_edges 18 = .ok (.istore_n 1, 1) := by decide +kernel
theorem dX8_edges_19 : decode cX8_edges 19 = .ok (.aload_n 0, 1) := by decide +kernel
theorem dX8_edges_20 : decode cX8_edges 20 = .ok (.getfield 43, 3) := by decide +kernel
theorem dX8_edges_23 : decode cX8_edges 23 = .ok (.iconst 0, 1) := by decide +kernel
theorem dX8_edges_24 : decode cX8_edges 24 = .ok (.putfield 190, 3) := by decide +kernel
theorem dX8_edges_27 : decode cX8_edges 27 = .ok (.iload_n 1, 1) := by decide +kernel
theorem dX8_edges_28 : decode cX8_edges 28 = .ok (.ireturn, 1) := by decide +kernel
theorem dX8_finishes_0 : decode cX8_finishes 0 = .ok (.iload_n 1, 1) := by decide +kernel
theorem dX8_finishes_1 : decode cX8_finishes 1 = .ok (.iconst 0, 1) := by decide +kernel
theorem dX8_finishes_2 : decode cX8_finishes 2 = .ok (.aload_n 0, 1) := by decide +kernel
theorem dX8_finishes_3 : decode cX8_finishes 3 = .ok (.getfield 43, 3) := by decide +kernel
theorem dX8_finishes_6 : decode cX8_finishes 6 = .ok (.getfield 193, 3) := by decide +kernel
theorem dX8_finishes_9 : decode cX8_finishes 9 = .ok (.getfield 170, 3) := by decide +kernel
theorem dX8_finishes_12 : decode cX8_finishes 12 = .ok (.iconst 1, 1) := by decide +kernel
theorem dX8_finishes_13 : decode cX8_finishes 13 = .ok (.isub, 1) := by decide +kernel
theorem dX8_finishes_14 : decode cX8_finishes 14 = .ok (.invokestatic 58, 3) := by decide +kernel
theorem dX8_finishes_17 : decode cX8_finishes 17 = .ok (.ifCond .ne 11, 3) := by decide +kernel
theorem dX8_finishes_20 : decode cX8_finishes 20 = .ok (.aload_n 0, 1) := by decide +kernel
theorem dX8_finishes_21 : decode cX8_finishes 21 = .ok (.sipush (-10002), 3) := by decide +kernel
theorem dX8_finishes_24 : decode cX8_finishes 24 = .ok (.invokevirtual 62, 3) := by decide +kernel
theorem dX8_finishes_27 : decode cX8_finishes 27 = .ok (.ireturn, 1) := by decide +kernel
theorem dX8_finishes_28 : decode cX8_finishes 28 = .ok (.aload_n 0, 1) := by decide +kernel
theorem dX8_finishes_29 : decode cX8_finishes 29 = .ok (.getfield 50, 3) := by decide +kernel
theorem dX8_finishes_32 : decode cX8_finishes 32 = .ok (.aload_n 0, 1) := by decide +kernel
theorem dX8_finishes_33 : decode cX8_finishes 33 = .ok (.getfield 43, 3) := by decide +kernel
theorem dX8_finishes_36 : decode cX8_finishes 36 = .ok (.invokevirtual 73, 3) := by decide +kernel
theorem dX8_finishes_39 : decode cX8_finishes 39 = .ok (.aload_n 0, 1) := by decide +kernel
theorem dX8_finishes_40 : decode cX8_finishes 40 = .ok (.getfield 43, 3) := by decide +kernel
theorem dX8_finishes_43 : decode cX8_finishes 43 = .ok (.iload_n 1, 1) := by decide +kernel
theorem dX8_finishes_44 : decode cX8_finishes 44 = .ok (.invokevirtual 196, 3) := by decide +kernel
theorem dX8_finishes_47 : decode cX8_finishes 47 = .ok (.aload_n 0, 1) := by decide +kernel
theorem dX8_finishes_48 : decode cX8_finishes 48 = .ok (.getfield 43, 3) := by decide +kernel
theorem dX8_finishes_51 : decode cX8_finishes 51 = .ok (.getfield 193, 3) := by decide +kernel
theorem dX8_finishes_54 : decode cX8_finishes 54 = .ok (.getfield 170, 3) := by decide +kernel
theorem dX8_finishes_57 : decode cX8_finishes 57 = .ok (.ireturn, 1) := by decide +kernel
theorem dX8_state_0 : decode cX8_state 0 = .ok (.iload_n 1, 1) := by decide +kernel
theorem dX8_state_1 : decode cX8_state 1 = .ok (.iconst 0, 1) := by decide +kernel
theorem dX8_state_2 : decode cX8_state 2 = .ok (.bipush 13, 2) := by decide +kernel
theorem dX8_state_4 : decode cX8_state 4 = .ok (.invokestatic 58, 3) := by decide +kernel
theorem dX8_state_7 : decode cX8_state 7 = .ok (.ifCond .ne 11, 3) := by decide +kernel
theorem dX8_state_10 : decode cX8_state 10 = .ok (.aload_n 0, 1) := by decide +kernel
theorem dX8_state_11 : decode cX8_state 11 = .ok (.sipush (-10002), 3) := by decide +kernel
theorem dX8_state_14 : decode cX8_state 14 = .ok (.invokevirtual 62, 3) := by decide +kernel
theorem dX8_state_17 : decode cX8_state 17 = .ok (.ireturn, 1) := by decide +kernel
theorem dX8_state_18 : decode cX8_state 18 = .ok (.aload_n 0, 1) := by decide +kernel
theorem dX8_state_19 : decode cX8_state 19 = .ok (.getfield 43, 3) := by decide +kernel
theorem dX8_state_22 : decode cX8_state 22 = .ok (.iload_n 1, 1) := by decide +kernel
theorem dX8_state_23 : decode cX8_state 23 = .ok (.invokevirtual 199, 3) := by decide +kernel
theorem dX8_state_26 : decode cX8_state 26 = .ok (.ireturn, 1) := by decide +kernel
theorem dX8_answers_0 : decode cX8_answers 0 = .ok (.iload_n 1, 1) := by decide +kernel
theorem dX8_answers_1 : decode cX8_answers 1 = .ok (.ifCond .ge 13, 3) := by decide +kernel
theorem dX8_answers_4 : decode cX8_answers 4 = .ok (.aload_n 0, 1) := by decide +kernel
theorem dX8_answers_5 : decode cX8_answers 5 = .ok (.sipush (-10002), 3) := by decide +kernel
theorem dX8_answers_8 : decode cX8_answers 8 = .ok (.invokevirtual 62, 3) := by decide +kernel
theorem dX8_answers_11 : decode cX8_answers 11 = .ok (.goto 14, 3) := by decide +kernel
theorem dX8_answers_14 : decode cX8_answers 14 = .ok (.aload_n 0, 1) := by decide +kernel
theorem dX8_answers_15 : decode cX8_answers 15 = .ok (.getfield 43, 3) := by decide +kernel
theorem dX8_answers_18 : decode cX8_answers 18 = .ok (.getfield 166, 3) := by decide +kernel
theorem dX8_answers_21 : decode cX8_answers 21 = .ok (.iload_n 1, 1) := by decide +kernel
theorem dX8_answers_22 : decode cX8_answers 22 = .ok (.invokevirtual 202, 3) := by decide +kernel
theorem dX8_answers_25 : decode cX8_answers 25 = .ok (.ireturn, 1) := by decide +kernel
theorem dX8_faults_0 : decode cX8_faults 0 = .ok (.iload_n 1, 1) := by decide +kernel
theorem dX8_faults_1 : decode cX8_faults 1 = .ok (.ifCond .ge 13, 3) := by decide +kernel
theorem dX8_faults_4 : decode cX8_faults 4 = .ok (.aload_n 0, 1) := by decide +kernel
theorem dX8_faults_5 : decode cX8_faults 5 = .ok (.sipush (-10002), 3) := by decide +kernel
theorem dX8_faults_8 : decode cX8_faults 8 = .ok (.invokevirtual 62, 3) := by decide +kernel
theorem dX8_faults_11 : decode cX8_faults 11 = .ok (.goto 14, 3) := by decide +kernel
theorem dX8_faults_14 : decode cX8_faults 14 = .ok (.aload_n 0, 1) := by decide +kernel
theorem dX8_faults_15 : decode cX8_faults 15 = .ok (.getfield 43, 3) := by decide +kernel
theorem dX8_faults_18 : decode cX8_faults 18 = .ok (.getfield 178, 3) := by decide +kernel
theorem dX8_faults_21 : decode cX8_faults 21 = .ok (.iload_n 1, 1) := by decide +kernel
theorem dX8_faults_22 : decode cX8_faults 22 = .ok (.invokevirtual 202, 3) := by decide +kernel
theorem dX8_faults_25 : decode cX8_faults 25 = .ok (.ireturn, 1) := by decide +kernel
theorem dX8_pending_0 : decode cX8_pending 0 = .ok (.iload_n 1, 1) := by decide +kernel
theorem dX8_pending_1 : decode cX8_pending 1 = .ok (.ifCond .ge 13, 3) := by decide +kernel
theorem dX8_pending_4 : decode cX8_pending 4 = .ok (.aload_n 0, 1) := by decide +kernel
theorem dX8_pending_5 : decode cX8_pending 5 = .ok (.sipush (-10002), 3) := by decide +kernel
theorem dX8_pending_8 : decode cX8_pending 8 = .ok (.invokevirtual 62, 3) := by decide +kernel
theorem dX8_pending_11 : decode cX8_pending 11 = .ok (.goto 14, 3) := by decide +kernel
theorem dX8_pending_14 : decode cX8_pending 14 = .ok (.aload_n 0, 1) := by decide +kernel
theorem dX8_pending_15 : decode cX8_pending 15 = .ok (.getfield 43, 3) := by decide +kernel
theorem dX8_pending_18 : decode cX8_pending 18 = .ok (.getfield 193, 3) := by decide +kernel
theorem dX8_pending_21 : decode cX8_pending 21 = .ok (.iload_n 1, 1) := by decide +kernel
theorem dX8_pending_22 : decode cX8_pending 22 = .ok (.invokevirtual 202, 3) := by decide +kernel
theorem dX8_pending_25 : decode cX8_pending 25 = .ok (.ireturn, 1) := by decide +kernel
theorem dX8_back_0 : decode cX8_back 0 = .ok (.aload_n 0, 1) := by decide +kernel
theorem dX8_back_1 : decode cX8_back 1 = .ok (.getfield 50, 3) := by decide +kernel
theorem dX8_back_4 : decode cX8_back 4 = .ok (.getfield 205, 3) := by decide +kernel
theorem dX8_back_7 : decode cX8_back 7 = .ok (.ifCond .ne 11, 3) := by decide +kernel
theorem dX8_back_10 : decode cX8_back 10 = .ok (.aload_n 0, 1) := by decide +kernel
theorem dX8_back_11 : decode cX8_back 11 = .ok (.sipush (-10003), 3) := by decide +kernel
theorem dX8_back_14 : decode cX8_back 14 = .ok (.invokevirtual 62, 3) := by decide +kernel
theorem dX8_back_17 : decode cX8_back 17 = .ok (.ireturn, 1) := by decide +kernel
theorem dX8_back_18 : decode cX8_back 18 = .ok (.aload_n 0, 1) := by decide +kernel
theorem dX8_back_19 : decode cX8_back 19 = .ok (.getfield 50, 3) := by decide +kernel
theorem dX8_back_22 : decode cX8_back 22 = .ok (.aload_n 0, 1) := by decide +kernel
theorem dX8_back_23 : decode cX8_back 23 = .ok (.getfield 43, 3) := by decide +kernel
theorem dX8_back_26 : decode cX8_back 26 = .ok (.invokevirtual 206, 3) := by decide +kernel
theorem dX8_back_29 : decode cX8_back 29 = .ok (.aload_n 0, 1) := by decide +kernel
theorem dX8_back_30 : decode cX8_back 30 = .ok (.getfield 50, 3) := by decide +kernel
theorem dX8_back_33 : decode cX8_back 33 = .ok (.getfield 205, 3) := by decide +kernel
theorem dX8_back_36 : decode cX8_back 36 = .ok (.ireturn, 1) := by decide +kernel
theorem dX8_told_0 : decode cX8_told 0 = .ok (.iload_n 1, 1) := by decide +kernel
theorem dX8_told_1 : decode cX8_told 1 = .ok (.iconst 0, 1) := by decide +kernel
theorem dX8_told_2 : decode cX8_told 2 = .ok (.iconst 4, 1) := by decide +kernel
theorem dX8_told_3 : decode cX8_told 3 = .ok (.invokestatic 58, 3) := by decide +kernel
theorem dX8_told_6 : decode cX8_told 6 = .ok (.ifCond .ne 11, 3) := by decide +kernel
theorem dX8_told_9 : decode cX8_told 9 = .ok (.aload_n 0, 1) := by decide +kernel
theorem dX8_told_10 : decode cX8_told 10 = .ok (.sipush (-10002), 3) := by decide +kernel
theorem dX8_told_13 : decode cX8_told 13 = .ok (.invokevirtual 62, 3) := by decide +kernel
theorem dX8_told_16 : decode cX8_told 16 = .ok (.ireturn, 1) := by decide +kernel
theorem dX8_told_17 : decode cX8_told 17 = .ok (.aload_n 0, 1) := by decide +kernel
theorem dX8_told_18 : decode cX8_told 18 = .ok (.iload_n 1, 1) := by decide +kernel
theorem dX8_told_19 : decode cX8_told 19 = .ok (.invokevirtual 209, 3) := by decide +kernel
theorem dX8_told_22 : decode cX8_told 22 = .ok (.ireturn, 1) := by decide +kernel
theorem dX8_digest_0 : decode cX8_digest 0 = .ok (.ldc2_w 212, 3) := by decide +kernel
theorem dX8_digest_3 : decode cX8_digest 3 = .ok (.lstore_n 1, 1) := by decide +kernel
theorem dX8_digest_4 : decode cX8_digest 4 = .ok (.iconst 0, 1) := by decide +kernel
theorem dX8_digest_5 : decode cX8_digest 5 = .ok (.istore_n 3, 1) := by decide +kernel
theorem dX8_digest_6 : decode cX8_digest 6 = .ok (.iload_n 3, 1) := by decide +kernel
theorem dX8_digest_7 : decode cX8_digest 7 = .ok (.iconst 4, 1) := by decide +kernel
theorem dX8_digest_8 : decode cX8_digest 8 = .ok (.if_icmp .gt 22, 3) := by decide +kernel
theorem dX8_digest_11 : decode cX8_digest 11 = .ok (.ldc2_w 214, 3) := by decide +kernel
theorem dX8_digest_14 : decode cX8_digest 14 = .ok (.lload_n 1, 1) := by decide +kernel
theorem dX8_digest_15 : decode cX8_digest 15 = .ok (.lmul, 1) := by decide +kernel
theorem dX8_digest_16 : decode cX8_digest 16 = .ok (.aload_n 0, 1) := by decide +kernel
theorem dX8_digest_17 : decode cX8_digest 17 = .ok (.iload_n 3, 1) := by decide +kernel
theorem dX8_digest_18 : decode cX8_digest 18 = .ok (.invokevirtual 209, 3) := by decide +kernel
theorem dX8_digest_21 : decode cX8_digest 21 = .ok (.i2l, 1) := by decide +kernel
theorem dX8_digest_22 : decode cX8_digest 22 = .ok (.ladd, 1) := by decide +kernel
theorem dX8_digest_23 : decode cX8_digest 23 = .ok (.lstore_n 1, 1) := by decide +kernel
theorem dX8_digest_24 : decode cX8_digest 24 = .ok (.iinc 3 1, 3) := by decide +kernel
theorem dX8_digest_27 : decode cX8_digest 27 = .ok (.goto (-21), 3) := by decide +kernel
theorem dX8_digest_30 : decode cX8_digest 30 = .ok (.iconst 0, 1) := by decide +kernel
theorem dX8_digest_31 : decode cX8_digest 31 = .ok (.istore_n 3, 1) := by decide +kernel
theorem dX8_digest_32 : decode cX8_digest 32 = .ok (.iload_n 3, 1) := by decide +kernel
theorem dX8_digest_33 : decode cX8_digest 33 = .ok (.bipush 13, 2) := by decide +kernel
theorem dX8_digest_35 : decode cX8_digest 35 = .ok (.if_icmp .gt 25, 3) := by decide +kernel
theorem dX8_digest_38 : decode cX8_digest 38 = .ok (.ldc2_w 214, 3) := by decide +kernel
theorem dX8_digest_41 : decode cX8_digest 41 = .ok (.lload_n 1, 1) := by decide +kernel
theorem dX8_digest_42 : decode cX8_digest 42 = .ok (.lmul, 1) := by decide +kernel
theorem dX8_digest_43 : decode cX8_digest 43 = .ok (.aload_n 0, 1) := by decide +kernel
theorem dX8_digest_44 : decode cX8_digest 44 = .ok (.getfield 43, 3) := by decide +kernel
theorem dX8_digest_47 : decode cX8_digest 47 = .ok (.iload_n 3, 1) := by decide +kernel
theorem dX8_digest_48 : decode cX8_digest 48 = .ok (.invokevirtual 199, 3) := by decide +kernel
theorem dX8_digest_51 : decode cX8_digest 51 = .ok (.i2l, 1) := by decide +kernel
theorem dX8_digest_52 : decode cX8_digest 52 = .ok (.ladd, 1) := by decide +kernel
theorem dX8_digest_53 : decode cX8_digest 53 = .ok (.lstore_n 1, 1) := by decide +kernel
theorem dX8_digest_54 : decode cX8_digest 54 = .ok (.iinc 3 1, 3) := by decide +kernel
theorem dX8_digest_57 : decode cX8_digest 57 = .ok (.goto (-25), 3) := by decide +kernel
theorem dX8_digest_60 : decode cX8_digest 60 = .ok (.iconst 0, 1) := by decide +kernel
theorem dX8_digest_61 : decode cX8_digest 61 = .ok (.istore_n 3, 1) := by decide +kernel
theorem dX8_digest_62 : decode cX8_digest 62 = .ok (.iload_n 3, 1) := by decide +kernel
theorem dX8_digest_63 : decode cX8_digest 63 = .ok (.aload_n 0, 1) := by decide +kernel
theorem dX8_digest_64 : decode cX8_digest 64 = .ok (.getfield 43, 3) := by decide +kernel
theorem dX8_digest_67 : decode cX8_digest 67 = .ok (.getfield 70, 3) := by decide +kernel
theorem dX8_digest_70 : decode cX8_digest 70 = .ok (.if_icmp .ge 22, 3) := by decide +kernel
theorem dX8_digest_73 : decode cX8_digest 73 = .ok (.iload_n 3, 1) := by decide +kernel
theorem dX8_digest_74 : decode cX8_digest 74 = .ok (.bipush 16, 2) := by decide +kernel
theorem dX8_digest_76 : decode cX8_digest 76 = .ok (.if_icmp .ge 16, 3) := by decide +kernel
theorem dX8_digest_79 : decode cX8_digest 79 = .ok (.aload_n 0, 1) := by decide +kernel
theorem dX8_digest_80 : decode cX8_digest 80 = .ok (.lload_n 1, 1) := by decide +kernel
theorem dX8_digest_81 : decode cX8_digest 81 = .ok (.iload_n 3, 1) := by decide +kernel
theorem dX8_digest_82 : decode cX8_digest 82 = .ok (.invokevirtual 216, 3) := by decide +kernel
theorem dX8_digest_85 : decode cX8_digest 85 = .ok (.lstore_n 1, 1) := by decide +kernel
theorem dX8_digest_86 : decode cX8_digest 86 = .ok (.iinc 3 1, 3) := by decide +kernel
theorem dX8_digest_89 : decode cX8_digest 89 = .ok (.goto (-27), 3) := by decide +kernel
theorem dX8_digest_92 : decode cX8_digest 92 = .ok (.aload_n 0, 1) := by decide +kernel
theorem dX8_digest_93 : decode cX8_digest 93 = .ok (.getfield 43, 3) := by decide +kernel
theorem dX8_digest_96 : decode cX8_digest 96 = .ok (.getfield 166, 3) := by decide +kernel
theorem dX8_digest_99 : decode cX8_digest 99 = .ok (.lload_n 1, 1) := by decide +kernel
theorem dX8_digest_100 : decode cX8_digest 100 = .ok (.invokevirtual 220, 3) := by decide +kernel
theorem dX8_digest_103 : decode cX8_digest 103 = .ok (.lstore_n 1, 1) := by decide +kernel
theorem dX8_digest_104 : decode cX8_digest 104 = .ok (.aload_n 0, 1) := by decide +kernel
theorem dX8_digest_105 : decode cX8_digest 105 = .ok (.getfield 43, 3) := by decide +kernel
theorem dX8_digest_108 : decode cX8_digest 108 = .ok (.getfield 178, 3) := by decide +kernel
theorem dX8_digest_111 : decode cX8_digest 111 = .ok (.lload_n 1, 1) := by decide +kernel
theorem dX8_digest_112 : decode cX8_digest 112 = .ok (.invokevirtual 220, 3) := by decide +kernel
theorem dX8_digest_115 : decode cX8_digest 115 = .ok (.lstore_n 1, 1) := by decide +kernel
theorem dX8_digest_116 : decode cX8_digest 116 = .ok (.aload_n 0, 1) := by decide +kernel
theorem dX8_digest_117 : decode cX8_digest 117 = .ok (.getfield 43, 3) := by decide +kernel
theorem dX8_digest_120 : decode cX8_digest 120 = .ok (.getfield 193, 3) := by decide +kernel
theorem dX8_digest_123 : decode cX8_digest 123 = .ok (.lload_n 1, 1) := by decide +kernel
theorem dX8_digest_124 : decode cX8_digest 124 = .ok (.invokevirtual 220, 3) := by decide +kernel
theorem dX8_digest_127 : decode cX8_digest 127 = .ok (.lreturn, 1) := by decide +kernel
theorem dX8_refuse_0 : decode cX8_refuse 0 = .ok (.iload_n 1, 1) := by decide +kernel
theorem dX8_refuse_1 : decode cX8_refuse 1 = .ok (.sipush (-10002), 3) := by decide +kernel
theorem dX8_refuse_4 : decode cX8_refuse 4 = .ok (.if_icmp .ne 16, 3) := by decide +kernel
theorem dX8_refuse_7 : decode cX8_refuse 7 = .ok (.aload_n 0, 1) := by decide +kernel
theorem dX8_refuse_8 : decode cX8_refuse 8 = .ok (.dup, 1) := by decide +kernel
theorem dX8_refuse_9 : decode cX8_refuse 9 = .ok (.getfield 7, 3) := by decide +kernel
theorem dX8_refuse_12 : decode cX8_refuse 12 = .ok (.iconst 1, 1) := by decide +kernel
theorem dX8_refuse_13 : decode cX8_refuse 13 = .ok (.iadd, 1) := by decide +kernel
theorem dX8_refuse_14 : decode cX8_refuse 14 = .ok (.putfield 7, 3) := by decide +kernel
theorem dX8_refuse_17 : decode cX8_refuse 17 = .ok (.goto 33, 3) := by decide +kernel
theorem dX8_refuse_20 : decode cX8_refuse 20 = .ok (.iload_n 1, 1) := by decide +kernel
theorem dX8_refuse_21 : decode cX8_refuse 21 = .ok (.sipush (-10003), 3) := by decide +kernel
theorem dX8_refuse_24 : decode cX8_refuse 24 = .ok (.if_icmp .ne 16, 3) := by decide +kernel
theorem dX8_refuse_27 : decode cX8_refuse 27 = .ok (.aload_n 0, 1) := by decide +kernel
theorem dX8_refuse_28 : decode cX8_refuse 28 = .ok (.dup, 1) := by decide +kernel
theorem dX8_refuse_29 : decode cX8_refuse 29 = .ok (.getfield 13, 3) := by decide +kernel
theorem dX8_refuse_32 : decode cX8_refuse 32 = .ok (.iconst 1, 1) := by decide +kernel
theorem dX8_refuse_33 : decode cX8_refuse 33 = .ok (.iadd, 1) := by decide +kernel
theorem dX8_refuse_34 : decode cX8_refuse 34 = .ok (.putfield 13, 3) := by decide +kernel
theorem dX8_refuse_37 : decode cX8_refuse 37 = .ok (.goto 13, 3) := by decide +kernel
theorem dX8_refuse_40 : decode cX8_refuse 40 = .ok (.aload_n 0, 1) := by decide +kernel
theorem dX8_refuse_41 : decode cX8_refuse 41 = .ok (.dup, 1) := by decide +kernel
theorem dX8_refuse_42 : decode cX8_refuse 42 = .ok (.getfield 16, 3) := by decide +kernel
theorem dX8_refuse_45 : decode cX8_refuse 45 = .ok (.iconst 1, 1) := by decide +kernel
theorem dX8_refuse_46 : decode cX8_refuse 46 = .ok (.iadd, 1) := by decide +kernel
theorem dX8_refuse_47 : decode cX8_refuse 47 = .ok (.putfield 16, 3) := by decide +kernel
theorem dX8_refuse_50 : decode cX8_refuse 50 = .ok (.iload_n 1, 1) := by decide +kernel
theorem dX8_refuse_51 : decode cX8_refuse 51 = .ok (.ireturn, 1) := by decide +kernel
theorem dX8_tally_0 : decode cX8_tally 0 = .ok (.iload_n 1, 1) := by decide +kernel
theorem dX8_tally_1 : decode cX8_tally 1 = .ok (.tableswitch 54 0 3 #[31, 36, 41, 46], 31) := by decide +kernel
theorem dX8_tally_32 : decode cX8_tally 32 = .ok (.aload_n 0, 1) := by decide +kernel
theorem dX8_tally_33 : decode cX8_tally 33 = .ok (.getfield 7, 3) := by decide +kernel
theorem dX8_tally_36 : decode cX8_tally 36 = .ok (.ireturn, 1) := by decide +kernel
theorem dX8_tally_37 : decode cX8_tally 37 = .ok (.aload_n 0, 1) := by decide +kernel
theorem dX8_tally_38 : decode cX8_tally 38 = .ok (.getfield 13, 3) := by decide +kernel
theorem dX8_tally_41 : decode cX8_tally 41 = .ok (.ireturn, 1) := by decide +kernel
theorem dX8_tally_42 : decode cX8_tally 42 = .ok (.aload_n 0, 1) := by decide +kernel
theorem dX8_tally_43 : decode cX8_tally 43 = .ok (.getfield 16, 3) := by decide +kernel
theorem dX8_tally_46 : decode cX8_tally 46 = .ok (.ireturn, 1) := by decide +kernel
theorem dX8_tally_47 : decode cX8_tally 47 = .ok (.aload_n 0, 1) := by decide +kernel
theorem dX8_tally_48 : decode cX8_tally 48 = .ok (.getfield 22, 3) := by decide +kernel
theorem dX8_tally_51 : decode cX8_tally 51 = .ok (.getfield 125, 3) := by decide +kernel
theorem dX8_tally_54 : decode cX8_tally 54 = .ok (.ireturn, 1) := by decide +kernel
theorem dX8_tally_55 : decode cX8_tally 55 = .ok (.aload_n 0, 1) := by decide +kernel
theorem dX8_tally_56 : decode cX8_tally 56 = .ok (.getfield 50, 3) := by decide +kernel
theorem dX8_tally_59 : decode cX8_tally 59 = .ok (.getfield 205, 3) := by decide +kernel
theorem dX8_tally_62 : decode cX8_tally 62 = .ok (.ireturn, 1) := by decide +kernel
theorem dX8_digestNode_0 : decode cX8_digestNode 0 = .ok (.lload_n 1, 1) := by decide +kernel
theorem dX8_digestNode_1 : decode cX8_digestNode 1 = .ok (.lstore 4, 2) := by decide +kernel
theorem dX8_digestNode_3 : decode cX8_digestNode 3 = .ok (.iconst 0, 1) := by decide +kernel
theorem dX8_digestNode_4 : decode cX8_digestNode 4 = .ok (.istore 6, 2) := by decide +kernel
theorem dX8_digestNode_6 : decode cX8_digestNode 6 = .ok (.iload 6, 2) := by decide +kernel
theorem dX8_digestNode_8 : decode cX8_digestNode 8 = .ok (.bipush 8, 2) := by decide +kernel
theorem dX8_digestNode_10 : decode cX8_digestNode 10 = .ok (.if_icmp .gt 26, 3) := by decide +kernel
theorem dX8_digestNode_13 : decode cX8_digestNode 13 = .ok (.ldc2_w 214, 3) := by decide +kernel
theorem dX8_digestNode_16 : decode cX8_digestNode 16 = .ok (.lload 4, 2) := by decide +kernel
theorem dX8_digestNode_18 : decode cX8_digestNode 18 = .ok (.lmul, 1) := by decide +kernel
theorem dX8_digestNode_19 : decode cX8_digestNode 19 = .ok (.aload_n 0, 1) := by decide +kernel
theorem dX8_digestNode_20 : decode cX8_digestNode 20 = .ok (.iload_n 3, 1) := by decide +kernel
theorem dX8_digestNode_21 : decode cX8_digestNode 21 = .ok (.iload 6, 2) := by decide +kernel
theorem dX8_digestNode_23 : decode cX8_digestNode 23 = .ok (.invokevirtual 118, 3) := by decide +kernel
theorem dX8_digestNode_26 : decode cX8_digestNode 26 = .ok (.i2l, 1) := by decide +kernel
theorem dX8_digestNode_27 : decode cX8_digestNode 27 = .ok (.ladd, 1) := by decide +kernel
theorem dX8_digestNode_28 : decode cX8_digestNode 28 = .ok (.lstore 4, 2) := by decide +kernel
theorem dX8_digestNode_30 : decode cX8_digestNode 30 = .ok (.iinc 6 1, 3) := by decide +kernel
theorem dX8_digestNode_33 : decode cX8_digestNode 33 = .ok (.goto (-27), 3) := by decide +kernel
theorem dX8_digestNode_36 : decode cX8_digestNode 36 = .ok (.aload_n 0, 1) := by decide +kernel
theorem dX8_digestNode_37 : decode cX8_digestNode 37 = .ok (.iload_n 3, 1) := by decide +kernel
theorem dX8_digestNode_38 : decode cX8_digestNode 38 = .ok (.invokevirtual 102, 3) := by decide +kernel
theorem dX8_digestNode_41 : decode cX8_digestNode 41 = .ok (.ifCond .eq 38, 3) := by decide +kernel
theorem dX8_digestNode_44 : decode cX8_digestNode 44 = .ok (.iconst 1, 1) := by decide +kernel
theorem dX8_digestNode_45 : decode cX8_digestNode 45 = .ok (.istore 6, 2) := by decide +kernel
theorem dX8_digestNode_47 : decode cX8_digestNode 47 = .ok (.iload 6, 2) := by decide +kernel
theorem dX8_digestNode_49 : decode cX8_digestNode 49 = .ok (.iconst 3, 1) := by decide +kernel
theorem dX8_digestNode_50 : decode cX8_digestNode 50 = .ok (.if_icmp .gt 29, 3) := by decide +kernel
theorem dX8_digestNode_53 : decode cX8_digestNode 53 = .ok (.ldc2_w 214, 3) := by decide +kernel
theorem dX8_digestNode_56 : decode cX8_digestNode 56 = .ok (.lload 4, 2) := by decide +kernel
theorem dX8_digestNode_58 : decode cX8_digestNode 58 = .ok (.lmul, 1) := by decide +kernel
theorem dX8_digestNode_59 : decode cX8_digestNode 59 = .ok (.aload_n 0, 1) := by decide +kernel
theorem dX8_digestNode_60 : decode cX8_digestNode 60 = .ok (.getfield 43, 3) := by decide +kernel
theorem dX8_digestNode_63 : decode cX8_digestNode 63 = .ok (.iload_n 3, 1) := by decide +kernel
theorem dX8_digestNode_64 : decode cX8_digestNode 64 = .ok (.iload 6, 2) := by decide +kernel
theorem dX8_digestNode_66 : decode cX8_digestNode 66 = .ok (.invokevirtual 122, 3) := by decide +kernel
theorem dX8_digestNode_69 : decode cX8_digestNode 69 = .ok (.i2l, 1) := by decide +kernel
theorem dX8_digestNode_70 : decode cX8_digestNode 70 = .ok (.ladd, 1) := by decide +kernel
theorem dX8_digestNode_71 : decode cX8_digestNode 71 = .ok (.lstore 4, 2) := by decide +kernel
theorem dX8_digestNode_73 : decode cX8_digestNode 73 = .ok (.iinc 6 1, 3) := by decide +kernel
theorem dX8_digestNode_76 : decode cX8_digestNode 76 = .ok (.goto (-29), 3) := by decide +kernel
theorem dX8_digestNode_79 : decode cX8_digestNode 79 = .ok (.lload 4, 2) := by decide +kernel
theorem dX8_digestNode_81 : decode cX8_digestNode 81 = .ok (.lreturn, 1) := by decide +kernel
theorem dX8_nodeReading_0 : decode cX8_nodeReading 0 = .ok (.aload_n 0, 1) := by decide +kernel
theorem dX8_nodeReading_1 : decode cX8_nodeReading 1 = .ok (.getfield 29, 3) := by decide +kernel
theorem dX8_nodeReading_4 : decode cX8_nodeReading 4 = .ok (.getfield 77, 3) := by decide +kernel
theorem dX8_nodeReading_7 : decode cX8_nodeReading 7 = .ok (.iload_n 1, 1) := by decide +kernel
theorem dX8_nodeReading_8 : decode cX8_nodeReading 8 = .ok (.aaload, 1) := by decide +kernel
theorem dX8_nodeReading_9 : decode cX8_nodeReading 9 = .ok (.astore_n 3, 1) := by decide +kernel
theorem dX8_nodeReading_10 : decode cX8_nodeReading 10 = .ok (.iload_n 2, 1) := by decide +kernel
theorem dX8_nodeReading_11 : decode cX8_nodeReading 11 = .ok (.tableswitch 95 0 7 #[45, 50, 55, 60, 65, 75, 85, 90], 45) := by decide +kernel
theorem dX8_nodeReading_56 : decode cX8_nodeReading 56 = .ok (.aload_n 3, 1) := by decide +kernel
theorem dX8_nodeReading_57 : decode cX8_nodeReading 57 = .ok (.getfield 80, 3) := by decide +kernel
theorem dX8_nodeReading_60 : decode cX8_nodeReading 60 = .ok (.ireturn, 1) := by decide +kernel
theorem dX8_nodeReading_61 : decode cX8_nodeReading 61 = .ok (.aload_n 3, 1) := by decide +kernel
theorem dX8_nodeReading_62 : decode cX8_nodeReading 62 = .ok (.getfield 85, 3) := by decide +kernel
theorem dX8_nodeReading_65 : decode cX8_nodeReading 65 = .ok (.ireturn, 1) := by decide +kernel
theorem dX8_nodeReading_66 : decode cX8_nodeReading 66 = .ok (.aload_n 3, 1) := by decide +kernel
theorem dX8_nodeReading_67 : decode cX8_nodeReading 67 = .ok (.getfield 88, 3) := by decide +kernel
theorem dX8_nodeReading_70 : decode cX8_nodeReading 70 = .ok (.ireturn, 1) := by decide +kernel
theorem dX8_nodeReading_71 : decode cX8_nodeReading 71 = .ok (.aload_n 3, 1) := by decide +kernel
theorem dX8_nodeReading_72 : decode cX8_nodeReading 72 = .ok (.getfield 91, 3) := by decide +kernel
theorem dX8_nodeReading_75 : decode cX8_nodeReading 75 = .ok (.ireturn, 1) := by decide +kernel
theorem dX8_nodeReading_76 : decode cX8_nodeReading 76 = .ok (.aload_n 0, 1) := by decide +kernel
theorem dX8_nodeReading_77 : decode cX8_nodeReading 77 = .ok (.getfield 43, 3) := by decide +kernel
theorem dX8_nodeReading_80 : decode cX8_nodeReading 80 = .ok (.getfield 105, 3) := by decide +kernel
theorem dX8_nodeReading_83 : decode cX8_nodeReading 83 = .ok (.iload_n 1, 1) := by decide +kernel
theorem dX8_nodeReading_84 : decode cX8_nodeReading 84 = .ok (.iaload, 1) := by decide +kernel
theorem dX8_nodeReading_85 : decode cX8_nodeReading 85 = .ok (.ireturn, 1) := by decide +kernel
theorem dX8_nodeReading_86 : decode cX8_nodeReading 86 = .ok (.aload_n 0, 1) := by decide +kernel
theorem dX8_nodeReading_87 : decode cX8_nodeReading 87 = .ok (.getfield 43, 3) := by decide +kernel
theorem dX8_nodeReading_90 : decode cX8_nodeReading 90 = .ok (.getfield 109, 3) := by decide +kernel
theorem dX8_nodeReading_93 : decode cX8_nodeReading 93 = .ok (.iload_n 1, 1) := by decide +kernel
theorem dX8_nodeReading_94 : decode cX8_nodeReading 94 = .ok (.iaload, 1) := by decide +kernel
theorem dX8_nodeReading_95 : decode cX8_nodeReading 95 = .ok (.ireturn, 1) := by decide +kernel
theorem dX8_nodeReading_96 : decode cX8_nodeReading 96 = .ok (.aload_n 3, 1) := by decide +kernel
theorem dX8_nodeReading_97 : decode cX8_nodeReading 97 = .ok (.getfield 224, 3) := by decide +kernel
theorem dX8_nodeReading_100 : decode cX8_nodeReading 100 = .ok (.ireturn, 1) := by decide +kernel
theorem dX8_nodeReading_101 : decode cX8_nodeReading 101 = .ok (.aload_n 3, 1) := by decide +kernel
theorem dX8_nodeReading_102 : decode cX8_nodeReading 102 = .ok (.getfield 227, 3) := by decide +kernel
theorem dX8_nodeReading_105 : decode cX8_nodeReading 105 = .ok (.ireturn, 1) := by decide +kernel
theorem dX8_nodeReading_106 : decode cX8_nodeReading 106 = .ok (.aload_n 0, 1) := by decide +kernel
theorem dX8_nodeReading_107 : decode cX8_nodeReading 107 = .ok (.getfield 43, 3) := by decide +kernel
theorem dX8_nodeReading_110 : decode cX8_nodeReading 110 = .ok (.getfield 230, 3) := by decide +kernel
theorem dX8_nodeReading_113 : decode cX8_nodeReading 113 = .ok (.iload_n 1, 1) := by decide +kernel
theorem dX8_nodeReading_114 : decode cX8_nodeReading 114 = .ok (.iaload, 1) := by decide +kernel
theorem dX8_nodeReading_115 : decode cX8_nodeReading 115 = .ok (.ireturn, 1) := by decide +kernel
theorem dX8_isNode_0 : decode cX8_isNode 0 = .ok (.iload_n 1, 1) := by decide +kernel
theorem dX8_isNode_1 : decode cX8_isNode 1 = .ok (.ifCond .lt 24, 3) := by decide +kernel
theorem dX8_isNode_4 : decode cX8_isNode 4 = .ok (.iload_n 1, 1) := by decide +kernel
theorem dX8_isNode_5 : decode cX8_isNode 5 = .ok (.aload_n 0, 1) := by decide +kernel
theorem dX8_isNode_6 : decode cX8_isNode 6 = .ok (.getfield 43, 3) := by decide +kernel
theorem dX8_isNode_9 : decode cX8_isNode 9 = .ok (.getfield 70, 3) := by decide +kernel
theorem dX8_isNode_12 : decode cX8_isNode 12 = .ok (.if_icmp .ge 13, 3) := by decide +kernel
theorem dX8_isNode_15 : decode cX8_isNode 15 = .ok (.iload_n 1, 1) := by decide +kernel
theorem dX8_isNode_16 : decode cX8_isNode 16 = .ok (.bipush 16, 2) := by decide +kernel
theorem dX8_isNode_18 : decode cX8_isNode 18 = .ok (.if_icmp .ge 7, 3) := by decide +kernel
theorem dX8_isNode_21 : decode cX8_isNode 21 = .ok (.iconst 1, 1) := by decide +kernel
theorem dX8_isNode_22 : decode cX8_isNode 22 = .ok (.goto 4, 3) := by decide +kernel
theorem dX8_isNode_25 : decode cX8_isNode 25 = .ok (.iconst 0, 1) := by decide +kernel
theorem dX8_isNode_26 : decode cX8_isNode 26 = .ok (.ireturn, 1) := by decide +kernel
theorem dX8_isParent_0 : decode cX8_isParent 0 = .ok (.aload_n 0, 1) := by decide +kernel
theorem dX8_isParent_1 : decode cX8_isParent 1 = .ok (.iload_n 1, 1) := by decide +kernel
theorem dX8_isParent_2 : decode cX8_isParent 2 = .ok (.invokevirtual 115, 3) := by decide +kernel
theorem dX8_isParent_5 : decode cX8_isParent 5 = .ok (.ifCond .eq 22, 3) := by decide +kernel
theorem dX8_isParent_8 : decode cX8_isParent 8 = .ok (.aload_n 0, 1) := by decide +kernel
theorem dX8_isParent_9 : decode cX8_isParent 9 = .ok (.getfield 29, 3) := by decide +kernel
theorem dX8_isParent_12 : decode cX8_isParent 12 = .ok (.getfield 77, 3) := by decide +kernel
theorem dX8_isParent_15 : decode cX8_isParent 15 = .ok (.iload_n 1, 1) := by decide +kernel
theorem dX8_isParent_16 : decode cX8_isParent 16 = .ok (.aaload, 1) := by decide +kernel
theorem dX8_isParent_17 : decode cX8_isParent 17 = .ok (.getfield 85, 3) := by decide +kernel
theorem dX8_isParent_20 : decode cX8_isParent 20 = .ok (.ifCond .ne 7, 3) := by decide +kernel
theorem dX8_isParent_23 : decode cX8_isParent 23 = .ok (.iconst 1, 1) := by decide +kernel
theorem dX8_isParent_24 : decode cX8_isParent 24 = .ok (.goto 4, 3) := by decide +kernel
theorem dX8_isParent_27 : decode cX8_isParent 27 = .ok (.iconst 0, 1) := by decide +kernel
theorem dX8_isParent_28 : decode cX8_isParent 28 = .ok (.ireturn, 1) := by decide +kernel
theorem dX8_isValueNode_0 : decode cX8_isValueNode 0 = .ok (.aload_n 0, 1) := by decide +kernel
theorem dX8_isValueNode_1 : decode cX8_isValueNode 1 = .ok (.iload_n 1, 1) := by decide +kernel
theorem dX8_isValueNode_2 : decode cX8_isValueNode 2 = .ok (.invokevirtual 115, 3) := by decide +kernel
theorem dX8_isValueNode_5 : decode cX8_isValueNode 5 = .ok (.ifCond .eq 23, 3) := by decide +kernel
theorem dX8_isValueNode_8 : decode cX8_isValueNode 8 = .ok (.aload_n 0, 1) := by decide +kernel
theorem dX8_isValueNode_9 : decode cX8_isValueNode 9 = .ok (.getfield 29, 3) := by decide +kernel
theorem dX8_isValueNode_12 : decode cX8_isValueNode 12 = .ok (.getfield 77, 3) := by decide +kernel
theorem dX8_isValueNode_15 : decode cX8_isValueNode 15 = .ok (.iload_n 1, 1) := by decide +kernel
theorem dX8_isValueNode_16 : decode cX8_isValueNode 16 = .ok (.aaload, 1) := by decide +kernel
theorem dX8_isValueNode_17 : decode cX8_isValueNode 17 = .ok (.getfield 85, 3) := by decide +kernel
theorem dX8_isValueNode_20 : decode cX8_isValueNode 20 = .ok (.iconst 1, 1) := by decide +kernel
theorem dX8_isValueNode_21 : decode cX8_isValueNode 21 = .ok (.if_icmp .ne 7, 3) := by decide +kernel
theorem dX8_isValueNode_24 : decode cX8_isValueNode 24 = .ok (.iconst 1, 1) := by decide +kernel
theorem dX8_isValueNode_25 : decode cX8_isValueNode 25 = .ok (.goto 4, 3) := by decide +kernel
theorem dX8_isValueNode_28 : decode cX8_isValueNode 28 = .ok (.iconst 0, 1) := by decide +kernel
theorem dX8_isValueNode_29 : decode cX8_isValueNode 29 = .ok (.ireturn, 1) := by decide +kernel
theorem dX8_performCommon_0 : decode cX8_performCommon 0 = .ok (.aload_n 0, 1) := by decide +kernel
theorem dX8_performCommon_1 : decode cX8_performCommon 1 = .ok (.getfield 36, 3) := by decide +kernel
theorem dX8_performCommon_4 : decode cX8_performCommon 4 = .ok (.aload_n 0, 1) := by decide +kernel
theorem dX8_performCommon_5 : decode cX8_performCommon 5 = .ok (.getfield 22, 3) := by decide +kernel
theorem dX8_performCommon_8 : decode cX8_performCommon 8 = .ok (.invokevirtual 233, 3) := by decide +kernel
theorem dX8_performCommon_11 : decode cX8_performCommon 11 = .ok (.istore_n 1, 1) := by decide +kernel
theorem dX8_performCommon_12 : decode cX8_performCommon 12 = .ok (.iload_n 1, 1) := by decide +kernel
theorem dX8_performCommon_13 : decode cX8_performCommon 13 = .ok (.aload_n 0, 1) := by decide +kernel
theorem dX8_performCommon_14 : decode cX8_performCommon 14 = .ok (.getfield 36, 3) := by decide +kernel
theorem dX8_performCommon_17 : decode cX8_performCommon 17 = .ok (.getfield 237, 3) := by decide +kernel
theorem dX8_performCommon_20 : decode cX8_performCommon 20 = .ok (.invokestatic 240, 3) := by decide +kernel
theorem dX8_performCommon_23 : decode cX8_performCommon 23 = .ok (.ifCond .ne 6, 3) := by decide +kernel
theorem dX8_performCommon_26 : decode cX8_performCommon 26 = .ok (.bipush (-113), 2) := by decide +kernel
theorem dX8_performCommon_28 : decode cX8_performCommon 28 = .ok (.ireturn, 1) := by decide +kernel
theorem dX8_performCommon_29 : decode cX8_performCommon 29 = .ok (.aload_n 0, 1) := by decide +kernel
theorem dX8_performCommon_30 : decode cX8_performCommon 30 = .ok (.getfield 36, 3) := by decide +kernel
theorem dX8_performCommon_33 : decode cX8_performCommon 33 = .ok (.iload_n 1, 1) := by decide +kernel
theorem dX8_performCommon_34 : decode cX8_performCommon 34 = .ok (.iconst 2, 1) := by decide +kernel
theorem dX8_performCommon_35 : decode cX8_performCommon 35 = .ok (.if_icmp .eq 8, 3) := by decide +kernel
theorem dX8_performCommon_38 : decode cX8_performCommon 38 = .ok (.iload_n 1, 1) := by decide +kernel
theorem dX8_performCommon_39 : decode cX8_performCommon 39 = .ok (.iconst 3, 1) := by decide +kernel
theorem dX8_performCommon_40 : decode cX8_performCommon 40 = .ok (.if_icmp .ne 7, 3) := by decide +kernel
theorem dX8_performCommon_43 : decode cX8_performCommon 43 = .ok (.iconst 1, 1) := by decide +kernel
theorem dX8_performCommon_44 : decode cX8_performCommon 44 = .ok (.goto 4, 3) := by decide +kernel
theorem dX8_performCommon_47 : decode cX8_performCommon 47 = .ok (.iconst 0, 1) := by decide +kernel
theorem dX8_performCommon_48 : decode cX8_performCommon 48 = .ok (.invokevirtual 244, 3) := by decide +kernel
theorem dX8_performCommon_51 : decode cX8_performCommon 51 = .ok (.istore_n 2, 1) := by decide +kernel
theorem dX8_performCommon_52 : decode cX8_performCommon 52 = .ok (.iload_n 2, 1) := by decide +kernel
theorem dX8_performCommon_53 : decode cX8_performCommon 53 = .ok (.ifCond .eq 5, 3) := by decide +kernel
theorem dX8_performCommon_56 : decode cX8_performCommon 56 = .ok (.iload_n 2, 1) := by decide +kernel
theorem dX8_performCommon_57 : decode cX8_performCommon 57 = .ok (.ireturn, 1) := by decide +kernel
theorem dX8_performCommon_58 : decode cX8_performCommon 58 = .ok (.aload_n 0, 1) := by decide +kernel
theorem dX8_performCommon_59 : decode cX8_performCommon 59 = .ok (.getfield 36, 3) := by decide +kernel
theorem dX8_performCommon_62 : decode cX8_performCommon 62 = .ok (.getfield 237, 3) := by decide +kernel
theorem dX8_performCommon_65 : decode cX8_performCommon 65 = .ok (.ifCond .eq 21, 3) := by decide +kernel
theorem dX8_performCommon_68 : decode cX8_performCommon 68 = .ok (.aload_n 0, 1) := by decide +kernel
theorem dX8_performCommon_69 : decode cX8_performCommon 69 = .ok (.getfield 43, 3) := by decide +kernel
theorem dX8_performCommon_72 : decode cX8_performCommon 72 = .ok (.aload_n 0, 1) := by decide +kernel
theorem dX8_performCommon_73 : decode cX8_performCommon 73 = .ok (.getfield 43, 3) := by decide +kernel
theorem dX8_performCommon_76 : decode cX8_performCommon 76 = .ok (.iload_n 1, 1) := by decide +kernel
theorem dX8_performCommon_77 : decode cX8_performCommon 77 = .ok (.invokevirtual 248, 3) := by decide +kernel
theorem dX8_performCommon_80 : decode cX8_performCommon 80 = .ok (.invokevirtual 251, 3) := by decide +kernel
theorem dX8_performCommon_83 : decode cX8_performCommon 83 = .ok (.goto 18, 3) := by decide +kernel
theorem dX8_performCommon_86 : decode cX8_performCommon 86 = .ok (.aload_n 0, 1) := by decide +kernel
theorem dX8_performCommon_87 : decode cX8_performCommon 87 = .ok (.getfield 43, 3) := by decide +kernel
theorem dX8_performCommon_90 : decode cX8_performCommon 90 = .ok (.iload_n 1, 1) := by decide +kernel
theorem dX8_performCommon_91 : decode cX8_performCommon 91 = .ok (.aload_n 0, 1) := by decide +kernel
theorem dX8_performCommon_92 : decode cX8_performCommon 92 = .ok (.getfield 36, 3) := by decide +kernel
theorem dX8_performCommon_95 : decode cX8_performCommon 95 = .ok (.getfield 254, 3) := by decide +kernel
theorem dX8_performCommon_98 : decode cX8_performCommon 98 = .ok (.invokevirtual 257, 3) := by decide +kernel
theorem dX8_performCommon_101 : decode cX8_performCommon 101 = .ok (.iconst 0, 1) := by decide +kernel
theorem dX8_performCommon_102 : decode cX8_performCommon 102 = .ok (.ireturn, 1) := by decide +kernel
theorem dX8_performOrder_0 : decode cX8_performOrder 0 = .ok (.aload_n 0, 1) := by decide +kernel
theorem dX8_performOrder_1 : decode cX8_performOrder 1 = .ok (.getfield 29, 3) := by decide +kernel
theorem dX8_performOrder_4 : decode cX8_performOrder 4 = .ok (.aload_n 0, 1) := by decide +kernel
theorem dX8_performOrder_5 : decode cX8_performOrder 5 = .ok (.getfield 22, 3) := by decide +kernel
theorem dX8_performOrder_8 : decode cX8_performOrder 8 = .ok (.aload_n 0, 1) := by decide +kernel
theorem dX8_performOrder_9 : decode cX8_performOrder 9 = .ok (.getfield 36, 3) := by decide +kernel
theorem dX8_performOrder_12 : decode cX8_performOrder 12 = .ok (.getfield 158, 3) := by decide +kernel
theorem dX8_performOrder_15 : decode cX8_performOrder 15 = .ok (.aload_n 0, 1) := by decide +kernel
theorem dX8_performOrder_16 : decode cX8_performOrder 16 = .ok (.getfield 43, 3) := by decide +kernel
theorem dX8_performOrder_19 : decode cX8_performOrder 19 = .ok (.getfield 70, 3) := by decide +kernel
theorem dX8_performOrder_22 : decode cX8_performOrder 22 = .ok (.invokevirtual 162, 3) := by decide +kernel
theorem dX8_performOrder_25 : decode cX8_performOrder 25 = .ok (.istore_n 1, 1) := by decide +kernel
theorem dX8_performOrder_26 : decode cX8_performOrder 26 = .ok (.aload_n 0, 1) := by decide +kernel
theorem dX8_performOrder_27 : decode cX8_performOrder 27 = .ok (.iload_n 1, 1) := by decide +kernel
theorem dX8_performOrder_28 : decode cX8_performOrder 28 = .ok (.invokevirtual 115, 3) := by decide +kernel
theorem dX8_performOrder_31 : decode cX8_performOrder 31 = .ok (.ifCond .ne 6, 3) := by decide +kernel
theorem dX8_performOrder_34 : decode cX8_performOrder 34 = .ok (.bipush (-113), 2) := by decide +kernel
theorem dX8_performOrder_36 : decode cX8_performOrder 36 = .ok (.ireturn, 1) := by decide +kernel
theorem dX8_performOrder_37 : decode cX8_performOrder 37 = .ok (.aload_n 0, 1) := by decide +kernel
theorem dX8_performOrder_38 : decode cX8_performOrder 38 = .ok (.getfield 36, 3) := by decide +kernel
theorem dX8_performOrder_41 : decode cX8_performOrder 41 = .ok (.invokevirtual 261, 3) := by decide +kernel
theorem dX8_performOrder_44 : decode cX8_performOrder 44 = .ok (.aload_n 0, 1) := by decide +kernel
theorem dX8_performOrder_45 : decode cX8_performOrder 45 = .ok (.iload_n 1, 1) := by decide +kernel
theorem dX8_performOrder_46 : decode cX8_performOrder 46 = .ok (.invokevirtual 102, 3) := by decide +kernel
theorem dX8_performOrder_49 : decode cX8_performOrder 49 = .ok (.istore_n 2, 1) := by decide +kernel
theorem dX8_performOrder_50 : decode cX8_performOrder 50 = .ok (.aload_n 0, 1) := by decide +kernel
theorem dX8_performOrder_51 : decode cX8_performOrder 51 = .ok (.getfield 36, 3) := by decide +kernel
theorem dX8_performOrder_54 : decode cX8_performOrder 54 = .ok (.iload_n 2, 1) := by decide +kernel
theorem dX8_performOrder_55 : decode cX8_performOrder 55 = .ok (.invokevirtual 244, 3) := by decide +kernel
theorem dX8_performOrder_58 : decode cX8_performOrder 58 = .ok (.istore_n 3, 1) := by decide +kernel
theorem dX8_performOrder_59 : decode cX8_performOrder 59 = .ok (.iload_n 3, 1) := by decide +kernel
theorem dX8_performOrder_60 : decode cX8_performOrder 60 = .ok (.ifCond .eq 5, 3) := by decide +kernel
theorem dX8_performOrder_63 : decode cX8_performOrder 63 = .ok (.iload_n 3, 1) := by decide +kernel
theorem dX8_performOrder_64 : decode cX8_performOrder 64 = .ok (.ireturn, 1) := by decide +kernel
theorem dX8_performOrder_65 : decode cX8_performOrder 65 = .ok (.aload_n 0, 1) := by decide +kernel
theorem dX8_performOrder_66 : decode cX8_performOrder 66 = .ok (.getfield 36, 3) := by decide +kernel
theorem dX8_performOrder_69 : decode cX8_performOrder 69 = .ok (.getfield 237, 3) := by decide +kernel
theorem dX8_performOrder_72 : decode cX8_performOrder 72 = .ok (.ifCond .eq 44, 3) := by decide +kernel
theorem dX8_performOrder_75 : decode cX8_performOrder 75 = .ok (.aload_n 0, 1) := by decide +kernel
theorem dX8_performOrder_76 : decode cX8_performOrder 76 = .ok (.getfield 43, 3) := by decide +kernel
theorem dX8_performOrder_79 : decode cX8_performOrder 79 = .ok (.iload_n 2, 1) := by decide +kernel
theorem dX8_performOrder_80 : decode cX8_performOrder 80 = .ok (.ifCond .eq 21, 3) := by decide +kernel
theorem dX8_performOrder_83 : decode cX8_performOrder 83 = .ok (.aload_n 0, 1) := by decide +kernel
theorem dX8_performOrder_84 : decode cX8_performOrder 84 = .ok (.getfield 43, 3) := by decide +kernel
theorem dX8_performOrder_87 : decode cX8_performOrder 87 = .ok (.iload_n 1, 1) := by decide +kernel
theorem dX8_performOrder_88 : decode cX8_performOrder 88 = .ok (.aload_n 0, 1) := by decide +kernel
theorem dX8_performOrder_89 : decode cX8_performOrder 89 = .ok (.getfield 29, 3) := by decide +kernel
theorem dX8_performOrder_92 : decode cX8_performOrder 92 = .ok (.getfield 264, 3) := by decide +kernel
theorem dX8_performOrder_95 : decode cX8_performOrder 95 = .ok (.invokevirtual 122, 3) := by decide +kernel
theorem dX8_performOrder_98 : decode cX8_performOrder 98 = .ok (.goto 12, 3) := by decide +kernel
theorem dX8_performOrder_101 : decode cX8_performOrder 101 = .ok (.aload_n 0, 1) := by decide +kernel
theorem dX8_performOrder_102 : decode cX8_performOrder 102 = .ok (.getfield 43, 3) := by decide +kernel
theorem dX8_performOrder_105 : decode cX8_performOrder 105 = .ok (.getfield 230, 3) := by decide +kernel
theorem dX8_performOrder_108 : decode cX8_performOrder 108 = .ok (.iload_n 1, 1) := by decide +kernel
theorem dX8_performOrder_109 : decode cX8_performOrder 109 = .ok (.iaload, 1) := by decide +kernel
theorem dX8_performOrder_110 : decode cX8_performOrder 110 = .ok (.invokevirtual 251, 3) := by decide +kernel
theorem dX8_performOrder_113 : decode cX8_performOrder 113 = .ok (.goto 61, 3) := by decide +kernel
theorem dX8_performOrder_116 : decode cX8_performOrder 116 = .ok (.iload_n 2, 1) := by decide +kernel
theorem dX8_performOrder_117 : decode cX8_performOrder 117 = .ok (.ifCond .eq 28, 3) := by decide +kernel
theorem dX8_performOrder_120 : decode cX8_performOrder 120 = .ok (.aload_n 0, 1) := by decide +kernel
theorem dX8_performOrder_121 : decode cX8_performOrder 121 = .ok (.getfield 43, 3) := by decide +kernel
theorem dX8_performOrder_124 : decode cX8_performOrder 124 = .ok (.iload_n 1, 1) := by decide +kernel
theorem dX8_performOrder_125 : decode cX8_performOrder 125 = .ok (.aload_n 0, 1) := by decide +kernel
theorem dX8_performOrder_126 : decode cX8_performOrder 126 = .ok (.getfield 29, 3) := by decide +kernel
theorem dX8_performOrder_129 : decode cX8_performOrder 129 = .ok (.getfield 264, 3) := by decide +kernel
theorem dX8_performOrder_132 : decode cX8_performOrder 132 = .ok (.aload_n 0, 1) := by decide +kernel
theorem dX8_performOrder_133 : decode cX8_performOrder 133 = .ok (.getfield 36, 3) := by decide +kernel
theorem dX8_performOrder_136 : decode cX8_performOrder 136 = .ok (.getfield 254, 3) := by decide +kernel
theorem dX8_performOrder_139 : decode cX8_performOrder 139 = .ok (.invokevirtual 267, 3) := by decide +kernel
theorem dX8_performOrder_142 : decode cX8_performOrder 142 = .ok (.goto 32, 3) := by decide +kernel
theorem dX8_performOrder_145 : decode cX8_performOrder 145 = .ok (.aload_n 0, 1) := by decide +kernel
theorem dX8_performOrder_146 : decode cX8_performOrder 146 = .ok (.getfield 43, 3) := by decide +kernel
theorem dX8_performOrder_149 : decode cX8_performOrder 149 = .ok (.iload_n 1, 1) := by decide +kernel
theorem dX8_performOrder_150 : decode cX8_performOrder 150 = .ok (.aload_n 0, 1) := by decide +kernel
theorem dX8_performOrder_151 : decode cX8_performOrder 151 = .ok (.getfield 29, 3) := by decide +kernel
theorem dX8_performOrder_154 : decode cX8_performOrder 154 = .ok (.getfield 77, 3) := by decide +kernel
theorem dX8_performOrder_157 : decode cX8_performOrder 157 = .ok (.iload_n 1, 1) := by decide +kernel
theorem dX8_performOrder_158 : decode cX8_performOrder 158 = .ok (.aaload, 1) := by decide +kernel
theorem dX8_performOrder_159 : decode cX8_performOrder 159 = .ok (.getfield 85, 3) := by decide +kernel
theorem dX8_performOrder_162 : decode cX8_performOrder 162 = .ok (.iconst 3, 1) := by decide +kernel
theorem dX8_performOrder_163 : decode cX8_performOrder 163 = .ok (.if_icmp .ne 7, 3) := by decide +kernel
theorem dX8_performOrder_166 : decode cX8_performOrder 166 = .ok (.iconst 1, 1) := by decide +kernel
theorem dX8_performOrder_167 : decode cX8_performOrder 167 = .ok (.goto 4, 3) := by decide +kernel
theorem dX8_performOrder_170 : decode cX8_performOrder 170 = .ok (.iconst 0, 1) := by decide +kernel
theorem dX8_performOrder_171 : decode cX8_performOrder 171 = .ok (.invokevirtual 271, 3) := by decide +kernel
theorem dX8_performOrder_174 : decode cX8_performOrder 174 = .ok (.iconst 0, 1) := by decide +kernel
theorem dX8_performOrder_175 : decode cX8_performOrder 175 = .ok (.ireturn, 1) := by decide +kernel
theorem dX8_hasForm_0 : decode cX8_hasForm 0 = .ok (.iload_n 0, 1) := by decide +kernel
theorem dX8_hasForm_1 : decode cX8_hasForm 1 = .ok (.tableswitch 57 1 7 #[43, 55, 55, 53, 53, 55, 43], 43) := by decide +kernel
theorem dX8_hasForm_44 : decode cX8_hasForm 44 = .ok (.iload_n 1, 1) := by decide +kernel
theorem dX8_hasForm_45 : decode cX8_hasForm 45 = .ok (.ifCond .ne 7, 3) := by decide +kernel
theorem dX8_hasForm_48 : decode cX8_hasForm 48 = .ok (.iconst 1, 1) := by decide +kernel
theorem dX8_hasForm_49 : decode cX8_hasForm 49 = .ok (.goto 4, 3) := by decide +kernel
theorem dX8_hasForm_52 : decode cX8_hasForm 52 = .ok (.iconst 0, 1) := by decide +kernel
theorem dX8_hasForm_53 : decode cX8_hasForm 53 = .ok (.ireturn, 1) := by decide +kernel
theorem dX8_hasForm_54 : decode cX8_hasForm 54 = .ok (.iload_n 1, 1) := by decide +kernel
theorem dX8_hasForm_55 : decode cX8_hasForm 55 = .ok (.ireturn, 1) := by decide +kernel
theorem dX8_hasForm_56 : decode cX8_hasForm 56 = .ok (.iconst 1, 1) := by decide +kernel
theorem dX8_hasForm_57 : decode cX8_hasForm 57 = .ok (.ireturn, 1) := by decide +kernel
theorem dX8_hasForm_58 : decode cX8_hasForm 58 = .ok (.iconst 0, 1) := by decide +kernel
theorem dX8_hasForm_59 : decode cX8_hasForm 59 = .ok (.ireturn, 1) := by decide +kernel
theorem dX8_isWithin_0 : decode cX8_isWithin 0 = .ok (.iload_n 0, 1) := by decide +kernel
theorem dX8_isWithin_1 : decode cX8_isWithin 1 = .ok (.iload_n 1, 1) := by decide +kernel
theorem dX8_isWithin_2 : decode cX8_isWithin 2 = .ok (.if_icmp .lt 12, 3) := by decide +kernel
theorem dX8_isWithin_5 : decode cX8_isWithin 5 = .ok (.iload_n 0, 1) := by decide +kernel
theorem dX8_isWithin_6 : decode cX8_isWithin 6 = .ok (.iload_n 2, 1) := by decide +kernel
theorem dX8_isWithin_7 : decode cX8_isWithin 7 = .ok (.if_icmp .gt 7, 3) := by decide +kernel
theorem dX8_isWithin_10 : decode cX8_isWithin 10 = .ok (.iconst 1, 1) := by decide +kernel
theorem dX8_isWithin_11 : decode cX8_isWithin 11 = .ok (.goto 4, 3) := by decide +kernel
theorem dX8_isWithin_14 : decode cX8_isWithin 14 = .ok (.iconst 0, 1) := by decide +kernel
theorem dX8_isWithin_15 : decode cX8_isWithin 15 = .ok (.ireturn, 1) := by decide +kernel
theorem dX8_isCapital_0 : decode cX8_isCapital 0 = .ok (.iload_n 0, 1) := by decide +kernel
theorem dX8_isCapital_1 : decode cX8_isCapital 1 = .ok (.bipush 65, 2) := by decide +kernel
theorem dX8_isCapital_3 : decode cX8_isCapital 3 = .ok (.if_icmp .lt 13, 3) := by decide +kernel
theorem dX8_isCapital_6 : decode cX8_isCapital 6 = .ok (.iload_n 0, 1) := by decide +kernel
theorem dX8_isCapital_7 : decode cX8_isCapital 7 = .ok (.bipush 90, 2) := by decide +kernel
theorem dX8_isCapital_9 : decode cX8_isCapital 9 = .ok (.if_icmp .gt 7, 3) := by decide +kernel
theorem dX8_isCapital_12 : decode cX8_isCapital 12 = .ok (.iconst 1, 1) := by decide +kernel
theorem dX8_isCapital_13 : decode cX8_isCapital 13 = .ok (.goto 4, 3) := by decide +kernel
theorem dX8_isCapital_16 : decode cX8_isCapital 16 = .ok (.iconst 0, 1) := by decide +kernel
theorem dX8_isCapital_17 : decode cX8_isCapital 17 = .ok (.ireturn, 1) := by decide +kernel
theorem dX8_isSmall_0 : decode cX8_isSmall 0 = .ok (.iload_n 0, 1) := by decide +kernel
theorem dX8_isSmall_1 : decode cX8_isSmall 1 = .ok (.bipush 97, 2) := by decide +kernel
theorem dX8_isSmall_3 : decode cX8_isSmall 3 = .ok (.if_icmp .lt 13, 3) := by decide +kernel
theorem dX8_isSmall_6 : decode cX8_isSmall 6 = .ok (.iload_n 0, 1) := by decide +kernel
theorem dX8_isSmall_7 : decode cX8_isSmall 7 = .ok (.bipush 122, 2) := by decide +kernel
theorem dX8_isSmall_9 : decode cX8_isSmall 9 = .ok (.if_icmp .gt 7, 3) := by decide +kernel
theorem dX8_isSmall_12 : decode cX8_isSmall 12 = .ok (.iconst 1, 1) := by decide +kernel
theorem dX8_isSmall_13 : decode cX8_isSmall 13 = .ok (.goto 4, 3) := by decide +kernel
theorem dX8_isSmall_16 : decode cX8_isSmall 16 = .ok (.iconst 0, 1) := by decide +kernel
theorem dX8_isSmall_17 : decode cX8_isSmall 17 = .ok (.ireturn, 1) := by decide +kernel
theorem dX8_isLetter_0 : decode cX8_isLetter 0 = .ok (.iload_n 0, 1) := by decide +kernel
theorem dX8_isLetter_1 : decode cX8_isLetter 1 = .ok (.bipush 65, 2) := by decide +kernel
