theorem dX9_isUnit_45 : decode cX9_isUnit 45 = .ok (.ifCond .eq 7, 3) := by decide +kernel
theorem dX9_isUnit_48 : decode cX9_isUnit 48 = .ok (.iconst 1, 1) := by decide +kernel
theorem dX9_isUnit_49 : decode cX9_isUnit 49 = .ok (.goto 4, 3) := by decide +kernel
theorem dX9_isUnit_52 : decode cX9_isUnit 52 = .ok (.iconst 0, 1) := by decide +kernel
theorem dX9_isUnit_53 : decode cX9_isUnit 53 = .ok (.iadd, 1) := by decide +kernel
theorem dX9_isUnit_54 : decode cX9_isUnit 54 = .ok (.putfield 127, 3) := by decide +kernel
theorem dX9_isUnit_57 : decode cX9_isUnit 57 = .ok (.aload_n 0, 1) := by decide +kernel
theorem dX9_isUnit_58 : decode cX9_isUnit 58 = .ok (.getfield 127, 3) := by decide +kernel
theorem dX9_isUnit_61 : decode cX9_isUnit 61 = .ok (.istore_n 1, 1) := by decide +kernel
theorem dX9_isUnit_62 : decode cX9_isUnit 62 = .ok (.aload_n 0, 1) := by decide +kernel
theorem dX9_isUnit_63 : decode cX9_isUnit 63 = .ok (.invokevirtual 167, 3) := by decide +kernel
theorem dX9_isUnit_66 : decode cX9_isUnit 66 = .ok (.aload_n 0, 1) := by decide +kernel
theorem dX9_isUnit_67 : decode cX9_isUnit 67 = .ok (.invokevirtual 176, 3) := by decide +kernel
theorem dX9_isUnit_70 : decode cX9_isUnit 70 = .ok (.ifCond .eq 5, 3) := by decide +kernel
theorem dX9_isUnit_73 : decode cX9_isUnit 73 = .ok (.iconst 1, 1) := by decide +kernel
theorem dX9_isUnit_74 : decode cX9_isUnit 74 = .ok (.ireturn, 1) := by decide +kernel
theorem dX9_isUnit_75 : decode cX9_isUnit 75 = .ok (.aload_n 0, 1) := by decide +kernel
theorem dX9_isUnit_76 : decode cX9_isUnit 76 = .ok (.getfield 127, 3) := by decide +kernel
theorem dX9_isUnit_79 : decode cX9_isUnit 79 = .ok (.iload_n 1, 1) := by decide +kernel
theorem dX9_isUnit_80 : decode cX9_isUnit 80 = .ok (.if_icmp .eq 10, 3) := by decide +kernel
theorem dX9_isUnit_83 : decode cX9_isUnit 83 = .ok (.aload_n 0, 1) := by decide +kernel
theorem dX9_isUnit_84 : decode cX9_isUnit 84 = .ok (.invokevirtual 179, 3) := by decide +kernel
theorem dX9_isUnit_87 : decode cX9_isUnit 87 = .ok (.ifCond .ne 5, 3) := by decide +kernel
theorem dX9_isUnit_90 : decode cX9_isUnit 90 = .ok (.iconst 0, 1) := by decide +kernel
theorem dX9_isUnit_91 : decode cX9_isUnit 91 = .ok (.ireturn, 1) := by decide +kernel
theorem dX9_isUnit_92 : decode cX9_isUnit 92 = .ok (.aload_n 0, 1) := by decide +kernel
theorem dX9_isUnit_93 : decode cX9_isUnit 93 = .ok (.invokevirtual 167, 3) := by decide +kernel
theorem dX9_isUnit_96 : decode cX9_isUnit 96 = .ok (.aload_n 0, 1) := by decide +kernel
theorem dX9_isUnit_97 : decode cX9_isUnit 97 = .ok (.invokevirtual 176, 3) := by decide +kernel
theorem dX9_isUnit_100 : decode cX9_isUnit 100 = .ok (.ireturn, 1) := by decide +kernel
theorem dX9_form_0 : decode cX9_form 0 = .ok (.aload_n 0, 1) := by decide +kernel
theorem dX9_form_1 : decode cX9_form 1 = .ok (.getfield 142, 3) := by decide +kernel
theorem dX9_form_4 : decode cX9_form 4 = .ok (.sipush 3475, 3) := by decide +kernel
theorem dX9_form_7 : decode cX9_form 7 = .ok (.if_icmp .eq 13, 3) := by decide +kernel
theorem dX9_form_10 : decode cX9_form 10 = .ok (.aload_n 0, 1) := by decide +kernel
theorem dX9_form_11 : decode cX9_form 11 = .ok (.getfield 142, 3) := by decide +kernel
theorem dX9_form_14 : decode cX9_form 14 = .ok (.sipush 19060, 3) := by decide +kernel
theorem dX9_form_17 : decode cX9_form 17 = .ok (.if_icmp .ne 18, 3) := by decide +kernel
theorem dX9_form_20 : decode cX9_form 20 = .ok (.aload_n 0, 1) := by decide +kernel
theorem dX9_form_21 : decode cX9_form 21 = .ok (.getfield 173, 3) := by decide +kernel
theorem dX9_form_24 : decode cX9_form 24 = .ok (.ifCond .eq 9, 3) := by decide +kernel
theorem dX9_form_27 : decode cX9_form 27 = .ok (.sipush (-10001), 3) := by decide +kernel
theorem dX9_form_30 : decode cX9_form 30 = .ok (.goto 4, 3) := by decide +kernel
theorem dX9_form_33 : decode cX9_form 33 = .ok (.iconst 0, 1) := by decide +kernel
theorem dX9_form_34 : decode cX9_form 34 = .ok (.ireturn, 1) := by decide +kernel
theorem dX9_form_35 : decode cX9_form 35 = .ok (.aload_n 0, 1) := by decide +kernel
theorem dX9_form_36 : decode cX9_form 36 = .ok (.getfield 142, 3) := by decide +kernel
theorem dX9_form_39 : decode cX9_form 39 = .ok (.sipush 5746, 3) := by decide +kernel
theorem dX9_form_42 : decode cX9_form 42 = .ok (.if_icmp .eq 13, 3) := by decide +kernel
theorem dX9_form_45 : decode cX9_form 45 = .ok (.aload_n 0, 1) := by decide +kernel
theorem dX9_form_46 : decode cX9_form 46 = .ok (.getfield 142, 3) := by decide +kernel
theorem dX9_form_49 : decode cX9_form 49 = .ok (.sipush 20098, 3) := by decide +kernel
theorem dX9_form_52 : decode cX9_form 52 = .ok (.if_icmp .ne 18, 3) := by decide +kernel
theorem dX9_form_55 : decode cX9_form 55 = .ok (.aload_n 0, 1) := by decide +kernel
theorem dX9_form_56 : decode cX9_form 56 = .ok (.getfield 173, 3) := by decide +kernel
theorem dX9_form_59 : decode cX9_form 59 = .ok (.ifCond .eq 7, 3) := by decide +kernel
theorem dX9_form_62 : decode cX9_form 62 = .ok (.iconst 0, 1) := by decide +kernel
theorem dX9_form_63 : decode cX9_form 63 = .ok (.goto 6, 3) := by decide +kernel
theorem dX9_form_66 : decode cX9_form 66 = .ok (.sipush (-10001), 3) := by decide +kernel
theorem dX9_form_69 : decode cX9_form 69 = .ok (.ireturn, 1) := by decide +kernel
theorem dX9_form_70 : decode cX9_form 70 = .ok (.aload_n 0, 1) := by decide +kernel
theorem dX9_form_71 : decode cX9_form 71 = .ok (.getfield 142, 3) := by decide +kernel
theorem dX9_form_74 : decode cX9_form 74 = .ok (.sipush 5733, 3) := by decide +kernel
theorem dX9_form_77 : decode cX9_form 77 = .ok (.if_icmp .eq 13, 3) := by decide +kernel
theorem dX9_form_80 : decode cX9_form 80 = .ok (.aload_n 0, 1) := by decide +kernel
theorem dX9_form_81 : decode cX9_form 81 = .ok (.getfield 142, 3) := by decide +kernel
theorem dX9_form_84 : decode cX9_form 84 = .ok (.sipush 20037, 3) := by decide +kernel
theorem dX9_form_87 : decode cX9_form 87 = .ok (.if_icmp .ne 16, 3) := by decide +kernel
theorem dX9_form_90 : decode cX9_form 90 = .ok (.aload_n 0, 1) := by decide +kernel
theorem dX9_form_91 : decode cX9_form 91 = .ok (.getfield 173, 3) := by decide +kernel
theorem dX9_form_94 : decode cX9_form 94 = .ok (.ifCond .eq 7, 3) := by decide +kernel
theorem dX9_form_97 : decode cX9_form 97 = .ok (.iconst 0, 1) := by decide +kernel
theorem dX9_form_98 : decode cX9_form 98 = .ok (.goto 4, 3) := by decide +kernel
theorem dX9_form_101 : decode cX9_form 101 = .ok (.iconst 1, 1) := by decide +kernel
theorem dX9_form_102 : decode cX9_form 102 = .ok (.ireturn, 1) := by decide +kernel
theorem dX9_form_103 : decode cX9_form 103 = .ok (.aload_n 0, 1) := by decide +kernel
theorem dX9_form_104 : decode cX9_form 104 = .ok (.getfield 142, 3) := by decide +kernel
theorem dX9_form_107 : decode cX9_form 107 = .ok (.sipush 15875, 3) := by decide +kernel
theorem dX9_form_110 : decode cX9_form 110 = .ok (.if_icmp .ne 7, 3) := by decide +kernel
theorem dX9_form_113 : decode cX9_form 113 = .ok (.iconst 0, 1) := by decide +kernel
theorem dX9_form_114 : decode cX9_form 114 = .ok (.goto 6, 3) := by decide +kernel
theorem dX9_form_117 : decode cX9_form 117 = .ok (.sipush (-10001), 3) := by decide +kernel
theorem dX9_form_120 : decode cX9_form 120 = .ok (.ireturn, 1) := by decide +kernel
theorem dX9_doCommon_0 : decode cX9_doCommon 0 = .ok (.aload_n 0, 1) := by decide +kernel
theorem dX9_doCommon_1 : decode cX9_doCommon 1 = .ok (.getfield 142, 3) := by decide +kernel
theorem dX9_doCommon_4 : decode cX9_doCommon 4 = .ok (.sipush 3475, 3) := by decide +kernel
theorem dX9_doCommon_7 : decode cX9_doCommon 7 = .ok (.if_icmp .ne 36, 3) := by decide +kernel
theorem dX9_doCommon_10 : decode cX9_doCommon 10 = .ok (.aload_n 0, 1) := by decide +kernel
theorem dX9_doCommon_11 : decode cX9_doCommon 11 = .ok (.getfield 7, 3) := by decide +kernel
theorem dX9_doCommon_14 : decode cX9_doCommon 14 = .ok (.iconst 1, 1) := by decide +kernel
theorem dX9_doCommon_15 : decode cX9_doCommon 15 = .ok (.iconst 0, 1) := by decide +kernel
theorem dX9_doCommon_16 : decode cX9_doCommon 16 = .ok (.iastore, 1) := by decide +kernel
theorem dX9_doCommon_17 : decode cX9_doCommon 17 = .ok (.aload_n 0, 1) := by decide +kernel
theorem dX9_doCommon_18 : decode cX9_doCommon 18 = .ok (.getfield 7, 3) := by decide +kernel
theorem dX9_doCommon_21 : decode cX9_doCommon 21 = .ok (.iconst 5, 1) := by decide +kernel
theorem dX9_doCommon_22 : decode cX9_doCommon 22 = .ok (.iconst 0, 1) := by decide +kernel
theorem dX9_doCommon_23 : decode cX9_doCommon 23 = .ok (.iastore, 1) := by decide +kernel
theorem dX9_doCommon_24 : decode cX9_doCommon 24 = .ok (.aload_n 0, 1) := by decide +kernel
theorem dX9_doCommon_25 : decode cX9_doCommon 25 = .ok (.getfield 7, 3) := by decide +kernel
theorem dX9_doCommon_28 : decode cX9_doCommon 28 = .ok (.bipush 12, 2) := by decide +kernel
theorem dX9_doCommon_30 : decode cX9_doCommon 30 = .ok (.iconst 0, 1) := by decide +kernel
theorem dX9_doCommon_31 : decode cX9_doCommon 31 = .ok (.iastore, 1) := by decide +kernel
theorem dX9_doCommon_32 : decode cX9_doCommon 32 = .ok (.aload_n 0, 1) := by decide +kernel
theorem dX9_doCommon_33 : decode cX9_doCommon 33 = .ok (.getfield 7, 3) := by decide +kernel
theorem dX9_doCommon_36 : decode cX9_doCommon 36 = .ok (.bipush 10, 2) := by decide +kernel
theorem dX9_doCommon_38 : decode cX9_doCommon 38 = .ok (.iconst 0, 1) := by decide +kernel
theorem dX9_doCommon_39 : decode cX9_doCommon 39 = .ok (.iastore, 1) := by decide +kernel
theorem dX9_doCommon_40 : decode cX9_doCommon 40 = .ok (.goto 155, 3) := by decide +kernel
theorem dX9_doCommon_43 : decode cX9_doCommon 43 = .ok (.aload_n 0, 1) := by decide +kernel
theorem dX9_doCommon_44 : decode cX9_doCommon 44 = .ok (.getfield 142, 3) := by decide +kernel
theorem dX9_doCommon_47 : decode cX9_doCommon 47 = .ok (.sipush 19060, 3) := by decide +kernel
theorem dX9_doCommon_50 : decode cX9_doCommon 50 = .ok (.if_icmp .ne 55, 3) := by decide +kernel
theorem dX9_doCommon_53 : decode cX9_doCommon 53 = .ok (.iconst 1, 1) := by decide +kernel
theorem dX9_doCommon_54 : decode cX9_doCommon 54 = .ok (.istore_n 1, 1) := by decide +kernel
theorem dX9_doCommon_55 : decode cX9_doCommon 55 = .ok (.iload_n 1, 1) := by decide +kernel
theorem dX9_doCommon_56 : decode cX9_doCommon 56 = .ok (.aload_n 0, 1) := by decide +kernel
theorem dX9_doCommon_57 : decode cX9_doCommon 57 = .ok (.getfield 7, 3) := by decide +kernel
theorem dX9_doCommon_60 : decode cX9_doCommon 60 = .ok (.iconst 0, 1) := by decide +kernel
theorem dX9_doCommon_61 : decode cX9_doCommon 61 = .ok (.iaload, 1) := by decide +kernel
theorem dX9_doCommon_62 : decode cX9_doCommon 62 = .ok (.if_icmp .ge 24, 3) := by decide +kernel
theorem dX9_doCommon_65 : decode cX9_doCommon 65 = .ok (.aload_n 0, 1) := by decide +kernel
theorem dX9_doCommon_66 : decode cX9_doCommon 66 = .ok (.iload_n 1, 1) := by decide +kernel
theorem dX9_doCommon_67 : decode cX9_doCommon 67 = .ok (.iconst 1, 1) := by decide +kernel
theorem dX9_doCommon_68 : decode cX9_doCommon 68 = .ok (.invokevirtual 69, 3) := by decide +kernel
theorem dX9_doCommon_71 : decode cX9_doCommon 71 = .ok (.iconst 1, 1) := by decide +kernel
theorem dX9_doCommon_72 : decode cX9_doCommon 72 = .ok (.if_icmp .ne 8, 3) := by decide +kernel
theorem dX9_doCommon_75 : decode cX9_doCommon 75 = .ok (.aload_n 0, 1) := by decide +kernel
theorem dX9_doCommon_76 : decode cX9_doCommon 76 = .ok (.iload_n 1, 1) := by decide +kernel
theorem dX9_doCommon_77 : decode cX9_doCommon 77 = .ok (.invokevirtual 97, 3) := by decide +kernel
theorem dX9_doCommon_80 : decode cX9_doCommon 80 = .ok (.iinc 1 1, 3) := by decide +kernel
theorem dX9_doCommon_83 : decode cX9_doCommon 83 = .ok (.goto (-28), 3) := by decide +kernel
theorem dX9_doCommon_86 : decode cX9_doCommon 86 = .ok (.aload_n 0, 1) := by decide +kernel
theorem dX9_doCommon_87 : decode cX9_doCommon 87 = .ok (.getfield 7, 3) := by decide +kernel
theorem dX9_doCommon_90 : decode cX9_doCommon 90 = .ok (.bipush 9, 2) := by decide +kernel
theorem dX9_doCommon_92 : decode cX9_doCommon 92 = .ok (.iconst 0, 1) := by decide +kernel
theorem dX9_doCommon_93 : decode cX9_doCommon 93 = .ok (.iastore, 1) := by decide +kernel
theorem dX9_doCommon_94 : decode cX9_doCommon 94 = .ok (.aload_n 0, 1) := by decide +kernel
theorem dX9_doCommon_95 : decode cX9_doCommon 95 = .ok (.getfield 7, 3) := by decide +kernel
theorem dX9_doCommon_98 : decode cX9_doCommon 98 = .ok (.bipush 10, 2) := by decide +kernel
theorem dX9_doCommon_100 : decode cX9_doCommon 100 = .ok (.iconst 0, 1) := by decide +kernel
theorem dX9_doCommon_101 : decode cX9_doCommon 101 = .ok (.iastore, 1) := by decide +kernel
theorem dX9_doCommon_102 : decode cX9_doCommon 102 = .ok (.goto 93, 3) := by decide +kernel
theorem dX9_doCommon_105 : decode cX9_doCommon 105 = .ok (.aload_n 0, 1) := by decide +kernel
theorem dX9_doCommon_106 : decode cX9_doCommon 106 = .ok (.getfield 142, 3) := by decide +kernel
theorem dX9_doCommon_109 : decode cX9_doCommon 109 = .ok (.sipush 5746, 3) := by decide +kernel
theorem dX9_doCommon_112 : decode cX9_doCommon 112 = .ok (.if_icmp .ne 25, 3) := by decide +kernel
theorem dX9_doCommon_115 : decode cX9_doCommon 115 = .ok (.aload_n 0, 1) := by decide +kernel
theorem dX9_doCommon_116 : decode cX9_doCommon 116 = .ok (.getfield 7, 3) := by decide +kernel
theorem dX9_doCommon_119 : decode cX9_doCommon 119 = .ok (.iconst 1, 1) := by decide +kernel
theorem dX9_doCommon_120 : decode cX9_doCommon 120 = .ok (.iaload, 1) := by decide +kernel
theorem dX9_doCommon_121 : decode cX9_doCommon 121 = .ok (.istore_n 1, 1) := by decide +kernel
theorem dX9_doCommon_122 : decode cX9_doCommon 122 = .ok (.aload_n 0, 1) := by decide +kernel
theorem dX9_doCommon_123 : decode cX9_doCommon 123 = .ok (.getfield 7, 3) := by decide +kernel
theorem dX9_doCommon_126 : decode cX9_doCommon 126 = .ok (.iconst 1, 1) := by decide +kernel
theorem dX9_doCommon_127 : decode cX9_doCommon 127 = .ok (.iconst 0, 1) := by decide +kernel
theorem dX9_doCommon_128 : decode cX9_doCommon 128 = .ok (.iastore, 1) := by decide +kernel
theorem dX9_doCommon_129 : decode cX9_doCommon 129 = .ok (.aload_n 0, 1) := by decide +kernel
theorem dX9_doCommon_130 : decode cX9_doCommon 130 = .ok (.iload_n 1, 1) := by decide +kernel
theorem dX9_doCommon_131 : decode cX9_doCommon 131 = .ok (.invokevirtual 182, 3) := by decide +kernel
theorem dX9_doCommon_134 : decode cX9_doCommon 134 = .ok (.goto 61, 3) := by decide +kernel
theorem dX9_doCommon_137 : decode cX9_doCommon 137 = .ok (.aload_n 0, 1) := by decide +kernel
theorem dX9_doCommon_138 : decode cX9_doCommon 138 = .ok (.getfield 142, 3) := by decide +kernel
theorem dX9_doCommon_141 : decode cX9_doCommon 141 = .ok (.sipush 20098, 3) := by decide +kernel
theorem dX9_doCommon_144 : decode cX9_doCommon 144 = .ok (.if_icmp .ne 14, 3) := by decide +kernel
theorem dX9_doCommon_147 : decode cX9_doCommon 147 = .ok (.aload_n 0, 1) := by decide +kernel
theorem dX9_doCommon_148 : decode cX9_doCommon 148 = .ok (.aload_n 0, 1) := by decide +kernel
theorem dX9_doCommon_149 : decode cX9_doCommon 149 = .ok (.invokevirtual 185, 3) := by decide +kernel
theorem dX9_doCommon_152 : decode cX9_doCommon 152 = .ok (.invokevirtual 182, 3) := by decide +kernel
theorem dX9_doCommon_155 : decode cX9_doCommon 155 = .ok (.goto 40, 3) := by decide +kernel
theorem dX9_doCommon_158 : decode cX9_doCommon 158 = .ok (.aload_n 0, 1) := by decide +kernel
theorem dX9_doCommon_159 : decode cX9_doCommon 159 = .ok (.getfield 142, 3) := by decide +kernel
theorem dX9_doCommon_162 : decode cX9_doCommon 162 = .ok (.sipush 15875, 3) := by decide +kernel
theorem dX9_doCommon_165 : decode cX9_doCommon 165 = .ok (.if_icmp .ne 10, 3) := by decide +kernel
theorem dX9_doCommon_168 : decode cX9_doCommon 168 = .ok (.aload_n 0, 1) := by decide +kernel
theorem dX9_doCommon_169 : decode cX9_doCommon 169 = .ok (.invokevirtual 188, 3) := by decide +kernel
theorem dX9_doCommon_172 : decode cX9_doCommon 172 = .ok (.goto 23, 3) := by decide +kernel
theorem dX9_doCommon_175 : decode cX9_doCommon 175 = .ok (.aload_n 0, 1) := by decide +kernel
theorem dX9_doCommon_176 : decode cX9_doCommon 176 = .ok (.aload_n 0, 1) := by decide +kernel
theorem dX9_doCommon_177 : decode cX9_doCommon 177 = .ok (.getfield 142, 3) := by decide +kernel
theorem dX9_doCommon_180 : decode cX9_doCommon 180 = .ok (.sipush 5733, 3) := by decide +kernel
theorem dX9_doCommon_183 : decode cX9_doCommon 183 = .ok (.if_icmp .ne 7, 3) := by decide +kernel
theorem dX9_doCommon_186 : decode cX9_doCommon 186 = .ok (.iconst 2, 1) := by decide +kernel
theorem dX9_doCommon_187 : decode cX9_doCommon 187 = .ok (.goto 4, 3) := by decide +kernel
theorem dX9_doCommon_190 : decode cX9_doCommon 190 = .ok (.iconst 3, 1) := by decide +kernel
theorem dX9_doCommon_191 : decode cX9_doCommon 191 = .ok (.invokevirtual 191, 3) := by decide +kernel
theorem dX9_doCommon_194 : decode cX9_doCommon 194 = .ok (.ireturn, 1) := by decide +kernel
theorem dX9_doCommon_195 : decode cX9_doCommon 195 = .ok (.iconst 0, 1) := by decide +kernel
theorem dX9_doCommon_196 : decode cX9_doCommon 196 = .ok (.ireturn, 1) := by decide +kernel
theorem dX9_doOver_0 : decode cX9_doOver 0 = .ok (.aload_n 0, 1) := by decide +kernel
theorem dX9_doOver_1 : decode cX9_doOver 1 = .ok (.getfield 173, 3) := by decide +kernel
theorem dX9_doOver_4 : decode cX9_doOver 4 = .ok (.ifCond .eq 25, 3) := by decide +kernel
theorem dX9_doOver_7 : decode cX9_doOver 7 = .ok (.aload_n 0, 1) := by decide +kernel
theorem dX9_doOver_8 : decode cX9_doOver 8 = .ok (.aload_n 0, 1) := by decide +kernel
theorem dX9_doOver_9 : decode cX9_doOver 9 = .ok (.getfield 7, 3) := by decide +kernel
theorem dX9_doOver_12 : decode cX9_doOver 12 = .ok (.bipush 9, 2) := by decide +kernel
theorem dX9_doOver_14 : decode cX9_doOver 14 = .ok (.iaload, 1) := by decide +kernel
theorem dX9_doOver_15 : decode cX9_doOver 15 = .ok (.ifCond .ne 7, 3) := by decide +kernel
theorem dX9_doOver_18 : decode cX9_doOver 18 = .ok (.iconst 1, 1) := by decide +kernel
theorem dX9_doOver_19 : decode cX9_doOver 19 = .ok (.goto 4, 3) := by decide +kernel
theorem dX9_doOver_22 : decode cX9_doOver 22 = .ok (.iconst 0, 1) := by decide +kernel
theorem dX9_doOver_23 : decode cX9_doOver 23 = .ok (.invokevirtual 182, 3) := by decide +kernel
theorem dX9_doOver_26 : decode cX9_doOver 26 = .ok (.goto 34, 3) := by decide +kernel
theorem dX9_doOver_29 : decode cX9_doOver 29 = .ok (.aload_n 0, 1) := by decide +kernel
theorem dX9_doOver_30 : decode cX9_doOver 30 = .ok (.getfield 7, 3) := by decide +kernel
theorem dX9_doOver_33 : decode cX9_doOver 33 = .ok (.bipush 9, 2) := by decide +kernel
theorem dX9_doOver_35 : decode cX9_doOver 35 = .ok (.iaload, 1) := by decide +kernel
theorem dX9_doOver_36 : decode cX9_doOver 36 = .ok (.ifCond .ne 16, 3) := by decide +kernel
theorem dX9_doOver_39 : decode cX9_doOver 39 = .ok (.aload_n 0, 1) := by decide +kernel
theorem dX9_doOver_40 : decode cX9_doOver 40 = .ok (.getfield 7, 3) := by decide +kernel
theorem dX9_doOver_43 : decode cX9_doOver 43 = .ok (.iconst 1, 1) := by decide +kernel
theorem dX9_doOver_44 : decode cX9_doOver 44 = .ok (.dup2, 1) := by decide +kernel
theorem dX9_doOver_45 : decode cX9_doOver 45 = .ok (.iaload, 1) := by decide +kernel
theorem dX9_doOver_46 : decode cX9_doOver 46 = .ok (.iconst 1, 1) := by decide +kernel
theorem dX9_doOver_47 : decode cX9_doOver 47 = .ok (.ior, 1) := by decide +kernel
theorem dX9_doOver_48 : decode cX9_doOver 48 = .ok (.iastore, 1) := by decide +kernel
theorem dX9_doOver_49 : decode cX9_doOver 49 = .ok (.goto 11, 3) := by decide +kernel
theorem dX9_doOver_52 : decode cX9_doOver 52 = .ok (.aload_n 0, 1) := by decide +kernel
theorem dX9_doOver_53 : decode cX9_doOver 53 = .ok (.getfield 7, 3) := by decide +kernel
theorem dX9_doOver_56 : decode cX9_doOver 56 = .ok (.bipush 10, 2) := by decide +kernel
theorem dX9_doOver_58 : decode cX9_doOver 58 = .ok (.iconst 1, 1) := by decide +kernel
theorem dX9_doOver_59 : decode cX9_doOver 59 = .ok (.iastore, 1) := by decide +kernel
theorem dX9_doOver_60 : decode cX9_doOver 60 = .ok (.return_, 1) := by decide +kernel
theorem dX9_doMask_0 : decode cX9_doMask 0 = .ok (.aload_n 0, 1) := by decide +kernel
theorem dX9_doMask_1 : decode cX9_doMask 1 = .ok (.getfield 173, 3) := by decide +kernel
theorem dX9_doMask_4 : decode cX9_doMask 4 = .ok (.ifCond .eq 15, 3) := by decide +kernel
theorem dX9_doMask_7 : decode cX9_doMask 7 = .ok (.aload_n 0, 1) := by decide +kernel
theorem dX9_doMask_8 : decode cX9_doMask 8 = .ok (.aload_n 0, 1) := by decide +kernel
theorem dX9_doMask_9 : decode cX9_doMask 9 = .ok (.getfield 7, 3) := by decide +kernel
theorem dX9_doMask_12 : decode cX9_doMask 12 = .ok (.iload_n 1, 1) := by decide +kernel
theorem dX9_doMask_13 : decode cX9_doMask 13 = .ok (.iaload, 1) := by decide +kernel
theorem dX9_doMask_14 : decode cX9_doMask 14 = .ok (.invokevirtual 182, 3) := by decide +kernel
theorem dX9_doMask_17 : decode cX9_doMask 17 = .ok (.iconst 0, 1) := by decide +kernel
theorem dX9_doMask_18 : decode cX9_doMask 18 = .ok (.ireturn, 1) := by decide +kernel
theorem dX9_doMask_19 : decode cX9_doMask 19 = .ok (.aload_n 0, 1) := by decide +kernel
theorem dX9_doMask_20 : decode cX9_doMask 20 = .ok (.getfield 158, 3) := by decide +kernel
theorem dX9_doMask_23 : decode cX9_doMask 23 = .ok (.iconst 0, 1) := by decide +kernel
theorem dX9_doMask_24 : decode cX9_doMask 24 = .ok (.sipush 255, 3) := by decide +kernel
theorem dX9_doMask_27 : decode cX9_doMask 27 = .ok (.invokestatic 55, 3) := by decide +kernel
theorem dX9_doMask_30 : decode cX9_doMask 30 = .ok (.ifCond .ne 7, 3) := by decide +kernel
theorem dX9_doMask_33 : decode cX9_doMask 33 = .ok (.sipush (-222), 3) := by decide +kernel
theorem dX9_doMask_36 : decode cX9_doMask 36 = .ok (.ireturn, 1) := by decide +kernel
theorem dX9_doMask_37 : decode cX9_doMask 37 = .ok (.aload_n 0, 1) := by decide +kernel
theorem dX9_doMask_38 : decode cX9_doMask 38 = .ok (.getfield 7, 3) := by decide +kernel
theorem dX9_doMask_41 : decode cX9_doMask 41 = .ok (.iload_n 1, 1) := by decide +kernel
theorem dX9_doMask_42 : decode cX9_doMask 42 = .ok (.aload_n 0, 1) := by decide +kernel
theorem dX9_doMask_43 : decode cX9_doMask 43 = .ok (.getfield 158, 3) := by decide +kernel
theorem dX9_doMask_46 : decode cX9_doMask 46 = .ok (.iastore, 1) := by decide +kernel
theorem dX9_doMask_47 : decode cX9_doMask 47 = .ok (.iconst 0, 1) := by decide +kernel
theorem dX9_doMask_48 : decode cX9_doMask 48 = .ok (.ireturn, 1) := by decide +kernel
theorem dX9_doNode_0 : decode cX9_doNode 0 = .ok (.aload_n 0, 1) := by decide +kernel
theorem dX9_doNode_1 : decode cX9_doNode 1 = .ok (.getfield 40, 3) := by decide +kernel
theorem dX9_doNode_4 : decode cX9_doNode 4 = .ok (.aload_n 0, 1) := by decide +kernel
theorem dX9_doNode_5 : decode cX9_doNode 5 = .ok (.getfield 107, 3) := by decide +kernel
theorem dX9_doNode_8 : decode cX9_doNode 8 = .ok (.iconst 1, 1) := by decide +kernel
theorem dX9_doNode_9 : decode cX9_doNode 9 = .ok (.isub, 1) := by decide +kernel
theorem dX9_doNode_10 : decode cX9_doNode 10 = .ok (.baload, 1) := by decide +kernel
theorem dX9_doNode_11 : decode cX9_doNode 11 = .ok (.ifCond .eq 31, 3) := by decide +kernel
theorem dX9_doNode_14 : decode cX9_doNode 14 = .ok (.aload_n 0, 1) := by decide +kernel
theorem dX9_doNode_15 : decode cX9_doNode 15 = .ok (.getfield 31, 3) := by decide +kernel
theorem dX9_doNode_18 : decode cX9_doNode 18 = .ok (.aload_n 0, 1) := by decide +kernel
theorem dX9_doNode_19 : decode cX9_doNode 19 = .ok (.getfield 110, 3) := by decide +kernel
theorem dX9_doNode_22 : decode cX9_doNode 22 = .ok (.iconst 1, 1) := by decide +kernel
theorem dX9_doNode_23 : decode cX9_doNode 23 = .ok (.isub, 1) := by decide +kernel
theorem dX9_doNode_24 : decode cX9_doNode 24 = .ok (.iaload, 1) := by decide +kernel
theorem dX9_doNode_25 : decode cX9_doNode 25 = .ok (.ifCond .le 17, 3) := by decide +kernel
theorem dX9_doNode_28 : decode cX9_doNode 28 = .ok (.aload_n 0, 1) := by decide +kernel
theorem dX9_doNode_29 : decode cX9_doNode 29 = .ok (.getfield 31, 3) := by decide +kernel
theorem dX9_doNode_32 : decode cX9_doNode 32 = .ok (.aload_n 0, 1) := by decide +kernel
theorem dX9_doNode_33 : decode cX9_doNode 33 = .ok (.getfield 110, 3) := by decide +kernel
theorem dX9_doNode_36 : decode cX9_doNode 36 = .ok (.iconst 1, 1) := by decide +kernel
theorem dX9_doNode_37 : decode cX9_doNode 37 = .ok (.isub, 1) := by decide +kernel
theorem dX9_doNode_38 : decode cX9_doNode 38 = .ok (.iaload, 1) := by decide +kernel
theorem dX9_doNode_39 : decode cX9_doNode 39 = .ok (.goto 4, 3) := by decide +kernel
theorem dX9_doNode_42 : decode cX9_doNode 42 = .ok (.iconst 1, 1) := by decide +kernel
theorem dX9_doNode_43 : decode cX9_doNode 43 = .ok (.istore_n 2, 1) := by decide +kernel
theorem dX9_doNode_44 : decode cX9_doNode 44 = .ok (.aload_n 0, 1) := by decide +kernel
theorem dX9_doNode_45 : decode cX9_doNode 45 = .ok (.iload_n 1, 1) := by decide +kernel
theorem dX9_doNode_46 : decode cX9_doNode 46 = .ok (.iconst 1, 1) := by decide +kernel
theorem dX9_doNode_47 : decode cX9_doNode 47 = .ok (.invokevirtual 69, 3) := by decide +kernel
theorem dX9_doNode_50 : decode cX9_doNode 50 = .ok (.istore_n 3, 1) := by decide +kernel
theorem dX9_doNode_51 : decode cX9_doNode 51 = .ok (.aload_n 0, 1) := by decide +kernel
theorem dX9_doNode_52 : decode cX9_doNode 52 = .ok (.getfield 173, 3) := by decide +kernel
theorem dX9_doNode_55 : decode cX9_doNode 55 = .ok (.ifCond .eq 35, 3) := by decide +kernel
theorem dX9_doNode_58 : decode cX9_doNode 58 = .ok (.aload_n 0, 1) := by decide +kernel
theorem dX9_doNode_59 : decode cX9_doNode 59 = .ok (.iload_n 3, 1) := by decide +kernel
theorem dX9_doNode_60 : decode cX9_doNode 60 = .ok (.iconst 1, 1) := by decide +kernel
theorem dX9_doNode_61 : decode cX9_doNode 61 = .ok (.if_icmp .ne 17, 3) := by decide +kernel
theorem dX9_doNode_64 : decode cX9_doNode 64 = .ok (.aload_n 0, 1) := by decide +kernel
theorem dX9_doNode_65 : decode cX9_doNode 65 = .ok (.iload_n 1, 1) := by decide +kernel
theorem dX9_doNode_66 : decode cX9_doNode 66 = .ok (.bipush 6, 2) := by decide +kernel
theorem dX9_doNode_68 : decode cX9_doNode 68 = .ok (.iload_n 2, 1) := by decide +kernel
theorem dX9_doNode_69 : decode cX9_doNode 69 = .ok (.iadd, 1) := by decide +kernel
theorem dX9_doNode_70 : decode cX9_doNode 70 = .ok (.iconst 1, 1) := by decide +kernel
theorem dX9_doNode_71 : decode cX9_doNode 71 = .ok (.isub, 1) := by decide +kernel
theorem dX9_doNode_72 : decode cX9_doNode 72 = .ok (.invokevirtual 69, 3) := by decide +kernel
theorem dX9_doNode_75 : decode cX9_doNode 75 = .ok (.goto 10, 3) := by decide +kernel
theorem dX9_doNode_78 : decode cX9_doNode 78 = .ok (.aload_n 0, 1) := by decide +kernel
theorem dX9_doNode_79 : decode cX9_doNode 79 = .ok (.iload_n 1, 1) := by decide +kernel
theorem dX9_doNode_80 : decode cX9_doNode 80 = .ok (.bipush 9, 2) := by decide +kernel
theorem dX9_doNode_82 : decode cX9_doNode 82 = .ok (.invokevirtual 69, 3) := by decide +kernel
theorem dX9_doNode_85 : decode cX9_doNode 85 = .ok (.invokevirtual 182, 3) := by decide +kernel
theorem dX9_doNode_88 : decode cX9_doNode 88 = .ok (.iconst 0, 1) := by decide +kernel
theorem dX9_doNode_89 : decode cX9_doNode 89 = .ok (.ireturn, 1) := by decide +kernel
theorem dX9_doNode_90 : decode cX9_doNode 90 = .ok (.iload_n 3, 1) := by decide +kernel
theorem dX9_doNode_91 : decode cX9_doNode 91 = .ok (.iconst 1, 1) := by decide +kernel
theorem dX9_doNode_92 : decode cX9_doNode 92 = .ok (.if_icmp .ne 46, 3) := by decide +kernel
theorem dX9_doNode_95 : decode cX9_doNode 95 = .ok (.aload_n 0, 1) := by decide +kernel
theorem dX9_doNode_96 : decode cX9_doNode 96 = .ok (.getfield 158, 3) := by decide +kernel
theorem dX9_doNode_99 : decode cX9_doNode 99 = .ok (.aload_n 0, 1) := by decide +kernel
theorem dX9_doNode_100 : decode cX9_doNode 100 = .ok (.iload_n 1, 1) := by decide +kernel
theorem dX9_doNode_101 : decode cX9_doNode 101 = .ok (.iconst 4, 1) := by decide +kernel
theorem dX9_doNode_102 : decode cX9_doNode 102 = .ok (.invokevirtual 69, 3) := by decide +kernel
theorem dX9_doNode_105 : decode cX9_doNode 105 = .ok (.aload_n 0, 1) := by decide +kernel
theorem dX9_doNode_106 : decode cX9_doNode 106 = .ok (.iload_n 1, 1) := by decide +kernel
theorem dX9_doNode_107 : decode cX9_doNode 107 = .ok (.iconst 5, 1) := by decide +kernel
theorem dX9_doNode_108 : decode cX9_doNode 108 = .ok (.invokevirtual 69, 3) := by decide +kernel
theorem dX9_doNode_111 : decode cX9_doNode 111 = .ok (.invokestatic 55, 3) := by decide +kernel
theorem dX9_doNode_114 : decode cX9_doNode 114 = .ok (.ifCond .ne 7, 3) := by decide +kernel
theorem dX9_doNode_117 : decode cX9_doNode 117 = .ok (.sipush (-222), 3) := by decide +kernel
theorem dX9_doNode_120 : decode cX9_doNode 120 = .ok (.ireturn, 1) := by decide +kernel
theorem dX9_doNode_121 : decode cX9_doNode 121 = .ok (.aload_n 0, 1) := by decide +kernel
theorem dX9_doNode_122 : decode cX9_doNode 122 = .ok (.iload_n 1, 1) := by decide +kernel
theorem dX9_doNode_123 : decode cX9_doNode 123 = .ok (.bipush 6, 2) := by decide +kernel
theorem dX9_doNode_125 : decode cX9_doNode 125 = .ok (.iload_n 2, 1) := by decide +kernel
theorem dX9_doNode_126 : decode cX9_doNode 126 = .ok (.iadd, 1) := by decide +kernel
theorem dX9_doNode_127 : decode cX9_doNode 127 = .ok (.iconst 1, 1) := by decide +kernel
theorem dX9_doNode_128 : decode cX9_doNode 128 = .ok (.isub, 1) := by decide +kernel
theorem dX9_doNode_129 : decode cX9_doNode 129 = .ok (.aload_n 0, 1) := by decide +kernel
theorem dX9_doNode_130 : decode cX9_doNode 130 = .ok (.getfield 158, 3) := by decide +kernel
theorem dX9_doNode_133 : decode cX9_doNode 133 = .ok (.invokevirtual 83, 3) := by decide +kernel
theorem dX9_doNode_136 : decode cX9_doNode 136 = .ok (.iconst 0, 1) := by decide +kernel
theorem dX9_doNode_137 : decode cX9_doNode 137 = .ok (.ireturn, 1) := by decide +kernel
theorem dX9_doNode_138 : decode cX9_doNode 138 = .ok (.iload_n 3, 1) := by decide +kernel
theorem dX9_doNode_139 : decode cX9_doNode 139 = .ok (.iconst 2, 1) := by decide +kernel
theorem dX9_doNode_140 : decode cX9_doNode 140 = .ok (.if_icmp .eq 45, 3) := by decide +kernel
theorem dX9_doNode_143 : decode cX9_doNode 143 = .ok (.aload_n 0, 1) := by decide +kernel
theorem dX9_doNode_144 : decode cX9_doNode 144 = .ok (.getfield 7, 3) := by decide +kernel
theorem dX9_doNode_147 : decode cX9_doNode 147 = .ok (.bipush 9, 2) := by decide +kernel
theorem dX9_doNode_149 : decode cX9_doNode 149 = .ok (.iaload, 1) := by decide +kernel
theorem dX9_doNode_150 : decode cX9_doNode 150 = .ok (.iconst 4, 1) := by decide +kernel
theorem dX9_doNode_151 : decode cX9_doNode 151 = .ok (.if_icmp .ne 7, 3) := by decide +kernel
theorem dX9_doNode_154 : decode cX9_doNode 154 = .ok (.sipush (-222), 3) := by decide +kernel
theorem dX9_doNode_157 : decode cX9_doNode 157 = .ok (.ireturn, 1) := by decide +kernel
theorem dX9_doNode_158 : decode cX9_doNode 158 = .ok (.aload_n 0, 1) := by decide +kernel
theorem dX9_doNode_159 : decode cX9_doNode 159 = .ok (.getfield 7, 3) := by decide +kernel
theorem dX9_doNode_162 : decode cX9_doNode 162 = .ok (.bipush 13, 2) := by decide +kernel
theorem dX9_doNode_164 : decode cX9_doNode 164 = .ok (.aload_n 0, 1) := by decide +kernel
theorem dX9_doNode_165 : decode cX9_doNode 165 = .ok (.getfield 7, 3) := by decide +kernel
theorem dX9_doNode_168 : decode cX9_doNode 168 = .ok (.bipush 9, 2) := by decide +kernel
theorem dX9_doNode_170 : decode cX9_doNode 170 = .ok (.iaload, 1) := by decide +kernel
theorem dX9_doNode_171 : decode cX9_doNode 171 = .ok (.iadd, 1) := by decide +kernel
theorem dX9_doNode_172 : decode cX9_doNode 172 = .ok (.iload_n 1, 1) := by decide +kernel
theorem dX9_doNode_173 : decode cX9_doNode 173 = .ok (.iastore, 1) := by decide +kernel
theorem dX9_doNode_174 : decode cX9_doNode 174 = .ok (.aload_n 0, 1) := by decide +kernel
theorem dX9_doNode_175 : decode cX9_doNode 175 = .ok (.getfield 7, 3) := by decide +kernel
theorem dX9_doNode_178 : decode cX9_doNode 178 = .ok (.bipush 9, 2) := by decide +kernel
theorem dX9_doNode_180 : decode cX9_doNode 180 = .ok (.dup2, 1) := by decide +kernel
theorem dX9_doNode_181 : decode cX9_doNode 181 = .ok (.iaload, 1) := by decide +kernel
theorem dX9_doNode_182 : decode cX9_doNode 182 = .ok (.iconst 1, 1) := by decide +kernel
theorem dX9_doNode_183 : decode cX9_doNode 183 = .ok (.iadd, 1) := by decide +kernel
theorem dX9_doNode_184 : decode cX9_doNode 184 = .ok (.iastore, 1) := by decide +kernel
theorem dX9_doNode_185 : decode cX9_doNode 185 = .ok (.aload_n 0, 1) := by decide +kernel
theorem dX9_doNode_186 : decode cX9_doNode 186 = .ok (.iload_n 1, 1) := by decide +kernel
theorem dX9_doNode_187 : decode cX9_doNode 187 = .ok (.bipush 9, 2) := by decide +kernel
theorem dX9_doNode_189 : decode cX9_doNode 189 = .ok (.aload_n 0, 1) := by decide +kernel
theorem dX9_doNode_190 : decode cX9_doNode 190 = .ok (.iload_n 1, 1) := by decide +kernel
theorem dX9_doNode_191 : decode cX9_doNode 191 = .ok (.bipush 9, 2) := by decide +kernel
theorem dX9_doNode_193 : decode cX9_doNode 193 = .ok (.invokevirtual 69, 3) := by decide +kernel
theorem dX9_doNode_196 : decode cX9_doNode 196 = .ok (.iconst 1, 1) := by decide +kernel
theorem dX9_doNode_197 : decode cX9_doNode 197 = .ok (.iadd, 1) := by decide +kernel
theorem dX9_doNode_198 : decode cX9_doNode 198 = .ok (.invokevirtual 83, 3) := by decide +kernel
theorem dX9_doNode_201 : decode cX9_doNode 201 = .ok (.iconst 0, 1) := by decide +kernel
theorem dX9_doNode_202 : decode cX9_doNode 202 = .ok (.ireturn, 1) := by decide +kernel
theorem dX9_doUnit_0 : decode cX9_doUnit 0 = .ok (.aload_n 0, 1) := by decide +kernel
theorem dX9_doUnit_1 : decode cX9_doUnit 1 = .ok (.invokevirtual 194, 3) := by decide +kernel
theorem dX9_doUnit_4 : decode cX9_doUnit 4 = .ok (.ifCond .ne 6, 3) := by decide +kernel
theorem dX9_doUnit_7 : decode cX9_doUnit 7 = .ok (.bipush (-102), 2) := by decide +kernel
theorem dX9_doUnit_9 : decode cX9_doUnit 9 = .ok (.ireturn, 1) := by decide +kernel
theorem dX9_doUnit_10 : decode cX9_doUnit 10 = .ok (.iconst 0, 1) := by decide +kernel
theorem dX9_doUnit_11 : decode cX9_doUnit 11 = .ok (.istore_n 1, 1) := by decide +kernel
theorem dX9_doUnit_12 : decode cX9_doUnit 12 = .ok (.iconst 0, 1) := by decide +kernel
theorem dX9_doUnit_13 : decode cX9_doUnit 13 = .ok (.istore_n 2, 1) := by decide +kernel
theorem dX9_doUnit_14 : decode cX9_doUnit 14 = .ok (.aload_n 0, 1) := by decide +kernel
theorem dX9_doUnit_15 : decode cX9_doUnit 15 = .ok (.getfield 145, 3) := by decide +kernel
theorem dX9_doUnit_18 : decode cX9_doUnit 18 = .ok (.ifCond .eq 11, 3) := by decide +kernel
theorem dX9_doUnit_21 : decode cX9_doUnit 21 = .ok (.aload_n 0, 1) := by decide +kernel
theorem dX9_doUnit_22 : decode cX9_doUnit 22 = .ok (.invokevirtual 197, 3) := by decide +kernel
theorem dX9_doUnit_25 : decode cX9_doUnit 25 = .ok (.istore_n 2, 1) := by decide +kernel
theorem dX9_doUnit_26 : decode cX9_doUnit 26 = .ok (.goto 44, 3) := by decide +kernel
theorem dX9_doUnit_29 : decode cX9_doUnit 29 = .ok (.aload_n 0, 1) := by decide +kernel
theorem dX9_doUnit_30 : decode cX9_doUnit 30 = .ok (.invokevirtual 200, 3) := by decide +kernel
theorem dX9_doUnit_33 : decode cX9_doUnit 33 = .ok (.istore_n 1, 1) := by decide +kernel
theorem dX9_doUnit_34 : decode cX9_doUnit 34 = .ok (.iload_n 1, 1) := by decide +kernel
theorem dX9_doUnit_35 : decode cX9_doUnit 35 = .ok (.sipush (-10001), 3) := by decide +kernel
theorem dX9_doUnit_38 : decode cX9_doUnit 38 = .ok (.if_icmp .ne 9, 3) := by decide +kernel
theorem dX9_doUnit_41 : decode cX9_doUnit 41 = .ok (.sipush (-10001), 3) := by decide +kernel
theorem dX9_doUnit_44 : decode cX9_doUnit 44 = .ok (.goto 25, 3) := by decide +kernel
theorem dX9_doUnit_47 : decode cX9_doUnit 47 = .ok (.aload_n 0, 1) := by decide +kernel
theorem dX9_doUnit_48 : decode cX9_doUnit 48 = .ok (.iload_n 1, 1) := by decide +kernel
theorem dX9_doUnit_49 : decode cX9_doUnit 49 = .ok (.iconst 1, 1) := by decide +kernel
theorem dX9_doUnit_50 : decode cX9_doUnit 50 = .ok (.invokevirtual 69, 3) := by decide +kernel
theorem dX9_doUnit_53 : decode cX9_doUnit 53 = .ok (.iconst 1, 1) := by decide +kernel
theorem dX9_doUnit_54 : decode cX9_doUnit 54 = .ok (.if_icmp .ne 14, 3) := by decide +kernel
theorem dX9_doUnit_57 : decode cX9_doUnit 57 = .ok (.aload_n 0, 1) := by decide +kernel
theorem dX9_doUnit_58 : decode cX9_doUnit 58 = .ok (.getfield 173, 3) := by decide +kernel
theorem dX9_doUnit_61 : decode cX9_doUnit 61 = .ok (.ifCond .ne 7, 3) := by decide +kernel
theorem dX9_doUnit_64 : decode cX9_doUnit 64 = .ok (.iconst 1, 1) := by decide +kernel
theorem dX9_doUnit_65 : decode cX9_doUnit 65 = .ok (.goto 4, 3) := by decide +kernel
theorem dX9_doUnit_68 : decode cX9_doUnit 68 = .ok (.iconst 0, 1) := by decide +kernel
theorem dX9_doUnit_69 : decode cX9_doUnit 69 = .ok (.istore_n 2, 1) := by decide +kernel
theorem dX9_doUnit_70 : decode cX9_doUnit 70 = .ok (.iload_n 2, 1) := by decide +kernel
theorem dX9_doUnit_71 : decode cX9_doUnit 71 = .ok (.sipush (-10001), 3) := by decide +kernel
theorem dX9_doUnit_74 : decode cX9_doUnit 74 = .ok (.if_icmp .ne 6, 3) := by decide +kernel
theorem dX9_doUnit_77 : decode cX9_doUnit 77 = .ok (.bipush (-113), 2) := by decide +kernel
theorem dX9_doUnit_79 : decode cX9_doUnit 79 = .ok (.ireturn, 1) := by decide +kernel
theorem dX9_doUnit_80 : decode cX9_doUnit 80 = .ok (.aload_n 0, 1) := by decide +kernel
theorem dX9_doUnit_81 : decode cX9_doUnit 81 = .ok (.getfield 145, 3) := by decide +kernel
theorem dX9_doUnit_84 : decode cX9_doUnit 84 = .ok (.ifCond .ne 13, 3) := by decide +kernel
theorem dX9_doUnit_87 : decode cX9_doUnit 87 = .ok (.aload_n 0, 1) := by decide +kernel
theorem dX9_doUnit_88 : decode cX9_doUnit 88 = .ok (.aload_n 0, 1) := by decide +kernel
theorem dX9_doUnit_89 : decode cX9_doUnit 89 = .ok (.getfield 110, 3) := by decide +kernel
theorem dX9_doUnit_92 : decode cX9_doUnit 92 = .ok (.iconst 1, 1) := by decide +kernel
theorem dX9_doUnit_93 : decode cX9_doUnit 93 = .ok (.isub, 1) := by decide +kernel
theorem dX9_doUnit_94 : decode cX9_doUnit 94 = .ok (.putfield 149, 3) := by decide +kernel
theorem dX9_doUnit_97 : decode cX9_doUnit 97 = .ok (.aload_n 0, 1) := by decide +kernel
theorem dX9_doUnit_98 : decode cX9_doUnit 98 = .ok (.getfield 161, 3) := by decide +kernel
theorem dX9_doUnit_101 : decode cX9_doUnit 101 = .ok (.iload_n 2, 1) := by decide +kernel
theorem dX9_doUnit_102 : decode cX9_doUnit 102 = .ok (.iconst 1, 1) := by decide +kernel
theorem dX9_doUnit_103 : decode cX9_doUnit 103 = .ok (.if_icmp .ne 7, 3) := by decide +kernel
theorem dX9_doUnit_106 : decode cX9_doUnit 106 = .ok (.iconst 1, 1) := by decide +kernel
theorem dX9_doUnit_107 : decode cX9_doUnit 107 = .ok (.goto 4, 3) := by decide +kernel
theorem dX9_doUnit_110 : decode cX9_doUnit 110 = .ok (.iconst 0, 1) := by decide +kernel
theorem dX9_doUnit_111 : decode cX9_doUnit 111 = .ok (.if_icmp .eq 18, 3) := by decide +kernel
theorem dX9_doUnit_114 : decode cX9_doUnit 114 = .ok (.aload_n 0, 1) := by decide +kernel
theorem dX9_doUnit_115 : decode cX9_doUnit 115 = .ok (.getfield 161, 3) := by decide +kernel
theorem dX9_doUnit_118 : decode cX9_doUnit 118 = .ok (.ifCond .eq 8, 3) := by decide +kernel
theorem dX9_doUnit_121 : decode cX9_doUnit 121 = .ok (.bipush (-108), 2) := by decide +kernel
theorem dX9_doUnit_123 : decode cX9_doUnit 123 = .ok (.goto 5, 3) := by decide +kernel
theorem dX9_doUnit_126 : decode cX9_doUnit 126 = .ok (.bipush (-109), 2) := by decide +kernel
theorem dX9_doUnit_128 : decode cX9_doUnit 128 = .ok (.ireturn, 1) := by decide +kernel
theorem dX9_doUnit_129 : decode cX9_doUnit 129 = .ok (.aload_n 0, 1) := by decide +kernel
theorem dX9_doUnit_130 : decode cX9_doUnit 130 = .ok (.getfield 145, 3) := by decide +kernel
theorem dX9_doUnit_133 : decode cX9_doUnit 133 = .ok (.ifCond .eq 10, 3) := by decide +kernel
theorem dX9_doUnit_136 : decode cX9_doUnit 136 = .ok (.aload_n 0, 1) := by decide +kernel
theorem dX9_doUnit_137 : decode cX9_doUnit 137 = .ok (.invokevirtual 203, 3) := by decide +kernel
theorem dX9_doUnit_140 : decode cX9_doUnit 140 = .ok (.goto 8, 3) := by decide +kernel
theorem dX9_doUnit_143 : decode cX9_doUnit 143 = .ok (.aload_n 0, 1) := by decide +kernel
theorem dX9_doUnit_144 : decode cX9_doUnit 144 = .ok (.iload_n 1, 1) := by decide +kernel
theorem dX9_doUnit_145 : decode cX9_doUnit 145 = .ok (.invokevirtual 206, 3) := by decide +kernel
theorem dX9_doUnit_148 : decode cX9_doUnit 148 = .ok (.ireturn, 1) := by decide +kernel
theorem dX9_sends_0 : decode cX9_sends 0 = .ok (.aload_n 0, 1) := by decide +kernel
theorem dX9_sends_1 : decode cX9_sends 1 = .ok (.invokevirtual 80, 3) := by decide +kernel
theorem dX9_sends_4 : decode cX9_sends 4 = .ok (.aload_n 0, 1) := by decide +kernel
theorem dX9_sends_5 : decode cX9_sends 5 = .ok (.iconst 0, 1) := by decide +kernel
theorem dX9_sends_6 : decode cX9_sends 6 = .ok (.putfield 127, 3) := by decide +kernel
theorem dX9_sends_9 : decode cX9_sends 9 = .ok (.aload_n 0, 1) := by decide +kernel
theorem dX9_sends_10 : decode cX9_sends 10 = .ok (.iconst 0, 1) := by decide +kernel
theorem dX9_sends_11 : decode cX9_sends 11 = .ok (.putfield 149, 3) := by decide +kernel
theorem dX9_sends_14 : decode cX9_sends 14 = .ok (.iconst 0, 1) := by decide +kernel
theorem dX9_sends_15 : decode cX9_sends 15 = .ok (.istore_n 1, 1) := by decide +kernel
theorem dX9_sends_16 : decode cX9_sends 16 = .ok (.iconst 1, 1) := by decide +kernel
theorem dX9_sends_17 : decode cX9_sends 17 = .ok (.istore_n 2, 1) := by decide +kernel
theorem dX9_sends_18 : decode cX9_sends 18 = .ok (.iload_n 2, 1) := by decide +kernel
theorem dX9_sends_19 : decode cX9_sends 19 = .ok (.ifCond .eq 78, 3) := by decide +kernel
theorem dX9_sends_22 : decode cX9_sends 22 = .ok (.aload_n 0, 1) := by decide +kernel
theorem dX9_sends_23 : decode cX9_sends 23 = .ok (.invokevirtual 209, 3) := by decide +kernel
theorem dX9_sends_26 : decode cX9_sends 26 = .ok (.istore_n 3, 1) := by decide +kernel
theorem dX9_sends_27 : decode cX9_sends 27 = .ok (.iload_n 3, 1) := by decide +kernel
theorem dX9_sends_28 : decode cX9_sends 28 = .ok (.ifCond .eq 8, 3) := by decide +kernel
theorem dX9_sends_31 : decode cX9_sends 31 = .ok (.aload_n 0, 1) := by decide +kernel
theorem dX9_sends_32 : decode cX9_sends 32 = .ok (.iload_n 3, 1) := by decide +kernel
theorem dX9_sends_33 : decode cX9_sends 33 = .ok (.invokevirtual 124, 3) := by decide +kernel
theorem dX9_sends_36 : decode cX9_sends 36 = .ok (.iload_n 3, 1) := by decide +kernel
theorem dX9_sends_37 : decode cX9_sends 37 = .ok (.ifCond .eq 10, 3) := by decide +kernel
theorem dX9_sends_40 : decode cX9_sends 40 = .ok (.iload_n 3, 1) := by decide +kernel
theorem dX9_sends_41 : decode cX9_sends 41 = .ok (.sipush (-222), 3) := by decide +kernel
theorem dX9_sends_44 : decode cX9_sends 44 = .ok (.if_icmp .ne 7, 3) := by decide +kernel
theorem dX9_sends_47 : decode cX9_sends 47 = .ok (.iconst 1, 1) := by decide +kernel
theorem dX9_sends_48 : decode cX9_sends 48 = .ok (.goto 4, 3) := by decide +kernel
theorem dX9_sends_51 : decode cX9_sends 51 = .ok (.iconst 0, 1) := by decide +kernel
theorem dX9_sends_52 : decode cX9_sends 52 = .ok (.istore_n 2, 1) := by decide +kernel
theorem dX9_sends_53 : decode cX9_sends 53 = .ok (.iload_n 1, 1) := by decide +kernel
theorem dX9_sends_54 : decode cX9_sends 54 = .ok (.iload_n 2, 1) := by decide +kernel
theorem dX9_sends_55 : decode cX9_sends 55 = .ok (.ifCond .eq 7, 3) := by decide +kernel
theorem dX9_sends_58 : decode cX9_sends 58 = .ok (.iconst 1, 1) := by decide +kernel
theorem dX9_sends_59 : decode cX9_sends 59 = .ok (.goto 4, 3) := by decide +kernel
theorem dX9_sends_62 : decode cX9_sends 62 = .ok (.iconst 0, 1) := by decide +kernel
theorem dX9_sends_63 : decode cX9_sends 63 = .ok (.iadd, 1) := by decide +kernel
theorem dX9_sends_64 : decode cX9_sends 64 = .ok (.istore_n 1, 1) := by decide +kernel
theorem dX9_sends_65 : decode cX9_sends 65 = .ok (.iload_n 2, 1) := by decide +kernel
theorem dX9_sends_66 : decode cX9_sends 66 = .ok (.ifCond .eq 16, 3) := by decide +kernel
theorem dX9_sends_69 : decode cX9_sends 69 = .ok (.aload_n 0, 1) := by decide +kernel
theorem dX9_sends_70 : decode cX9_sends 70 = .ok (.invokevirtual 130, 3) := by decide +kernel
theorem dX9_sends_73 : decode cX9_sends 73 = .ok (.bipush 59, 2) := by decide +kernel
theorem dX9_sends_75 : decode cX9_sends 75 = .ok (.if_icmp .ne 7, 3) := by decide +kernel
theorem dX9_sends_78 : decode cX9_sends 78 = .ok (.iconst 1, 1) := by decide +kernel
theorem dX9_sends_79 : decode cX9_sends 79 = .ok (.goto 4, 3) := by decide +kernel
theorem dX9_sends_82 : decode cX9_sends 82 = .ok (.iconst 0, 1) := by decide +kernel
theorem dX9_sends_83 : decode cX9_sends 83 = .ok (.istore_n 2, 1) := by decide +kernel
theorem dX9_sends_84 : decode cX9_sends 84 = .ok (.aload_n 0, 1) := by decide +kernel
theorem dX9_sends_85 : decode cX9_sends 85 = .ok (.dup, 1) := by decide +kernel
theorem dX9_sends_86 : decode cX9_sends 86 = .ok (.getfield 127, 3) := by decide +kernel
theorem dX9_sends_89 : decode cX9_sends 89 = .ok (.iconst 1, 1) := by decide +kernel
theorem dX9_sends_90 : decode cX9_sends 90 = .ok (.iadd, 1) := by decide +kernel
theorem dX9_sends_91 : decode cX9_sends 91 = .ok (.putfield 127, 3) := by decide +kernel
theorem dX9_sends_94 : decode cX9_sends 94 = .ok (.goto (-76), 3) := by decide +kernel
theorem dX9_sends_97 : decode cX9_sends 97 = .ok (.aload_n 0, 1) := by decide +kernel
theorem dX9_sends_98 : decode cX9_sends 98 = .ok (.invokevirtual 90, 3) := by decide +kernel
theorem dX9_sends_101 : decode cX9_sends 101 = .ok (.iload_n 1, 1) := by decide +kernel
theorem dX9_sends_102 : decode cX9_sends 102 = .ok (.ireturn, 1) := by decide +kernel
theorem dX9_finds_0 : decode cX9_finds 0 = .ok (.aload_n 0, 1) := by decide +kernel
theorem dX9_finds_1 : decode cX9_finds 1 = .ok (.iconst 0, 1) := by decide +kernel
theorem dX9_finds_2 : decode cX9_finds 2 = .ok (.putfield 127, 3) := by decide +kernel
theorem dX9_finds_5 : decode cX9_finds 5 = .ok (.aload_n 0, 1) := by decide +kernel
theorem dX9_finds_6 : decode cX9_finds 6 = .ok (.iconst 0, 1) := by decide +kernel
theorem dX9_finds_7 : decode cX9_finds 7 = .ok (.putfield 110, 3) := by decide +kernel
theorem dX9_finds_10 : decode cX9_finds 10 = .ok (.aload_n 0, 1) := by decide +kernel
theorem dX9_finds_11 : decode cX9_finds 11 = .ok (.invokevirtual 155, 3) := by decide +kernel
theorem dX9_finds_14 : decode cX9_finds 14 = .ok (.ifCond .eq 21, 3) := by decide +kernel
theorem dX9_finds_17 : decode cX9_finds 17 = .ok (.aload_n 0, 1) := by decide +kernel
theorem dX9_finds_18 : decode cX9_finds 18 = .ok (.getfield 127, 3) := by decide +kernel
theorem dX9_finds_21 : decode cX9_finds 21 = .ok (.aload_n 0, 1) := by decide +kernel
theorem dX9_finds_22 : decode cX9_finds 22 = .ok (.getfield 73, 3) := by decide +kernel
theorem dX9_finds_25 : decode cX9_finds 25 = .ok (.if_icmp .ne 10, 3) := by decide +kernel
theorem dX9_finds_28 : decode cX9_finds 28 = .ok (.aload_n 0, 1) := by decide +kernel
theorem dX9_finds_29 : decode cX9_finds 29 = .ok (.invokevirtual 200, 3) := by decide +kernel
theorem dX9_finds_32 : decode cX9_finds 32 = .ok (.goto 6, 3) := by decide +kernel
theorem dX9_finds_35 : decode cX9_finds 35 = .ok (.sipush (-10001), 3) := by decide +kernel
theorem dX9_finds_38 : decode cX9_finds 38 = .ok (.ireturn, 1) := by decide +kernel
theorem dX9_takeFirst_0 : decode cX9_takeFirst 0 = .ok (.aload_n 0, 1) := by decide +kernel
theorem dX9_takeFirst_1 : decode cX9_takeFirst 1 = .ok (.getfield 7, 3) := by decide +kernel
theorem dX9_takeFirst_4 : decode cX9_takeFirst 4 = .ok (.iload_n 1, 1) := by decide +kernel
theorem dX9_takeFirst_5 : decode cX9_takeFirst 5 = .ok (.iaload, 1) := by decide +kernel
theorem dX9_takeFirst_6 : decode cX9_takeFirst 6 = .ok (.ifCond .ne 11, 3) := by decide +kernel
theorem dX9_takeFirst_9 : decode cX9_takeFirst 9 = .ok (.aload_n 0, 1) := by decide +kernel
theorem dX9_takeFirst_10 : decode cX9_takeFirst 10 = .ok (.sipush (-10003), 3) := by decide +kernel
theorem dX9_takeFirst_13 : decode cX9_takeFirst 13 = .ok (.invokevirtual 51, 3) := by decide +kernel
theorem dX9_takeFirst_16 : decode cX9_takeFirst 16 = .ok (.ireturn, 1) := by decide +kernel
theorem dX9_takeFirst_17 : decode cX9_takeFirst 17 = .ok (.aload_n 0, 1) := by decide +kernel
theorem dX9_takeFirst_18 : decode cX9_takeFirst 18 = .ok (.invokevirtual 80, 3) := by decide +kernel
theorem dX9_takeFirst_21 : decode cX9_takeFirst 21 = .ok (.aload_n 0, 1) := by decide +kernel
theorem dX9_takeFirst_22 : decode cX9_takeFirst 22 = .ok (.getfield 7, 3) := by decide +kernel
theorem dX9_takeFirst_25 : decode cX9_takeFirst 25 = .ok (.iload_n 2, 1) := by decide +kernel
theorem dX9_takeFirst_26 : decode cX9_takeFirst 26 = .ok (.iaload, 1) := by decide +kernel
theorem dX9_takeFirst_27 : decode cX9_takeFirst 27 = .ok (.istore_n 3, 1) := by decide +kernel
theorem dX9_takeFirst_28 : decode cX9_takeFirst 28 = .ok (.aload_n 0, 1) := by decide +kernel
theorem dX9_takeFirst_29 : decode cX9_takeFirst 29 = .ok (.iload_n 1, 1) := by decide +kernel
theorem dX9_takeFirst_30 : decode cX9_takeFirst 30 = .ok (.iload_n 2, 1) := by decide +kernel
theorem dX9_takeFirst_31 : decode cX9_takeFirst 31 = .ok (.iconst 0, 1) := by decide +kernel
theorem dX9_takeFirst_32 : decode cX9_takeFirst 32 = .ok (.invokevirtual 212, 3) := by decide +kernel
theorem dX9_takeFirst_35 : decode cX9_takeFirst 35 = .ok (.aload_n 0, 1) := by decide +kernel
theorem dX9_takeFirst_36 : decode cX9_takeFirst 36 = .ok (.invokevirtual 90, 3) := by decide +kernel
theorem dX9_takeFirst_39 : decode cX9_takeFirst 39 = .ok (.iload_n 3, 1) := by decide +kernel
theorem dX9_takeFirst_40 : decode cX9_takeFirst 40 = .ok (.ireturn, 1) := by decide +kernel
theorem dX9_removeAt_0 : decode cX9_removeAt 0 = .ok (.aload_n 0, 1) := by decide +kernel
theorem dX9_removeAt_1 : decode cX9_removeAt 1 = .ok (.getfield 7, 3) := by decide +kernel
theorem dX9_removeAt_4 : decode cX9_removeAt 4 = .ok (.iload_n 1, 1) := by decide +kernel
theorem dX9_removeAt_5 : decode cX9_removeAt 5 = .ok (.dup2, 1) := by decide +kernel
theorem dX9_removeAt_6 : decode cX9_removeAt 6 = .ok (.iaload, 1) := by decide +kernel
theorem dX9_removeAt_7 : decode cX9_removeAt 7 = .ok (.iconst 1, 1) := by decide +kernel
theorem dX9_removeAt_8 : decode cX9_removeAt 8 = .ok (.isub, 1) := by decide +kernel
theorem dX9_removeAt_9 : decode cX9_removeAt 9 = .ok (.iastore, 1) := by decide +kernel
theorem dX9_removeAt_10 : decode cX9_removeAt 10 = .ok (.iload_n 3, 1) := by decide +kernel
theorem dX9_removeAt_11 : decode cX9_removeAt 11 = .ok (.istore 4, 2) := by decide +kernel
theorem dX9_removeAt_13 : decode cX9_removeAt 13 = .ok (.iload 4, 2) := by decide +kernel
theorem dX9_removeAt_15 : decode cX9_removeAt 15 = .ok (.aload_n 0, 1) := by decide +kernel
theorem dX9_removeAt_16 : decode cX9_removeAt 16 = .ok (.getfield 7, 3) := by decide +kernel
theorem dX9_removeAt_19 : decode cX9_removeAt 19 = .ok (.iload_n 1, 1) := by decide +kernel
theorem dX9_removeAt_20 : decode cX9_removeAt 20 = .ok (.iaload, 1) := by decide +kernel
theorem dX9_removeAt_21 : decode cX9_removeAt 21 = .ok (.if_icmp .ge 29, 3) := by decide +kernel
theorem dX9_removeAt_24 : decode cX9_removeAt 24 = .ok (.aload_n 0, 1) := by decide +kernel
theorem dX9_removeAt_25 : decode cX9_removeAt 25 = .ok (.getfield 7, 3) := by decide +kernel
theorem dX9_removeAt_28 : decode cX9_removeAt 28 = .ok (.iload_n 2, 1) := by decide +kernel
theorem dX9_removeAt_29 : decode cX9_removeAt 29 = .ok (.iload 4, 2) := by decide +kernel
theorem dX9_removeAt_31 : decode cX9_removeAt 31 = .ok (.iadd, 1) := by decide +kernel
theorem dX9_removeAt_32 : decode cX9_removeAt 32 = .ok (.aload_n 0, 1) := by decide +kernel
theorem dX9_removeAt_33 : decode cX9_removeAt 33 = .ok (.getfield 7, 3) := by decide +kernel
theorem dX9_removeAt_36 : decode cX9_removeAt 36 = .ok (.iload_n 2, 1) := by decide +kernel
theorem dX9_removeAt_37 : decode cX9_removeAt 37 = .ok (.iload 4, 2) := by decide +kernel
theorem dX9_removeAt_39 : decode cX9_removeAt 39 = .ok (.iadd, 1) := by decide +kernel
theorem dX9_removeAt_40 : decode cX9_removeAt 40 = .ok (.iconst 1, 1) := by decide +kernel
theorem dX9_removeAt_41 : decode cX9_removeAt 41 = .ok (.iadd, 1) := by decide +kernel
theorem dX9_removeAt_42 : decode cX9_removeAt 42 = .ok (.iaload, 1) := by decide +kernel
theorem dX9_removeAt_43 : decode cX9_removeAt 43 = .ok (.iastore, 1) := by decide +kernel
theorem dX9_removeAt_44 : decode cX9_removeAt 44 = .ok (.iinc 4 1, 3) := by decide +kernel
theorem dX9_removeAt_47 : decode cX9_removeAt 47 = .ok (.goto (-34), 3) := by decide +kernel
theorem dX9_removeAt_50 : decode cX9_removeAt 50 = .ok (.return_, 1) := by decide +kernel
theorem dX9_answer_0 : decode cX9_answer 0 = .ok (.aload_n 0, 1) := by decide +kernel
theorem dX9_answer_1 : decode cX9_answer 1 = .ok (.bipush 11, 2) := by decide +kernel
theorem dX9_answer_3 : decode cX9_answer 3 = .ok (.bipush 17, 2) := by decide +kernel
theorem dX9_answer_5 : decode cX9_answer 5 = .ok (.invokevirtual 215, 3) := by decide +kernel
theorem dX9_answer_8 : decode cX9_answer 8 = .ok (.ireturn, 1) := by decide +kernel
theorem dX9_fault_0 : decode cX9_fault 0 = .ok (.aload_n 0, 1) := by decide +kernel
theorem dX9_fault_1 : decode cX9_fault 1 = .ok (.bipush 12, 2) := by decide +kernel
theorem dX9_fault_3 : decode cX9_fault 3 = .ok (.bipush 23, 2) := by decide +kernel
theorem dX9_fault_5 : decode cX9_fault 5 = .ok (.invokevirtual 215, 3) := by decide +kernel
theorem dX9_fault_8 : decode cX9_fault 8 = .ok (.ireturn, 1) := by decide +kernel
theorem dX9_condition_0 : decode cX9_condition 0 = .ok (.iload_n 1, 1) := by decide +kernel
theorem dX9_condition_1 : decode cX9_condition 1 = .ok (.iconst 0, 1) := by decide +kernel
theorem dX9_condition_2 : decode cX9_condition 2 = .ok (.iconst 3, 1) := by decide +kernel
theorem dX9_condition_3 : decode cX9_condition 3 = .ok (.invokestatic 55, 3) := by decide +kernel
theorem dX9_condition_6 : decode cX9_condition 6 = .ok (.ifCond .eq 12, 3) := by decide +kernel
theorem dX9_condition_9 : decode cX9_condition 9 = .ok (.iload_n 2, 1) := by decide +kernel
theorem dX9_condition_10 : decode cX9_condition 10 = .ok (.iconst 0, 1) := by decide +kernel
theorem dX9_condition_11 : decode cX9_condition 11 = .ok (.iconst 1, 1) := by decide +kernel
theorem dX9_condition_12 : decode cX9_condition 12 = .ok (.invokestatic 55, 3) := by decide +kernel
theorem dX9_condition_15 : decode cX9_condition 15 = .ok (.ifCond .ne 11, 3) := by decide +kernel
theorem dX9_condition_18 : decode cX9_condition 18 = .ok (.aload_n 0, 1) := by decide +kernel
theorem dX9_condition_19 : decode cX9_condition 19 = .ok (.sipush (-10002), 3) := by decide +kernel
theorem dX9_condition_22 : decode cX9_condition 22 = .ok (.invokevirtual 51, 3) := by decide +kernel
theorem dX9_condition_25 : decode cX9_condition 25 = .ok (.ireturn, 1) := by decide +kernel
theorem dX9_condition_26 : decode cX9_condition 26 = .ok (.aload_n 0, 1) := by decide +kernel
theorem dX9_condition_27 : decode cX9_condition 27 = .ok (.invokevirtual 80, 3) := by decide +kernel
theorem dX9_condition_30 : decode cX9_condition 30 = .ok (.aload_n 0, 1) := by decide +kernel
theorem dX9_condition_31 : decode cX9_condition 31 = .ok (.getfield 7, 3) := by decide +kernel
theorem dX9_condition_34 : decode cX9_condition 34 = .ok (.iconst 4, 1) := by decide +kernel
theorem dX9_condition_35 : decode cX9_condition 35 = .ok (.iaload, 1) := by decide +kernel
theorem dX9_condition_36 : decode cX9_condition 36 = .ok (.iload_n 1, 1) := by decide +kernel
theorem dX9_condition_37 : decode cX9_condition 37 = .ok (.ishr, 1) := by decide +kernel
theorem dX9_condition_38 : decode cX9_condition 38 = .ok (.iconst 1, 1) := by decide +kernel
theorem dX9_condition_39 : decode cX9_condition 39 = .ok (.iand, 1) := by decide +kernel
theorem dX9_condition_40 : decode cX9_condition 40 = .ok (.istore_n 3, 1) := by decide +kernel
theorem dX9_condition_41 : decode cX9_condition 41 = .ok (.iload_n 3, 1) := by decide +kernel
theorem dX9_condition_42 : decode cX9_condition 42 = .ok (.iload_n 2, 1) := by decide +kernel
theorem dX9_condition_43 : decode cX9_condition 43 = .ok (.if_icmp .eq 45, 3) := by decide +kernel
theorem dX9_condition_46 : decode cX9_condition 46 = .ok (.aload_n 0, 1) := by decide +kernel
theorem dX9_condition_47 : decode cX9_condition 47 = .ok (.getfield 7, 3) := by decide +kernel
theorem dX9_condition_50 : decode cX9_condition 50 = .ok (.iconst 4, 1) := by decide +kernel
theorem dX9_condition_51 : decode cX9_condition 51 = .ok (.dup2, 1) := by decide +kernel
theorem dX9_condition_52 : decode cX9_condition 52 = .ok (.iaload, 1) := by decide +kernel
theorem dX9_condition_53 : decode cX9_condition 53 = .ok (.iconst 1, 1) := by decide +kernel
theorem dX9_condition_54 : decode cX9_condition 54 = .ok (.iload_n 1, 1) := by decide +kernel
theorem dX9_condition_55 : decode cX9_condition 55 = .ok (.ishl, 1) := by decide +kernel
theorem dX9_condition_56 : decode cX9_condition 56 = .ok (.ixor, 1) := by decide +kernel
theorem dX9_condition_57 : decode cX9_condition 57 = .ok (.iastore, 1) := by decide +kernel
theorem dX9_condition_58 : decode cX9_condition 58 = .ok (.aload_n 0, 1) := by decide +kernel
theorem dX9_condition_59 : decode cX9_condition 59 = .ok (.getfield 7, 3) := by decide +kernel
theorem dX9_condition_62 : decode cX9_condition 62 = .ok (.iconst 5, 1) := by decide +kernel
theorem dX9_condition_63 : decode cX9_condition 63 = .ok (.dup2, 1) := by decide +kernel
theorem dX9_condition_64 : decode cX9_condition 64 = .ok (.iaload, 1) := by decide +kernel
theorem dX9_condition_65 : decode cX9_condition 65 = .ok (.aload_n 0, 1) := by decide +kernel
theorem dX9_condition_66 : decode cX9_condition 66 = .ok (.getfield 7, 3) := by decide +kernel
theorem dX9_condition_69 : decode cX9_condition 69 = .ok (.iload_n 2, 1) := by decide +kernel
theorem dX9_condition_70 : decode cX9_condition 70 = .ok (.iconst 1, 1) := by decide +kernel
theorem dX9_condition_71 : decode cX9_condition 71 = .ok (.if_icmp .ne 8, 3) := by decide +kernel
theorem dX9_condition_74 : decode cX9_condition 74 = .ok (.bipush 6, 2) := by decide +kernel
theorem dX9_condition_76 : decode cX9_condition 76 = .ok (.goto 5, 3) := by decide +kernel
theorem dX9_condition_79 : decode cX9_condition 79 = .ok (.bipush 7, 2) := by decide +kernel
theorem dX9_condition_81 : decode cX9_condition 81 = .ok (.iaload, 1) := by decide +kernel
theorem dX9_condition_82 : decode cX9_condition 82 = .ok (.iconst 1, 1) := by decide +kernel
theorem dX9_condition_83 : decode cX9_condition 83 = .ok (.iload_n 1, 1) := by decide +kernel
theorem dX9_condition_84 : decode cX9_condition 84 = .ok (.ishl, 1) := by decide +kernel
theorem dX9_condition_85 : decode cX9_condition 85 = .ok (.iand, 1) := by decide +kernel
theorem dX9_condition_86 : decode cX9_condition 86 = .ok (.ior, 1) := by decide +kernel
theorem dX9_condition_87 : decode cX9_condition 87 = .ok (.iastore, 1) := by decide +kernel
theorem dX9_condition_88 : decode cX9_condition 88 = .ok (.aload_n 0, 1) := by decide +kernel
theorem dX9_condition_89 : decode cX9_condition 89 = .ok (.invokevirtual 90, 3) := by decide +kernel
theorem dX9_condition_92 : decode cX9_condition 92 = .ok (.iload_n 3, 1) := by decide +kernel
theorem dX9_condition_93 : decode cX9_condition 93 = .ok (.ireturn, 1) := by decide +kernel
theorem dX9_masks_0 : decode cX9_masks 0 = .ok (.iload_n 1, 1) := by decide +kernel
theorem dX9_masks_1 : decode cX9_masks 1 = .ok (.iconst 0, 1) := by decide +kernel
theorem dX9_masks_2 : decode cX9_masks 2 = .ok (.iconst 2, 1) := by decide +kernel
theorem dX9_masks_3 : decode cX9_masks 3 = .ok (.invokestatic 55, 3) := by decide +kernel
theorem dX9_masks_6 : decode cX9_masks 6 = .ok (.ifCond .eq 13, 3) := by decide +kernel
theorem dX9_masks_9 : decode cX9_masks 9 = .ok (.iload_n 2, 1) := by decide +kernel
theorem dX9_masks_10 : decode cX9_masks 10 = .ok (.iconst 0, 1) := by decide +kernel
theorem dX9_masks_11 : decode cX9_masks 11 = .ok (.bipush 15, 2) := by decide +kernel
theorem dX9_masks_13 : decode cX9_masks 13 = .ok (.invokestatic 55, 3) := by decide +kernel
theorem dX9_masks_16 : decode cX9_masks 16 = .ok (.ifCond .ne 11, 3) := by decide +kernel
theorem dX9_masks_19 : decode cX9_masks 19 = .ok (.aload_n 0, 1) := by decide +kernel
theorem dX9_masks_20 : decode cX9_masks 20 = .ok (.sipush (-10002), 3) := by decide +kernel
theorem dX9_masks_23 : decode cX9_masks 23 = .ok (.invokevirtual 51, 3) := by decide +kernel
theorem dX9_masks_26 : decode cX9_masks 26 = .ok (.ireturn, 1) := by decide +kernel
theorem dX9_masks_27 : decode cX9_masks 27 = .ok (.aload_n 0, 1) := by decide +kernel
theorem dX9_masks_28 : decode cX9_masks 28 = .ok (.invokevirtual 80, 3) := by decide +kernel
theorem dX9_masks_31 : decode cX9_masks 31 = .ok (.aload_n 0, 1) := by decide +kernel
theorem dX9_masks_32 : decode cX9_masks 32 = .ok (.getfield 7, 3) := by decide +kernel
theorem dX9_masks_35 : decode cX9_masks 35 = .ok (.bipush 6, 2) := by decide +kernel
theorem dX9_masks_37 : decode cX9_masks 37 = .ok (.iload_n 1, 1) := by decide +kernel
theorem dX9_masks_38 : decode cX9_masks 38 = .ok (.iadd, 1) := by decide +kernel
theorem dX9_masks_39 : decode cX9_masks 39 = .ok (.iaload, 1) := by decide +kernel
theorem dX9_masks_40 : decode cX9_masks 40 = .ok (.istore_n 3, 1) := by decide +kernel
theorem dX9_masks_41 : decode cX9_masks 41 = .ok (.aload_n 0, 1) := by decide +kernel
theorem dX9_masks_42 : decode cX9_masks 42 = .ok (.getfield 7, 3) := by decide +kernel
theorem dX9_masks_45 : decode cX9_masks 45 = .ok (.bipush 6, 2) := by decide +kernel
theorem dX9_masks_47 : decode cX9_masks 47 = .ok (.iload_n 1, 1) := by decide +kernel
theorem dX9_masks_48 : decode cX9_masks 48 = .ok (.iadd, 1) := by decide +kernel
theorem dX9_masks_49 : decode cX9_masks 49 = .ok (.iload_n 2, 1) := by decide +kernel
theorem dX9_masks_50 : decode cX9_masks 50 = .ok (.iastore, 1) := by decide +kernel
theorem dX9_masks_51 : decode cX9_masks 51 = .ok (.aload_n 0, 1) := by decide +kernel
theorem dX9_masks_52 : decode cX9_masks 52 = .ok (.invokevirtual 90, 3) := by decide +kernel
theorem dX9_masks_55 : decode cX9_masks 55 = .ok (.iload_n 3, 1) := by decide +kernel
theorem dX9_masks_56 : decode cX9_masks 56 = .ok (.ireturn, 1) := by decide +kernel
theorem dX9_edges_0 : decode cX9_edges 0 = .ok (.aload_n 0, 1) := by decide +kernel
theorem dX9_edges_1 : decode cX9_edges 1 = .ok (.invokevirtual 80, 3) := by decide +kernel
theorem dX9_edges_4 : decode cX9_edges 4 = .ok (.aload_n 0, 1) := by decide +kernel
theorem dX9_edges_5 : decode cX9_edges 5 = .ok (.getfield 7, 3) := by decide +kernel
theorem dX9_edges_8 : decode cX9_edges 8 = .ok (.iconst 5, 1) := by decide +kernel
theorem dX9_edges_9 : decode cX9_edges 9 = .ok (.iaload, 1) := by decide +kernel
theorem dX9_edges_10 : decode cX9_edges 10 = .ok (.istore_n 1, 1) := by decide +kernel
theorem dX9_edges_11 : decode cX9_edges 11 = .ok (.aload_n 0, 1) := by decide +kernel
theorem dX9_edges_12 : decode cX9_edges 12 = .ok (.getfield 7, 3) := by decide +kernel
theorem dX9_edges_15 : decode cX9_edges 15 = .ok (.iconst 5, 1) := by decide +kernel
theorem dX9_edges_16 : decode cX9_edges 16 = .ok (.iconst 0, 1) := by decide +kernel
theorem dX9_edges_17 : decode cX9_edges 17 = .ok (.iastore, 1) := by decide +kernel
theorem dX9_edges_18 : decode cX9_edges 18 = .ok (.aload_n 0, 1) := by decide +kernel
theorem dX9_edges_19 : decode cX9_edges 19 = .ok (.invokevirtual 90, 3) := by decide +kernel
theorem dX9_edges_22 : decode cX9_edges 22 = .ok (.iload_n 1, 1) := by decide +kernel
theorem dX9_edges_23 : decode cX9_edges 23 = .ok (.ireturn, 1) := by decide +kernel
theorem dX9_finishes_0 : decode cX9_finishes 0 = .ok (.iload_n 1, 1) := by decide +kernel
theorem dX9_finishes_1 : decode cX9_finishes 1 = .ok (.iconst 0, 1) := by decide +kernel
theorem dX9_finishes_2 : decode cX9_finishes 2 = .ok (.aload_n 0, 1) := by decide +kernel
theorem dX9_finishes_3 : decode cX9_finishes 3 = .ok (.getfield 7, 3) := by decide +kernel
theorem dX9_finishes_6 : decode cX9_finishes 6 = .ok (.bipush 9, 2) := by decide +kernel
theorem dX9_finishes_8 : decode cX9_finishes 8 = .ok (.iaload, 1) := by decide +kernel
theorem dX9_finishes_9 : decode cX9_finishes 9 = .ok (.iconst 1, 1) := by decide +kernel
theorem dX9_finishes_10 : decode cX9_finishes 10 = .ok (.isub, 1) := by decide +kernel
theorem dX9_finishes_11 : decode cX9_finishes 11 = .ok (.invokestatic 55, 3) := by decide +kernel
theorem dX9_finishes_14 : decode cX9_finishes 14 = .ok (.ifCond .ne 11, 3) := by decide +kernel
theorem dX9_finishes_17 : decode cX9_finishes 17 = .ok (.aload_n 0, 1) := by decide +kernel
theorem dX9_finishes_18 : decode cX9_finishes 18 = .ok (.sipush (-10002), 3) := by decide +kernel
theorem dX9_finishes_21 : decode cX9_finishes 21 = .ok (.invokevirtual 51, 3) := by decide +kernel
theorem dX9_finishes_24 : decode cX9_finishes 24 = .ok (.ireturn, 1) := by decide +kernel
theorem dX9_finishes_25 : decode cX9_finishes 25 = .ok (.aload_n 0, 1) := by decide +kernel
theorem dX9_finishes_26 : decode cX9_finishes 26 = .ok (.invokevirtual 80, 3) := by decide +kernel
theorem dX9_finishes_29 : decode cX9_finishes 29 = .ok (.aload_n 0, 1) := by decide +kernel
theorem dX9_finishes_30 : decode cX9_finishes 30 = .ok (.bipush 9, 2) := by decide +kernel
theorem dX9_finishes_32 : decode cX9_finishes 32 = .ok (.bipush 13, 2) := by decide +kernel
theorem dX9_finishes_34 : decode cX9_finishes 34 = .ok (.iload_n 1, 1) := by decide +kernel
theorem dX9_finishes_35 : decode cX9_finishes 35 = .ok (.invokevirtual 212, 3) := by decide +kernel
theorem dX9_finishes_38 : decode cX9_finishes 38 = .ok (.aload_n 0, 1) := by decide +kernel
theorem dX9_finishes_39 : decode cX9_finishes 39 = .ok (.getfield 7, 3) := by decide +kernel
theorem dX9_finishes_42 : decode cX9_finishes 42 = .ok (.bipush 9, 2) := by decide +kernel
theorem dX9_finishes_44 : decode cX9_finishes 44 = .ok (.iaload, 1) := by decide +kernel
theorem dX9_finishes_45 : decode cX9_finishes 45 = .ok (.ifCond .ne 32, 3) := by decide +kernel
theorem dX9_finishes_48 : decode cX9_finishes 48 = .ok (.aload_n 0, 1) := by decide +kernel
theorem dX9_finishes_49 : decode cX9_finishes 49 = .ok (.getfield 7, 3) := by decide +kernel
theorem dX9_finishes_52 : decode cX9_finishes 52 = .ok (.bipush 10, 2) := by decide +kernel
theorem dX9_finishes_54 : decode cX9_finishes 54 = .ok (.iaload, 1) := by decide +kernel
theorem dX9_finishes_55 : decode cX9_finishes 55 = .ok (.iconst 1, 1) := by decide +kernel
theorem dX9_finishes_56 : decode cX9_finishes 56 = .ok (.if_icmp .ne 21, 3) := by decide +kernel
theorem dX9_finishes_59 : decode cX9_finishes 59 = .ok (.aload_n 0, 1) := by decide +kernel
theorem dX9_finishes_60 : decode cX9_finishes 60 = .ok (.getfield 7, 3) := by decide +kernel
theorem dX9_finishes_63 : decode cX9_finishes 63 = .ok (.iconst 1, 1) := by decide +kernel
theorem dX9_finishes_64 : decode cX9_finishes 64 = .ok (.dup2, 1) := by decide +kernel
theorem dX9_finishes_65 : decode cX9_finishes 65 = .ok (.iaload, 1) := by decide +kernel
theorem dX9_finishes_66 : decode cX9_finishes 66 = .ok (.iconst 1, 1) := by decide +kernel
theorem dX9_finishes_67 : decode cX9_finishes 67 = .ok (.ior, 1) := by decide +kernel
theorem dX9_finishes_68 : decode cX9_finishes 68 = .ok (.iastore, 1) := by decide +kernel
theorem dX9_finishes_69 : decode cX9_finishes 69 = .ok (.aload_n 0, 1) := by decide +kernel
theorem dX9_finishes_70 : decode cX9_finishes 70 = .ok (.getfield 7, 3) := by decide +kernel
theorem dX9_finishes_73 : decode cX9_finishes 73 = .ok (.bipush 10, 2) := by decide +kernel
theorem dX9_finishes_75 : decode cX9_finishes 75 = .ok (.iconst 0, 1) := by decide +kernel
theorem dX9_finishes_76 : decode cX9_finishes 76 = .ok (.iastore, 1) := by decide +kernel
theorem dX9_finishes_77 : decode cX9_finishes 77 = .ok (.aload_n 0, 1) := by decide +kernel
theorem dX9_finishes_78 : decode cX9_finishes 78 = .ok (.invokevirtual 90, 3) := by decide +kernel
theorem dX9_finishes_81 : decode cX9_finishes 81 = .ok (.aload_n 0, 1) := by decide +kernel
theorem dX9_finishes_82 : decode cX9_finishes 82 = .ok (.getfield 7, 3) := by decide +kernel
theorem dX9_finishes_85 : decode cX9_finishes 85 = .ok (.bipush 9, 2) := by decide +kernel
theorem dX9_finishes_87 : decode cX9_finishes 87 = .ok (.iaload, 1) := by decide +kernel
theorem dX9_finishes_88 : decode cX9_finishes 88 = .ok (.ireturn, 1) := by decide +kernel
theorem dX9_stateOf_0 : decode cX9_stateOf 0 = .ok (.iload_n 1, 1) := by decide +kernel
theorem dX9_stateOf_1 : decode cX9_stateOf 1 = .ok (.iconst 3, 1) := by decide +kernel
theorem dX9_stateOf_2 : decode cX9_stateOf 2 = .ok (.if_icmp .ne 10, 3) := by decide +kernel
theorem dX9_stateOf_5 : decode cX9_stateOf 5 = .ok (.aload_n 0, 1) := by decide +kernel
theorem dX9_stateOf_6 : decode cX9_stateOf 6 = .ok (.invokevirtual 185, 3) := by decide +kernel
theorem dX9_stateOf_9 : decode cX9_stateOf 9 = .ok (.goto 40, 3) := by decide +kernel
theorem dX9_stateOf_12 : decode cX9_stateOf 12 = .ok (.iload_n 1, 1) := by decide +kernel
theorem dX9_stateOf_13 : decode cX9_stateOf 13 = .ok (.bipush 13, 2) := by decide +kernel
theorem dX9_stateOf_15 : decode cX9_stateOf 15 = .ok (.if_icmp .ne 12, 3) := by decide +kernel
theorem dX9_stateOf_18 : decode cX9_stateOf 18 = .ok (.aload_n 0, 1) := by decide +kernel
theorem dX9_stateOf_19 : decode cX9_stateOf 19 = .ok (.getfield 7, 3) := by decide +kernel
theorem dX9_stateOf_22 : decode cX9_stateOf 22 = .ok (.iconst 0, 1) := by decide +kernel
theorem dX9_stateOf_23 : decode cX9_stateOf 23 = .ok (.iaload, 1) := by decide +kernel
theorem dX9_stateOf_24 : decode cX9_stateOf 24 = .ok (.goto 25, 3) := by decide +kernel
theorem dX9_stateOf_27 : decode cX9_stateOf 27 = .ok (.iload_n 1, 1) := by decide +kernel
theorem dX9_stateOf_28 : decode cX9_stateOf 28 = .ok (.iconst 3, 1) := by decide +kernel
theorem dX9_stateOf_29 : decode cX9_stateOf 29 = .ok (.if_icmp .ge 14, 3) := by decide +kernel
theorem dX9_stateOf_32 : decode cX9_stateOf 32 = .ok (.aload_n 0, 1) := by decide +kernel
theorem dX9_stateOf_33 : decode cX9_stateOf 33 = .ok (.getfield 7, 3) := by decide +kernel
theorem dX9_stateOf_36 : decode cX9_stateOf 36 = .ok (.iconst 1, 1) := by decide +kernel
theorem dX9_stateOf_37 : decode cX9_stateOf 37 = .ok (.iload_n 1, 1) := by decide +kernel
theorem dX9_stateOf_38 : decode cX9_stateOf 38 = .ok (.iadd, 1) := by decide +kernel
theorem dX9_stateOf_39 : decode cX9_stateOf 39 = .ok (.iaload, 1) := by decide +kernel
theorem dX9_stateOf_40 : decode cX9_stateOf 40 = .ok (.goto 9, 3) := by decide +kernel
theorem dX9_stateOf_43 : decode cX9_stateOf 43 = .ok (.aload_n 0, 1) := by decide +kernel
theorem dX9_stateOf_44 : decode cX9_stateOf 44 = .ok (.getfield 7, 3) := by decide +kernel
theorem dX9_stateOf_47 : decode cX9_stateOf 47 = .ok (.iload_n 1, 1) := by decide +kernel
theorem dX9_stateOf_48 : decode cX9_stateOf 48 = .ok (.iaload, 1) := by decide +kernel
theorem dX9_stateOf_49 : decode cX9_stateOf 49 = .ok (.ireturn, 1) := by decide +kernel
theorem dX9_state_0 : decode cX9_state 0 = .ok (.iload_n 1, 1) := by decide +kernel
theorem dX9_state_1 : decode cX9_state 1 = .ok (.iconst 0, 1) := by decide +kernel
theorem dX9_state_2 : decode cX9_state 2 = .ok (.bipush 13, 2) := by decide +kernel
theorem dX9_state_4 : decode cX9_state 4 = .ok (.invokestatic 55, 3) := by decide +kernel
theorem dX9_state_7 : decode cX9_state 7 = .ok (.ifCond .eq 11, 3) := by decide +kernel
theorem dX9_state_10 : decode cX9_state 10 = .ok (.aload_n 0, 1) := by decide +kernel
theorem dX9_state_11 : decode cX9_state 11 = .ok (.iload_n 1, 1) := by decide +kernel
theorem dX9_state_12 : decode cX9_state 12 = .ok (.invokevirtual 218, 3) := by decide +kernel
theorem dX9_state_15 : decode cX9_state 15 = .ok (.goto 10, 3) := by decide +kernel
theorem dX9_state_18 : decode cX9_state 18 = .ok (.aload_n 0, 1) := by decide +kernel
theorem dX9_state_19 : decode cX9_state 19 = .ok (.sipush (-10002), 3) := by decide +kernel
theorem dX9_state_22 : decode cX9_state 22 = .ok (.invokevirtual 51, 3) := by decide +kernel
theorem dX9_state_25 : decode cX9_state 25 = .ok (.ireturn, 1) := by decide +kernel
theorem dX9_rowAt_0 : decode cX9_rowAt 0 = .ok (.iload_n 1, 1) := by decide +kernel
theorem dX9_rowAt_1 : decode cX9_rowAt 1 = .ok (.ifCond .ge 11, 3) := by decide +kernel
theorem dX9_rowAt_4 : decode cX9_rowAt 4 = .ok (.aload_n 0, 1) := by decide +kernel
theorem dX9_rowAt_5 : decode cX9_rowAt 5 = .ok (.sipush (-10002), 3) := by decide +kernel
theorem dX9_rowAt_8 : decode cX9_rowAt 8 = .ok (.invokevirtual 51, 3) := by decide +kernel
theorem dX9_rowAt_11 : decode cX9_rowAt 11 = .ok (.ireturn, 1) := by decide +kernel
theorem dX9_rowAt_12 : decode cX9_rowAt 12 = .ok (.iload_n 1, 1) := by decide +kernel
theorem dX9_rowAt_13 : decode cX9_rowAt 13 = .ok (.aload_n 0, 1) := by decide +kernel
theorem dX9_rowAt_14 : decode cX9_rowAt 14 = .ok (.getfield 7, 3) := by decide +kernel
theorem dX9_rowAt_17 : decode cX9_rowAt 17 = .ok (.iload_n 2, 1) := by decide +kernel
theorem dX9_rowAt_18 : decode cX9_rowAt 18 = .ok (.iaload, 1) := by decide +kernel
theorem dX9_rowAt_19 : decode cX9_rowAt 19 = .ok (.if_icmp .ge 14, 3) := by decide +kernel
theorem dX9_rowAt_22 : decode cX9_rowAt 22 = .ok (.aload_n 0, 1) := by decide +kernel
theorem dX9_rowAt_23 : decode cX9_rowAt 23 = .ok (.getfield 7, 3) := by decide +kernel
theorem dX9_rowAt_26 : decode cX9_rowAt 26 = .ok (.iload_n 3, 1) := by decide +kernel
theorem dX9_rowAt_27 : decode cX9_rowAt 27 = .ok (.iload_n 1, 1) := by decide +kernel
theorem dX9_rowAt_28 : decode cX9_rowAt 28 = .ok (.iadd, 1) := by decide +kernel
theorem dX9_rowAt_29 : decode cX9_rowAt 29 = .ok (.iaload, 1) := by decide +kernel
theorem dX9_rowAt_30 : decode cX9_rowAt 30 = .ok (.goto 6, 3) := by decide +kernel
theorem dX9_rowAt_33 : decode cX9_rowAt 33 = .ok (.sipush (-10001), 3) := by decide +kernel
theorem dX9_rowAt_36 : decode cX9_rowAt 36 = .ok (.ireturn, 1) := by decide +kernel
theorem dX9_answers_0 : decode cX9_answers 0 = .ok (.aload_n 0, 1) := by decide +kernel
theorem dX9_answers_1 : decode cX9_answers 1 = .ok (.iload_n 1, 1) := by decide +kernel
theorem dX9_answers_2 : decode cX9_answers 2 = .ok (.bipush 11, 2) := by decide +kernel
theorem dX9_answers_4 : decode cX9_answers 4 = .ok (.bipush 17, 2) := by decide +kernel
theorem dX9_answers_6 : decode cX9_answers 6 = .ok (.invokevirtual 221, 3) := by decide +kernel
theorem dX9_answers_9 : decode cX9_answers 9 = .ok (.ireturn, 1) := by decide +kernel
theorem dX9_faults_0 : decode cX9_faults 0 = .ok (.aload_n 0, 1) := by decide +kernel
theorem dX9_faults_1 : decode cX9_faults 1 = .ok (.iload_n 1, 1) := by decide +kernel
theorem dX9_faults_2 : decode cX9_faults 2 = .ok (.bipush 12, 2) := by decide +kernel
theorem dX9_faults_4 : decode cX9_faults 4 = .ok (.bipush 23, 2) := by decide +kernel
theorem dX9_faults_6 : decode cX9_faults 6 = .ok (.invokevirtual 221, 3) := by decide +kernel
theorem dX9_faults_9 : decode cX9_faults 9 = .ok (.ireturn, 1) := by decide +kernel
theorem dX9_pending_0 : decode cX9_pending 0 = .ok (.aload_n 0, 1) := by decide +kernel
theorem dX9_pending_1 : decode cX9_pending 1 = .ok (.iload_n 1, 1) := by decide +kernel
theorem dX9_pending_2 : decode cX9_pending 2 = .ok (.bipush 9, 2) := by decide +kernel
theorem dX9_pending_4 : decode cX9_pending 4 = .ok (.bipush 13, 2) := by decide +kernel
theorem dX9_pending_6 : decode cX9_pending 6 = .ok (.invokevirtual 221, 3) := by decide +kernel
theorem dX9_pending_9 : decode cX9_pending 9 = .ok (.ireturn, 1) := by decide +kernel
theorem dX9_type_0 : decode cX9_type 0 = .ok (.iload_n 1, 1) := by decide +kernel
theorem dX9_type_1 : decode cX9_type 1 = .ok (.iconst 0, 1) := by decide +kernel
theorem dX9_type_2 : decode cX9_type 2 = .ok (.bipush 127, 2) := by decide +kernel
theorem dX9_type_4 : decode cX9_type 4 = .ok (.invokestatic 55, 3) := by decide +kernel
theorem dX9_type_7 : decode cX9_type 7 = .ok (.ifCond .ne 11, 3) := by decide +kernel
theorem dX9_type_10 : decode cX9_type 10 = .ok (.aload_n 0, 1) := by decide +kernel
theorem dX9_type_11 : decode cX9_type 11 = .ok (.sipush (-10002), 3) := by decide +kernel
theorem dX9_type_14 : decode cX9_type 14 = .ok (.invokevirtual 51, 3) := by decide +kernel
theorem dX9_type_17 : decode cX9_type 17 = .ok (.ireturn, 1) := by decide +kernel
theorem dX9_type_18 : decode cX9_type 18 = .ok (.aload_n 0, 1) := by decide +kernel
theorem dX9_type_19 : decode cX9_type 19 = .ok (.getfield 73, 3) := by decide +kernel
theorem dX9_type_22 : decode cX9_type 22 = .ok (.bipush 100, 2) := by decide +kernel
theorem dX9_type_24 : decode cX9_type 24 = .ok (.if_icmp .ne 11, 3) := by decide +kernel
theorem dX9_type_27 : decode cX9_type 27 = .ok (.aload_n 0, 1) := by decide +kernel
theorem dX9_type_28 : decode cX9_type 28 = .ok (.sipush (-10004), 3) := by decide +kernel
theorem dX9_type_31 : decode cX9_type 31 = .ok (.invokevirtual 51, 3) := by decide +kernel
theorem dX9_type_34 : decode cX9_type 34 = .ok (.ireturn, 1) := by decide +kernel
theorem dX9_type_35 : decode cX9_type 35 = .ok (.aload_n 0, 1) := by decide +kernel
theorem dX9_type_36 : decode cX9_type 36 = .ok (.getfield 22, 3) := by decide +kernel
theorem dX9_type_39 : decode cX9_type 39 = .ok (.aload_n 0, 1) := by decide +kernel
theorem dX9_type_40 : decode cX9_type 40 = .ok (.getfield 73, 3) := by decide +kernel
theorem dX9_type_43 : decode cX9_type 43 = .ok (.iload_n 1, 1) := by decide +kernel
theorem dX9_type_44 : decode cX9_type 44 = .ok (.iastore, 1) := by decide +kernel
theorem dX9_type_45 : decode cX9_type 45 = .ok (.aload_n 0, 1) := by decide +kernel
theorem dX9_type_46 : decode cX9_type 46 = .ok (.dup, 1) := by decide +kernel
theorem dX9_type_47 : decode cX9_type 47 = .ok (.getfield 73, 3) := by decide +kernel
theorem dX9_type_50 : decode cX9_type 50 = .ok (.iconst 1, 1) := by decide +kernel
theorem dX9_type_51 : decode cX9_type 51 = .ok (.iadd, 1) := by decide +kernel
theorem dX9_type_52 : decode cX9_type 52 = .ok (.putfield 73, 3) := by decide +kernel
theorem dX9_type_55 : decode cX9_type 55 = .ok (.aload_n 0, 1) := by decide +kernel
theorem dX9_type_56 : decode cX9_type 56 = .ok (.getfield 73, 3) := by decide +kernel
theorem dX9_type_59 : decode cX9_type 59 = .ok (.ireturn, 1) := by decide +kernel
theorem dX9_clear_0 : decode cX9_clear 0 = .ok (.aload_n 0, 1) := by decide +kernel
theorem dX9_clear_1 : decode cX9_clear 1 = .ok (.getfield 73, 3) := by decide +kernel
theorem dX9_clear_4 : decode cX9_clear 4 = .ok (.istore_n 1, 1) := by decide +kernel
theorem dX9_clear_5 : decode cX9_clear 5 = .ok (.aload_n 0, 1) := by decide +kernel
theorem dX9_clear_6 : decode cX9_clear 6 = .ok (.iconst 0, 1) := by decide +kernel
theorem dX9_clear_7 : decode cX9_clear 7 = .ok (.putfield 73, 3) := by decide +kernel
theorem dX9_clear_10 : decode cX9_clear 10 = .ok (.iload_n 1, 1) := by decide +kernel
theorem dX9_clear_11 : decode cX9_clear 11 = .ok (.ireturn, 1) := by decide +kernel
theorem dX9_toldOf_0 : decode cX9_toldOf 0 = .ok (.iload_n 1, 1) := by decide +kernel
theorem dX9_toldOf_1 : decode cX9_toldOf 1 = .ok (.iconst 3, 1) := by decide +kernel
theorem dX9_toldOf_2 : decode cX9_toldOf 2 = .ok (.if_icmp .ge 12, 3) := by decide +kernel
theorem dX9_toldOf_5 : decode cX9_toldOf 5 = .ok (.aload_n 0, 1) := by decide +kernel
theorem dX9_toldOf_6 : decode cX9_toldOf 6 = .ok (.getfield 19, 3) := by decide +kernel
theorem dX9_toldOf_9 : decode cX9_toldOf 9 = .ok (.iload_n 1, 1) := by decide +kernel
theorem dX9_toldOf_10 : decode cX9_toldOf 10 = .ok (.iaload, 1) := by decide +kernel
theorem dX9_toldOf_11 : decode cX9_toldOf 11 = .ok (.goto 19, 3) := by decide +kernel
theorem dX9_toldOf_14 : decode cX9_toldOf 14 = .ok (.iload_n 1, 1) := by decide +kernel
theorem dX9_toldOf_15 : decode cX9_toldOf 15 = .ok (.iconst 3, 1) := by decide +kernel
theorem dX9_toldOf_16 : decode cX9_toldOf 16 = .ok (.if_icmp .ne 10, 3) := by decide +kernel
theorem dX9_toldOf_19 : decode cX9_toldOf 19 = .ok (.aload_n 0, 1) := by decide +kernel
theorem dX9_toldOf_20 : decode cX9_toldOf 20 = .ok (.getfield 73, 3) := by decide +kernel
theorem dX9_toldOf_23 : decode cX9_toldOf 23 = .ok (.goto 7, 3) := by decide +kernel
theorem dX9_toldOf_26 : decode cX9_toldOf 26 = .ok (.aload_n 0, 1) := by decide +kernel
theorem dX9_toldOf_27 : decode cX9_toldOf 27 = .ok (.getfield 47, 3) := by decide +kernel
theorem dX9_toldOf_30 : decode cX9_toldOf 30 = .ok (.ireturn, 1) := by decide +kernel
theorem dX9_told_0 : decode cX9_told 0 = .ok (.iload_n 1, 1) := by decide +kernel
theorem dX9_told_1 : decode cX9_told 1 = .ok (.iconst 0, 1) := by decide +kernel
theorem dX9_told_2 : decode cX9_told 2 = .ok (.iconst 4, 1) := by decide +kernel
theorem dX9_told_3 : decode cX9_told 3 = .ok (.invokestatic 55, 3) := by decide +kernel
theorem dX9_told_6 : decode cX9_told 6 = .ok (.ifCond .eq 11, 3) := by decide +kernel
theorem dX9_told_9 : decode cX9_told 9 = .ok (.aload_n 0, 1) := by decide +kernel
theorem dX9_told_10 : decode cX9_told 10 = .ok (.iload_n 1, 1) := by decide +kernel
theorem dX9_told_11 : decode cX9_told 11 = .ok (.invokevirtual 225, 3) := by decide +kernel
theorem dX9_told_14 : decode cX9_told 14 = .ok (.goto 10, 3) := by decide +kernel
theorem dX9_told_17 : decode cX9_told 17 = .ok (.aload_n 0, 1) := by decide +kernel
theorem dX9_told_18 : decode cX9_told 18 = .ok (.sipush (-10002), 3) := by decide +kernel
theorem dX9_told_21 : decode cX9_told 21 = .ok (.invokevirtual 51, 3) := by decide +kernel
theorem dX9_told_24 : decode cX9_told 24 = .ok (.ireturn, 1) := by decide +kernel
theorem dX9_mix_0 : decode cX9_mix 0 = .ok (.aload_n 0, 1) := by decide +kernel
theorem dX9_mix_1 : decode cX9_mix 1 = .ok (.ldc2_w 228, 3) := by decide +kernel
theorem dX9_mix_4 : decode cX9_mix 4 = .ok (.aload_n 0, 1) := by decide +kernel
theorem dX9_mix_5 : decode cX9_mix 5 = .ok (.getfield 230, 3) := by decide +kernel
theorem dX9_mix_8 : decode cX9_mix 8 = .ok (.lmul, 1) := by decide +kernel
theorem dX9_mix_9 : decode cX9_mix 9 = .ok (.iload_n 1, 1) := by decide +kernel
theorem dX9_mix_10 : decode cX9_mix 10 = .ok (.i2l, 1) := by decide +kernel
theorem dX9_mix_11 : decode cX9_mix 11 = .ok (.ladd, 1) := by decide +kernel
theorem dX9_mix_12 : decode cX9_mix 12 = .ok (.putfield 230, 3) := by decide +kernel
theorem dX9_mix_15 : decode cX9_mix 15 = .ok (.return_, 1) := by decide +kernel
theorem dX9_mixRow_0 : decode cX9_mixRow 0 = .ok (.iconst 0, 1) := by decide +kernel
theorem dX9_mixRow_1 : decode cX9_mixRow 1 = .ok (.istore_n 3, 1) := by decide +kernel
theorem dX9_mixRow_2 : decode cX9_mixRow 2 = .ok (.iload_n 3, 1) := by decide +kernel
theorem dX9_mixRow_3 : decode cX9_mixRow 3 = .ok (.aload_n 0, 1) := by decide +kernel
theorem dX9_mixRow_4 : decode cX9_mixRow 4 = .ok (.getfield 7, 3) := by decide +kernel
theorem dX9_mixRow_7 : decode cX9_mixRow 7 = .ok (.iload_n 1, 1) := by decide +kernel
theorem dX9_mixRow_8 : decode cX9_mixRow 8 = .ok (.iaload, 1) := by decide +kernel
theorem dX9_mixRow_9 : decode cX9_mixRow 9 = .ok (.if_icmp .ge 21, 3) := by decide +kernel
theorem dX9_mixRow_12 : decode cX9_mixRow 12 = .ok (.aload_n 0, 1) := by decide +kernel
theorem dX9_mixRow_13 : decode cX9_mixRow 13 = .ok (.aload_n 0, 1) := by decide +kernel
theorem dX9_mixRow_14 : decode cX9_mixRow 14 = .ok (.getfield 7, 3) := by decide +kernel
theorem dX9_mixRow_17 : decode cX9_mixRow 17 = .ok (.iload_n 2, 1) := by decide +kernel
theorem dX9_mixRow_18 : decode cX9_mixRow 18 = .ok (.iload_n 3, 1) := by decide +kernel
theorem dX9_mixRow_19 : decode cX9_mixRow 19 = .ok (.iadd, 1) := by decide +kernel
theorem dX9_mixRow_20 : decode cX9_mixRow 20 = .ok (.iaload, 1) := by decide +kernel
theorem dX9_mixRow_21 : decode cX9_mixRow 21 = .ok (.invokevirtual 234, 3) := by decide +kernel
theorem dX9_mixRow_24 : decode cX9_mixRow 24 = .ok (.iinc 3 1, 3) := by decide +kernel
theorem dX9_mixRow_27 : decode cX9_mixRow 27 = .ok (.goto (-25), 3) := by decide +kernel
theorem dX9_mixRow_30 : decode cX9_mixRow 30 = .ok (.return_, 1) := by decide +kernel
theorem dX9_digest_0 : decode cX9_digest 0 = .ok (.aload_n 0, 1) := by decide +kernel
theorem dX9_digest_1 : decode cX9_digest 1 = .ok (.ldc2_w 237, 3) := by decide +kernel
theorem dX9_digest_4 : decode cX9_digest 4 = .ok (.putfield 230, 3) := by decide +kernel
theorem dX9_digest_7 : decode cX9_digest 7 = .ok (.iconst 0, 1) := by decide +kernel
theorem dX9_digest_8 : decode cX9_digest 8 = .ok (.istore_n 1, 1) := by decide +kernel
theorem dX9_digest_9 : decode cX9_digest 9 = .ok (.iload_n 1, 1) := by decide +kernel
theorem dX9_digest_10 : decode cX9_digest 10 = .ok (.iconst 5, 1) := by decide +kernel
theorem dX9_digest_11 : decode cX9_digest 11 = .ok (.if_icmp .ge 18, 3) := by decide +kernel
theorem dX9_digest_14 : decode cX9_digest 14 = .ok (.aload_n 0, 1) := by decide +kernel
theorem dX9_digest_15 : decode cX9_digest 15 = .ok (.aload_n 0, 1) := by decide +kernel
theorem dX9_digest_16 : decode cX9_digest 16 = .ok (.iload_n 1, 1) := by decide +kernel
theorem dX9_digest_17 : decode cX9_digest 17 = .ok (.invokevirtual 225, 3) := by decide +kernel
theorem dX9_digest_20 : decode cX9_digest 20 = .ok (.invokevirtual 234, 3) := by decide +kernel
theorem dX9_digest_23 : decode cX9_digest 23 = .ok (.iinc 1 1, 3) := by decide +kernel
theorem dX9_digest_26 : decode cX9_digest 26 = .ok (.goto (-17), 3) := by decide +kernel
theorem dX9_digest_29 : decode cX9_digest 29 = .ok (.iconst 0, 1) := by decide +kernel
theorem dX9_digest_30 : decode cX9_digest 30 = .ok (.istore_n 1, 1) := by decide +kernel
theorem dX9_digest_31 : decode cX9_digest 31 = .ok (.iload_n 1, 1) := by decide +kernel
theorem dX9_digest_32 : decode cX9_digest 32 = .ok (.bipush 14, 2) := by decide +kernel
theorem dX9_digest_34 : decode cX9_digest 34 = .ok (.if_icmp .ge 18, 3) := by decide +kernel
theorem dX9_digest_37 : decode cX9_digest 37 = .ok (.aload_n 0, 1) := by decide +kernel
theorem dX9_digest_38 : decode cX9_digest 38 = .ok (.aload_n 0, 1) := by decide +kernel
theorem dX9_digest_39 : decode cX9_digest 39 = .ok (.iload_n 1, 1) := by decide +kernel
theorem dX9_digest_40 : decode cX9_digest 40 = .ok (.invokevirtual 218, 3) := by decide +kernel
theorem dX9_digest_43 : decode cX9_digest 43 = .ok (.invokevirtual 234, 3) := by decide +kernel
theorem dX9_digest_46 : decode cX9_digest 46 = .ok (.iinc 1 1, 3) := by decide +kernel
theorem dX9_digest_49 : decode cX9_digest 49 = .ok (.goto (-18), 3) := by decide +kernel
theorem dX9_digest_52 : decode cX9_digest 52 = .ok (.iconst 0, 1) := by decide +kernel
theorem dX9_digest_53 : decode cX9_digest 53 = .ok (.istore_n 1, 1) := by decide +kernel
theorem dX9_digest_54 : decode cX9_digest 54 = .ok (.iload_n 1, 1) := by decide +kernel
theorem dX9_digest_55 : decode cX9_digest 55 = .ok (.aload_n 0, 1) := by decide +kernel
theorem dX9_digest_56 : decode cX9_digest 56 = .ok (.getfield 7, 3) := by decide +kernel
theorem dX9_digest_59 : decode cX9_digest 59 = .ok (.iconst 0, 1) := by decide +kernel
theorem dX9_digest_60 : decode cX9_digest 60 = .ok (.iaload, 1) := by decide +kernel
theorem dX9_digest_61 : decode cX9_digest 61 = .ok (.if_icmp .ge 68, 3) := by decide +kernel
theorem dX9_digest_64 : decode cX9_digest 64 = .ok (.iconst 0, 1) := by decide +kernel
theorem dX9_digest_65 : decode cX9_digest 65 = .ok (.istore_n 2, 1) := by decide +kernel
theorem dX9_digest_66 : decode cX9_digest 66 = .ok (.iload_n 2, 1) := by decide +kernel
theorem dX9_digest_67 : decode cX9_digest 67 = .ok (.bipush 9, 2) := by decide +kernel
theorem dX9_digest_69 : decode cX9_digest 69 = .ok (.if_icmp .ge 19, 3) := by decide +kernel
theorem dX9_digest_72 : decode cX9_digest 72 = .ok (.aload_n 0, 1) := by decide +kernel
theorem dX9_digest_73 : decode cX9_digest 73 = .ok (.aload_n 0, 1) := by decide +kernel
theorem dX9_digest_74 : decode cX9_digest 74 = .ok (.iload_n 1, 1) := by decide +kernel
theorem dX9_digest_75 : decode cX9_digest 75 = .ok (.iload_n 2, 1) := by decide +kernel
theorem dX9_digest_76 : decode cX9_digest 76 = .ok (.invokevirtual 101, 3) := by decide +kernel
theorem dX9_digest_79 : decode cX9_digest 79 = .ok (.invokevirtual 234, 3) := by decide +kernel
theorem dX9_digest_82 : decode cX9_digest 82 = .ok (.iinc 2 1, 3) := by decide +kernel
theorem dX9_digest_85 : decode cX9_digest 85 = .ok (.goto (-19), 3) := by decide +kernel
theorem dX9_digest_88 : decode cX9_digest 88 = .ok (.iconst 0, 1) := by decide +kernel
theorem dX9_digest_89 : decode cX9_digest 89 = .ok (.istore_n 2, 1) := by decide +kernel
theorem dX9_digest_90 : decode cX9_digest 90 = .ok (.iload_n 2, 1) := by decide +kernel
theorem dX9_digest_91 : decode cX9_digest 91 = .ok (.iconst 3, 1) := by decide +kernel
theorem dX9_digest_92 : decode cX9_digest 92 = .ok (.if_icmp .ge 31, 3) := by decide +kernel
theorem dX9_digest_95 : decode cX9_digest 95 = .ok (.aload_n 0, 1) := by decide +kernel
theorem dX9_digest_96 : decode cX9_digest 96 = .ok (.iload_n 1, 1) := by decide +kernel
theorem dX9_digest_97 : decode cX9_digest 97 = .ok (.iconst 1, 1) := by decide +kernel
theorem dX9_digest_98 : decode cX9_digest 98 = .ok (.invokevirtual 93, 3) := by decide +kernel
theorem dX9_digest_101 : decode cX9_digest 101 = .ok (.ifCond .eq 22, 3) := by decide +kernel
theorem dX9_digest_104 : decode cX9_digest 104 = .ok (.aload_n 0, 1) := by decide +kernel
theorem dX9_digest_105 : decode cX9_digest 105 = .ok (.aload_n 0, 1) := by decide +kernel
theorem dX9_digest_106 : decode cX9_digest 106 = .ok (.iload_n 1, 1) := by decide +kernel
theorem dX9_digest_107 : decode cX9_digest 107 = .ok (.bipush 6, 2) := by decide +kernel
theorem dX9_digest_109 : decode cX9_digest 109 = .ok (.iload_n 2, 1) := by decide +kernel
theorem dX9_digest_110 : decode cX9_digest 110 = .ok (.iadd, 1) := by decide +kernel
theorem dX9_digest_111 : decode cX9_digest 111 = .ok (.invokevirtual 69, 3) := by decide +kernel
theorem dX9_digest_114 : decode cX9_digest 114 = .ok (.invokevirtual 234, 3) := by decide +kernel
theorem dX9_digest_117 : decode cX9_digest 117 = .ok (.iinc 2 1, 3) := by decide +kernel
theorem dX9_digest_120 : decode cX9_digest 120 = .ok (.goto (-30), 3) := by decide +kernel
theorem dX9_digest_123 : decode cX9_digest 123 = .ok (.iinc 1 1, 3) := by decide +kernel
theorem dX9_digest_126 : decode cX9_digest 126 = .ok (.goto (-72), 3) := by decide +kernel
theorem dX9_digest_129 : decode cX9_digest 129 = .ok (.aload_n 0, 1) := by decide +kernel
theorem dX9_digest_130 : decode cX9_digest 130 = .ok (.bipush 11, 2) := by decide +kernel
theorem dX9_digest_132 : decode cX9_digest 132 = .ok (.bipush 17, 2) := by decide +kernel
theorem dX9_digest_134 : decode cX9_digest 134 = .ok (.invokevirtual 239, 3) := by decide +kernel
theorem dX9_digest_137 : decode cX9_digest 137 = .ok (.aload_n 0, 1) := by decide +kernel
theorem dX9_digest_138 : decode cX9_digest 138 = .ok (.bipush 12, 2) := by decide +kernel
theorem dX9_digest_140 : decode cX9_digest 140 = .ok (.bipush 23, 2) := by decide +kernel
theorem dX9_digest_142 : decode cX9_digest 142 = .ok (.invokevirtual 239, 3) := by decide +kernel
theorem dX9_digest_145 : decode cX9_digest 145 = .ok (.aload_n 0, 1) := by decide +kernel
theorem dX9_digest_146 : decode cX9_digest 146 = .ok (.bipush 9, 2) := by decide +kernel
theorem dX9_digest_148 : decode cX9_digest 148 = .ok (.bipush 13, 2) := by decide +kernel
theorem dX9_digest_150 : decode cX9_digest 150 = .ok (.invokevirtual 239, 3) := by decide +kernel
theorem dX9_digest_153 : decode cX9_digest 153 = .ok (.aload_n 0, 1) := by decide +kernel
theorem dX9_digest_154 : decode cX9_digest 154 = .ok (.getfield 230, 3) := by decide +kernel
theorem dX9_digest_157 : decode cX9_digest 157 = .ok (.lreturn, 1) := by decide +kernel
theorem dL_law_0 : decode cL_law 0 = .ok (.new 7, 3) := by decide +kernel
theorem dL_law_3 : decode cL_law 3 = .ok (.dup, 1) := by decide +kernel
theorem dL_law_4 : decode cL_law 4 = .ok (.invokespecial 9, 3) := by decide +kernel
theorem dL_law_7 : decode cL_law 7 = .ok (.astore_n 1, 1) := by decide +kernel
theorem dL_law_8 : decode cL_law 8 = .ok (.new 10, 3) := by decide +kernel
theorem dL_law_11 : decode cL_law 11 = .ok (.dup, 1) := by decide +kernel
theorem dL_law_12 : decode cL_law 12 = .ok (.invokespecial 12, 3) := by decide +kernel
theorem dL_law_15 : decode cL_law 15 = .ok (.astore_n 2, 1) := by decide +kernel
theorem dL_law_16 : decode cL_law 16 = .ok (.iconst 0, 1) := by decide +kernel
theorem dL_law_17 : decode cL_law 17 = .ok (.istore_n 3, 1) := by decide +kernel
theorem dL_law_18 : decode cL_law 18 = .ok (.iload_n 3, 1) := by decide +kernel
theorem dL_law_19 : decode cL_law 19 = .ok (.aload_n 0, 1) := by decide +kernel
theorem dL_law_20 : decode cL_law 20 = .ok (.arraylength, 1) := by decide +kernel
theorem dL_law_21 : decode cL_law 21 = .ok (.iconst 5, 1) := by decide +kernel
theorem dL_law_22 : decode cL_law 22 = .ok (.isub, 1) := by decide +kernel
theorem dL_law_23 : decode cL_law 23 = .ok (.if_icmp .gt 609, 3) := by decide +kernel
theorem dL_law_26 : decode cL_law 26 = .ok (.aload_n 0, 1) := by decide +kernel
theorem dL_law_27 : decode cL_law 27 = .ok (.iload_n 3, 1) := by decide +kernel
theorem dL_law_28 : decode cL_law 28 = .ok (.iaload, 1) := by decide +kernel
theorem dL_law_29 : decode cL_law 29 = .ok (.bipush 31, 2) := by decide +kernel
theorem dL_law_31 : decode cL_law 31 = .ok (.iand, 1) := by decide +kernel
theorem dL_law_32 : decode cL_law 32 = .ok (.tableswitch 594 0 20 #[100, 153, 196, 229, 262, 285, 298, 311, 324, 337, 350, 383, 416, 429, 452, 475, 498, 521, 544, 557, 580], 100) := by decide +kernel
theorem dL_law_132 : decode cL_law 132 = .ok (.aload_n 1, 1) := by decide +kernel
theorem dL_law_133 : decode cL_law 133 = .ok (.aload_n 0, 1) := by decide +kernel
theorem dL_law_134 : decode cL_law 134 = .ok (.iload_n 3, 1) := by decide +kernel
theorem dL_law_135 : decode cL_law 135 = .ok (.iconst 1, 1) := by decide +kernel
theorem dL_law_136 : decode cL_law 136 = .ok (.iadd, 1) := by decide +kernel
theorem dL_law_137 : decode cL_law 137 = .ok (.iaload, 1) := by decide +kernel
theorem dL_law_138 : decode cL_law 138 = .ok (.aload_n 0, 1) := by decide +kernel
theorem dL_law_139 : decode cL_law 139 = .ok (.iload_n 3, 1) := by decide +kernel
theorem dL_law_140 : decode cL_law 140 = .ok (.iconst 2, 1) := by decide +kernel
theorem dL_law_141 : decode cL_law 141 = .ok (.iadd, 1) := by decide +kernel
theorem dL_law_142 : decode cL_law 142 = .ok (.iaload, 1) := by decide +kernel
theorem dL_law_143 : decode cL_law 143 = .ok (.aload_n 0, 1) := by decide +kernel
theorem dL_law_144 : decode cL_law 144 = .ok (.iload_n 3, 1) := by decide +kernel
theorem dL_law_145 : decode cL_law 145 = .ok (.iconst 3, 1) := by decide +kernel
theorem dL_law_146 : decode cL_law 146 = .ok (.iadd, 1) := by decide +kernel
theorem dL_law_147 : decode cL_law 147 = .ok (.iaload, 1) := by decide +kernel
theorem dL_law_148 : decode cL_law 148 = .ok (.aload_n 0, 1) := by decide +kernel
theorem dL_law_149 : decode cL_law 149 = .ok (.iload_n 3, 1) := by decide +kernel
theorem dL_law_150 : decode cL_law 150 = .ok (.iconst 4, 1) := by decide +kernel
theorem dL_law_151 : decode cL_law 151 = .ok (.iadd, 1) := by decide +kernel
theorem dL_law_152 : decode cL_law 152 = .ok (.iaload, 1) := by decide +kernel
theorem dL_law_153 : decode cL_law 153 = .ok (.invokevirtual 13, 3) := by decide +kernel
theorem dL_law_156 : decode cL_law 156 = .ok (.aload_n 2, 1) := by decide +kernel
theorem dL_law_157 : decode cL_law 157 = .ok (.aload_n 0, 1) := by decide +kernel
theorem dL_law_158 : decode cL_law 158 = .ok (.iload_n 3, 1) := by decide +kernel
theorem dL_law_159 : decode cL_law 159 = .ok (.iconst 1, 1) := by decide +kernel
theorem dL_law_160 : decode cL_law 160 = .ok (.iadd, 1) := by decide +kernel
theorem dL_law_161 : decode cL_law 161 = .ok (.iaload, 1) := by decide +kernel
theorem dL_law_162 : decode cL_law 162 = .ok (.aload_n 0, 1) := by decide +kernel
theorem dL_law_163 : decode cL_law 163 = .ok (.iload_n 3, 1) := by decide +kernel
theorem dL_law_164 : decode cL_law 164 = .ok (.iconst 2, 1) := by decide +kernel
theorem dL_law_165 : decode cL_law 165 = .ok (.iadd, 1) := by decide +kernel
theorem dL_law_166 : decode cL_law 166 = .ok (.iaload, 1) := by decide +kernel
theorem dL_law_167 : decode cL_law 167 = .ok (.aload_n 0, 1) := by decide +kernel
theorem dL_law_168 : decode cL_law 168 = .ok (.iload_n 3, 1) := by decide +kernel
theorem dL_law_169 : decode cL_law 169 = .ok (.iconst 3, 1) := by decide +kernel
theorem dL_law_170 : decode cL_law 170 = .ok (.iadd, 1) := by decide +kernel
theorem dL_law_171 : decode cL_law 171 = .ok (.iaload, 1) := by decide +kernel
theorem dL_law_172 : decode cL_law 172 = .ok (.aload_n 0, 1) := by decide +kernel
theorem dL_law_173 : decode cL_law 173 = .ok (.iload_n 3, 1) := by decide +kernel
theorem dL_law_174 : decode cL_law 174 = .ok (.iconst 4, 1) := by decide +kernel
theorem dL_law_175 : decode cL_law 175 = .ok (.iadd, 1) := by decide +kernel
theorem dL_law_176 : decode cL_law 176 = .ok (.iaload, 1) := by decide +kernel
theorem dL_law_177 : decode cL_law 177 = .ok (.invokevirtual 17, 3) := by decide +kernel
theorem dL_law_180 : decode cL_law 180 = .ok (.if_icmp .eq 446, 3) := by decide +kernel
theorem dL_law_183 : decode cL_law 183 = .ok (.iconst 0, 1) := by decide +kernel
theorem dL_law_184 : decode cL_law 184 = .ok (.ireturn, 1) := by decide +kernel
theorem dL_law_185 : decode cL_law 185 = .ok (.aload_n 1, 1) := by decide +kernel
theorem dL_law_186 : decode cL_law 186 = .ok (.aload_n 0, 1) := by decide +kernel
theorem dL_law_187 : decode cL_law 187 = .ok (.iload_n 3, 1) := by decide +kernel
theorem dL_law_188 : decode cL_law 188 = .ok (.iconst 1, 1) := by decide +kernel
theorem dL_law_189 : decode cL_law 189 = .ok (.iadd, 1) := by decide +kernel
theorem dL_law_190 : decode cL_law 190 = .ok (.iaload, 1) := by decide +kernel
theorem dL_law_191 : decode cL_law 191 = .ok (.aload_n 0, 1) := by decide +kernel
theorem dL_law_192 : decode cL_law 192 = .ok (.iload_n 3, 1) := by decide +kernel
theorem dL_law_193 : decode cL_law 193 = .ok (.iconst 2, 1) := by decide +kernel
theorem dL_law_194 : decode cL_law 194 = .ok (.iadd, 1) := by decide +kernel
theorem dL_law_195 : decode cL_law 195 = .ok (.iaload, 1) := by decide +kernel
theorem dL_law_196 : decode cL_law 196 = .ok (.aload_n 0, 1) := by decide +kernel
theorem dL_law_197 : decode cL_law 197 = .ok (.iload_n 3, 1) := by decide +kernel
theorem dL_law_198 : decode cL_law 198 = .ok (.iconst 3, 1) := by decide +kernel
theorem dL_law_199 : decode cL_law 199 = .ok (.iadd, 1) := by decide +kernel
theorem dL_law_200 : decode cL_law 200 = .ok (.iaload, 1) := by decide +kernel
theorem dL_law_201 : decode cL_law 201 = .ok (.invokevirtual 18, 3) := by decide +kernel
theorem dL_law_204 : decode cL_law 204 = .ok (.aload_n 2, 1) := by decide +kernel
theorem dL_law_205 : decode cL_law 205 = .ok (.aload_n 0, 1) := by decide +kernel
theorem dL_law_206 : decode cL_law 206 = .ok (.iload_n 3, 1) := by decide +kernel
theorem dL_law_207 : decode cL_law 207 = .ok (.iconst 1, 1) := by decide +kernel
theorem dL_law_208 : decode cL_law 208 = .ok (.iadd, 1) := by decide +kernel
theorem dL_law_209 : decode cL_law 209 = .ok (.iaload, 1) := by decide +kernel
theorem dL_law_210 : decode cL_law 210 = .ok (.aload_n 0, 1) := by decide +kernel
theorem dL_law_211 : decode cL_law 211 = .ok (.iload_n 3, 1) := by decide +kernel
theorem dL_law_212 : decode cL_law 212 = .ok (.iconst 2, 1) := by decide +kernel
theorem dL_law_213 : decode cL_law 213 = .ok (.iadd, 1) := by decide +kernel
theorem dL_law_214 : decode cL_law 214 = .ok (.iaload, 1) := by decide +kernel
theorem dL_law_215 : decode cL_law 215 = .ok (.aload_n 0, 1) := by decide +kernel
theorem dL_law_216 : decode cL_law 216 = .ok (.iload_n 3, 1) := by decide +kernel
theorem dL_law_217 : decode cL_law 217 = .ok (.iconst 3, 1) := by decide +kernel
theorem dL_law_218 : decode cL_law 218 = .ok (.iadd, 1) := by decide +kernel
theorem dL_law_219 : decode cL_law 219 = .ok (.iaload, 1) := by decide +kernel
theorem dL_law_220 : decode cL_law 220 = .ok (.invokevirtual 22, 3) := by decide +kernel
theorem dL_law_223 : decode cL_law 223 = .ok (.if_icmp .eq 403, 3) := by decide +kernel
theorem dL_law_226 : decode cL_law 226 = .ok (.iconst 0, 1) := by decide +kernel
theorem dL_law_227 : decode cL_law 227 = .ok (.ireturn, 1) := by decide +kernel
theorem dL_law_228 : decode cL_law 228 = .ok (.aload_n 1, 1) := by decide +kernel
theorem dL_law_229 : decode cL_law 229 = .ok (.aload_n 0, 1) := by decide +kernel
theorem dL_law_230 : decode cL_law 230 = .ok (.iload_n 3, 1) := by decide +kernel
theorem dL_law_231 : decode cL_law 231 = .ok (.iconst 1, 1) := by decide +kernel
theorem dL_law_232 : decode cL_law 232 = .ok (.iadd, 1) := by decide +kernel
theorem dL_law_233 : decode cL_law 233 = .ok (.iaload, 1) := by decide +kernel
theorem dL_law_234 : decode cL_law 234 = .ok (.aload_n 0, 1) := by decide +kernel
theorem dL_law_235 : decode cL_law 235 = .ok (.iload_n 3, 1) := by decide +kernel
theorem dL_law_236 : decode cL_law 236 = .ok (.iconst 2, 1) := by decide +kernel
theorem dL_law_237 : decode cL_law 237 = .ok (.iadd, 1) := by decide +kernel
theorem dL_law_238 : decode cL_law 238 = .ok (.iaload, 1) := by decide +kernel
theorem dL_law_239 : decode cL_law 239 = .ok (.invokevirtual 23, 3) := by decide +kernel
theorem dL_law_242 : decode cL_law 242 = .ok (.aload_n 2, 1) := by decide +kernel
theorem dL_law_243 : decode cL_law 243 = .ok (.aload_n 0, 1) := by decide +kernel
theorem dL_law_244 : decode cL_law 244 = .ok (.iload_n 3, 1) := by decide +kernel
theorem dL_law_245 : decode cL_law 245 = .ok (.iconst 1, 1) := by decide +kernel
theorem dL_law_246 : decode cL_law 246 = .ok (.iadd, 1) := by decide +kernel
theorem dL_law_247 : decode cL_law 247 = .ok (.iaload, 1) := by decide +kernel
theorem dL_law_248 : decode cL_law 248 = .ok (.aload_n 0, 1) := by decide +kernel
theorem dL_law_249 : decode cL_law 249 = .ok (.iload_n 3, 1) := by decide +kernel
theorem dL_law_250 : decode cL_law 250 = .ok (.iconst 2, 1) := by decide +kernel
theorem dL_law_251 : decode cL_law 251 = .ok (.iadd, 1) := by decide +kernel
theorem dL_law_252 : decode cL_law 252 = .ok (.iaload, 1) := by decide +kernel
theorem dL_law_253 : decode cL_law 253 = .ok (.invokevirtual 27, 3) := by decide +kernel
theorem dL_law_256 : decode cL_law 256 = .ok (.if_icmp .eq 370, 3) := by decide +kernel
theorem dL_law_259 : decode cL_law 259 = .ok (.iconst 0, 1) := by decide +kernel
theorem dL_law_260 : decode cL_law 260 = .ok (.ireturn, 1) := by decide +kernel
theorem dL_law_261 : decode cL_law 261 = .ok (.aload_n 1, 1) := by decide +kernel
theorem dL_law_262 : decode cL_law 262 = .ok (.aload_n 0, 1) := by decide +kernel
theorem dL_law_263 : decode cL_law 263 = .ok (.iload_n 3, 1) := by decide +kernel
theorem dL_law_264 : decode cL_law 264 = .ok (.iconst 1, 1) := by decide +kernel
theorem dL_law_265 : decode cL_law 265 = .ok (.iadd, 1) := by decide +kernel
theorem dL_law_266 : decode cL_law 266 = .ok (.iaload, 1) := by decide +kernel
theorem dL_law_267 : decode cL_law 267 = .ok (.aload_n 0, 1) := by decide +kernel
theorem dL_law_268 : decode cL_law 268 = .ok (.iload_n 3, 1) := by decide +kernel
theorem dL_law_269 : decode cL_law 269 = .ok (.iconst 2, 1) := by decide +kernel
theorem dL_law_270 : decode cL_law 270 = .ok (.iadd, 1) := by decide +kernel
theorem dL_law_271 : decode cL_law 271 = .ok (.iaload, 1) := by decide +kernel
theorem dL_law_272 : decode cL_law 272 = .ok (.invokevirtual 28, 3) := by decide +kernel
theorem dL_law_275 : decode cL_law 275 = .ok (.aload_n 2, 1) := by decide +kernel
theorem dL_law_276 : decode cL_law 276 = .ok (.aload_n 0, 1) := by decide +kernel
theorem dL_law_277 : decode cL_law 277 = .ok (.iload_n 3, 1) := by decide +kernel
theorem dL_law_278 : decode cL_law 278 = .ok (.iconst 1, 1) := by decide +kernel
theorem dL_law_279 : decode cL_law 279 = .ok (.iadd, 1) := by decide +kernel
theorem dL_law_280 : decode cL_law 280 = .ok (.iaload, 1) := by decide +kernel
theorem dL_law_281 : decode cL_law 281 = .ok (.aload_n 0, 1) := by decide +kernel
theorem dL_law_282 : decode cL_law 282 = .ok (.iload_n 3, 1) := by decide +kernel
theorem dL_law_283 : decode cL_law 283 = .ok (.iconst 2, 1) := by decide +kernel
theorem dL_law_284 : decode cL_law 284 = .ok (.iadd, 1) := by decide +kernel
theorem dL_law_285 : decode cL_law 285 = .ok (.iaload, 1) := by decide +kernel
theorem dL_law_286 : decode cL_law 286 = .ok (.invokevirtual 31, 3) := by decide +kernel
theorem dL_law_289 : decode cL_law 289 = .ok (.if_icmp .eq 337, 3) := by decide +kernel
theorem dL_law_292 : decode cL_law 292 = .ok (.iconst 0, 1) := by decide +kernel
theorem dL_law_293 : decode cL_law 293 = .ok (.ireturn, 1) := by decide +kernel
theorem dL_law_294 : decode cL_law 294 = .ok (.aload_n 1, 1) := by decide +kernel
theorem dL_law_295 : decode cL_law 295 = .ok (.aload_n 0, 1) := by decide +kernel
theorem dL_law_296 : decode cL_law 296 = .ok (.iload_n 3, 1) := by decide +kernel
theorem dL_law_297 : decode cL_law 297 = .ok (.iconst 1, 1) := by decide +kernel
theorem dL_law_298 : decode cL_law 298 = .ok (.iadd, 1) := by decide +kernel
theorem dL_law_299 : decode cL_law 299 = .ok (.iaload, 1) := by decide +kernel
theorem dL_law_300 : decode cL_law 300 = .ok (.invokevirtual 32, 3) := by decide +kernel
theorem dL_law_303 : decode cL_law 303 = .ok (.aload_n 2, 1) := by decide +kernel
theorem dL_law_304 : decode cL_law 304 = .ok (.aload_n 0, 1) := by decide +kernel
theorem dL_law_305 : decode cL_law 305 = .ok (.iload_n 3, 1) := by decide +kernel
theorem dL_law_306 : decode cL_law 306 = .ok (.iconst 1, 1) := by decide +kernel
theorem dL_law_307 : decode cL_law 307 = .ok (.iadd, 1) := by decide +kernel
theorem dL_law_308 : decode cL_law 308 = .ok (.iaload, 1) := by decide +kernel
theorem dL_law_309 : decode cL_law 309 = .ok (.invokevirtual 36, 3) := by decide +kernel
theorem dL_law_312 : decode cL_law 312 = .ok (.if_icmp .eq 314, 3) := by decide +kernel
theorem dL_law_315 : decode cL_law 315 = .ok (.iconst 0, 1) := by decide +kernel
theorem dL_law_316 : decode cL_law 316 = .ok (.ireturn, 1) := by decide +kernel
theorem dL_law_317 : decode cL_law 317 = .ok (.aload_n 1, 1) := by decide +kernel
theorem dL_law_318 : decode cL_law 318 = .ok (.invokevirtual 37, 3) := by decide +kernel
theorem dL_law_321 : decode cL_law 321 = .ok (.aload_n 2, 1) := by decide +kernel
theorem dL_law_322 : decode cL_law 322 = .ok (.invokevirtual 41, 3) := by decide +kernel
theorem dL_law_325 : decode cL_law 325 = .ok (.if_icmp .eq 301, 3) := by decide +kernel
theorem dL_law_328 : decode cL_law 328 = .ok (.iconst 0, 1) := by decide +kernel
theorem dL_law_329 : decode cL_law 329 = .ok (.ireturn, 1) := by decide +kernel
theorem dL_law_330 : decode cL_law 330 = .ok (.aload_n 1, 1) := by decide +kernel
theorem dL_law_331 : decode cL_law 331 = .ok (.invokevirtual 42, 3) := by decide +kernel
theorem dL_law_334 : decode cL_law 334 = .ok (.aload_n 2, 1) := by decide +kernel
theorem dL_law_335 : decode cL_law 335 = .ok (.invokevirtual 45, 3) := by decide +kernel
theorem dL_law_338 : decode cL_law 338 = .ok (.if_icmp .eq 288, 3) := by decide +kernel
theorem dL_law_341 : decode cL_law 341 = .ok (.iconst 0, 1) := by decide +kernel
theorem dL_law_342 : decode cL_law 342 = .ok (.ireturn, 1) := by decide +kernel
theorem dL_law_343 : decode cL_law 343 = .ok (.aload_n 1, 1) := by decide +kernel
theorem dL_law_344 : decode cL_law 344 = .ok (.invokevirtual 46, 3) := by decide +kernel
theorem dL_law_347 : decode cL_law 347 = .ok (.aload_n 2, 1) := by decide +kernel
theorem dL_law_348 : decode cL_law 348 = .ok (.invokevirtual 49, 3) := by decide +kernel
theorem dL_law_351 : decode cL_law 351 = .ok (.if_icmp .eq 275, 3) := by decide +kernel
theorem dL_law_354 : decode cL_law 354 = .ok (.iconst 0, 1) := by decide +kernel
theorem dL_law_355 : decode cL_law 355 = .ok (.ireturn, 1) := by decide +kernel
theorem dL_law_356 : decode cL_law 356 = .ok (.aload_n 1, 1) := by decide +kernel
theorem dL_law_357 : decode cL_law 357 = .ok (.invokevirtual 50, 3) := by decide +kernel
theorem dL_law_360 : decode cL_law 360 = .ok (.aload_n 2, 1) := by decide +kernel
theorem dL_law_361 : decode cL_law 361 = .ok (.invokevirtual 53, 3) := by decide +kernel
theorem dL_law_364 : decode cL_law 364 = .ok (.if_icmp .eq 262, 3) := by decide +kernel
theorem dL_law_367 : decode cL_law 367 = .ok (.iconst 0, 1) := by decide +kernel
theorem dL_law_368 : decode cL_law 368 = .ok (.ireturn, 1) := by decide +kernel
theorem dL_law_369 : decode cL_law 369 = .ok (.aload_n 1, 1) := by decide +kernel
theorem dL_law_370 : decode cL_law 370 = .ok (.invokevirtual 54, 3) := by decide +kernel
theorem dL_law_373 : decode cL_law 373 = .ok (.aload_n 2, 1) := by decide +kernel
theorem dL_law_374 : decode cL_law 374 = .ok (.invokevirtual 57, 3) := by decide +kernel
theorem dL_law_377 : decode cL_law 377 = .ok (.if_icmp .eq 249, 3) := by decide +kernel
theorem dL_law_380 : decode cL_law 380 = .ok (.iconst 0, 1) := by decide +kernel
theorem dL_law_381 : decode cL_law 381 = .ok (.ireturn, 1) := by decide +kernel
theorem dL_law_382 : decode cL_law 382 = .ok (.aload_n 1, 1) := by decide +kernel
theorem dL_law_383 : decode cL_law 383 = .ok (.aload_n 0, 1) := by decide +kernel
theorem dL_law_384 : decode cL_law 384 = .ok (.iload_n 3, 1) := by decide +kernel
theorem dL_law_385 : decode cL_law 385 = .ok (.iconst 1, 1) := by decide +kernel
theorem dL_law_386 : decode cL_law 386 = .ok (.iadd, 1) := by decide +kernel
theorem dL_law_387 : decode cL_law 387 = .ok (.iaload, 1) := by decide +kernel
theorem dL_law_388 : decode cL_law 388 = .ok (.aload_n 0, 1) := by decide +kernel
theorem dL_law_389 : decode cL_law 389 = .ok (.iload_n 3, 1) := by decide +kernel
theorem dL_law_390 : decode cL_law 390 = .ok (.iconst 2, 1) := by decide +kernel
theorem dL_law_391 : decode cL_law 391 = .ok (.iadd, 1) := by decide +kernel
theorem dL_law_392 : decode cL_law 392 = .ok (.iaload, 1) := by decide +kernel
theorem dL_law_393 : decode cL_law 393 = .ok (.invokevirtual 58, 3) := by decide +kernel
theorem dL_law_396 : decode cL_law 396 = .ok (.aload_n 2, 1) := by decide +kernel
theorem dL_law_397 : decode cL_law 397 = .ok (.aload_n 0, 1) := by decide +kernel
theorem dL_law_398 : decode cL_law 398 = .ok (.iload_n 3, 1) := by decide +kernel
theorem dL_law_399 : decode cL_law 399 = .ok (.iconst 1, 1) := by decide +kernel
theorem dL_law_400 : decode cL_law 400 = .ok (.iadd, 1) := by decide +kernel
theorem dL_law_401 : decode cL_law 401 = .ok (.iaload, 1) := by decide +kernel
theorem dL_law_402 : decode cL_law 402 = .ok (.aload_n 0, 1) := by decide +kernel
theorem dL_law_403 : decode cL_law 403 = .ok (.iload_n 3, 1) := by decide +kernel
theorem dL_law_404 : decode cL_law 404 = .ok (.iconst 2, 1) := by decide +kernel
theorem dL_law_405 : decode cL_law 405 = .ok (.iadd, 1) := by decide +kernel
theorem dL_law_406 : decode cL_law 406 = .ok (.iaload, 1) := by decide +kernel
theorem dL_law_407 : decode cL_law 407 = .ok (.invokevirtual 61, 3) := by decide +kernel
theorem dL_law_410 : decode cL_law 410 = .ok (.if_icmp .eq 216, 3) := by decide +kernel
theorem dL_law_413 : decode cL_law 413 = .ok (.iconst 0, 1) := by decide +kernel
theorem dL_law_414 : decode cL_law 414 = .ok (.ireturn, 1) := by decide +kernel
theorem dL_law_415 : decode cL_law 415 = .ok (.aload_n 1, 1) := by decide +kernel
theorem dL_law_416 : decode cL_law 416 = .ok (.aload_n 0, 1) := by decide +kernel
theorem dL_law_417 : decode cL_law 417 = .ok (.iload_n 3, 1) := by decide +kernel
theorem dL_law_418 : decode cL_law 418 = .ok (.iconst 1, 1) := by decide +kernel
theorem dL_law_419 : decode cL_law 419 = .ok (.iadd, 1) := by decide +kernel
theorem dL_law_420 : decode cL_law 420 = .ok (.iaload, 1) := by decide +kernel
theorem dL_law_421 : decode cL_law 421 = .ok (.aload_n 0, 1) := by decide +kernel
theorem dL_law_422 : decode cL_law 422 = .ok (.iload_n 3, 1) := by decide +kernel
theorem dL_law_423 : decode cL_law 423 = .ok (.iconst 2, 1) := by decide +kernel
theorem dL_law_424 : decode cL_law 424 = .ok (.iadd, 1) := by decide +kernel
theorem dL_law_425 : decode cL_law 425 = .ok (.iaload, 1) := by decide +kernel
theorem dL_law_426 : decode cL_law 426 = .ok (.invokevirtual 62, 3) := by decide +kernel
theorem dL_law_429 : decode cL_law 429 = .ok (.aload_n 2, 1) := by decide +kernel
theorem dL_law_430 : decode cL_law 430 = .ok (.aload_n 0, 1) := by decide +kernel
theorem dL_law_431 : decode cL_law 431 = .ok (.iload_n 3, 1) := by decide +kernel
theorem dL_law_432 : decode cL_law 432 = .ok (.iconst 1, 1) := by decide +kernel
theorem dL_law_433 : decode cL_law 433 = .ok (.iadd, 1) := by decide +kernel
theorem dL_law_434 : decode cL_law 434 = .ok (.iaload, 1) := by decide +kernel
theorem dL_law_435 : decode cL_law 435 = .ok (.aload_n 0, 1) := by decide +kernel
theorem dL_law_436 : decode cL_law 436 = .ok (.iload_n 3, 1) := by decide +kernel
theorem dL_law_437 : decode cL_law 437 = .ok (.iconst 2, 1) := by decide +kernel
theorem dL_law_438 : decode cL_law 438 = .ok (.iadd, 1) := by decide +kernel
theorem dL_law_439 : decode cL_law 439 = .ok (.iaload, 1) := by decide +kernel
theorem dL_law_440 : decode cL_law 440 = .ok (.invokevirtual 65, 3) := by decide +kernel
theorem dL_law_443 : decode cL_law 443 = .ok (.if_icmp .eq 183, 3) := by decide +kernel
theorem dL_law_446 : decode cL_law 446 = .ok (.iconst 0, 1) := by decide +kernel
theorem dL_law_447 : decode cL_law 447 = .ok (.ireturn, 1) := by decide +kernel
theorem dL_law_448 : decode cL_law 448 = .ok (.aload_n 1, 1) := by decide +kernel
theorem dL_law_449 : decode cL_law 449 = .ok (.invokevirtual 66, 3) := by decide +kernel
theorem dL_law_452 : decode cL_law 452 = .ok (.aload_n 2, 1) := by decide +kernel
theorem dL_law_453 : decode cL_law 453 = .ok (.invokevirtual 69, 3) := by decide +kernel
theorem dL_law_456 : decode cL_law 456 = .ok (.if_icmp .eq 170, 3) := by decide +kernel
theorem dL_law_459 : decode cL_law 459 = .ok (.iconst 0, 1) := by decide +kernel
theorem dL_law_460 : decode cL_law 460 = .ok (.ireturn, 1) := by decide +kernel
theorem dL_law_461 : decode cL_law 461 = .ok (.aload_n 1, 1) := by decide +kernel
theorem dL_law_462 : decode cL_law 462 = .ok (.aload_n 0, 1) := by decide +kernel
theorem dL_law_463 : decode cL_law 463 = .ok (.iload_n 3, 1) := by decide +kernel
theorem dL_law_464 : decode cL_law 464 = .ok (.iconst 1, 1) := by decide +kernel
theorem dL_law_465 : decode cL_law 465 = .ok (.iadd, 1) := by decide +kernel
theorem dL_law_466 : decode cL_law 466 = .ok (.iaload, 1) := by decide +kernel
theorem dL_law_467 : decode cL_law 467 = .ok (.invokevirtual 70, 3) := by decide +kernel
theorem dL_law_470 : decode cL_law 470 = .ok (.aload_n 2, 1) := by decide +kernel
theorem dL_law_471 : decode cL_law 471 = .ok (.aload_n 0, 1) := by decide +kernel
theorem dL_law_472 : decode cL_law 472 = .ok (.iload_n 3, 1) := by decide +kernel
theorem dL_law_473 : decode cL_law 473 = .ok (.iconst 1, 1) := by decide +kernel
theorem dL_law_474 : decode cL_law 474 = .ok (.iadd, 1) := by decide +kernel
theorem dL_law_475 : decode cL_law 475 = .ok (.iaload, 1) := by decide +kernel
theorem dL_law_476 : decode cL_law 476 = .ok (.invokevirtual 73, 3) := by decide +kernel
theorem dL_law_479 : decode cL_law 479 = .ok (.if_icmp .eq 147, 3) := by decide +kernel
theorem dL_law_482 : decode cL_law 482 = .ok (.iconst 0, 1) := by decide +kernel
theorem dL_law_483 : decode cL_law 483 = .ok (.ireturn, 1) := by decide +kernel
theorem dL_law_484 : decode cL_law 484 = .ok (.aload_n 1, 1) := by decide +kernel
theorem dL_law_485 : decode cL_law 485 = .ok (.aload_n 0, 1) := by decide +kernel
theorem dL_law_486 : decode cL_law 486 = .ok (.iload_n 3, 1) := by decide +kernel
theorem dL_law_487 : decode cL_law 487 = .ok (.iconst 1, 1) := by decide +kernel
theorem dL_law_488 : decode cL_law 488 = .ok (.iadd, 1) := by decide +kernel
theorem dL_law_489 : decode cL_law 489 = .ok (.iaload, 1) := by decide +kernel
theorem dL_law_490 : decode cL_law 490 = .ok (.invokevirtual 74, 3) := by decide +kernel
theorem dL_law_493 : decode cL_law 493 = .ok (.aload_n 2, 1) := by decide +kernel
theorem dL_law_494 : decode cL_law 494 = .ok (.aload_n 0, 1) := by decide +kernel
theorem dL_law_495 : decode cL_law 495 = .ok (.iload_n 3, 1) := by decide +kernel
theorem dL_law_496 : decode cL_law 496 = .ok (.iconst 1, 1) := by decide +kernel
theorem dL_law_497 : decode cL_law 497 = .ok (.iadd, 1) := by decide +kernel
theorem dL_law_498 : decode cL_law 498 = .ok (.iaload, 1) := by decide +kernel
theorem dL_law_499 : decode cL_law 499 = .ok (.invokevirtual 77, 3) := by decide +kernel
theorem dL_law_502 : decode cL_law 502 = .ok (.if_icmp .eq 124, 3) := by decide +kernel
theorem dL_law_505 : decode cL_law 505 = .ok (.iconst 0, 1) := by decide +kernel
theorem dL_law_506 : decode cL_law 506 = .ok (.ireturn, 1) := by decide +kernel
theorem dL_law_507 : decode cL_law 507 = .ok (.aload_n 1, 1) := by decide +kernel
theorem dL_law_508 : decode cL_law 508 = .ok (.aload_n 0, 1) := by decide +kernel
theorem dL_law_509 : decode cL_law 509 = .ok (.iload_n 3, 1) := by decide +kernel
theorem dL_law_510 : decode cL_law 510 = .ok (.iconst 1, 1) := by decide +kernel
theorem dL_law_511 : decode cL_law 511 = .ok (.iadd, 1) := by decide +kernel
theorem dL_law_512 : decode cL_law 512 = .ok (.iaload, 1) := by decide +kernel
theorem dL_law_513 : decode cL_law 513 = .ok (.invokevirtual 78, 3) := by decide +kernel
theorem dL_law_516 : decode cL_law 516 = .ok (.aload_n 2, 1) := by decide +kernel
theorem dL_law_517 : decode cL_law 517 = .ok (.aload_n 0, 1) := by decide +kernel
theorem dL_law_518 : decode cL_law 518 = .ok (.iload_n 3, 1) := by decide +kernel
theorem dL_law_519 : decode cL_law 519 = .ok (.iconst 1, 1) := by decide +kernel
theorem dL_law_520 : decode cL_law 520 = .ok (.iadd, 1) := by decide +kernel
theorem dL_law_521 : decode cL_law 521 = .ok (.iaload, 1) := by decide +kernel
theorem dL_law_522 : decode cL_law 522 = .ok (.invokevirtual 81, 3) := by decide +kernel
theorem dL_law_525 : decode cL_law 525 = .ok (.if_icmp .eq 101, 3) := by decide +kernel
theorem dL_law_528 : decode cL_law 528 = .ok (.iconst 0, 1) := by decide +kernel
theorem dL_law_529 : decode cL_law 529 = .ok (.ireturn, 1) := by decide +kernel
theorem dL_law_530 : decode cL_law 530 = .ok (.aload_n 1, 1) := by decide +kernel
theorem dL_law_531 : decode cL_law 531 = .ok (.aload_n 0, 1) := by decide +kernel
theorem dL_law_532 : decode cL_law 532 = .ok (.iload_n 3, 1) := by decide +kernel
theorem dL_law_533 : decode cL_law 533 = .ok (.iconst 1, 1) := by decide +kernel
theorem dL_law_534 : decode cL_law 534 = .ok (.iadd, 1) := by decide +kernel
theorem dL_law_535 : decode cL_law 535 = .ok (.iaload, 1) := by decide +kernel
theorem dL_law_536 : decode cL_law 536 = .ok (.invokevirtual 82, 3) := by decide +kernel
theorem dL_law_539 : decode cL_law 539 = .ok (.aload_n 2, 1) := by decide +kernel
theorem dL_law_540 : decode cL_law 540 = .ok (.aload_n 0, 1) := by decide +kernel
theorem dL_law_541 : decode cL_law 541 = .ok (.iload_n 3, 1) := by decide +kernel
theorem dL_law_542 : decode cL_law 542 = .ok (.iconst 1, 1) := by decide +kernel
theorem dL_law_543 : decode cL_law 543 = .ok (.iadd, 1) := by decide +kernel
theorem dL_law_544 : decode cL_law 544 = .ok (.iaload, 1) := by decide +kernel
theorem dL_law_545 : decode cL_law 545 = .ok (.invokevirtual 85, 3) := by decide +kernel
theorem dL_law_548 : decode cL_law 548 = .ok (.if_icmp .eq 78, 3) := by decide +kernel
theorem dL_law_551 : decode cL_law 551 = .ok (.iconst 0, 1) := by decide +kernel
theorem dL_law_552 : decode cL_law 552 = .ok (.ireturn, 1) := by decide +kernel
theorem dL_law_553 : decode cL_law 553 = .ok (.aload_n 1, 1) := by decide +kernel
theorem dL_law_554 : decode cL_law 554 = .ok (.aload_n 0, 1) := by decide +kernel
theorem dL_law_555 : decode cL_law 555 = .ok (.iload_n 3, 1) := by decide +kernel
theorem dL_law_556 : decode cL_law 556 = .ok (.iconst 1, 1) := by decide +kernel
theorem dL_law_557 : decode cL_law 557 = .ok (.iadd, 1) := by decide +kernel
theorem dL_law_558 : decode cL_law 558 = .ok (.iaload, 1) := by decide +kernel
theorem dL_law_559 : decode cL_law 559 = .ok (.invokevirtual 86, 3) := by decide +kernel
theorem dL_law_562 : decode cL_law 562 = .ok (.aload_n 2, 1) := by decide +kernel
theorem dL_law_563 : decode cL_law 563 = .ok (.aload_n 0, 1) := by decide +kernel
theorem dL_law_564 : decode cL_law 564 = .ok (.iload_n 3, 1) := by decide +kernel
theorem dL_law_565 : decode cL_law 565 = .ok (.iconst 1, 1) := by decide +kernel
theorem dL_law_566 : decode cL_law 566 = .ok (.iadd, 1) := by decide +kernel
theorem dL_law_567 : decode cL_law 567 = .ok (.iaload, 1) := by decide +kernel
theorem dL_law_568 : decode cL_law 568 = .ok (.invokevirtual 89, 3) := by decide +kernel
theorem dL_law_571 : decode cL_law 571 = .ok (.if_icmp .eq 55, 3) := by decide +kernel
theorem dL_law_574 : decode cL_law 574 = .ok (.iconst 0, 1) := by decide +kernel
theorem dL_law_575 : decode cL_law 575 = .ok (.ireturn, 1) := by decide +kernel
theorem dL_law_576 : decode cL_law 576 = .ok (.aload_n 1, 1) := by decide +kernel
theorem dL_law_577 : decode cL_law 577 = .ok (.invokevirtual 90, 3) := by decide +kernel
theorem dL_law_580 : decode cL_law 580 = .ok (.aload_n 2, 1) := by decide +kernel
theorem dL_law_581 : decode cL_law 581 = .ok (.invokevirtual 93, 3) := by decide +kernel
theorem dL_law_584 : decode cL_law 584 = .ok (.if_icmp .eq 42, 3) := by decide +kernel
theorem dL_law_587 : decode cL_law 587 = .ok (.iconst 0, 1) := by decide +kernel
theorem dL_law_588 : decode cL_law 588 = .ok (.ireturn, 1) := by decide +kernel
theorem dL_law_589 : decode cL_law 589 = .ok (.aload_n 1, 1) := by decide +kernel
theorem dL_law_590 : decode cL_law 590 = .ok (.aload_n 0, 1) := by decide +kernel
theorem dL_law_591 : decode cL_law 591 = .ok (.iload_n 3, 1) := by decide +kernel
theorem dL_law_592 : decode cL_law 592 = .ok (.iconst 1, 1) := by decide +kernel
theorem dL_law_593 : decode cL_law 593 = .ok (.iadd, 1) := by decide +kernel
theorem dL_law_594 : decode cL_law 594 = .ok (.iaload, 1) := by decide +kernel
theorem dL_law_595 : decode cL_law 595 = .ok (.invokevirtual 94, 3) := by decide +kernel
theorem dL_law_598 : decode cL_law 598 = .ok (.aload_n 2, 1) := by decide +kernel
theorem dL_law_599 : decode cL_law 599 = .ok (.aload_n 0, 1) := by decide +kernel
theorem dL_law_600 : decode cL_law 600 = .ok (.iload_n 3, 1) := by decide +kernel
theorem dL_law_601 : decode cL_law 601 = .ok (.iconst 1, 1) := by decide +kernel
theorem dL_law_602 : decode cL_law 602 = .ok (.iadd, 1) := by decide +kernel
theorem dL_law_603 : decode cL_law 603 = .ok (.iaload, 1) := by decide +kernel
theorem dL_law_604 : decode cL_law 604 = .ok (.invokevirtual 97, 3) := by decide +kernel
theorem dL_law_607 : decode cL_law 607 = .ok (.if_icmp .eq 19, 3) := by decide +kernel
theorem dL_law_610 : decode cL_law 610 = .ok (.iconst 0, 1) := by decide +kernel
theorem dL_law_611 : decode cL_law 611 = .ok (.ireturn, 1) := by decide +kernel
theorem dL_law_612 : decode cL_law 612 = .ok (.aload_n 1, 1) := by decide +kernel
theorem dL_law_613 : decode cL_law 613 = .ok (.invokevirtual 98, 3) := by decide +kernel
theorem dL_law_616 : decode cL_law 616 = .ok (.aload_n 2, 1) := by decide +kernel
theorem dL_law_617 : decode cL_law 617 = .ok (.invokevirtual 102, 3) := by decide +kernel
theorem dL_law_620 : decode cL_law 620 = .ok (.lcmp, 1) := by decide +kernel
theorem dL_law_621 : decode cL_law 621 = .ok (.ifCond .eq 5, 3) := by decide +kernel
theorem dL_law_624 : decode cL_law 624 = .ok (.iconst 0, 1) := by decide +kernel
theorem dL_law_625 : decode cL_law 625 = .ok (.ireturn, 1) := by decide +kernel
theorem dL_law_626 : decode cL_law 626 = .ok (.iinc 3 5, 3) := by decide +kernel
theorem dL_law_629 : decode cL_law 629 = .ok (.goto (-611), 3) := by decide +kernel
theorem dL_law_632 : decode cL_law 632 = .ok (.iconst 1, 1) := by decide +kernel
theorem dL_law_633 : decode cL_law 633 = .ok (.ireturn, 1) := by decide +kernel
