theorem dX7_fails_0 : decode cX7_fails 0 = .ok (.aload_n 0, 1) := by decide +kernel
theorem dX7_fails_1 : decode cX7_fails 1 = .ok (.iload_n 1, 1) := by decide +kernel
theorem dX7_fails_2 : decode cX7_fails 2 = .ok (.putfield 50, 3) := by decide +kernel
theorem dX7_fails_5 : decode cX7_fails 5 = .ok (.bipush (-10), 2) := by decide +kernel
theorem dX7_fails_7 : decode cX7_fails 7 = .ok (.iload_n 1, 1) := by decide +kernel
theorem dX7_fails_8 : decode cX7_fails 8 = .ok (.isub, 1) := by decide +kernel
theorem dX7_fails_9 : decode cX7_fails 9 = .ok (.ireturn, 1) := by decide +kernel
theorem dX7_lost_0 : decode cX7_lost 0 = .ok (.aload_n 0, 1) := by decide +kernel
theorem dX7_lost_1 : decode cX7_lost 1 = .ok (.iload_n 1, 1) := by decide +kernel
theorem dX7_lost_2 : decode cX7_lost 2 = .ok (.putfield 50, 3) := by decide +kernel
theorem dX7_lost_5 : decode cX7_lost 5 = .ok (.ldc2_w 54, 3) := by decide +kernel
theorem dX7_lost_8 : decode cX7_lost 8 = .ok (.lreturn, 1) := by decide +kernel
theorem dX7_within_0 : decode cX7_within 0 = .ok (.iload_n 0, 1) := by decide +kernel
theorem dX7_within_1 : decode cX7_within 1 = .ok (.iload_n 1, 1) := by decide +kernel
theorem dX7_within_2 : decode cX7_within 2 = .ok (.if_icmp .lt 12, 3) := by decide +kernel
theorem dX7_within_5 : decode cX7_within 5 = .ok (.iload_n 0, 1) := by decide +kernel
theorem dX7_within_6 : decode cX7_within 6 = .ok (.iload_n 2, 1) := by decide +kernel
theorem dX7_within_7 : decode cX7_within 7 = .ok (.if_icmp .gt 7, 3) := by decide +kernel
theorem dX7_within_10 : decode cX7_within 10 = .ok (.iconst 1, 1) := by decide +kernel
theorem dX7_within_11 : decode cX7_within 11 = .ok (.goto 4, 3) := by decide +kernel
theorem dX7_within_14 : decode cX7_within 14 = .ok (.iconst 0, 1) := by decide +kernel
theorem dX7_within_15 : decode cX7_within 15 = .ok (.ireturn, 1) := by decide +kernel
theorem dX7_isSheet_0 : decode cX7_isSheet 0 = .ok (.iload_n 0, 1) := by decide +kernel
theorem dX7_isSheet_1 : decode cX7_isSheet 1 = .ok (.iconst 0, 1) := by decide +kernel
theorem dX7_isSheet_2 : decode cX7_isSheet 2 = .ok (.iconst 3, 1) := by decide +kernel
theorem dX7_isSheet_3 : decode cX7_isSheet 3 = .ok (.invokestatic 56, 3) := by decide +kernel
theorem dX7_isSheet_6 : decode cX7_isSheet 6 = .ok (.ireturn, 1) := by decide +kernel
theorem dX7_isSort_0 : decode cX7_isSort 0 = .ok (.iload_n 0, 1) := by decide +kernel
theorem dX7_isSort_1 : decode cX7_isSort 1 = .ok (.iconst 0, 1) := by decide +kernel
theorem dX7_isSort_2 : decode cX7_isSort 2 = .ok (.iconst 2, 1) := by decide +kernel
theorem dX7_isSort_3 : decode cX7_isSort 3 = .ok (.invokestatic 56, 3) := by decide +kernel
theorem dX7_isSort_6 : decode cX7_isSort 6 = .ok (.ireturn, 1) := by decide +kernel
theorem dX7_against_0 : decode cX7_against 0 = .ok (.aload_n 0, 1) := by decide +kernel
theorem dX7_against_1 : decode cX7_against 1 = .ok (.getfield 9, 3) := by decide +kernel
theorem dX7_against_4 : decode cX7_against 4 = .ok (.iload_n 1, 1) := by decide +kernel
theorem dX7_against_5 : decode cX7_against 5 = .ok (.iaload, 1) := by decide +kernel
theorem dX7_against_6 : decode cX7_against 6 = .ok (.bipush (-9), 2) := by decide +kernel
theorem dX7_against_8 : decode cX7_against 8 = .ok (.if_icmp .eq 15, 3) := by decide +kernel
theorem dX7_against_11 : decode cX7_against 11 = .ok (.aload_n 0, 1) := by decide +kernel
theorem dX7_against_12 : decode cX7_against 12 = .ok (.getfield 9, 3) := by decide +kernel
theorem dX7_against_15 : decode cX7_against 15 = .ok (.iload_n 1, 1) := by decide +kernel
theorem dX7_against_16 : decode cX7_against 16 = .ok (.iaload, 1) := by decide +kernel
theorem dX7_against_17 : decode cX7_against 17 = .ok (.iload_n 2, 1) := by decide +kernel
theorem dX7_against_18 : decode cX7_against 18 = .ok (.if_icmp .eq 5, 3) := by decide +kernel
theorem dX7_against_21 : decode cX7_against 21 = .ok (.iconst 2, 1) := by decide +kernel
theorem dX7_against_22 : decode cX7_against 22 = .ok (.ireturn, 1) := by decide +kernel
theorem dX7_against_23 : decode cX7_against 23 = .ok (.aload_n 0, 1) := by decide +kernel
theorem dX7_against_24 : decode cX7_against 24 = .ok (.getfield 9, 3) := by decide +kernel
theorem dX7_against_27 : decode cX7_against 27 = .ok (.iload_n 1, 1) := by decide +kernel
theorem dX7_against_28 : decode cX7_against 28 = .ok (.iaload, 1) := by decide +kernel
theorem dX7_against_29 : decode cX7_against 29 = .ok (.bipush (-9), 2) := by decide +kernel
theorem dX7_against_31 : decode cX7_against 31 = .ok (.if_icmp .ne 5, 3) := by decide +kernel
theorem dX7_against_34 : decode cX7_against 34 = .ok (.iconst 1, 1) := by decide +kernel
theorem dX7_against_35 : decode cX7_against 35 = .ok (.ireturn, 1) := by decide +kernel
theorem dX7_against_36 : decode cX7_against 36 = .ok (.iload 4, 2) := by decide +kernel
theorem dX7_against_38 : decode cX7_against 38 = .ok (.ifCond .ge 5, 3) := by decide +kernel
theorem dX7_against_41 : decode cX7_against 41 = .ok (.iconst 4, 1) := by decide +kernel
theorem dX7_against_42 : decode cX7_against 42 = .ok (.ireturn, 1) := by decide +kernel
theorem dX7_against_43 : decode cX7_against 43 = .ok (.iload_n 3, 1) := by decide +kernel
theorem dX7_against_44 : decode cX7_against 44 = .ok (.ifCond .lt 26, 3) := by decide +kernel
theorem dX7_against_47 : decode cX7_against 47 = .ok (.iload_n 3, 1) := by decide +kernel
theorem dX7_against_48 : decode cX7_against 48 = .ok (.aload_n 0, 1) := by decide +kernel
theorem dX7_against_49 : decode cX7_against 49 = .ok (.getfield 13, 3) := by decide +kernel
theorem dX7_against_52 : decode cX7_against 52 = .ok (.iload_n 1, 1) := by decide +kernel
theorem dX7_against_53 : decode cX7_against 53 = .ok (.iaload, 1) := by decide +kernel
theorem dX7_against_54 : decode cX7_against 54 = .ok (.if_icmp .gt 16, 3) := by decide +kernel
theorem dX7_against_57 : decode cX7_against 57 = .ok (.iload 4, 2) := by decide +kernel
theorem dX7_against_59 : decode cX7_against 59 = .ok (.aload_n 0, 1) := by decide +kernel
theorem dX7_against_60 : decode cX7_against 60 = .ok (.getfield 13, 3) := by decide +kernel
theorem dX7_against_63 : decode cX7_against 63 = .ok (.iload_n 1, 1) := by decide +kernel
theorem dX7_against_64 : decode cX7_against 64 = .ok (.iaload, 1) := by decide +kernel
theorem dX7_against_65 : decode cX7_against 65 = .ok (.iload_n 3, 1) := by decide +kernel
theorem dX7_against_66 : decode cX7_against 66 = .ok (.isub, 1) := by decide +kernel
theorem dX7_against_67 : decode cX7_against 67 = .ok (.if_icmp .le 7, 3) := by decide +kernel
theorem dX7_against_70 : decode cX7_against 70 = .ok (.iconst 3, 1) := by decide +kernel
theorem dX7_against_71 : decode cX7_against 71 = .ok (.goto 4, 3) := by decide +kernel
theorem dX7_against_74 : decode cX7_against 74 = .ok (.iconst 0, 1) := by decide +kernel
theorem dX7_against_75 : decode cX7_against 75 = .ok (.ireturn, 1) := by decide +kernel
theorem dX7_isBeat_0 : decode cX7_isBeat 0 = .ok (.iload_n 1, 1) := by decide +kernel
theorem dX7_isBeat_1 : decode cX7_isBeat 1 = .ok (.ifCond .lt 15, 3) := by decide +kernel
theorem dX7_isBeat_4 : decode cX7_isBeat 4 = .ok (.iload_n 1, 1) := by decide +kernel
theorem dX7_isBeat_5 : decode cX7_isBeat 5 = .ok (.aload_n 0, 1) := by decide +kernel
theorem dX7_isBeat_6 : decode cX7_isBeat 6 = .ok (.getfield 60, 3) := by decide +kernel
theorem dX7_isBeat_9 : decode cX7_isBeat 9 = .ok (.if_icmp .ge 7, 3) := by decide +kernel
theorem dX7_isBeat_12 : decode cX7_isBeat 12 = .ok (.iconst 1, 1) := by decide +kernel
theorem dX7_isBeat_13 : decode cX7_isBeat 13 = .ok (.goto 4, 3) := by decide +kernel
theorem dX7_isBeat_16 : decode cX7_isBeat 16 = .ok (.iconst 0, 1) := by decide +kernel
theorem dX7_isBeat_17 : decode cX7_isBeat 17 = .ok (.ireturn, 1) := by decide +kernel
theorem dX7_pattern_0 : decode cX7_pattern 0 = .ok (.aload_n 0, 1) := by decide +kernel
theorem dX7_pattern_1 : decode cX7_pattern 1 = .ok (.iconst 0, 1) := by decide +kernel
theorem dX7_pattern_2 : decode cX7_pattern 2 = .ok (.putfield 50, 3) := by decide +kernel
theorem dX7_pattern_5 : decode cX7_pattern 5 = .ok (.iload_n 1, 1) := by decide +kernel
theorem dX7_pattern_6 : decode cX7_pattern 6 = .ok (.invokestatic 63, 3) := by decide +kernel
theorem dX7_pattern_9 : decode cX7_pattern 9 = .ok (.ifCond .ne 5, 3) := by decide +kernel
theorem dX7_pattern_12 : decode cX7_pattern 12 = .ok (.iconst (-1), 1) := by decide +kernel
theorem dX7_pattern_13 : decode cX7_pattern 13 = .ok (.ireturn, 1) := by decide +kernel
theorem dX7_pattern_14 : decode cX7_pattern 14 = .ok (.iload_n 2, 1) := by decide +kernel
theorem dX7_pattern_15 : decode cX7_pattern 15 = .ok (.invokestatic 67, 3) := by decide +kernel
theorem dX7_pattern_18 : decode cX7_pattern 18 = .ok (.ifCond .ne 6, 3) := by decide +kernel
theorem dX7_pattern_21 : decode cX7_pattern 21 = .ok (.bipush (-2), 2) := by decide +kernel
theorem dX7_pattern_23 : decode cX7_pattern 23 = .ok (.ireturn, 1) := by decide +kernel
theorem dX7_pattern_24 : decode cX7_pattern 24 = .ok (.aload_n 0, 1) := by decide +kernel
theorem dX7_pattern_25 : decode cX7_pattern 25 = .ok (.iload_n 1, 1) := by decide +kernel
theorem dX7_pattern_26 : decode cX7_pattern 26 = .ok (.iload_n 2, 1) := by decide +kernel
theorem dX7_pattern_27 : decode cX7_pattern 27 = .ok (.iload_n 3, 1) := by decide +kernel
theorem dX7_pattern_28 : decode cX7_pattern 28 = .ok (.iload 4, 2) := by decide +kernel
theorem dX7_pattern_30 : decode cX7_pattern 30 = .ok (.invokevirtual 70, 3) := by decide +kernel
theorem dX7_pattern_33 : decode cX7_pattern 33 = .ok (.istore 5, 2) := by decide +kernel
theorem dX7_pattern_35 : decode cX7_pattern 35 = .ok (.iload 5, 2) := by decide +kernel
theorem dX7_pattern_37 : decode cX7_pattern 37 = .ok (.ifCond .eq 10, 3) := by decide +kernel
theorem dX7_pattern_40 : decode cX7_pattern 40 = .ok (.aload_n 0, 1) := by decide +kernel
theorem dX7_pattern_41 : decode cX7_pattern 41 = .ok (.iload 5, 2) := by decide +kernel
theorem dX7_pattern_43 : decode cX7_pattern 43 = .ok (.invokevirtual 74, 3) := by decide +kernel
theorem dX7_pattern_46 : decode cX7_pattern 46 = .ok (.ireturn, 1) := by decide +kernel
theorem dX7_pattern_47 : decode cX7_pattern 47 = .ok (.bipush 40, 2) := by decide +kernel
theorem dX7_pattern_49 : decode cX7_pattern 49 = .ok (.iload_n 1, 1) := by decide +kernel
theorem dX7_pattern_50 : decode cX7_pattern 50 = .ok (.imul, 1) := by decide +kernel
theorem dX7_pattern_51 : decode cX7_pattern 51 = .ok (.iload_n 3, 1) := by decide +kernel
theorem dX7_pattern_52 : decode cX7_pattern 52 = .ok (.iadd, 1) := by decide +kernel
theorem dX7_pattern_53 : decode cX7_pattern 53 = .ok (.istore 6, 2) := by decide +kernel
theorem dX7_pattern_55 : decode cX7_pattern 55 = .ok (.iconst 0, 1) := by decide +kernel
theorem dX7_pattern_56 : decode cX7_pattern 56 = .ok (.istore 7, 2) := by decide +kernel
theorem dX7_pattern_58 : decode cX7_pattern 58 = .ok (.iload 7, 2) := by decide +kernel
theorem dX7_pattern_60 : decode cX7_pattern 60 = .ok (.iload 4, 2) := by decide +kernel
theorem dX7_pattern_62 : decode cX7_pattern 62 = .ok (.if_icmp .ge 36, 3) := by decide +kernel
theorem dX7_pattern_65 : decode cX7_pattern 65 = .ok (.iload 7, 2) := by decide +kernel
theorem dX7_pattern_67 : decode cX7_pattern 67 = .ok (.bipush 8, 2) := by decide +kernel
theorem dX7_pattern_69 : decode cX7_pattern 69 = .ok (.if_icmp .ge 29, 3) := by decide +kernel
theorem dX7_pattern_72 : decode cX7_pattern 72 = .ok (.aload_n 0, 1) := by decide +kernel
theorem dX7_pattern_73 : decode cX7_pattern 73 = .ok (.getfield 16, 3) := by decide +kernel
theorem dX7_pattern_76 : decode cX7_pattern 76 = .ok (.iload 6, 2) := by decide +kernel
theorem dX7_pattern_78 : decode cX7_pattern 78 = .ok (.iload 7, 2) := by decide +kernel
theorem dX7_pattern_80 : decode cX7_pattern 80 = .ok (.iadd, 1) := by decide +kernel
theorem dX7_pattern_81 : decode cX7_pattern 81 = .ok (.iaload, 1) := by decide +kernel
theorem dX7_pattern_82 : decode cX7_pattern 82 = .ok (.bipush 48, 2) := by decide +kernel
theorem dX7_pattern_84 : decode cX7_pattern 84 = .ok (.bipush 57, 2) := by decide +kernel
theorem dX7_pattern_86 : decode cX7_pattern 86 = .ok (.invokestatic 56, 3) := by decide +kernel
theorem dX7_pattern_89 : decode cX7_pattern 89 = .ok (.ifCond .eq 9, 3) := by decide +kernel
theorem dX7_pattern_92 : decode cX7_pattern 92 = .ok (.iinc 7 1, 3) := by decide +kernel
theorem dX7_pattern_95 : decode cX7_pattern 95 = .ok (.goto (-37), 3) := by decide +kernel
theorem dX7_pattern_98 : decode cX7_pattern 98 = .ok (.iload 7, 2) := by decide +kernel
theorem dX7_pattern_100 : decode cX7_pattern 100 = .ok (.iload 4, 2) := by decide +kernel
theorem dX7_pattern_102 : decode cX7_pattern 102 = .ok (.if_icmp .lt 8, 3) := by decide +kernel
theorem dX7_pattern_105 : decode cX7_pattern 105 = .ok (.iload 7, 2) := by decide +kernel
theorem dX7_pattern_107 : decode cX7_pattern 107 = .ok (.ifCond .ne 9, 3) := by decide +kernel
theorem dX7_pattern_110 : decode cX7_pattern 110 = .ok (.bipush (-100), 2) := by decide +kernel
theorem dX7_pattern_112 : decode cX7_pattern 112 = .ok (.iload 7, 2) := by decide +kernel
theorem dX7_pattern_114 : decode cX7_pattern 114 = .ok (.isub, 1) := by decide +kernel
theorem dX7_pattern_115 : decode cX7_pattern 115 = .ok (.ireturn, 1) := by decide +kernel
theorem dX7_pattern_116 : decode cX7_pattern 116 = .ok (.aload_n 0, 1) := by decide +kernel
theorem dX7_pattern_117 : decode cX7_pattern 117 = .ok (.iload 7, 2) := by decide +kernel
theorem dX7_pattern_119 : decode cX7_pattern 119 = .ok (.putfield 60, 3) := by decide +kernel
theorem dX7_pattern_122 : decode cX7_pattern 122 = .ok (.iconst 0, 1) := by decide +kernel
theorem dX7_pattern_123 : decode cX7_pattern 123 = .ok (.istore 8, 2) := by decide +kernel
theorem dX7_pattern_125 : decode cX7_pattern 125 = .ok (.iload 8, 2) := by decide +kernel
theorem dX7_pattern_127 : decode cX7_pattern 127 = .ok (.iload 7, 2) := by decide +kernel
theorem dX7_pattern_129 : decode cX7_pattern 129 = .ok (.if_icmp .ge 29, 3) := by decide +kernel
theorem dX7_pattern_132 : decode cX7_pattern 132 = .ok (.aload_n 0, 1) := by decide +kernel
theorem dX7_pattern_133 : decode cX7_pattern 133 = .ok (.getfield 19, 3) := by decide +kernel
theorem dX7_pattern_136 : decode cX7_pattern 136 = .ok (.iload 8, 2) := by decide +kernel
theorem dX7_pattern_138 : decode cX7_pattern 138 = .ok (.aload_n 0, 1) := by decide +kernel
theorem dX7_pattern_139 : decode cX7_pattern 139 = .ok (.getfield 16, 3) := by decide +kernel
theorem dX7_pattern_142 : decode cX7_pattern 142 = .ok (.iload 6, 2) := by decide +kernel
theorem dX7_pattern_144 : decode cX7_pattern 144 = .ok (.iload 8, 2) := by decide +kernel
theorem dX7_pattern_146 : decode cX7_pattern 146 = .ok (.iadd, 1) := by decide +kernel
theorem dX7_pattern_147 : decode cX7_pattern 147 = .ok (.iaload, 1) := by decide +kernel
theorem dX7_pattern_148 : decode cX7_pattern 148 = .ok (.bipush 48, 2) := by decide +kernel
theorem dX7_pattern_150 : decode cX7_pattern 150 = .ok (.isub, 1) := by decide +kernel
theorem dX7_pattern_151 : decode cX7_pattern 151 = .ok (.iastore, 1) := by decide +kernel
theorem dX7_pattern_152 : decode cX7_pattern 152 = .ok (.iinc 8 1, 3) := by decide +kernel
theorem dX7_pattern_155 : decode cX7_pattern 155 = .ok (.goto (-30), 3) := by decide +kernel
theorem dX7_pattern_158 : decode cX7_pattern 158 = .ok (.aload_n 0, 1) := by decide +kernel
theorem dX7_pattern_159 : decode cX7_pattern 159 = .ok (.iconst 2, 1) := by decide +kernel
theorem dX7_pattern_160 : decode cX7_pattern 160 = .ok (.putfield 78, 3) := by decide +kernel
theorem dX7_pattern_163 : decode cX7_pattern 163 = .ok (.aload_n 0, 1) := by decide +kernel
theorem dX7_pattern_164 : decode cX7_pattern 164 = .ok (.iconst 0, 1) := by decide +kernel
theorem dX7_pattern_165 : decode cX7_pattern 165 = .ok (.putfield 81, 3) := by decide +kernel
theorem dX7_pattern_168 : decode cX7_pattern 168 = .ok (.iconst 0, 1) := by decide +kernel
theorem dX7_pattern_169 : decode cX7_pattern 169 = .ok (.istore 8, 2) := by decide +kernel
theorem dX7_pattern_171 : decode cX7_pattern 171 = .ok (.iload 8, 2) := by decide +kernel
theorem dX7_pattern_173 : decode cX7_pattern 173 = .ok (.bipush 10, 2) := by decide +kernel
theorem dX7_pattern_175 : decode cX7_pattern 175 = .ok (.if_icmp .ge 17, 3) := by decide +kernel
theorem dX7_pattern_178 : decode cX7_pattern 178 = .ok (.aload_n 0, 1) := by decide +kernel
theorem dX7_pattern_179 : decode cX7_pattern 179 = .ok (.getfield 22, 3) := by decide +kernel
theorem dX7_pattern_182 : decode cX7_pattern 182 = .ok (.iload 8, 2) := by decide +kernel
theorem dX7_pattern_184 : decode cX7_pattern 184 = .ok (.iconst 0, 1) := by decide +kernel
theorem dX7_pattern_185 : decode cX7_pattern 185 = .ok (.iastore, 1) := by decide +kernel
theorem dX7_pattern_186 : decode cX7_pattern 186 = .ok (.iinc 8 1, 3) := by decide +kernel
theorem dX7_pattern_189 : decode cX7_pattern 189 = .ok (.goto (-18), 3) := by decide +kernel
theorem dX7_pattern_192 : decode cX7_pattern 192 = .ok (.iload 7, 2) := by decide +kernel
theorem dX7_pattern_194 : decode cX7_pattern 194 = .ok (.ireturn, 1) := by decide +kernel
theorem dX7_throwOf_0 : decode cX7_throwOf 0 = .ok (.aload_n 0, 1) := by decide +kernel
theorem dX7_throwOf_1 : decode cX7_throwOf 1 = .ok (.iload_n 1, 1) := by decide +kernel
theorem dX7_throwOf_2 : decode cX7_throwOf 2 = .ok (.invokevirtual 84, 3) := by decide +kernel
theorem dX7_throwOf_5 : decode cX7_throwOf 5 = .ok (.ifCond .eq 12, 3) := by decide +kernel
theorem dX7_throwOf_8 : decode cX7_throwOf 8 = .ok (.aload_n 0, 1) := by decide +kernel
theorem dX7_throwOf_9 : decode cX7_throwOf 9 = .ok (.getfield 19, 3) := by decide +kernel
theorem dX7_throwOf_12 : decode cX7_throwOf 12 = .ok (.iload_n 1, 1) := by decide +kernel
theorem dX7_throwOf_13 : decode cX7_throwOf 13 = .ok (.iaload, 1) := by decide +kernel
theorem dX7_throwOf_14 : decode cX7_throwOf 14 = .ok (.goto 4, 3) := by decide +kernel
theorem dX7_throwOf_17 : decode cX7_throwOf 17 = .ok (.iconst (-1), 1) := by decide +kernel
theorem dX7_throwOf_18 : decode cX7_throwOf 18 = .ok (.ireturn, 1) := by decide +kernel
theorem dX7_landsIn_0 : decode cX7_landsIn 0 = .ok (.iload_n 1, 1) := by decide +kernel
theorem dX7_landsIn_1 : decode cX7_landsIn 1 = .ok (.aload_n 0, 1) := by decide +kernel
theorem dX7_landsIn_2 : decode cX7_landsIn 2 = .ok (.getfield 19, 3) := by decide +kernel
theorem dX7_landsIn_5 : decode cX7_landsIn 5 = .ok (.iload_n 1, 1) := by decide +kernel
theorem dX7_landsIn_6 : decode cX7_landsIn 6 = .ok (.iaload, 1) := by decide +kernel
theorem dX7_landsIn_7 : decode cX7_landsIn 7 = .ok (.iadd, 1) := by decide +kernel
theorem dX7_landsIn_8 : decode cX7_landsIn 8 = .ok (.aload_n 0, 1) := by decide +kernel
theorem dX7_landsIn_9 : decode cX7_landsIn 9 = .ok (.getfield 60, 3) := by decide +kernel
theorem dX7_landsIn_12 : decode cX7_landsIn 12 = .ok (.irem, 1) := by decide +kernel
theorem dX7_landsIn_13 : decode cX7_landsIn 13 = .ok (.ireturn, 1) := by decide +kernel
theorem dX7_findClash_0 : decode cX7_findClash 0 = .ok (.iconst 0, 1) := by decide +kernel
theorem dX7_findClash_1 : decode cX7_findClash 1 = .ok (.istore_n 1, 1) := by decide +kernel
theorem dX7_findClash_2 : decode cX7_findClash 2 = .ok (.iload_n 1, 1) := by decide +kernel
theorem dX7_findClash_3 : decode cX7_findClash 3 = .ok (.aload_n 0, 1) := by decide +kernel
theorem dX7_findClash_4 : decode cX7_findClash 4 = .ok (.getfield 60, 3) := by decide +kernel
theorem dX7_findClash_7 : decode cX7_findClash 7 = .ok (.if_icmp .ge 47, 3) := by decide +kernel
theorem dX7_findClash_10 : decode cX7_findClash 10 = .ok (.iload_n 1, 1) := by decide +kernel
theorem dX7_findClash_11 : decode cX7_findClash 11 = .ok (.iconst 1, 1) := by decide +kernel
theorem dX7_findClash_12 : decode cX7_findClash 12 = .ok (.iadd, 1) := by decide +kernel
theorem dX7_findClash_13 : decode cX7_findClash 13 = .ok (.istore_n 2, 1) := by decide +kernel
theorem dX7_findClash_14 : decode cX7_findClash 14 = .ok (.iload_n 2, 1) := by decide +kernel
theorem dX7_findClash_15 : decode cX7_findClash 15 = .ok (.aload_n 0, 1) := by decide +kernel
theorem dX7_findClash_16 : decode cX7_findClash 16 = .ok (.getfield 60, 3) := by decide +kernel
theorem dX7_findClash_19 : decode cX7_findClash 19 = .ok (.if_icmp .ge 29, 3) := by decide +kernel
theorem dX7_findClash_22 : decode cX7_findClash 22 = .ok (.aload_n 0, 1) := by decide +kernel
theorem dX7_findClash_23 : decode cX7_findClash 23 = .ok (.iload_n 1, 1) := by decide +kernel
theorem dX7_findClash_24 : decode cX7_findClash 24 = .ok (.invokevirtual 87, 3) := by decide +kernel
theorem dX7_findClash_27 : decode cX7_findClash 27 = .ok (.aload_n 0, 1) := by decide +kernel
theorem dX7_findClash_28 : decode cX7_findClash 28 = .ok (.iload_n 2, 1) := by decide +kernel
theorem dX7_findClash_29 : decode cX7_findClash 29 = .ok (.invokevirtual 87, 3) := by decide +kernel
theorem dX7_findClash_32 : decode cX7_findClash 32 = .ok (.if_icmp .ne 10, 3) := by decide +kernel
theorem dX7_findClash_35 : decode cX7_findClash 35 = .ok (.bipush 10, 2) := by decide +kernel
theorem dX7_findClash_37 : decode cX7_findClash 37 = .ok (.iload_n 1, 1) := by decide +kernel
theorem dX7_findClash_38 : decode cX7_findClash 38 = .ok (.imul, 1) := by decide +kernel
theorem dX7_findClash_39 : decode cX7_findClash 39 = .ok (.iload_n 2, 1) := by decide +kernel
theorem dX7_findClash_40 : decode cX7_findClash 40 = .ok (.iadd, 1) := by decide +kernel
theorem dX7_findClash_41 : decode cX7_findClash 41 = .ok (.ireturn, 1) := by decide +kernel
theorem dX7_findClash_42 : decode cX7_findClash 42 = .ok (.iinc 2 1, 3) := by decide +kernel
theorem dX7_findClash_45 : decode cX7_findClash 45 = .ok (.goto (-31), 3) := by decide +kernel
theorem dX7_findClash_48 : decode cX7_findClash 48 = .ok (.iinc 1 1, 3) := by decide +kernel
theorem dX7_findClash_51 : decode cX7_findClash 51 = .ok (.goto (-49), 3) := by decide +kernel
theorem dX7_findClash_54 : decode cX7_findClash 54 = .ok (.bipush (-9), 2) := by decide +kernel
theorem dX7_findClash_56 : decode cX7_findClash 56 = .ok (.ireturn, 1) := by decide +kernel
theorem dX7_clash_0 : decode cX7_clash 0 = .ok (.aload_n 0, 1) := by decide +kernel
theorem dX7_clash_1 : decode cX7_clash 1 = .ok (.getfield 60, 3) := by decide +kernel
theorem dX7_clash_4 : decode cX7_clash 4 = .ok (.ifCond .ne 8, 3) := by decide +kernel
theorem dX7_clash_7 : decode cX7_clash 7 = .ok (.bipush (-3), 2) := by decide +kernel
theorem dX7_clash_9 : decode cX7_clash 9 = .ok (.goto 7, 3) := by decide +kernel
theorem dX7_clash_12 : decode cX7_clash 12 = .ok (.aload_n 0, 1) := by decide +kernel
theorem dX7_clash_13 : decode cX7_clash 13 = .ok (.invokevirtual 90, 3) := by decide +kernel
theorem dX7_clash_16 : decode cX7_clash 16 = .ok (.ireturn, 1) := by decide +kernel
theorem dX7_isGood_0 : decode cX7_isGood 0 = .ok (.aload_n 0, 1) := by decide +kernel
theorem dX7_isGood_1 : decode cX7_isGood 1 = .ok (.getfield 60, 3) := by decide +kernel
theorem dX7_isGood_4 : decode cX7_isGood 4 = .ok (.ifCond .le 16, 3) := by decide +kernel
theorem dX7_isGood_7 : decode cX7_isGood 7 = .ok (.aload_n 0, 1) := by decide +kernel
theorem dX7_isGood_8 : decode cX7_isGood 8 = .ok (.invokevirtual 90, 3) := by decide +kernel
theorem dX7_isGood_11 : decode cX7_isGood 11 = .ok (.bipush (-9), 2) := by decide +kernel
theorem dX7_isGood_13 : decode cX7_isGood 13 = .ok (.if_icmp .ne 7, 3) := by decide +kernel
theorem dX7_isGood_16 : decode cX7_isGood 16 = .ok (.iconst 1, 1) := by decide +kernel
theorem dX7_isGood_17 : decode cX7_isGood 17 = .ok (.goto 4, 3) := by decide +kernel
theorem dX7_isGood_20 : decode cX7_isGood 20 = .ok (.iconst 0, 1) := by decide +kernel
theorem dX7_isGood_21 : decode cX7_isGood 21 = .ok (.ireturn, 1) := by decide +kernel
theorem dX7_balls_0 : decode cX7_balls 0 = .ok (.iconst 0, 1) := by decide +kernel
theorem dX7_balls_1 : decode cX7_balls 1 = .ok (.istore_n 1, 1) := by decide +kernel
theorem dX7_balls_2 : decode cX7_balls 2 = .ok (.iconst 0, 1) := by decide +kernel
theorem dX7_balls_3 : decode cX7_balls 3 = .ok (.istore_n 2, 1) := by decide +kernel
theorem dX7_balls_4 : decode cX7_balls 4 = .ok (.iload_n 2, 1) := by decide +kernel
theorem dX7_balls_5 : decode cX7_balls 5 = .ok (.aload_n 0, 1) := by decide +kernel
theorem dX7_balls_6 : decode cX7_balls 6 = .ok (.getfield 60, 3) := by decide +kernel
theorem dX7_balls_9 : decode cX7_balls 9 = .ok (.if_icmp .ge 18, 3) := by decide +kernel
theorem dX7_balls_12 : decode cX7_balls 12 = .ok (.iload_n 1, 1) := by decide +kernel
theorem dX7_balls_13 : decode cX7_balls 13 = .ok (.aload_n 0, 1) := by decide +kernel
theorem dX7_balls_14 : decode cX7_balls 14 = .ok (.getfield 19, 3) := by decide +kernel
theorem dX7_balls_17 : decode cX7_balls 17 = .ok (.iload_n 2, 1) := by decide +kernel
theorem dX7_balls_18 : decode cX7_balls 18 = .ok (.iaload, 1) := by decide +kernel
theorem dX7_balls_19 : decode cX7_balls 19 = .ok (.iadd, 1) := by decide +kernel
theorem dX7_balls_20 : decode cX7_balls 20 = .ok (.istore_n 1, 1) := by decide +kernel
theorem dX7_balls_21 : decode cX7_balls 21 = .ok (.iinc 2 1, 3) := by decide +kernel
theorem dX7_balls_24 : decode cX7_balls 24 = .ok (.goto (-20), 3) := by decide +kernel
theorem dX7_balls_27 : decode cX7_balls 27 = .ok (.iload_n 1, 1) := by decide +kernel
theorem dX7_balls_28 : decode cX7_balls 28 = .ok (.aload_n 0, 1) := by decide +kernel
theorem dX7_balls_29 : decode cX7_balls 29 = .ok (.getfield 60, 3) := by decide +kernel
theorem dX7_balls_32 : decode cX7_balls 32 = .ok (.idiv, 1) := by decide +kernel
theorem dX7_balls_33 : decode cX7_balls 33 = .ok (.ireturn, 1) := by decide +kernel
theorem dX7_stateAhead_0 : decode cX7_stateAhead 0 = .ok (.iconst 0, 1) := by decide +kernel
theorem dX7_stateAhead_1 : decode cX7_stateAhead 1 = .ok (.istore_n 2, 1) := by decide +kernel
theorem dX7_stateAhead_2 : decode cX7_stateAhead 2 = .ok (.iconst 1, 1) := by decide +kernel
theorem dX7_stateAhead_3 : decode cX7_stateAhead 3 = .ok (.istore_n 3, 1) := by decide +kernel
theorem dX7_stateAhead_4 : decode cX7_stateAhead 4 = .ok (.iload_n 3, 1) := by decide +kernel
theorem dX7_stateAhead_5 : decode cX7_stateAhead 5 = .ok (.bipush 9, 2) := by decide +kernel
theorem dX7_stateAhead_7 : decode cX7_stateAhead 7 = .ok (.if_icmp .gt 53, 3) := by decide +kernel
theorem dX7_stateAhead_10 : decode cX7_stateAhead 10 = .ok (.aload_n 0, 1) := by decide +kernel
theorem dX7_stateAhead_11 : decode cX7_stateAhead 11 = .ok (.getfield 19, 3) := by decide +kernel
theorem dX7_stateAhead_14 : decode cX7_stateAhead 14 = .ok (.iload_n 1, 1) := by decide +kernel
theorem dX7_stateAhead_15 : decode cX7_stateAhead 15 = .ok (.iload_n 3, 1) := by decide +kernel
theorem dX7_stateAhead_16 : decode cX7_stateAhead 16 = .ok (.isub, 1) := by decide +kernel
theorem dX7_stateAhead_17 : decode cX7_stateAhead 17 = .ok (.aload_n 0, 1) := by decide +kernel
theorem dX7_stateAhead_18 : decode cX7_stateAhead 18 = .ok (.getfield 60, 3) := by decide +kernel
theorem dX7_stateAhead_21 : decode cX7_stateAhead 21 = .ok (.irem, 1) := by decide +kernel
theorem dX7_stateAhead_22 : decode cX7_stateAhead 22 = .ok (.aload_n 0, 1) := by decide +kernel
theorem dX7_stateAhead_23 : decode cX7_stateAhead 23 = .ok (.getfield 60, 3) := by decide +kernel
theorem dX7_stateAhead_26 : decode cX7_stateAhead 26 = .ok (.iadd, 1) := by decide +kernel
theorem dX7_stateAhead_27 : decode cX7_stateAhead 27 = .ok (.aload_n 0, 1) := by decide +kernel
theorem dX7_stateAhead_28 : decode cX7_stateAhead 28 = .ok (.getfield 60, 3) := by decide +kernel
theorem dX7_stateAhead_31 : decode cX7_stateAhead 31 = .ok (.irem, 1) := by decide +kernel
theorem dX7_stateAhead_32 : decode cX7_stateAhead 32 = .ok (.iaload, 1) := by decide +kernel
theorem dX7_stateAhead_33 : decode cX7_stateAhead 33 = .ok (.istore 4, 2) := by decide +kernel
theorem dX7_stateAhead_35 : decode cX7_stateAhead 35 = .ok (.iload_n 2, 1) := by decide +kernel
theorem dX7_stateAhead_36 : decode cX7_stateAhead 36 = .ok (.iload 4, 2) := by decide +kernel
theorem dX7_stateAhead_38 : decode cX7_stateAhead 38 = .ok (.iload_n 3, 1) := by decide +kernel
theorem dX7_stateAhead_39 : decode cX7_stateAhead 39 = .ok (.if_icmp .lt 12, 3) := by decide +kernel
theorem dX7_stateAhead_42 : decode cX7_stateAhead 42 = .ok (.iconst 1, 1) := by decide +kernel
theorem dX7_stateAhead_43 : decode cX7_stateAhead 43 = .ok (.iload 4, 2) := by decide +kernel
theorem dX7_stateAhead_45 : decode cX7_stateAhead 45 = .ok (.iload_n 3, 1) := by decide +kernel
theorem dX7_stateAhead_46 : decode cX7_stateAhead 46 = .ok (.isub, 1) := by decide +kernel
theorem dX7_stateAhead_47 : decode cX7_stateAhead 47 = .ok (.ishl, 1) := by decide +kernel
theorem dX7_stateAhead_48 : decode cX7_stateAhead 48 = .ok (.goto 4, 3) := by decide +kernel
theorem dX7_stateAhead_51 : decode cX7_stateAhead 51 = .ok (.iconst 0, 1) := by decide +kernel
theorem dX7_stateAhead_52 : decode cX7_stateAhead 52 = .ok (.ior, 1) := by decide +kernel
theorem dX7_stateAhead_53 : decode cX7_stateAhead 53 = .ok (.istore_n 2, 1) := by decide +kernel
theorem dX7_stateAhead_54 : decode cX7_stateAhead 54 = .ok (.iinc 3 1, 3) := by decide +kernel
theorem dX7_stateAhead_57 : decode cX7_stateAhead 57 = .ok (.goto (-53), 3) := by decide +kernel
theorem dX7_stateAhead_60 : decode cX7_stateAhead 60 = .ok (.iload_n 2, 1) := by decide +kernel
theorem dX7_stateAhead_61 : decode cX7_stateAhead 61 = .ok (.ireturn, 1) := by decide +kernel
theorem dX7_isPrime_0 : decode cX7_isPrime 0 = .ok (.iconst 0, 1) := by decide +kernel
theorem dX7_isPrime_1 : decode cX7_isPrime 1 = .ok (.istore_n 1, 1) := by decide +kernel
theorem dX7_isPrime_2 : decode cX7_isPrime 2 = .ok (.iload_n 1, 1) := by decide +kernel
theorem dX7_isPrime_3 : decode cX7_isPrime 3 = .ok (.aload_n 0, 1) := by decide +kernel
theorem dX7_isPrime_4 : decode cX7_isPrime 4 = .ok (.getfield 60, 3) := by decide +kernel
theorem dX7_isPrime_7 : decode cX7_isPrime 7 = .ok (.if_icmp .ge 42, 3) := by decide +kernel
theorem dX7_isPrime_10 : decode cX7_isPrime 10 = .ok (.iload_n 1, 1) := by decide +kernel
theorem dX7_isPrime_11 : decode cX7_isPrime 11 = .ok (.iconst 1, 1) := by decide +kernel
theorem dX7_isPrime_12 : decode cX7_isPrime 12 = .ok (.iadd, 1) := by decide +kernel
theorem dX7_isPrime_13 : decode cX7_isPrime 13 = .ok (.istore_n 2, 1) := by decide +kernel
theorem dX7_isPrime_14 : decode cX7_isPrime 14 = .ok (.iload_n 2, 1) := by decide +kernel
theorem dX7_isPrime_15 : decode cX7_isPrime 15 = .ok (.aload_n 0, 1) := by decide +kernel
theorem dX7_isPrime_16 : decode cX7_isPrime 16 = .ok (.getfield 60, 3) := by decide +kernel
theorem dX7_isPrime_19 : decode cX7_isPrime 19 = .ok (.if_icmp .ge 24, 3) := by decide +kernel
theorem dX7_isPrime_22 : decode cX7_isPrime 22 = .ok (.aload_n 0, 1) := by decide +kernel
theorem dX7_isPrime_23 : decode cX7_isPrime 23 = .ok (.iload_n 1, 1) := by decide +kernel
theorem dX7_isPrime_24 : decode cX7_isPrime 24 = .ok (.invokevirtual 94, 3) := by decide +kernel
theorem dX7_isPrime_27 : decode cX7_isPrime 27 = .ok (.aload_n 0, 1) := by decide +kernel
theorem dX7_isPrime_28 : decode cX7_isPrime 28 = .ok (.iload_n 2, 1) := by decide +kernel
theorem dX7_isPrime_29 : decode cX7_isPrime 29 = .ok (.invokevirtual 94, 3) := by decide +kernel
theorem dX7_isPrime_32 : decode cX7_isPrime 32 = .ok (.if_icmp .ne 5, 3) := by decide +kernel
theorem dX7_isPrime_35 : decode cX7_isPrime 35 = .ok (.iconst 0, 1) := by decide +kernel
theorem dX7_isPrime_36 : decode cX7_isPrime 36 = .ok (.ireturn, 1) := by decide +kernel
theorem dX7_isPrime_37 : decode cX7_isPrime 37 = .ok (.iinc 2 1, 3) := by decide +kernel
theorem dX7_isPrime_40 : decode cX7_isPrime 40 = .ok (.goto (-26), 3) := by decide +kernel
theorem dX7_isPrime_43 : decode cX7_isPrime 43 = .ok (.iinc 1 1, 3) := by decide +kernel
theorem dX7_isPrime_46 : decode cX7_isPrime 46 = .ok (.goto (-44), 3) := by decide +kernel
theorem dX7_isPrime_49 : decode cX7_isPrime 49 = .ok (.iconst 1, 1) := by decide +kernel
theorem dX7_isPrime_50 : decode cX7_isPrime 50 = .ok (.ireturn, 1) := by decide +kernel
theorem dX7_isGround_0 : decode cX7_isGround 0 = .ok (.iconst 0, 1) := by decide +kernel
theorem dX7_isGround_1 : decode cX7_isGround 1 = .ok (.istore_n 1, 1) := by decide +kernel
theorem dX7_isGround_2 : decode cX7_isGround 2 = .ok (.iload_n 1, 1) := by decide +kernel
theorem dX7_isGround_3 : decode cX7_isGround 3 = .ok (.aload_n 0, 1) := by decide +kernel
theorem dX7_isGround_4 : decode cX7_isGround 4 = .ok (.getfield 60, 3) := by decide +kernel
theorem dX7_isGround_7 : decode cX7_isGround 7 = .ok (.if_icmp .ge 27, 3) := by decide +kernel
theorem dX7_isGround_10 : decode cX7_isGround 10 = .ok (.aload_n 0, 1) := by decide +kernel
theorem dX7_isGround_11 : decode cX7_isGround 11 = .ok (.iload_n 1, 1) := by decide +kernel
theorem dX7_isGround_12 : decode cX7_isGround 12 = .ok (.invokevirtual 94, 3) := by decide +kernel
theorem dX7_isGround_15 : decode cX7_isGround 15 = .ok (.iconst 1, 1) := by decide +kernel
theorem dX7_isGround_16 : decode cX7_isGround 16 = .ok (.aload_n 0, 1) := by decide +kernel
theorem dX7_isGround_17 : decode cX7_isGround 17 = .ok (.invokevirtual 97, 3) := by decide +kernel
theorem dX7_isGround_20 : decode cX7_isGround 20 = .ok (.ishl, 1) := by decide +kernel
theorem dX7_isGround_21 : decode cX7_isGround 21 = .ok (.iconst 1, 1) := by decide +kernel
theorem dX7_isGround_22 : decode cX7_isGround 22 = .ok (.isub, 1) := by decide +kernel
theorem dX7_isGround_23 : decode cX7_isGround 23 = .ok (.if_icmp .ne 5, 3) := by decide +kernel
theorem dX7_isGround_26 : decode cX7_isGround 26 = .ok (.iconst 1, 1) := by decide +kernel
theorem dX7_isGround_27 : decode cX7_isGround 27 = .ok (.ireturn, 1) := by decide +kernel
theorem dX7_isGround_28 : decode cX7_isGround 28 = .ok (.iinc 1 1, 3) := by decide +kernel
theorem dX7_isGround_31 : decode cX7_isGround 31 = .ok (.goto (-29), 3) := by decide +kernel
theorem dX7_isGround_34 : decode cX7_isGround 34 = .ok (.iconst 0, 1) := by decide +kernel
theorem dX7_isGround_35 : decode cX7_isGround 35 = .ok (.ireturn, 1) := by decide +kernel
theorem dX7_findOrbits_0 : decode cX7_findOrbits 0 = .ok (.iconst 0, 1) := by decide +kernel
theorem dX7_findOrbits_1 : decode cX7_findOrbits 1 = .ok (.istore_n 1, 1) := by decide +kernel
theorem dX7_findOrbits_2 : decode cX7_findOrbits 2 = .ok (.iload_n 1, 1) := by decide +kernel
theorem dX7_findOrbits_3 : decode cX7_findOrbits 3 = .ok (.aload_n 0, 1) := by decide +kernel
theorem dX7_findOrbits_4 : decode cX7_findOrbits 4 = .ok (.getfield 60, 3) := by decide +kernel
theorem dX7_findOrbits_7 : decode cX7_findOrbits 7 = .ok (.if_icmp .ge 17, 3) := by decide +kernel
theorem dX7_findOrbits_10 : decode cX7_findOrbits 10 = .ok (.aload_n 0, 1) := by decide +kernel
theorem dX7_findOrbits_11 : decode cX7_findOrbits 11 = .ok (.getfield 25, 3) := by decide +kernel
theorem dX7_findOrbits_14 : decode cX7_findOrbits 14 = .ok (.iload_n 1, 1) := by decide +kernel
theorem dX7_findOrbits_15 : decode cX7_findOrbits 15 = .ok (.bipush (-9), 2) := by decide +kernel
theorem dX7_findOrbits_17 : decode cX7_findOrbits 17 = .ok (.iastore, 1) := by decide +kernel
theorem dX7_findOrbits_18 : decode cX7_findOrbits 18 = .ok (.iinc 1 1, 3) := by decide +kernel
theorem dX7_findOrbits_21 : decode cX7_findOrbits 21 = .ok (.goto (-19), 3) := by decide +kernel
theorem dX7_findOrbits_24 : decode cX7_findOrbits 24 = .ok (.iconst 0, 1) := by decide +kernel
theorem dX7_findOrbits_25 : decode cX7_findOrbits 25 = .ok (.istore_n 1, 1) := by decide +kernel
theorem dX7_findOrbits_26 : decode cX7_findOrbits 26 = .ok (.iconst 0, 1) := by decide +kernel
theorem dX7_findOrbits_27 : decode cX7_findOrbits 27 = .ok (.istore_n 2, 1) := by decide +kernel
theorem dX7_findOrbits_28 : decode cX7_findOrbits 28 = .ok (.iload_n 2, 1) := by decide +kernel
theorem dX7_findOrbits_29 : decode cX7_findOrbits 29 = .ok (.aload_n 0, 1) := by decide +kernel
theorem dX7_findOrbits_30 : decode cX7_findOrbits 30 = .ok (.getfield 60, 3) := by decide +kernel
theorem dX7_findOrbits_33 : decode cX7_findOrbits 33 = .ok (.if_icmp .ge 52, 3) := by decide +kernel
theorem dX7_findOrbits_36 : decode cX7_findOrbits 36 = .ok (.aload_n 0, 1) := by decide +kernel
theorem dX7_findOrbits_37 : decode cX7_findOrbits 37 = .ok (.getfield 25, 3) := by decide +kernel
theorem dX7_findOrbits_40 : decode cX7_findOrbits 40 = .ok (.iload_n 2, 1) := by decide +kernel
theorem dX7_findOrbits_41 : decode cX7_findOrbits 41 = .ok (.iaload, 1) := by decide +kernel
theorem dX7_findOrbits_42 : decode cX7_findOrbits 42 = .ok (.bipush (-9), 2) := by decide +kernel
theorem dX7_findOrbits_44 : decode cX7_findOrbits 44 = .ok (.if_icmp .ne 35, 3) := by decide +kernel
theorem dX7_findOrbits_47 : decode cX7_findOrbits 47 = .ok (.iload_n 2, 1) := by decide +kernel
theorem dX7_findOrbits_48 : decode cX7_findOrbits 48 = .ok (.istore_n 3, 1) := by decide +kernel
theorem dX7_findOrbits_49 : decode cX7_findOrbits 49 = .ok (.aload_n 0, 1) := by decide +kernel
theorem dX7_findOrbits_50 : decode cX7_findOrbits 50 = .ok (.getfield 25, 3) := by decide +kernel
theorem dX7_findOrbits_53 : decode cX7_findOrbits 53 = .ok (.iload_n 3, 1) := by decide +kernel
theorem dX7_findOrbits_54 : decode cX7_findOrbits 54 = .ok (.iaload, 1) := by decide +kernel
theorem dX7_findOrbits_55 : decode cX7_findOrbits 55 = .ok (.bipush (-9), 2) := by decide +kernel
theorem dX7_findOrbits_57 : decode cX7_findOrbits 57 = .ok (.if_icmp .ne 19, 3) := by decide +kernel
theorem dX7_findOrbits_60 : decode cX7_findOrbits 60 = .ok (.aload_n 0, 1) := by decide +kernel
theorem dX7_findOrbits_61 : decode cX7_findOrbits 61 = .ok (.getfield 25, 3) := by decide +kernel
theorem dX7_findOrbits_64 : decode cX7_findOrbits 64 = .ok (.iload_n 3, 1) := by decide +kernel
theorem dX7_findOrbits_65 : decode cX7_findOrbits 65 = .ok (.iload_n 1, 1) := by decide +kernel
theorem dX7_findOrbits_66 : decode cX7_findOrbits 66 = .ok (.iastore, 1) := by decide +kernel
theorem dX7_findOrbits_67 : decode cX7_findOrbits 67 = .ok (.aload_n 0, 1) := by decide +kernel
theorem dX7_findOrbits_68 : decode cX7_findOrbits 68 = .ok (.iload_n 3, 1) := by decide +kernel
theorem dX7_findOrbits_69 : decode cX7_findOrbits 69 = .ok (.invokevirtual 87, 3) := by decide +kernel
theorem dX7_findOrbits_72 : decode cX7_findOrbits 72 = .ok (.istore_n 3, 1) := by decide +kernel
theorem dX7_findOrbits_73 : decode cX7_findOrbits 73 = .ok (.goto (-24), 3) := by decide +kernel
theorem dX7_findOrbits_76 : decode cX7_findOrbits 76 = .ok (.iinc 1 1, 3) := by decide +kernel
theorem dX7_findOrbits_79 : decode cX7_findOrbits 79 = .ok (.iinc 2 1, 3) := by decide +kernel
theorem dX7_findOrbits_82 : decode cX7_findOrbits 82 = .ok (.goto (-54), 3) := by decide +kernel
theorem dX7_findOrbits_85 : decode cX7_findOrbits 85 = .ok (.iload_n 1, 1) := by decide +kernel
theorem dX7_findOrbits_86 : decode cX7_findOrbits 86 = .ok (.ireturn, 1) := by decide +kernel
theorem dX7_greatestThrow_0 : decode cX7_greatestThrow 0 = .ok (.iconst 0, 1) := by decide +kernel
theorem dX7_greatestThrow_1 : decode cX7_greatestThrow 1 = .ok (.istore_n 1, 1) := by decide +kernel
theorem dX7_greatestThrow_2 : decode cX7_greatestThrow 2 = .ok (.iconst 0, 1) := by decide +kernel
theorem dX7_greatestThrow_3 : decode cX7_greatestThrow 3 = .ok (.istore_n 2, 1) := by decide +kernel
theorem dX7_greatestThrow_4 : decode cX7_greatestThrow 4 = .ok (.iload_n 2, 1) := by decide +kernel
theorem dX7_greatestThrow_5 : decode cX7_greatestThrow 5 = .ok (.aload_n 0, 1) := by decide +kernel
theorem dX7_greatestThrow_6 : decode cX7_greatestThrow 6 = .ok (.getfield 60, 3) := by decide +kernel
theorem dX7_greatestThrow_9 : decode cX7_greatestThrow 9 = .ok (.if_icmp .ge 30, 3) := by decide +kernel
theorem dX7_greatestThrow_12 : decode cX7_greatestThrow 12 = .ok (.aload_n 0, 1) := by decide +kernel
theorem dX7_greatestThrow_13 : decode cX7_greatestThrow 13 = .ok (.getfield 19, 3) := by decide +kernel
theorem dX7_greatestThrow_16 : decode cX7_greatestThrow 16 = .ok (.iload_n 2, 1) := by decide +kernel
theorem dX7_greatestThrow_17 : decode cX7_greatestThrow 17 = .ok (.iaload, 1) := by decide +kernel
theorem dX7_greatestThrow_18 : decode cX7_greatestThrow 18 = .ok (.iload_n 1, 1) := by decide +kernel
theorem dX7_greatestThrow_19 : decode cX7_greatestThrow 19 = .ok (.if_icmp .le 12, 3) := by decide +kernel
theorem dX7_greatestThrow_22 : decode cX7_greatestThrow 22 = .ok (.aload_n 0, 1) := by decide +kernel
theorem dX7_greatestThrow_23 : decode cX7_greatestThrow 23 = .ok (.getfield 19, 3) := by decide +kernel
theorem dX7_greatestThrow_26 : decode cX7_greatestThrow 26 = .ok (.iload_n 2, 1) := by decide +kernel
theorem dX7_greatestThrow_27 : decode cX7_greatestThrow 27 = .ok (.iaload, 1) := by decide +kernel
theorem dX7_greatestThrow_28 : decode cX7_greatestThrow 28 = .ok (.goto 4, 3) := by decide +kernel
theorem dX7_greatestThrow_31 : decode cX7_greatestThrow 31 = .ok (.iload_n 1, 1) := by decide +kernel
theorem dX7_greatestThrow_32 : decode cX7_greatestThrow 32 = .ok (.istore_n 1, 1) := by decide +kernel
theorem dX7_greatestThrow_33 : decode cX7_greatestThrow 33 = .ok (.iinc 2 1, 3) := by decide +kernel
theorem dX7_greatestThrow_36 : decode cX7_greatestThrow 36 = .ok (.goto (-32), 3) := by decide +kernel
theorem dX7_greatestThrow_39 : decode cX7_greatestThrow 39 = .ok (.iload_n 1, 1) := by decide +kernel
theorem dX7_greatestThrow_40 : decode cX7_greatestThrow 40 = .ok (.ireturn, 1) := by decide +kernel
theorem dX7_good_0 : decode cX7_good 0 = .ok (.iload_n 1, 1) := by decide +kernel
theorem dX7_good_1 : decode cX7_good 1 = .ok (.iconst 0, 1) := by decide +kernel
theorem dX7_good_2 : decode cX7_good 2 = .ok (.iconst 4, 1) := by decide +kernel
theorem dX7_good_3 : decode cX7_good 3 = .ok (.invokestatic 56, 3) := by decide +kernel
theorem dX7_good_6 : decode cX7_good 6 = .ok (.ifCond .ne 6, 3) := by decide +kernel
theorem dX7_good_9 : decode cX7_good 9 = .ok (.bipush (-2), 2) := by decide +kernel
theorem dX7_good_11 : decode cX7_good 11 = .ok (.ireturn, 1) := by decide +kernel
theorem dX7_good_12 : decode cX7_good 12 = .ok (.aload_n 0, 1) := by decide +kernel
theorem dX7_good_13 : decode cX7_good 13 = .ok (.invokevirtual 100, 3) := by decide +kernel
theorem dX7_good_16 : decode cX7_good 16 = .ok (.ifCond .ne 6, 3) := by decide +kernel
theorem dX7_good_19 : decode cX7_good 19 = .ok (.bipush (-3), 2) := by decide +kernel
theorem dX7_good_21 : decode cX7_good 21 = .ok (.ireturn, 1) := by decide +kernel
theorem dX7_good_22 : decode cX7_good 22 = .ok (.iload_n 1, 1) := by decide +kernel
theorem dX7_good_23 : decode cX7_good 23 = .ok (.tableswitch 65 0 3 #[29, 34, 39, 52], 29) := by decide +kernel
theorem dX7_good_52 : decode cX7_good 52 = .ok (.aload_n 0, 1) := by decide +kernel
theorem dX7_good_53 : decode cX7_good 53 = .ok (.invokevirtual 97, 3) := by decide +kernel
theorem dX7_good_56 : decode cX7_good 56 = .ok (.ireturn, 1) := by decide +kernel
theorem dX7_good_57 : decode cX7_good 57 = .ok (.aload_n 0, 1) := by decide +kernel
theorem dX7_good_58 : decode cX7_good 58 = .ok (.invokevirtual 104, 3) := by decide +kernel
theorem dX7_good_61 : decode cX7_good 61 = .ok (.ireturn, 1) := by decide +kernel
theorem dX7_good_62 : decode cX7_good 62 = .ok (.aload_n 0, 1) := by decide +kernel
theorem dX7_good_63 : decode cX7_good 63 = .ok (.invokevirtual 107, 3) := by decide +kernel
theorem dX7_good_66 : decode cX7_good 66 = .ok (.ifCond .eq 7, 3) := by decide +kernel
theorem dX7_good_69 : decode cX7_good 69 = .ok (.iconst 1, 1) := by decide +kernel
theorem dX7_good_70 : decode cX7_good 70 = .ok (.goto 4, 3) := by decide +kernel
theorem dX7_good_73 : decode cX7_good 73 = .ok (.iconst 0, 1) := by decide +kernel
theorem dX7_good_74 : decode cX7_good 74 = .ok (.ireturn, 1) := by decide +kernel
theorem dX7_good_75 : decode cX7_good 75 = .ok (.aload_n 0, 1) := by decide +kernel
theorem dX7_good_76 : decode cX7_good 76 = .ok (.invokevirtual 110, 3) := by decide +kernel
theorem dX7_good_79 : decode cX7_good 79 = .ok (.ifCond .eq 7, 3) := by decide +kernel
theorem dX7_good_82 : decode cX7_good 82 = .ok (.iconst 1, 1) := by decide +kernel
theorem dX7_good_83 : decode cX7_good 83 = .ok (.goto 4, 3) := by decide +kernel
theorem dX7_good_86 : decode cX7_good 86 = .ok (.iconst 0, 1) := by decide +kernel
theorem dX7_good_87 : decode cX7_good 87 = .ok (.ireturn, 1) := by decide +kernel
theorem dX7_good_88 : decode cX7_good 88 = .ok (.aload_n 0, 1) := by decide +kernel
theorem dX7_good_89 : decode cX7_good 89 = .ok (.invokevirtual 113, 3) := by decide +kernel
theorem dX7_good_92 : decode cX7_good 92 = .ok (.ireturn, 1) := by decide +kernel
theorem dX7_state_0 : decode cX7_state 0 = .ok (.aload_n 0, 1) := by decide +kernel
theorem dX7_state_1 : decode cX7_state 1 = .ok (.iload_n 1, 1) := by decide +kernel
theorem dX7_state_2 : decode cX7_state 2 = .ok (.invokevirtual 84, 3) := by decide +kernel
theorem dX7_state_5 : decode cX7_state 5 = .ok (.ifCond .ne 5, 3) := by decide +kernel
theorem dX7_state_8 : decode cX7_state 8 = .ok (.iconst (-1), 1) := by decide +kernel
theorem dX7_state_9 : decode cX7_state 9 = .ok (.ireturn, 1) := by decide +kernel
theorem dX7_state_10 : decode cX7_state 10 = .ok (.aload_n 0, 1) := by decide +kernel
theorem dX7_state_11 : decode cX7_state 11 = .ok (.invokevirtual 100, 3) := by decide +kernel
theorem dX7_state_14 : decode cX7_state 14 = .ok (.ifCond .eq 11, 3) := by decide +kernel
theorem dX7_state_17 : decode cX7_state 17 = .ok (.aload_n 0, 1) := by decide +kernel
theorem dX7_state_18 : decode cX7_state 18 = .ok (.iload_n 1, 1) := by decide +kernel
theorem dX7_state_19 : decode cX7_state 19 = .ok (.invokevirtual 94, 3) := by decide +kernel
theorem dX7_state_22 : decode cX7_state 22 = .ok (.goto 5, 3) := by decide +kernel
theorem dX7_state_25 : decode cX7_state 25 = .ok (.bipush (-3), 2) := by decide +kernel
theorem dX7_state_27 : decode cX7_state 27 = .ok (.ireturn, 1) := by decide +kernel
theorem dX7_layBalls_0 : decode cX7_layBalls 0 = .ok (.iconst 0, 1) := by decide +kernel
theorem dX7_layBalls_1 : decode cX7_layBalls 1 = .ok (.istore_n 1, 1) := by decide +kernel
theorem dX7_layBalls_2 : decode cX7_layBalls 2 = .ok (.iload_n 1, 1) := by decide +kernel
theorem dX7_layBalls_3 : decode cX7_layBalls 3 = .ok (.sipush 1010, 3) := by decide +kernel
theorem dX7_layBalls_6 : decode cX7_layBalls 6 = .ok (.if_icmp .ge 17, 3) := by decide +kernel
theorem dX7_layBalls_9 : decode cX7_layBalls 9 = .ok (.aload_n 0, 1) := by decide +kernel
theorem dX7_layBalls_10 : decode cX7_layBalls 10 = .ok (.getfield 28, 3) := by decide +kernel
theorem dX7_layBalls_13 : decode cX7_layBalls 13 = .ok (.iload_n 1, 1) := by decide +kernel
theorem dX7_layBalls_14 : decode cX7_layBalls 14 = .ok (.bipush (-9), 2) := by decide +kernel
theorem dX7_layBalls_16 : decode cX7_layBalls 16 = .ok (.iastore, 1) := by decide +kernel
theorem dX7_layBalls_17 : decode cX7_layBalls 17 = .ok (.iinc 1 1, 3) := by decide +kernel
theorem dX7_layBalls_20 : decode cX7_layBalls 20 = .ok (.goto (-18), 3) := by decide +kernel
theorem dX7_layBalls_23 : decode cX7_layBalls 23 = .ok (.iconst 0, 1) := by decide +kernel
theorem dX7_layBalls_24 : decode cX7_layBalls 24 = .ok (.istore_n 1, 1) := by decide +kernel
theorem dX7_layBalls_25 : decode cX7_layBalls 25 = .ok (.iconst 0, 1) := by decide +kernel
theorem dX7_layBalls_26 : decode cX7_layBalls 26 = .ok (.istore_n 2, 1) := by decide +kernel
theorem dX7_layBalls_27 : decode cX7_layBalls 27 = .ok (.iload_n 2, 1) := by decide +kernel
theorem dX7_layBalls_28 : decode cX7_layBalls 28 = .ok (.sipush 999, 3) := by decide +kernel
theorem dX7_layBalls_31 : decode cX7_layBalls 31 = .ok (.if_icmp .gt 60, 3) := by decide +kernel
theorem dX7_layBalls_34 : decode cX7_layBalls 34 = .ok (.aload_n 0, 1) := by decide +kernel
theorem dX7_layBalls_35 : decode cX7_layBalls 35 = .ok (.getfield 19, 3) := by decide +kernel
theorem dX7_layBalls_38 : decode cX7_layBalls 38 = .ok (.iload_n 2, 1) := by decide +kernel
theorem dX7_layBalls_39 : decode cX7_layBalls 39 = .ok (.aload_n 0, 1) := by decide +kernel
theorem dX7_layBalls_40 : decode cX7_layBalls 40 = .ok (.getfield 60, 3) := by decide +kernel
theorem dX7_layBalls_43 : decode cX7_layBalls 43 = .ok (.irem, 1) := by decide +kernel
theorem dX7_layBalls_44 : decode cX7_layBalls 44 = .ok (.iaload, 1) := by decide +kernel
theorem dX7_layBalls_45 : decode cX7_layBalls 45 = .ok (.istore_n 3, 1) := by decide +kernel
theorem dX7_layBalls_46 : decode cX7_layBalls 46 = .ok (.iload_n 3, 1) := by decide +kernel
theorem dX7_layBalls_47 : decode cX7_layBalls 47 = .ok (.ifCond .le 38, 3) := by decide +kernel
theorem dX7_layBalls_50 : decode cX7_layBalls 50 = .ok (.aload_n 0, 1) := by decide +kernel
theorem dX7_layBalls_51 : decode cX7_layBalls 51 = .ok (.getfield 28, 3) := by decide +kernel
theorem dX7_layBalls_54 : decode cX7_layBalls 54 = .ok (.iload_n 2, 1) := by decide +kernel
theorem dX7_layBalls_55 : decode cX7_layBalls 55 = .ok (.iaload, 1) := by decide +kernel
theorem dX7_layBalls_56 : decode cX7_layBalls 56 = .ok (.bipush (-9), 2) := by decide +kernel
theorem dX7_layBalls_58 : decode cX7_layBalls 58 = .ok (.if_icmp .ne 13, 3) := by decide +kernel
theorem dX7_layBalls_61 : decode cX7_layBalls 61 = .ok (.aload_n 0, 1) := by decide +kernel
theorem dX7_layBalls_62 : decode cX7_layBalls 62 = .ok (.getfield 28, 3) := by decide +kernel
theorem dX7_layBalls_65 : decode cX7_layBalls 65 = .ok (.iload_n 2, 1) := by decide +kernel
theorem dX7_layBalls_66 : decode cX7_layBalls 66 = .ok (.iload_n 1, 1) := by decide +kernel
theorem dX7_layBalls_67 : decode cX7_layBalls 67 = .ok (.iastore, 1) := by decide +kernel
theorem dX7_layBalls_68 : decode cX7_layBalls 68 = .ok (.iinc 1 1, 3) := by decide +kernel
theorem dX7_layBalls_71 : decode cX7_layBalls 71 = .ok (.aload_n 0, 1) := by decide +kernel
theorem dX7_layBalls_72 : decode cX7_layBalls 72 = .ok (.getfield 28, 3) := by decide +kernel
theorem dX7_layBalls_75 : decode cX7_layBalls 75 = .ok (.iload_n 2, 1) := by decide +kernel
theorem dX7_layBalls_76 : decode cX7_layBalls 76 = .ok (.iload_n 3, 1) := by decide +kernel
theorem dX7_layBalls_77 : decode cX7_layBalls 77 = .ok (.iadd, 1) := by decide +kernel
theorem dX7_layBalls_78 : decode cX7_layBalls 78 = .ok (.aload_n 0, 1) := by decide +kernel
theorem dX7_layBalls_79 : decode cX7_layBalls 79 = .ok (.getfield 28, 3) := by decide +kernel
theorem dX7_layBalls_82 : decode cX7_layBalls 82 = .ok (.iload_n 2, 1) := by decide +kernel
theorem dX7_layBalls_83 : decode cX7_layBalls 83 = .ok (.iaload, 1) := by decide +kernel
theorem dX7_layBalls_84 : decode cX7_layBalls 84 = .ok (.iastore, 1) := by decide +kernel
theorem dX7_layBalls_85 : decode cX7_layBalls 85 = .ok (.iinc 2 1, 3) := by decide +kernel
theorem dX7_layBalls_88 : decode cX7_layBalls 88 = .ok (.goto (-61), 3) := by decide +kernel
theorem dX7_layBalls_91 : decode cX7_layBalls 91 = .ok (.return_, 1) := by decide +kernel
theorem dX7_ball_0 : decode cX7_ball 0 = .ok (.iload_n 1, 1) := by decide +kernel
theorem dX7_ball_1 : decode cX7_ball 1 = .ok (.iconst 0, 1) := by decide +kernel
theorem dX7_ball_2 : decode cX7_ball 2 = .ok (.sipush 999, 3) := by decide +kernel
theorem dX7_ball_5 : decode cX7_ball 5 = .ok (.invokestatic 56, 3) := by decide +kernel
theorem dX7_ball_8 : decode cX7_ball 8 = .ok (.ifCond .ne 6, 3) := by decide +kernel
theorem dX7_ball_11 : decode cX7_ball 11 = .ok (.bipush (-2), 2) := by decide +kernel
theorem dX7_ball_13 : decode cX7_ball 13 = .ok (.ireturn, 1) := by decide +kernel
theorem dX7_ball_14 : decode cX7_ball 14 = .ok (.aload_n 0, 1) := by decide +kernel
theorem dX7_ball_15 : decode cX7_ball 15 = .ok (.invokevirtual 100, 3) := by decide +kernel
theorem dX7_ball_18 : decode cX7_ball 18 = .ok (.ifCond .ne 6, 3) := by decide +kernel
theorem dX7_ball_21 : decode cX7_ball 21 = .ok (.bipush (-3), 2) := by decide +kernel
theorem dX7_ball_23 : decode cX7_ball 23 = .ok (.ireturn, 1) := by decide +kernel
theorem dX7_ball_24 : decode cX7_ball 24 = .ok (.aload_n 0, 1) := by decide +kernel
theorem dX7_ball_25 : decode cX7_ball 25 = .ok (.invokevirtual 116, 3) := by decide +kernel
theorem dX7_ball_28 : decode cX7_ball 28 = .ok (.aload_n 0, 1) := by decide +kernel
theorem dX7_ball_29 : decode cX7_ball 29 = .ok (.getfield 28, 3) := by decide +kernel
theorem dX7_ball_32 : decode cX7_ball 32 = .ok (.iload_n 1, 1) := by decide +kernel
theorem dX7_ball_33 : decode cX7_ball 33 = .ok (.iaload, 1) := by decide +kernel
theorem dX7_ball_34 : decode cX7_ball 34 = .ok (.ireturn, 1) := by decide +kernel
theorem dX7_orbit_0 : decode cX7_orbit 0 = .ok (.aload_n 0, 1) := by decide +kernel
theorem dX7_orbit_1 : decode cX7_orbit 1 = .ok (.iload_n 1, 1) := by decide +kernel
theorem dX7_orbit_2 : decode cX7_orbit 2 = .ok (.invokevirtual 84, 3) := by decide +kernel
theorem dX7_orbit_5 : decode cX7_orbit 5 = .ok (.ifCond .ne 5, 3) := by decide +kernel
theorem dX7_orbit_8 : decode cX7_orbit 8 = .ok (.iconst (-1), 1) := by decide +kernel
theorem dX7_orbit_9 : decode cX7_orbit 9 = .ok (.ireturn, 1) := by decide +kernel
theorem dX7_orbit_10 : decode cX7_orbit 10 = .ok (.aload_n 0, 1) := by decide +kernel
theorem dX7_orbit_11 : decode cX7_orbit 11 = .ok (.invokevirtual 100, 3) := by decide +kernel
theorem dX7_orbit_14 : decode cX7_orbit 14 = .ok (.ifCond .ne 6, 3) := by decide +kernel
theorem dX7_orbit_17 : decode cX7_orbit 17 = .ok (.bipush (-3), 2) := by decide +kernel
theorem dX7_orbit_19 : decode cX7_orbit 19 = .ok (.ireturn, 1) := by decide +kernel
theorem dX7_orbit_20 : decode cX7_orbit 20 = .ok (.aload_n 0, 1) := by decide +kernel
theorem dX7_orbit_21 : decode cX7_orbit 21 = .ok (.invokevirtual 113, 3) := by decide +kernel
theorem dX7_orbit_24 : decode cX7_orbit 24 = .ok (.pop, 1) := by decide +kernel
theorem dX7_orbit_25 : decode cX7_orbit 25 = .ok (.aload_n 0, 1) := by decide +kernel
theorem dX7_orbit_26 : decode cX7_orbit 26 = .ok (.getfield 25, 3) := by decide +kernel
theorem dX7_orbit_29 : decode cX7_orbit 29 = .ok (.iload_n 1, 1) := by decide +kernel
theorem dX7_orbit_30 : decode cX7_orbit 30 = .ok (.iaload, 1) := by decide +kernel
theorem dX7_orbit_31 : decode cX7_orbit 31 = .ok (.ireturn, 1) := by decide +kernel
theorem dX7_hands_0 : decode cX7_hands 0 = .ok (.iload_n 1, 1) := by decide +kernel
theorem dX7_hands_1 : decode cX7_hands 1 = .ok (.iconst 1, 1) := by decide +kernel
theorem dX7_hands_2 : decode cX7_hands 2 = .ok (.iconst 4, 1) := by decide +kernel
theorem dX7_hands_3 : decode cX7_hands 3 = .ok (.invokestatic 56, 3) := by decide +kernel
theorem dX7_hands_6 : decode cX7_hands 6 = .ok (.ifCond .ne 6, 3) := by decide +kernel
theorem dX7_hands_9 : decode cX7_hands 9 = .ok (.bipush (-2), 2) := by decide +kernel
theorem dX7_hands_11 : decode cX7_hands 11 = .ok (.ireturn, 1) := by decide +kernel
theorem dX7_hands_12 : decode cX7_hands 12 = .ok (.aload_n 0, 1) := by decide +kernel
theorem dX7_hands_13 : decode cX7_hands 13 = .ok (.getfield 60, 3) := by decide +kernel
theorem dX7_hands_16 : decode cX7_hands 16 = .ok (.ifCond .ne 6, 3) := by decide +kernel
theorem dX7_hands_19 : decode cX7_hands 19 = .ok (.bipush (-3), 2) := by decide +kernel
theorem dX7_hands_21 : decode cX7_hands 21 = .ok (.ireturn, 1) := by decide +kernel
theorem dX7_hands_22 : decode cX7_hands 22 = .ok (.aload_n 0, 1) := by decide +kernel
theorem dX7_hands_23 : decode cX7_hands 23 = .ok (.getfield 78, 3) := by decide +kernel
theorem dX7_hands_26 : decode cX7_hands 26 = .ok (.istore_n 2, 1) := by decide +kernel
theorem dX7_hands_27 : decode cX7_hands 27 = .ok (.aload_n 0, 1) := by decide +kernel
theorem dX7_hands_28 : decode cX7_hands 28 = .ok (.iload_n 1, 1) := by decide +kernel
theorem dX7_hands_29 : decode cX7_hands 29 = .ok (.putfield 78, 3) := by decide +kernel
theorem dX7_hands_32 : decode cX7_hands 32 = .ok (.iload_n 2, 1) := by decide +kernel
theorem dX7_hands_33 : decode cX7_hands 33 = .ok (.ireturn, 1) := by decide +kernel
theorem dX7_size_0 : decode cX7_size 0 = .ok (.iconst 0, 1) := by decide +kernel
theorem dX7_size_1 : decode cX7_size 1 = .ok (.istore_n 1, 1) := by decide +kernel
theorem dX7_size_2 : decode cX7_size 2 = .ok (.iload_n 0, 1) := by decide +kernel
theorem dX7_size_3 : decode cX7_size 3 = .ok (.istore_n 2, 1) := by decide +kernel
theorem dX7_size_4 : decode cX7_size 4 = .ok (.iload_n 2, 1) := by decide +kernel
theorem dX7_size_5 : decode cX7_size 5 = .ok (.ifCond .le 16, 3) := by decide +kernel
theorem dX7_size_8 : decode cX7_size 8 = .ok (.iload_n 1, 1) := by decide +kernel
theorem dX7_size_9 : decode cX7_size 9 = .ok (.iload_n 2, 1) := by decide +kernel
theorem dX7_size_10 : decode cX7_size 10 = .ok (.iconst 1, 1) := by decide +kernel
theorem dX7_size_11 : decode cX7_size 11 = .ok (.iand, 1) := by decide +kernel
theorem dX7_size_12 : decode cX7_size 12 = .ok (.iadd, 1) := by decide +kernel
theorem dX7_size_13 : decode cX7_size 13 = .ok (.istore_n 1, 1) := by decide +kernel
theorem dX7_size_14 : decode cX7_size 14 = .ok (.iload_n 2, 1) := by decide +kernel
theorem dX7_size_15 : decode cX7_size 15 = .ok (.iconst 1, 1) := by decide +kernel
theorem dX7_size_16 : decode cX7_size 16 = .ok (.ishr, 1) := by decide +kernel
theorem dX7_size_17 : decode cX7_size 17 = .ok (.istore_n 2, 1) := by decide +kernel
theorem dX7_size_18 : decode cX7_size 18 = .ok (.goto (-14), 3) := by decide +kernel
theorem dX7_size_21 : decode cX7_size 21 = .ok (.iload_n 1, 1) := by decide +kernel
theorem dX7_size_22 : decode cX7_size 22 = .ok (.ireturn, 1) := by decide +kernel
theorem dX7_beat_0 : decode cX7_beat 0 = .ok (.iload_n 1, 1) := by decide +kernel
theorem dX7_beat_1 : decode cX7_beat 1 = .ok (.iconst 0, 1) := by decide +kernel
theorem dX7_beat_2 : decode cX7_beat 2 = .ok (.sipush 999, 3) := by decide +kernel
theorem dX7_beat_5 : decode cX7_beat 5 = .ok (.invokestatic 56, 3) := by decide +kernel
theorem dX7_beat_8 : decode cX7_beat 8 = .ok (.ifCond .eq 12, 3) := by decide +kernel
theorem dX7_beat_11 : decode cX7_beat 11 = .ok (.iload_n 2, 1) := by decide +kernel
theorem dX7_beat_12 : decode cX7_beat 12 = .ok (.iconst 0, 1) := by decide +kernel
theorem dX7_beat_13 : decode cX7_beat 13 = .ok (.iconst 2, 1) := by decide +kernel
theorem dX7_beat_14 : decode cX7_beat 14 = .ok (.invokestatic 56, 3) := by decide +kernel
theorem dX7_beat_17 : decode cX7_beat 17 = .ok (.ifCond .ne 6, 3) := by decide +kernel
theorem dX7_beat_20 : decode cX7_beat 20 = .ok (.bipush (-2), 2) := by decide +kernel
theorem dX7_beat_22 : decode cX7_beat 22 = .ok (.ireturn, 1) := by decide +kernel
theorem dX7_beat_23 : decode cX7_beat 23 = .ok (.aload_n 0, 1) := by decide +kernel
theorem dX7_beat_24 : decode cX7_beat 24 = .ok (.invokevirtual 100, 3) := by decide +kernel
theorem dX7_beat_27 : decode cX7_beat 27 = .ok (.ifCond .ne 6, 3) := by decide +kernel
theorem dX7_beat_30 : decode cX7_beat 30 = .ok (.bipush (-3), 2) := by decide +kernel
theorem dX7_beat_32 : decode cX7_beat 32 = .ok (.ireturn, 1) := by decide +kernel
theorem dX7_beat_33 : decode cX7_beat 33 = .ok (.aload_n 0, 1) := by decide +kernel
theorem dX7_beat_34 : decode cX7_beat 34 = .ok (.getfield 19, 3) := by decide +kernel
theorem dX7_beat_37 : decode cX7_beat 37 = .ok (.iload_n 1, 1) := by decide +kernel
theorem dX7_beat_38 : decode cX7_beat 38 = .ok (.aload_n 0, 1) := by decide +kernel
theorem dX7_beat_39 : decode cX7_beat 39 = .ok (.getfield 60, 3) := by decide +kernel
theorem dX7_beat_42 : decode cX7_beat 42 = .ok (.irem, 1) := by decide +kernel
theorem dX7_beat_43 : decode cX7_beat 43 = .ok (.iaload, 1) := by decide +kernel
theorem dX7_beat_44 : decode cX7_beat 44 = .ok (.istore_n 3, 1) := by decide +kernel
theorem dX7_beat_45 : decode cX7_beat 45 = .ok (.iload_n 2, 1) := by decide +kernel
theorem dX7_beat_46 : decode cX7_beat 46 = .ok (.ifCond .ne 10, 3) := by decide +kernel
theorem dX7_beat_49 : decode cX7_beat 49 = .ok (.iload_n 1, 1) := by decide +kernel
theorem dX7_beat_50 : decode cX7_beat 50 = .ok (.aload_n 0, 1) := by decide +kernel
theorem dX7_beat_51 : decode cX7_beat 51 = .ok (.getfield 78, 3) := by decide +kernel
theorem dX7_beat_54 : decode cX7_beat 54 = .ok (.irem, 1) := by decide +kernel
theorem dX7_beat_55 : decode cX7_beat 55 = .ok (.ireturn, 1) := by decide +kernel
theorem dX7_beat_56 : decode cX7_beat 56 = .ok (.iload_n 2, 1) := by decide +kernel
theorem dX7_beat_57 : decode cX7_beat 57 = .ok (.iconst 1, 1) := by decide +kernel
theorem dX7_beat_58 : decode cX7_beat 58 = .ok (.if_icmp .ne 23, 3) := by decide +kernel
theorem dX7_beat_61 : decode cX7_beat 61 = .ok (.iload_n 3, 1) := by decide +kernel
theorem dX7_beat_62 : decode cX7_beat 62 = .ok (.ifCond .ne 8, 3) := by decide +kernel
theorem dX7_beat_65 : decode cX7_beat 65 = .ok (.bipush (-9), 2) := by decide +kernel
theorem dX7_beat_67 : decode cX7_beat 67 = .ok (.goto 29, 3) := by decide +kernel
theorem dX7_beat_70 : decode cX7_beat 70 = .ok (.iload_n 1, 1) := by decide +kernel
theorem dX7_beat_71 : decode cX7_beat 71 = .ok (.iload_n 3, 1) := by decide +kernel
theorem dX7_beat_72 : decode cX7_beat 72 = .ok (.iadd, 1) := by decide +kernel
theorem dX7_beat_73 : decode cX7_beat 73 = .ok (.aload_n 0, 1) := by decide +kernel
theorem dX7_beat_74 : decode cX7_beat 74 = .ok (.getfield 78, 3) := by decide +kernel
theorem dX7_beat_77 : decode cX7_beat 77 = .ok (.irem, 1) := by decide +kernel
theorem dX7_beat_78 : decode cX7_beat 78 = .ok (.goto 18, 3) := by decide +kernel
theorem dX7_beat_81 : decode cX7_beat 81 = .ok (.aload_n 0, 1) := by decide +kernel
theorem dX7_beat_82 : decode cX7_beat 82 = .ok (.iload_n 1, 1) := by decide +kernel
theorem dX7_beat_83 : decode cX7_beat 83 = .ok (.aload_n 0, 1) := by decide +kernel
theorem dX7_beat_84 : decode cX7_beat 84 = .ok (.getfield 60, 3) := by decide +kernel
theorem dX7_beat_87 : decode cX7_beat 87 = .ok (.irem, 1) := by decide +kernel
theorem dX7_beat_88 : decode cX7_beat 88 = .ok (.invokevirtual 94, 3) := by decide +kernel
theorem dX7_beat_91 : decode cX7_beat 91 = .ok (.iconst 1, 1) := by decide +kernel
theorem dX7_beat_92 : decode cX7_beat 92 = .ok (.ishr, 1) := by decide +kernel
theorem dX7_beat_93 : decode cX7_beat 93 = .ok (.invokestatic 119, 3) := by decide +kernel
theorem dX7_beat_96 : decode cX7_beat 96 = .ok (.ireturn, 1) := by decide +kernel
theorem dX7_swap_0 : decode cX7_swap 0 = .ok (.aload_n 0, 1) := by decide +kernel
theorem dX7_swap_1 : decode cX7_swap 1 = .ok (.iload_n 1, 1) := by decide +kernel
theorem dX7_swap_2 : decode cX7_swap 2 = .ok (.invokevirtual 84, 3) := by decide +kernel
theorem dX7_swap_5 : decode cX7_swap 5 = .ok (.ifCond .eq 16, 3) := by decide +kernel
theorem dX7_swap_8 : decode cX7_swap 8 = .ok (.aload_n 0, 1) := by decide +kernel
theorem dX7_swap_9 : decode cX7_swap 9 = .ok (.iload_n 2, 1) := by decide +kernel
theorem dX7_swap_10 : decode cX7_swap 10 = .ok (.invokevirtual 84, 3) := by decide +kernel
theorem dX7_swap_13 : decode cX7_swap 13 = .ok (.ifCond .eq 8, 3) := by decide +kernel
theorem dX7_swap_16 : decode cX7_swap 16 = .ok (.iload_n 2, 1) := by decide +kernel
theorem dX7_swap_17 : decode cX7_swap 17 = .ok (.iload_n 1, 1) := by decide +kernel
theorem dX7_swap_18 : decode cX7_swap 18 = .ok (.if_icmp .gt 5, 3) := by decide +kernel
theorem dX7_swap_21 : decode cX7_swap 21 = .ok (.iconst (-1), 1) := by decide +kernel
theorem dX7_swap_22 : decode cX7_swap 22 = .ok (.ireturn, 1) := by decide +kernel
theorem dX7_swap_23 : decode cX7_swap 23 = .ok (.aload_n 0, 1) := by decide +kernel
theorem dX7_swap_24 : decode cX7_swap 24 = .ok (.getfield 19, 3) := by decide +kernel
theorem dX7_swap_27 : decode cX7_swap 27 = .ok (.iload_n 2, 1) := by decide +kernel
theorem dX7_swap_28 : decode cX7_swap 28 = .ok (.iaload, 1) := by decide +kernel
theorem dX7_swap_29 : decode cX7_swap 29 = .ok (.iload_n 2, 1) := by decide +kernel
theorem dX7_swap_30 : decode cX7_swap 30 = .ok (.iadd, 1) := by decide +kernel
theorem dX7_swap_31 : decode cX7_swap 31 = .ok (.iload_n 1, 1) := by decide +kernel
theorem dX7_swap_32 : decode cX7_swap 32 = .ok (.isub, 1) := by decide +kernel
theorem dX7_swap_33 : decode cX7_swap 33 = .ok (.istore_n 3, 1) := by decide +kernel
theorem dX7_swap_34 : decode cX7_swap 34 = .ok (.aload_n 0, 1) := by decide +kernel
theorem dX7_swap_35 : decode cX7_swap 35 = .ok (.getfield 19, 3) := by decide +kernel
theorem dX7_swap_38 : decode cX7_swap 38 = .ok (.iload_n 1, 1) := by decide +kernel
theorem dX7_swap_39 : decode cX7_swap 39 = .ok (.iaload, 1) := by decide +kernel
theorem dX7_swap_40 : decode cX7_swap 40 = .ok (.iload_n 2, 1) := by decide +kernel
theorem dX7_swap_41 : decode cX7_swap 41 = .ok (.isub, 1) := by decide +kernel
theorem dX7_swap_42 : decode cX7_swap 42 = .ok (.iload_n 1, 1) := by decide +kernel
theorem dX7_swap_43 : decode cX7_swap 43 = .ok (.iadd, 1) := by decide +kernel
theorem dX7_swap_44 : decode cX7_swap 44 = .ok (.istore 4, 2) := by decide +kernel
theorem dX7_swap_46 : decode cX7_swap 46 = .ok (.iload 4, 2) := by decide +kernel
theorem dX7_swap_48 : decode cX7_swap 48 = .ok (.ifCond .ge 6, 3) := by decide +kernel
theorem dX7_swap_51 : decode cX7_swap 51 = .ok (.bipush (-3), 2) := by decide +kernel
theorem dX7_swap_53 : decode cX7_swap 53 = .ok (.ireturn, 1) := by decide +kernel
theorem dX7_swap_54 : decode cX7_swap 54 = .ok (.iload_n 3, 1) := by decide +kernel
theorem dX7_swap_55 : decode cX7_swap 55 = .ok (.bipush 9, 2) := by decide +kernel
theorem dX7_swap_57 : decode cX7_swap 57 = .ok (.if_icmp .le 6, 3) := by decide +kernel
theorem dX7_swap_60 : decode cX7_swap 60 = .ok (.bipush (-4), 2) := by decide +kernel
theorem dX7_swap_62 : decode cX7_swap 62 = .ok (.ireturn, 1) := by decide +kernel
theorem dX7_swap_63 : decode cX7_swap 63 = .ok (.aload_n 0, 1) := by decide +kernel
theorem dX7_swap_64 : decode cX7_swap 64 = .ok (.getfield 19, 3) := by decide +kernel
theorem dX7_swap_67 : decode cX7_swap 67 = .ok (.iload_n 1, 1) := by decide +kernel
theorem dX7_swap_68 : decode cX7_swap 68 = .ok (.iload_n 3, 1) := by decide +kernel
theorem dX7_swap_69 : decode cX7_swap 69 = .ok (.iastore, 1) := by decide +kernel
theorem dX7_swap_70 : decode cX7_swap 70 = .ok (.aload_n 0, 1) := by decide +kernel
theorem dX7_swap_71 : decode cX7_swap 71 = .ok (.getfield 19, 3) := by decide +kernel
theorem dX7_swap_74 : decode cX7_swap 74 = .ok (.iload_n 2, 1) := by decide +kernel
theorem dX7_swap_75 : decode cX7_swap 75 = .ok (.iload 4, 2) := by decide +kernel
theorem dX7_swap_77 : decode cX7_swap 77 = .ok (.iastore, 1) := by decide +kernel
theorem dX7_swap_78 : decode cX7_swap 78 = .ok (.iconst 1, 1) := by decide +kernel
theorem dX7_swap_79 : decode cX7_swap 79 = .ok (.ireturn, 1) := by decide +kernel
theorem dX7_takeNext_0 : decode cX7_takeNext 0 = .ok (.iconst 0, 1) := by decide +kernel
theorem dX7_takeNext_1 : decode cX7_takeNext 1 = .ok (.istore_n 1, 1) := by decide +kernel
theorem dX7_takeNext_2 : decode cX7_takeNext 2 = .ok (.iload_n 1, 1) := by decide +kernel
theorem dX7_takeNext_3 : decode cX7_takeNext 3 = .ok (.aload_n 0, 1) := by decide +kernel
theorem dX7_takeNext_4 : decode cX7_takeNext 4 = .ok (.getfield 60, 3) := by decide +kernel
theorem dX7_takeNext_7 : decode cX7_takeNext 7 = .ok (.if_icmp .ge 21, 3) := by decide +kernel
theorem dX7_takeNext_10 : decode cX7_takeNext 10 = .ok (.aload_n 0, 1) := by decide +kernel
theorem dX7_takeNext_11 : decode cX7_takeNext 11 = .ok (.getfield 19, 3) := by decide +kernel
theorem dX7_takeNext_14 : decode cX7_takeNext 14 = .ok (.iload_n 1, 1) := by decide +kernel
theorem dX7_takeNext_15 : decode cX7_takeNext 15 = .ok (.aload_n 0, 1) := by decide +kernel
theorem dX7_takeNext_16 : decode cX7_takeNext 16 = .ok (.getfield 31, 3) := by decide +kernel
theorem dX7_takeNext_19 : decode cX7_takeNext 19 = .ok (.iload_n 1, 1) := by decide +kernel
theorem dX7_takeNext_20 : decode cX7_takeNext 20 = .ok (.iaload, 1) := by decide +kernel
theorem dX7_takeNext_21 : decode cX7_takeNext 21 = .ok (.iastore, 1) := by decide +kernel
theorem dX7_takeNext_22 : decode cX7_takeNext 22 = .ok (.iinc 1 1, 3) := by decide +kernel
theorem dX7_takeNext_25 : decode cX7_takeNext 25 = .ok (.goto (-23), 3) := by decide +kernel
theorem dX7_takeNext_28 : decode cX7_takeNext 28 = .ok (.return_, 1) := by decide +kernel
theorem dX7_turn_0 : decode cX7_turn 0 = .ok (.iload_n 1, 1) := by decide +kernel
theorem dX7_turn_1 : decode cX7_turn 1 = .ok (.iconst 0, 1) := by decide +kernel
theorem dX7_turn_2 : decode cX7_turn 2 = .ok (.bipush 7, 2) := by decide +kernel
theorem dX7_turn_4 : decode cX7_turn 4 = .ok (.invokestatic 56, 3) := by decide +kernel
theorem dX7_turn_7 : decode cX7_turn 7 = .ok (.ifCond .ne 6, 3) := by decide +kernel
theorem dX7_turn_10 : decode cX7_turn 10 = .ok (.bipush (-2), 2) := by decide +kernel
theorem dX7_turn_12 : decode cX7_turn 12 = .ok (.ireturn, 1) := by decide +kernel
theorem dX7_turn_13 : decode cX7_turn 13 = .ok (.aload_n 0, 1) := by decide +kernel
theorem dX7_turn_14 : decode cX7_turn 14 = .ok (.getfield 60, 3) := by decide +kernel
theorem dX7_turn_17 : decode cX7_turn 17 = .ok (.ifCond .ne 6, 3) := by decide +kernel
theorem dX7_turn_20 : decode cX7_turn 20 = .ok (.bipush (-3), 2) := by decide +kernel
theorem dX7_turn_22 : decode cX7_turn 22 = .ok (.ireturn, 1) := by decide +kernel
theorem dX7_turn_23 : decode cX7_turn 23 = .ok (.iconst 0, 1) := by decide +kernel
theorem dX7_turn_24 : decode cX7_turn 24 = .ok (.istore_n 2, 1) := by decide +kernel
theorem dX7_turn_25 : decode cX7_turn 25 = .ok (.iload_n 2, 1) := by decide +kernel
theorem dX7_turn_26 : decode cX7_turn 26 = .ok (.aload_n 0, 1) := by decide +kernel
theorem dX7_turn_27 : decode cX7_turn 27 = .ok (.getfield 60, 3) := by decide +kernel
theorem dX7_turn_30 : decode cX7_turn 30 = .ok (.if_icmp .ge 28, 3) := by decide +kernel
theorem dX7_turn_33 : decode cX7_turn 33 = .ok (.aload_n 0, 1) := by decide +kernel
theorem dX7_turn_34 : decode cX7_turn 34 = .ok (.getfield 31, 3) := by decide +kernel
theorem dX7_turn_37 : decode cX7_turn 37 = .ok (.iload_n 2, 1) := by decide +kernel
theorem dX7_turn_38 : decode cX7_turn 38 = .ok (.aload_n 0, 1) := by decide +kernel
theorem dX7_turn_39 : decode cX7_turn 39 = .ok (.getfield 19, 3) := by decide +kernel
theorem dX7_turn_42 : decode cX7_turn 42 = .ok (.iload_n 2, 1) := by decide +kernel
theorem dX7_turn_43 : decode cX7_turn 43 = .ok (.iload_n 1, 1) := by decide +kernel
theorem dX7_turn_44 : decode cX7_turn 44 = .ok (.iadd, 1) := by decide +kernel
theorem dX7_turn_45 : decode cX7_turn 45 = .ok (.aload_n 0, 1) := by decide +kernel
theorem dX7_turn_46 : decode cX7_turn 46 = .ok (.getfield 60, 3) := by decide +kernel
theorem dX7_turn_49 : decode cX7_turn 49 = .ok (.irem, 1) := by decide +kernel
theorem dX7_turn_50 : decode cX7_turn 50 = .ok (.iaload, 1) := by decide +kernel
theorem dX7_turn_51 : decode cX7_turn 51 = .ok (.iastore, 1) := by decide +kernel
theorem dX7_turn_52 : decode cX7_turn 52 = .ok (.iinc 2 1, 3) := by decide +kernel
theorem dX7_turn_55 : decode cX7_turn 55 = .ok (.goto (-30), 3) := by decide +kernel
theorem dX7_turn_58 : decode cX7_turn 58 = .ok (.aload_n 0, 1) := by decide +kernel
theorem dX7_turn_59 : decode cX7_turn 59 = .ok (.invokevirtual 122, 3) := by decide +kernel
theorem dX7_turn_62 : decode cX7_turn 62 = .ok (.aload_n 0, 1) := by decide +kernel
theorem dX7_turn_63 : decode cX7_turn 63 = .ok (.getfield 19, 3) := by decide +kernel
theorem dX7_turn_66 : decode cX7_turn 66 = .ok (.iconst 0, 1) := by decide +kernel
theorem dX7_turn_67 : decode cX7_turn 67 = .ok (.iaload, 1) := by decide +kernel
theorem dX7_turn_68 : decode cX7_turn 68 = .ok (.ireturn, 1) := by decide +kernel
theorem dX7_backward_0 : decode cX7_backward 0 = .ok (.aload_n 0, 1) := by decide +kernel
theorem dX7_backward_1 : decode cX7_backward 1 = .ok (.invokevirtual 100, 3) := by decide +kernel
theorem dX7_backward_4 : decode cX7_backward 4 = .ok (.ifCond .ne 6, 3) := by decide +kernel
theorem dX7_backward_7 : decode cX7_backward 7 = .ok (.bipush (-3), 2) := by decide +kernel
theorem dX7_backward_9 : decode cX7_backward 9 = .ok (.ireturn, 1) := by decide +kernel
theorem dX7_backward_10 : decode cX7_backward 10 = .ok (.iconst 0, 1) := by decide +kernel
theorem dX7_backward_11 : decode cX7_backward 11 = .ok (.istore_n 1, 1) := by decide +kernel
theorem dX7_backward_12 : decode cX7_backward 12 = .ok (.iload_n 1, 1) := by decide +kernel
theorem dX7_backward_13 : decode cX7_backward 13 = .ok (.aload_n 0, 1) := by decide +kernel
theorem dX7_backward_14 : decode cX7_backward 14 = .ok (.getfield 60, 3) := by decide +kernel
theorem dX7_backward_17 : decode cX7_backward 17 = .ok (.if_icmp .ge 32, 3) := by decide +kernel
theorem dX7_backward_20 : decode cX7_backward 20 = .ok (.aload_n 0, 1) := by decide +kernel
theorem dX7_backward_21 : decode cX7_backward 21 = .ok (.getfield 31, 3) := by decide +kernel
theorem dX7_backward_24 : decode cX7_backward 24 = .ok (.aload_n 0, 1) := by decide +kernel
theorem dX7_backward_25 : decode cX7_backward 25 = .ok (.getfield 60, 3) := by decide +kernel
theorem dX7_backward_28 : decode cX7_backward 28 = .ok (.iconst 1, 1) := by decide +kernel
theorem dX7_backward_29 : decode cX7_backward 29 = .ok (.isub, 1) := by decide +kernel
theorem dX7_backward_30 : decode cX7_backward 30 = .ok (.aload_n 0, 1) := by decide +kernel
theorem dX7_backward_31 : decode cX7_backward 31 = .ok (.iload_n 1, 1) := by decide +kernel
theorem dX7_backward_32 : decode cX7_backward 32 = .ok (.invokevirtual 87, 3) := by decide +kernel
theorem dX7_backward_35 : decode cX7_backward 35 = .ok (.isub, 1) := by decide +kernel
theorem dX7_backward_36 : decode cX7_backward 36 = .ok (.aload_n 0, 1) := by decide +kernel
theorem dX7_backward_37 : decode cX7_backward 37 = .ok (.getfield 19, 3) := by decide +kernel
theorem dX7_backward_40 : decode cX7_backward 40 = .ok (.iload_n 1, 1) := by decide +kernel
theorem dX7_backward_41 : decode cX7_backward 41 = .ok (.iaload, 1) := by decide +kernel
theorem dX7_backward_42 : decode cX7_backward 42 = .ok (.iastore, 1) := by decide +kernel
theorem dX7_backward_43 : decode cX7_backward 43 = .ok (.iinc 1 1, 3) := by decide +kernel
theorem dX7_backward_46 : decode cX7_backward 46 = .ok (.goto (-34), 3) := by decide +kernel
theorem dX7_backward_49 : decode cX7_backward 49 = .ok (.aload_n 0, 1) := by decide +kernel
theorem dX7_backward_50 : decode cX7_backward 50 = .ok (.invokevirtual 122, 3) := by decide +kernel
theorem dX7_backward_53 : decode cX7_backward 53 = .ok (.aload_n 0, 1) := by decide +kernel
theorem dX7_backward_54 : decode cX7_backward 54 = .ok (.getfield 19, 3) := by decide +kernel
theorem dX7_backward_57 : decode cX7_backward 57 = .ok (.iconst 0, 1) := by decide +kernel
theorem dX7_backward_58 : decode cX7_backward 58 = .ok (.iaload, 1) := by decide +kernel
theorem dX7_backward_59 : decode cX7_backward 59 = .ok (.ireturn, 1) := by decide +kernel
theorem dX7_isGreater_0 : decode cX7_isGreater 0 = .ok (.iconst 0, 1) := by decide +kernel
theorem dX7_isGreater_1 : decode cX7_isGreater 1 = .ok (.istore_n 3, 1) := by decide +kernel
theorem dX7_isGreater_2 : decode cX7_isGreater 2 = .ok (.iload_n 3, 1) := by decide +kernel
theorem dX7_isGreater_3 : decode cX7_isGreater 3 = .ok (.aload_n 0, 1) := by decide +kernel
theorem dX7_isGreater_4 : decode cX7_isGreater 4 = .ok (.getfield 60, 3) := by decide +kernel
theorem dX7_isGreater_7 : decode cX7_isGreater 7 = .ok (.if_icmp .ge 59, 3) := by decide +kernel
theorem dX7_isGreater_10 : decode cX7_isGreater 10 = .ok (.aload_n 0, 1) := by decide +kernel
theorem dX7_isGreater_11 : decode cX7_isGreater 11 = .ok (.getfield 19, 3) := by decide +kernel
theorem dX7_isGreater_14 : decode cX7_isGreater 14 = .ok (.iload_n 3, 1) := by decide +kernel
theorem dX7_isGreater_15 : decode cX7_isGreater 15 = .ok (.iload_n 1, 1) := by decide +kernel
theorem dX7_isGreater_16 : decode cX7_isGreater 16 = .ok (.iadd, 1) := by decide +kernel
theorem dX7_isGreater_17 : decode cX7_isGreater 17 = .ok (.aload_n 0, 1) := by decide +kernel
theorem dX7_isGreater_18 : decode cX7_isGreater 18 = .ok (.getfield 60, 3) := by decide +kernel
theorem dX7_isGreater_21 : decode cX7_isGreater 21 = .ok (.irem, 1) := by decide +kernel
theorem dX7_isGreater_22 : decode cX7_isGreater 22 = .ok (.iaload, 1) := by decide +kernel
theorem dX7_isGreater_23 : decode cX7_isGreater 23 = .ok (.istore 4, 2) := by decide +kernel
theorem dX7_isGreater_25 : decode cX7_isGreater 25 = .ok (.aload_n 0, 1) := by decide +kernel
theorem dX7_isGreater_26 : decode cX7_isGreater 26 = .ok (.getfield 19, 3) := by decide +kernel
theorem dX7_isGreater_29 : decode cX7_isGreater 29 = .ok (.iload_n 3, 1) := by decide +kernel
theorem dX7_isGreater_30 : decode cX7_isGreater 30 = .ok (.iload_n 2, 1) := by decide +kernel
theorem dX7_isGreater_31 : decode cX7_isGreater 31 = .ok (.iadd, 1) := by decide +kernel
theorem dX7_isGreater_32 : decode cX7_isGreater 32 = .ok (.aload_n 0, 1) := by decide +kernel
theorem dX7_isGreater_33 : decode cX7_isGreater 33 = .ok (.getfield 60, 3) := by decide +kernel
theorem dX7_isGreater_36 : decode cX7_isGreater 36 = .ok (.irem, 1) := by decide +kernel
theorem dX7_isGreater_37 : decode cX7_isGreater 37 = .ok (.iaload, 1) := by decide +kernel
theorem dX7_isGreater_38 : decode cX7_isGreater 38 = .ok (.istore 5, 2) := by decide +kernel
theorem dX7_isGreater_40 : decode cX7_isGreater 40 = .ok (.iload 4, 2) := by decide +kernel
theorem dX7_isGreater_42 : decode cX7_isGreater 42 = .ok (.iload 5, 2) := by decide +kernel
theorem dX7_isGreater_44 : decode cX7_isGreater 44 = .ok (.if_icmp .eq 16, 3) := by decide +kernel
theorem dX7_isGreater_47 : decode cX7_isGreater 47 = .ok (.iload 4, 2) := by decide +kernel
theorem dX7_isGreater_49 : decode cX7_isGreater 49 = .ok (.iload 5, 2) := by decide +kernel
theorem dX7_isGreater_51 : decode cX7_isGreater 51 = .ok (.if_icmp .le 7, 3) := by decide +kernel
theorem dX7_isGreater_54 : decode cX7_isGreater 54 = .ok (.iconst 1, 1) := by decide +kernel
theorem dX7_isGreater_55 : decode cX7_isGreater 55 = .ok (.goto 4, 3) := by decide +kernel
theorem dX7_isGreater_58 : decode cX7_isGreater 58 = .ok (.iconst 0, 1) := by decide +kernel
theorem dX7_isGreater_59 : decode cX7_isGreater 59 = .ok (.ireturn, 1) := by decide +kernel
theorem dX7_isGreater_60 : decode cX7_isGreater 60 = .ok (.iinc 3 1, 3) := by decide +kernel
theorem dX7_isGreater_63 : decode cX7_isGreater 63 = .ok (.goto (-61), 3) := by decide +kernel
theorem dX7_isGreater_66 : decode cX7_isGreater 66 = .ok (.iconst 0, 1) := by decide +kernel
theorem dX7_isGreater_67 : decode cX7_isGreater 67 = .ok (.ireturn, 1) := by decide +kernel
theorem dX7_greatest_0 : decode cX7_greatest 0 = .ok (.aload_n 0, 1) := by decide +kernel
theorem dX7_greatest_1 : decode cX7_greatest 1 = .ok (.iload_n 1, 1) := by decide +kernel
theorem dX7_greatest_2 : decode cX7_greatest 2 = .ok (.invokevirtual 84, 3) := by decide +kernel
theorem dX7_greatest_5 : decode cX7_greatest 5 = .ok (.ifCond .ne 5, 3) := by decide +kernel
theorem dX7_greatest_8 : decode cX7_greatest 8 = .ok (.iconst (-1), 1) := by decide +kernel
theorem dX7_greatest_9 : decode cX7_greatest 9 = .ok (.ireturn, 1) := by decide +kernel
theorem dX7_greatest_10 : decode cX7_greatest 10 = .ok (.iconst 0, 1) := by decide +kernel
theorem dX7_greatest_11 : decode cX7_greatest 11 = .ok (.istore_n 2, 1) := by decide +kernel
theorem dX7_greatest_12 : decode cX7_greatest 12 = .ok (.iconst 1, 1) := by decide +kernel
theorem dX7_greatest_13 : decode cX7_greatest 13 = .ok (.istore_n 3, 1) := by decide +kernel
theorem dX7_greatest_14 : decode cX7_greatest 14 = .ok (.iload_n 3, 1) := by decide +kernel
theorem dX7_greatest_15 : decode cX7_greatest 15 = .ok (.aload_n 0, 1) := by decide +kernel
theorem dX7_greatest_16 : decode cX7_greatest 16 = .ok (.getfield 60, 3) := by decide +kernel
theorem dX7_greatest_19 : decode cX7_greatest 19 = .ok (.if_icmp .ge 24, 3) := by decide +kernel
theorem dX7_greatest_22 : decode cX7_greatest 22 = .ok (.aload_n 0, 1) := by decide +kernel
theorem dX7_greatest_23 : decode cX7_greatest 23 = .ok (.iload_n 3, 1) := by decide +kernel
theorem dX7_greatest_24 : decode cX7_greatest 24 = .ok (.iload_n 2, 1) := by decide +kernel
theorem dX7_greatest_25 : decode cX7_greatest 25 = .ok (.invokevirtual 125, 3) := by decide +kernel
theorem dX7_greatest_28 : decode cX7_greatest 28 = .ok (.ifCond .eq 7, 3) := by decide +kernel
theorem dX7_greatest_31 : decode cX7_greatest 31 = .ok (.iload_n 3, 1) := by decide +kernel
theorem dX7_greatest_32 : decode cX7_greatest 32 = .ok (.goto 4, 3) := by decide +kernel
theorem dX7_greatest_35 : decode cX7_greatest 35 = .ok (.iload_n 2, 1) := by decide +kernel
theorem dX7_greatest_36 : decode cX7_greatest 36 = .ok (.istore_n 2, 1) := by decide +kernel
theorem dX7_greatest_37 : decode cX7_greatest 37 = .ok (.iinc 3 1, 3) := by decide +kernel
theorem dX7_greatest_40 : decode cX7_greatest 40 = .ok (.goto (-26), 3) := by decide +kernel
theorem dX7_greatest_43 : decode cX7_greatest 43 = .ok (.aload_n 0, 1) := by decide +kernel
theorem dX7_greatest_44 : decode cX7_greatest 44 = .ok (.getfield 19, 3) := by decide +kernel
theorem dX7_greatest_47 : decode cX7_greatest 47 = .ok (.iload_n 1, 1) := by decide +kernel
theorem dX7_greatest_48 : decode cX7_greatest 48 = .ok (.iload_n 2, 1) := by decide +kernel
theorem dX7_greatest_49 : decode cX7_greatest 49 = .ok (.iadd, 1) := by decide +kernel
theorem dX7_greatest_50 : decode cX7_greatest 50 = .ok (.aload_n 0, 1) := by decide +kernel
theorem dX7_greatest_51 : decode cX7_greatest 51 = .ok (.getfield 60, 3) := by decide +kernel
theorem dX7_greatest_54 : decode cX7_greatest 54 = .ok (.irem, 1) := by decide +kernel
theorem dX7_greatest_55 : decode cX7_greatest 55 = .ok (.iaload, 1) := by decide +kernel
theorem dX7_greatest_56 : decode cX7_greatest 56 = .ok (.ireturn, 1) := by decide +kernel
theorem dX7_isImage_0 : decode cX7_isImage 0 = .ok (.iload_n 0, 1) := by decide +kernel
theorem dX7_isImage_1 : decode cX7_isImage 1 = .ok (.iconst 0, 1) := by decide +kernel
theorem dX7_isImage_2 : decode cX7_isImage 2 = .ok (.iconst 2, 1) := by decide +kernel
theorem dX7_isImage_3 : decode cX7_isImage 3 = .ok (.invokestatic 56, 3) := by decide +kernel
theorem dX7_isImage_6 : decode cX7_isImage 6 = .ok (.ireturn, 1) := by decide +kernel
theorem dX7_keep_0 : decode cX7_keep 0 = .ok (.iload_n 1, 1) := by decide +kernel
theorem dX7_keep_1 : decode cX7_keep 1 = .ok (.invokestatic 129, 3) := by decide +kernel
theorem dX7_keep_4 : decode cX7_keep 4 = .ok (.ifCond .ne 5, 3) := by decide +kernel
theorem dX7_keep_7 : decode cX7_keep 7 = .ok (.iconst (-1), 1) := by decide +kernel
theorem dX7_keep_8 : decode cX7_keep 8 = .ok (.ireturn, 1) := by decide +kernel
theorem dX7_keep_9 : decode cX7_keep 9 = .ok (.aload_n 0, 1) := by decide +kernel
theorem dX7_keep_10 : decode cX7_keep 10 = .ok (.getfield 60, 3) := by decide +kernel
theorem dX7_keep_13 : decode cX7_keep 13 = .ok (.ifCond .ne 6, 3) := by decide +kernel
theorem dX7_keep_16 : decode cX7_keep 16 = .ok (.bipush (-3), 2) := by decide +kernel
theorem dX7_keep_18 : decode cX7_keep 18 = .ok (.ireturn, 1) := by decide +kernel
theorem dX7_keep_19 : decode cX7_keep 19 = .ok (.aload_n 0, 1) := by decide +kernel
theorem dX7_keep_20 : decode cX7_keep 20 = .ok (.getfield 34, 3) := by decide +kernel
theorem dX7_keep_23 : decode cX7_keep 23 = .ok (.iload_n 1, 1) := by decide +kernel
theorem dX7_keep_24 : decode cX7_keep 24 = .ok (.aload_n 0, 1) := by decide +kernel
theorem dX7_keep_25 : decode cX7_keep 25 = .ok (.getfield 60, 3) := by decide +kernel
theorem dX7_keep_28 : decode cX7_keep 28 = .ok (.iastore, 1) := by decide +kernel
theorem dX7_keep_29 : decode cX7_keep 29 = .ok (.iconst 0, 1) := by decide +kernel
theorem dX7_keep_30 : decode cX7_keep 30 = .ok (.istore_n 2, 1) := by decide +kernel
theorem dX7_keep_31 : decode cX7_keep 31 = .ok (.iload_n 2, 1) := by decide +kernel
theorem dX7_keep_32 : decode cX7_keep 32 = .ok (.aload_n 0, 1) := by decide +kernel
theorem dX7_keep_33 : decode cX7_keep 33 = .ok (.getfield 60, 3) := by decide +kernel
theorem dX7_keep_36 : decode cX7_keep 36 = .ok (.if_icmp .ge 26, 3) := by decide +kernel
theorem dX7_keep_39 : decode cX7_keep 39 = .ok (.aload_n 0, 1) := by decide +kernel
theorem dX7_keep_40 : decode cX7_keep 40 = .ok (.getfield 37, 3) := by decide +kernel
theorem dX7_keep_43 : decode cX7_keep 43 = .ok (.bipush 8, 2) := by decide +kernel
theorem dX7_keep_45 : decode cX7_keep 45 = .ok (.iload_n 1, 1) := by decide +kernel
theorem dX7_keep_46 : decode cX7_keep 46 = .ok (.imul, 1) := by decide +kernel
theorem dX7_keep_47 : decode cX7_keep 47 = .ok (.iload_n 2, 1) := by decide +kernel
theorem dX7_keep_48 : decode cX7_keep 48 = .ok (.iadd, 1) := by decide +kernel
theorem dX7_keep_49 : decode cX7_keep 49 = .ok (.aload_n 0, 1) := by decide +kernel
theorem dX7_keep_50 : decode cX7_keep 50 = .ok (.getfield 19, 3) := by decide +kernel
theorem dX7_keep_53 : decode cX7_keep 53 = .ok (.iload_n 2, 1) := by decide +kernel
theorem dX7_keep_54 : decode cX7_keep 54 = .ok (.iaload, 1) := by decide +kernel
theorem dX7_keep_55 : decode cX7_keep 55 = .ok (.iastore, 1) := by decide +kernel
theorem dX7_keep_56 : decode cX7_keep 56 = .ok (.iinc 2 1, 3) := by decide +kernel
theorem dX7_keep_59 : decode cX7_keep 59 = .ok (.goto (-28), 3) := by decide +kernel
theorem dX7_keep_62 : decode cX7_keep 62 = .ok (.iconst 1, 1) := by decide +kernel
theorem dX7_keep_63 : decode cX7_keep 63 = .ok (.ireturn, 1) := by decide +kernel
theorem dX7_back_0 : decode cX7_back 0 = .ok (.iload_n 1, 1) := by decide +kernel
theorem dX7_back_1 : decode cX7_back 1 = .ok (.invokestatic 129, 3) := by decide +kernel
theorem dX7_back_4 : decode cX7_back 4 = .ok (.ifCond .ne 5, 3) := by decide +kernel
theorem dX7_back_7 : decode cX7_back 7 = .ok (.iconst (-1), 1) := by decide +kernel
theorem dX7_back_8 : decode cX7_back 8 = .ok (.ireturn, 1) := by decide +kernel
theorem dX7_back_9 : decode cX7_back 9 = .ok (.aload_n 0, 1) := by decide +kernel
theorem dX7_back_10 : decode cX7_back 10 = .ok (.getfield 34, 3) := by decide +kernel
theorem dX7_back_13 : decode cX7_back 13 = .ok (.iload_n 1, 1) := by decide +kernel
theorem dX7_back_14 : decode cX7_back 14 = .ok (.iaload, 1) := by decide +kernel
theorem dX7_back_15 : decode cX7_back 15 = .ok (.ifCond .ne 6, 3) := by decide +kernel
theorem dX7_back_18 : decode cX7_back 18 = .ok (.bipush (-3), 2) := by decide +kernel
theorem dX7_back_20 : decode cX7_back 20 = .ok (.ireturn, 1) := by decide +kernel
theorem dX7_back_21 : decode cX7_back 21 = .ok (.aload_n 0, 1) := by decide +kernel
theorem dX7_back_22 : decode cX7_back 22 = .ok (.aload_n 0, 1) := by decide +kernel
theorem dX7_back_23 : decode cX7_back 23 = .ok (.getfield 34, 3) := by decide +kernel
theorem dX7_back_26 : decode cX7_back 26 = .ok (.iload_n 1, 1) := by decide +kernel
theorem dX7_back_27 : decode cX7_back 27 = .ok (.iaload, 1) := by decide +kernel
theorem dX7_back_28 : decode cX7_back 28 = .ok (.putfield 60, 3) := by decide +kernel
theorem dX7_back_31 : decode cX7_back 31 = .ok (.iconst 0, 1) := by decide +kernel
theorem dX7_back_32 : decode cX7_back 32 = .ok (.istore_n 2, 1) := by decide +kernel
theorem dX7_back_33 : decode cX7_back 33 = .ok (.iload_n 2, 1) := by decide +kernel
theorem dX7_back_34 : decode cX7_back 34 = .ok (.aload_n 0, 1) := by decide +kernel
theorem dX7_back_35 : decode cX7_back 35 = .ok (.getfield 60, 3) := by decide +kernel
theorem dX7_back_38 : decode cX7_back 38 = .ok (.if_icmp .ge 26, 3) := by decide +kernel
theorem dX7_back_41 : decode cX7_back 41 = .ok (.aload_n 0, 1) := by decide +kernel
theorem dX7_back_42 : decode cX7_back 42 = .ok (.getfield 19, 3) := by decide +kernel
theorem dX7_back_45 : decode cX7_back 45 = .ok (.iload_n 2, 1) := by decide +kernel
theorem dX7_back_46 : decode cX7_back 46 = .ok (.aload_n 0, 1) := by decide +kernel
theorem dX7_back_47 : decode cX7_back 47 = .ok (.getfield 37, 3) := by decide +kernel
theorem dX7_back_50 : decode cX7_back 50 = .ok (.bipush 8, 2) := by decide +kernel
theorem dX7_back_52 : decode cX7_back 52 = .ok (.iload_n 1, 1) := by decide +kernel
theorem dX7_back_53 : decode cX7_back 53 = .ok (.imul, 1) := by decide +kernel
theorem dX7_back_54 : decode cX7_back 54 = .ok (.iload_n 2, 1) := by decide +kernel
theorem dX7_back_55 : decode cX7_back 55 = .ok (.iadd, 1) := by decide +kernel
theorem dX7_back_56 : decode cX7_back 56 = .ok (.iaload, 1) := by decide +kernel
theorem dX7_back_57 : decode cX7_back 57 = .ok (.iastore, 1) := by decide +kernel
theorem dX7_back_58 : decode cX7_back 58 = .ok (.iinc 2 1, 3) := by decide +kernel
theorem dX7_back_61 : decode cX7_back 61 = .ok (.goto (-28), 3) := by decide +kernel
theorem dX7_back_64 : decode cX7_back 64 = .ok (.aload_n 0, 1) := by decide +kernel
theorem dX7_back_65 : decode cX7_back 65 = .ok (.getfield 60, 3) := by decide +kernel
theorem dX7_back_68 : decode cX7_back 68 = .ok (.ireturn, 1) := by decide +kernel
theorem dX7_isTurned_0 : decode cX7_isTurned 0 = .ok (.iconst 0, 1) := by decide +kernel
theorem dX7_isTurned_1 : decode cX7_isTurned 1 = .ok (.istore_n 3, 1) := by decide +kernel
theorem dX7_isTurned_2 : decode cX7_isTurned 2 = .ok (.iload_n 3, 1) := by decide +kernel
theorem dX7_isTurned_3 : decode cX7_isTurned 3 = .ok (.aload_n 0, 1) := by decide +kernel
theorem dX7_isTurned_4 : decode cX7_isTurned 4 = .ok (.getfield 60, 3) := by decide +kernel
theorem dX7_isTurned_7 : decode cX7_isTurned 7 = .ok (.if_icmp .ge 38, 3) := by decide +kernel
theorem dX7_isTurned_10 : decode cX7_isTurned 10 = .ok (.aload_n 0, 1) := by decide +kernel
theorem dX7_isTurned_11 : decode cX7_isTurned 11 = .ok (.getfield 37, 3) := by decide +kernel
theorem dX7_isTurned_14 : decode cX7_isTurned 14 = .ok (.bipush 8, 2) := by decide +kernel
theorem dX7_isTurned_16 : decode cX7_isTurned 16 = .ok (.iload_n 1, 1) := by decide +kernel
theorem dX7_isTurned_17 : decode cX7_isTurned 17 = .ok (.imul, 1) := by decide +kernel
theorem dX7_isTurned_18 : decode cX7_isTurned 18 = .ok (.iload_n 3, 1) := by decide +kernel
theorem dX7_isTurned_19 : decode cX7_isTurned 19 = .ok (.iadd, 1) := by decide +kernel
theorem dX7_isTurned_20 : decode cX7_isTurned 20 = .ok (.iaload, 1) := by decide +kernel
theorem dX7_isTurned_21 : decode cX7_isTurned 21 = .ok (.aload_n 0, 1) := by decide +kernel
theorem dX7_isTurned_22 : decode cX7_isTurned 22 = .ok (.getfield 19, 3) := by decide +kernel
theorem dX7_isTurned_25 : decode cX7_isTurned 25 = .ok (.iload_n 3, 1) := by decide +kernel
theorem dX7_isTurned_26 : decode cX7_isTurned 26 = .ok (.iload_n 2, 1) := by decide +kernel
theorem dX7_isTurned_27 : decode cX7_isTurned 27 = .ok (.iadd, 1) := by decide +kernel
theorem dX7_isTurned_28 : decode cX7_isTurned 28 = .ok (.aload_n 0, 1) := by decide +kernel
theorem dX7_isTurned_29 : decode cX7_isTurned 29 = .ok (.getfield 60, 3) := by decide +kernel
theorem dX7_isTurned_32 : decode cX7_isTurned 32 = .ok (.irem, 1) := by decide +kernel
theorem dX7_isTurned_33 : decode cX7_isTurned 33 = .ok (.iaload, 1) := by decide +kernel
theorem dX7_isTurned_34 : decode cX7_isTurned 34 = .ok (.if_icmp .eq 5, 3) := by decide +kernel
theorem dX7_isTurned_37 : decode cX7_isTurned 37 = .ok (.iconst 0, 1) := by decide +kernel
theorem dX7_isTurned_38 : decode cX7_isTurned 38 = .ok (.ireturn, 1) := by decide +kernel
theorem dX7_isTurned_39 : decode cX7_isTurned 39 = .ok (.iinc 3 1, 3) := by decide +kernel
theorem dX7_isTurned_42 : decode cX7_isTurned 42 = .ok (.goto (-40), 3) := by decide +kernel
theorem dX7_isTurned_45 : decode cX7_isTurned 45 = .ok (.iconst 1, 1) := by decide +kernel
theorem dX7_isTurned_46 : decode cX7_isTurned 46 = .ok (.ireturn, 1) := by decide +kernel
theorem dX7_like_0 : decode cX7_like 0 = .ok (.iload_n 1, 1) := by decide +kernel
theorem dX7_like_1 : decode cX7_like 1 = .ok (.invokestatic 129, 3) := by decide +kernel
theorem dX7_like_4 : decode cX7_like 4 = .ok (.ifCond .ne 5, 3) := by decide +kernel
theorem dX7_like_7 : decode cX7_like 7 = .ok (.iconst (-1), 1) := by decide +kernel
theorem dX7_like_8 : decode cX7_like 8 = .ok (.ireturn, 1) := by decide +kernel
theorem dX7_like_9 : decode cX7_like 9 = .ok (.aload_n 0, 1) := by decide +kernel
theorem dX7_like_10 : decode cX7_like 10 = .ok (.getfield 34, 3) := by decide +kernel
theorem dX7_like_13 : decode cX7_like 13 = .ok (.iload_n 1, 1) := by decide +kernel
theorem dX7_like_14 : decode cX7_like 14 = .ok (.iaload, 1) := by decide +kernel
theorem dX7_like_15 : decode cX7_like 15 = .ok (.ifCond .eq 10, 3) := by decide +kernel
theorem dX7_like_18 : decode cX7_like 18 = .ok (.aload_n 0, 1) := by decide +kernel
theorem dX7_like_19 : decode cX7_like 19 = .ok (.getfield 60, 3) := by decide +kernel
theorem dX7_like_22 : decode cX7_like 22 = .ok (.ifCond .ne 6, 3) := by decide +kernel
theorem dX7_like_25 : decode cX7_like 25 = .ok (.bipush (-3), 2) := by decide +kernel
theorem dX7_like_27 : decode cX7_like 27 = .ok (.ireturn, 1) := by decide +kernel
theorem dX7_like_28 : decode cX7_like 28 = .ok (.iconst 0, 1) := by decide +kernel
theorem dX7_like_29 : decode cX7_like 29 = .ok (.istore_n 2, 1) := by decide +kernel
theorem dX7_like_30 : decode cX7_like 30 = .ok (.iload_n 2, 1) := by decide +kernel
theorem dX7_like_31 : decode cX7_like 31 = .ok (.aload_n 0, 1) := by decide +kernel
theorem dX7_like_32 : decode cX7_like 32 = .ok (.getfield 60, 3) := by decide +kernel
theorem dX7_like_35 : decode cX7_like 35 = .ok (.if_icmp .ge 33, 3) := by decide +kernel
theorem dX7_like_38 : decode cX7_like 38 = .ok (.aload_n 0, 1) := by decide +kernel
theorem dX7_like_39 : decode cX7_like 39 = .ok (.getfield 34, 3) := by decide +kernel
theorem dX7_like_42 : decode cX7_like 42 = .ok (.iload_n 1, 1) := by decide +kernel
theorem dX7_like_43 : decode cX7_like 43 = .ok (.iaload, 1) := by decide +kernel
theorem dX7_like_44 : decode cX7_like 44 = .ok (.aload_n 0, 1) := by decide +kernel
theorem dX7_like_45 : decode cX7_like 45 = .ok (.getfield 60, 3) := by decide +kernel
theorem dX7_like_48 : decode cX7_like 48 = .ok (.if_icmp .ne 20, 3) := by decide +kernel
theorem dX7_like_51 : decode cX7_like 51 = .ok (.aload_n 0, 1) := by decide +kernel
theorem dX7_like_52 : decode cX7_like 52 = .ok (.iload_n 1, 1) := by decide +kernel
theorem dX7_like_53 : decode cX7_like 53 = .ok (.iload_n 2, 1) := by decide +kernel
theorem dX7_like_54 : decode cX7_like 54 = .ok (.invokevirtual 132, 3) := by decide +kernel
theorem dX7_like_57 : decode cX7_like 57 = .ok (.ifCond .eq 5, 3) := by decide +kernel
theorem dX7_like_60 : decode cX7_like 60 = .ok (.iconst 1, 1) := by decide +kernel
theorem dX7_like_61 : decode cX7_like 61 = .ok (.ireturn, 1) := by decide +kernel
theorem dX7_like_62 : decode cX7_like 62 = .ok (.iinc 2 1, 3) := by decide +kernel
theorem dX7_like_65 : decode cX7_like 65 = .ok (.goto (-35), 3) := by decide +kernel
theorem dX7_like_68 : decode cX7_like 68 = .ok (.iconst 0, 1) := by decide +kernel
theorem dX7_like_69 : decode cX7_like 69 = .ok (.ireturn, 1) := by decide +kernel
theorem dX7_spot_0 : decode cX7_spot 0 = .ok (.bipush 81, 2) := by decide +kernel
theorem dX7_spot_2 : decode cX7_spot 2 = .ok (.iload_n 0, 1) := by decide +kernel
theorem dX7_spot_3 : decode cX7_spot 3 = .ok (.imul, 1) := by decide +kernel
theorem dX7_spot_4 : decode cX7_spot 4 = .ok (.iload_n 1, 1) := by decide +kernel
theorem dX7_spot_5 : decode cX7_spot 5 = .ok (.iadd, 1) := by decide +kernel
theorem dX7_spot_6 : decode cX7_spot 6 = .ok (.ireturn, 1) := by decide +kernel
theorem dX7_mayThrow_0 : decode cX7_mayThrow 0 = .ok (.aload_n 0, 1) := by decide +kernel
theorem dX7_mayThrow_1 : decode cX7_mayThrow 1 = .ok (.getfield 40, 3) := by decide +kernel
theorem dX7_mayThrow_4 : decode cX7_mayThrow 4 = .ok (.iload_n 1, 1) := by decide +kernel
theorem dX7_mayThrow_5 : decode cX7_mayThrow 5 = .ok (.iaload, 1) := by decide +kernel
theorem dX7_mayThrow_6 : decode cX7_mayThrow 6 = .ok (.iconst (-1), 1) := by decide +kernel
theorem dX7_mayThrow_7 : decode cX7_mayThrow 7 = .ok (.if_icmp .ne 19, 3) := by decide +kernel
theorem dX7_mayThrow_10 : decode cX7_mayThrow 10 = .ok (.iload_n 2, 1) := by decide +kernel
theorem dX7_mayThrow_11 : decode cX7_mayThrow 11 = .ok (.aload_n 0, 1) := by decide +kernel
theorem dX7_mayThrow_12 : decode cX7_mayThrow 12 = .ok (.getfield 135, 3) := by decide +kernel
theorem dX7_mayThrow_15 : decode cX7_mayThrow 15 = .ok (.if_icmp .gt 7, 3) := by decide +kernel
theorem dX7_mayThrow_18 : decode cX7_mayThrow 18 = .ok (.iconst 1, 1) := by decide +kernel
theorem dX7_mayThrow_19 : decode cX7_mayThrow 19 = .ok (.goto 22, 3) := by decide +kernel
theorem dX7_mayThrow_22 : decode cX7_mayThrow 22 = .ok (.iconst 0, 1) := by decide +kernel
theorem dX7_mayThrow_23 : decode cX7_mayThrow 23 = .ok (.goto 18, 3) := by decide +kernel
theorem dX7_mayThrow_26 : decode cX7_mayThrow 26 = .ok (.aload_n 0, 1) := by decide +kernel
theorem dX7_mayThrow_27 : decode cX7_mayThrow 27 = .ok (.getfield 40, 3) := by decide +kernel
theorem dX7_mayThrow_30 : decode cX7_mayThrow 30 = .ok (.iload_n 1, 1) := by decide +kernel
theorem dX7_mayThrow_31 : decode cX7_mayThrow 31 = .ok (.iaload, 1) := by decide +kernel
theorem dX7_mayThrow_32 : decode cX7_mayThrow 32 = .ok (.iload_n 2, 1) := by decide +kernel
theorem dX7_mayThrow_33 : decode cX7_mayThrow 33 = .ok (.if_icmp .ne 7, 3) := by decide +kernel
theorem dX7_mayThrow_36 : decode cX7_mayThrow 36 = .ok (.iconst 1, 1) := by decide +kernel
theorem dX7_mayThrow_37 : decode cX7_mayThrow 37 = .ok (.goto 4, 3) := by decide +kernel
theorem dX7_mayThrow_40 : decode cX7_mayThrow 40 = .ok (.iconst 0, 1) := by decide +kernel
theorem dX7_mayThrow_41 : decode cX7_mayThrow 41 = .ok (.ireturn, 1) := by decide +kernel
theorem dX7_addFills_0 : decode cX7_addFills 0 = .ok (.iload_n 3, 1) := by decide +kernel
theorem dX7_addFills_1 : decode cX7_addFills 1 = .ok (.istore 4, 2) := by decide +kernel
theorem dX7_addFills_3 : decode cX7_addFills 3 = .ok (.iload 4, 2) := by decide +kernel
theorem dX7_addFills_5 : decode cX7_addFills 5 = .ok (.bipush 80, 2) := by decide +kernel
theorem dX7_addFills_7 : decode cX7_addFills 7 = .ok (.if_icmp .gt 36, 3) := by decide +kernel
theorem dX7_addFills_10 : decode cX7_addFills 10 = .ok (.aload_n 0, 1) := by decide +kernel
theorem dX7_addFills_11 : decode cX7_addFills 11 = .ok (.getfield 43, 3) := by decide +kernel
theorem dX7_addFills_14 : decode cX7_addFills 14 = .ok (.iload_n 1, 1) := by decide +kernel
theorem dX7_addFills_15 : decode cX7_addFills 15 = .ok (.iload 4, 2) := by decide +kernel
theorem dX7_addFills_17 : decode cX7_addFills 17 = .ok (.invokestatic 141, 3) := by decide +kernel
theorem dX7_addFills_20 : decode cX7_addFills 20 = .ok (.dup2, 1) := by decide +kernel
theorem dX7_addFills_21 : decode cX7_addFills 21 = .ok (.laload, 1) := by decide +kernel
theorem dX7_addFills_22 : decode cX7_addFills 22 = .ok (.aload_n 0, 1) := by decide +kernel
theorem dX7_addFills_23 : decode cX7_addFills 23 = .ok (.getfield 43, 3) := by decide +kernel
theorem dX7_addFills_26 : decode cX7_addFills 26 = .ok (.iload_n 2, 1) := by decide +kernel
theorem dX7_addFills_27 : decode cX7_addFills 27 = .ok (.iload 4, 2) := by decide +kernel
theorem dX7_addFills_29 : decode cX7_addFills 29 = .ok (.iload_n 3, 1) := by decide +kernel
theorem dX7_addFills_30 : decode cX7_addFills 30 = .ok (.isub, 1) := by decide +kernel
theorem dX7_addFills_31 : decode cX7_addFills 31 = .ok (.invokestatic 141, 3) := by decide +kernel
theorem dX7_addFills_34 : decode cX7_addFills 34 = .ok (.laload, 1) := by decide +kernel
theorem dX7_addFills_35 : decode cX7_addFills 35 = .ok (.ladd, 1) := by decide +kernel
theorem dX7_addFills_36 : decode cX7_addFills 36 = .ok (.lastore, 1) := by decide +kernel
theorem dX7_addFills_37 : decode cX7_addFills 37 = .ok (.iinc 4 1, 3) := by decide +kernel
theorem dX7_addFills_40 : decode cX7_addFills 40 = .ok (.goto (-37), 3) := by decide +kernel
theorem dX7_addFills_43 : decode cX7_addFills 43 = .ok (.return_, 1) := by decide +kernel
theorem dX7_layFills_0 : decode cX7_layFills 0 = .ok (.iconst 1, 1) := by decide +kernel
theorem dX7_layFills_1 : decode cX7_layFills 1 = .ok (.aload_n 0, 1) := by decide +kernel
theorem dX7_layFills_2 : decode cX7_layFills 2 = .ok (.getfield 138, 3) := by decide +kernel
theorem dX7_layFills_5 : decode cX7_layFills 5 = .ok (.ishl, 1) := by decide +kernel
theorem dX7_layFills_6 : decode cX7_layFills 6 = .ok (.iconst 1, 1) := by decide +kernel
theorem dX7_layFills_7 : decode cX7_layFills 7 = .ok (.isub, 1) := by decide +kernel
theorem dX7_layFills_8 : decode cX7_layFills 8 = .ok (.istore_n 1, 1) := by decide +kernel
theorem dX7_layFills_9 : decode cX7_layFills 9 = .ok (.iconst 0, 1) := by decide +kernel
theorem dX7_layFills_10 : decode cX7_layFills 10 = .ok (.istore_n 2, 1) := by decide +kernel
theorem dX7_layFills_11 : decode cX7_layFills 11 = .ok (.iload_n 2, 1) := by decide +kernel
theorem dX7_layFills_12 : decode cX7_layFills 12 = .ok (.sipush 20736, 3) := by decide +kernel
theorem dX7_layFills_15 : decode cX7_layFills 15 = .ok (.if_icmp .ge 16, 3) := by decide +kernel
theorem dX7_layFills_18 : decode cX7_layFills 18 = .ok (.aload_n 0, 1) := by decide +kernel
theorem dX7_layFills_19 : decode cX7_layFills 19 = .ok (.getfield 43, 3) := by decide +kernel
theorem dX7_layFills_22 : decode cX7_layFills 22 = .ok (.iload_n 2, 1) := by decide +kernel
theorem dX7_layFills_23 : decode cX7_layFills 23 = .ok (.lconst 0, 1) := by decide +kernel
theorem dX7_layFills_24 : decode cX7_layFills 24 = .ok (.lastore, 1) := by decide +kernel
theorem dX7_layFills_25 : decode cX7_layFills 25 = .ok (.iinc 2 1, 3) := by decide +kernel
theorem dX7_layFills_28 : decode cX7_layFills 28 = .ok (.goto (-17), 3) := by decide +kernel
theorem dX7_layFills_31 : decode cX7_layFills 31 = .ok (.aload_n 0, 1) := by decide +kernel
theorem dX7_layFills_32 : decode cX7_layFills 32 = .ok (.getfield 43, 3) := by decide +kernel
theorem dX7_layFills_35 : decode cX7_layFills 35 = .ok (.iload_n 1, 1) := by decide +kernel
theorem dX7_layFills_36 : decode cX7_layFills 36 = .ok (.iconst 0, 1) := by decide +kernel
theorem dX7_layFills_37 : decode cX7_layFills 37 = .ok (.invokestatic 141, 3) := by decide +kernel
theorem dX7_layFills_40 : decode cX7_layFills 40 = .ok (.lconst 1, 1) := by decide +kernel
theorem dX7_layFills_41 : decode cX7_layFills 41 = .ok (.lastore, 1) := by decide +kernel
theorem dX7_layFills_42 : decode cX7_layFills 42 = .ok (.iload_n 1, 1) := by decide +kernel
theorem dX7_layFills_43 : decode cX7_layFills 43 = .ok (.iconst 1, 1) := by decide +kernel
theorem dX7_layFills_44 : decode cX7_layFills 44 = .ok (.isub, 1) := by decide +kernel
theorem dX7_layFills_45 : decode cX7_layFills 45 = .ok (.istore_n 2, 1) := by decide +kernel
theorem dX7_layFills_46 : decode cX7_layFills 46 = .ok (.iload_n 2, 1) := by decide +kernel
theorem dX7_layFills_47 : decode cX7_layFills 47 = .ok (.ifCond .lt 71, 3) := by decide +kernel
theorem dX7_layFills_50 : decode cX7_layFills 50 = .ok (.iload_n 2, 1) := by decide +kernel
theorem dX7_layFills_51 : decode cX7_layFills 51 = .ok (.invokestatic 119, 3) := by decide +kernel
theorem dX7_layFills_54 : decode cX7_layFills 54 = .ok (.istore_n 3, 1) := by decide +kernel
theorem dX7_layFills_55 : decode cX7_layFills 55 = .ok (.iconst 0, 1) := by decide +kernel
theorem dX7_layFills_56 : decode cX7_layFills 56 = .ok (.istore 4, 2) := by decide +kernel
theorem dX7_layFills_58 : decode cX7_layFills 58 = .ok (.iload 4, 2) := by decide +kernel
theorem dX7_layFills_60 : decode cX7_layFills 60 = .ok (.bipush 9, 2) := by decide +kernel
theorem dX7_layFills_62 : decode cX7_layFills 62 = .ok (.if_icmp .gt 50, 3) := by decide +kernel
theorem dX7_layFills_65 : decode cX7_layFills 65 = .ok (.iconst 1, 1) := by decide +kernel
theorem dX7_layFills_66 : decode cX7_layFills 66 = .ok (.iload_n 3, 1) := by decide +kernel
theorem dX7_layFills_67 : decode cX7_layFills 67 = .ok (.iload 4, 2) := by decide +kernel
theorem dX7_layFills_69 : decode cX7_layFills 69 = .ok (.iadd, 1) := by decide +kernel
theorem dX7_layFills_70 : decode cX7_layFills 70 = .ok (.aload_n 0, 1) := by decide +kernel
theorem dX7_layFills_71 : decode cX7_layFills 71 = .ok (.getfield 138, 3) := by decide +kernel
theorem dX7_layFills_74 : decode cX7_layFills 74 = .ok (.irem, 1) := by decide +kernel
theorem dX7_layFills_75 : decode cX7_layFills 75 = .ok (.ishl, 1) := by decide +kernel
theorem dX7_layFills_76 : decode cX7_layFills 76 = .ok (.istore 5, 2) := by decide +kernel
theorem dX7_layFills_78 : decode cX7_layFills 78 = .ok (.aload_n 0, 1) := by decide +kernel
theorem dX7_layFills_79 : decode cX7_layFills 79 = .ok (.iload_n 3, 1) := by decide +kernel
theorem dX7_layFills_80 : decode cX7_layFills 80 = .ok (.iload 4, 2) := by decide +kernel
theorem dX7_layFills_82 : decode cX7_layFills 82 = .ok (.invokevirtual 145, 3) := by decide +kernel
theorem dX7_layFills_85 : decode cX7_layFills 85 = .ok (.ifCond .eq 21, 3) := by decide +kernel
theorem dX7_layFills_88 : decode cX7_layFills 88 = .ok (.iload_n 2, 1) := by decide +kernel
theorem dX7_layFills_89 : decode cX7_layFills 89 = .ok (.iload 5, 2) := by decide +kernel
theorem dX7_layFills_91 : decode cX7_layFills 91 = .ok (.iand, 1) := by decide +kernel
theorem dX7_layFills_92 : decode cX7_layFills 92 = .ok (.ifCond .ne 14, 3) := by decide +kernel
theorem dX7_layFills_95 : decode cX7_layFills 95 = .ok (.aload_n 0, 1) := by decide +kernel
theorem dX7_layFills_96 : decode cX7_layFills 96 = .ok (.iload_n 2, 1) := by decide +kernel
theorem dX7_layFills_97 : decode cX7_layFills 97 = .ok (.iload_n 2, 1) := by decide +kernel
theorem dX7_layFills_98 : decode cX7_layFills 98 = .ok (.iload 5, 2) := by decide +kernel
theorem dX7_layFills_100 : decode cX7_layFills 100 = .ok (.ior, 1) := by decide +kernel
theorem dX7_layFills_101 : decode cX7_layFills 101 = .ok (.iload 4, 2) := by decide +kernel
theorem dX7_layFills_103 : decode cX7_layFills 103 = .ok (.invokevirtual 148, 3) := by decide +kernel
theorem dX7_layFills_106 : decode cX7_layFills 106 = .ok (.iinc 4 1, 3) := by decide +kernel
theorem dX7_layFills_109 : decode cX7_layFills 109 = .ok (.goto (-51), 3) := by decide +kernel
theorem dX7_layFills_112 : decode cX7_layFills 112 = .ok (.iinc 2 (-1), 3) := by decide +kernel
theorem dX7_layFills_115 : decode cX7_layFills 115 = .ok (.goto (-69), 3) := by decide +kernel
theorem dX7_layFills_118 : decode cX7_layFills 118 = .ok (.return_, 1) := by decide +kernel
theorem dX7_howMany_0 : decode cX7_howMany 0 = .ok (.iload_n 1, 1) := by decide +kernel
theorem dX7_howMany_1 : decode cX7_howMany 1 = .ok (.iconst 1, 1) := by decide +kernel
theorem dX7_howMany_2 : decode cX7_howMany 2 = .ok (.bipush 8, 2) := by decide +kernel
theorem dX7_howMany_4 : decode cX7_howMany 4 = .ok (.invokestatic 56, 3) := by decide +kernel
theorem dX7_howMany_7 : decode cX7_howMany 7 = .ok (.ifCond .eq 23, 3) := by decide +kernel
theorem dX7_howMany_10 : decode cX7_howMany 10 = .ok (.iload_n 2, 1) := by decide +kernel
theorem dX7_howMany_11 : decode cX7_howMany 11 = .ok (.iconst 0, 1) := by decide +kernel
theorem dX7_howMany_12 : decode cX7_howMany 12 = .ok (.bipush 9, 2) := by decide +kernel
theorem dX7_howMany_14 : decode cX7_howMany 14 = .ok (.invokestatic 56, 3) := by decide +kernel
theorem dX7_howMany_17 : decode cX7_howMany 17 = .ok (.ifCond .eq 13, 3) := by decide +kernel
theorem dX7_howMany_20 : decode cX7_howMany 20 = .ok (.iload_n 3, 1) := by decide +kernel
theorem dX7_howMany_21 : decode cX7_howMany 21 = .ok (.iconst 0, 1) := by decide +kernel
theorem dX7_howMany_22 : decode cX7_howMany 22 = .ok (.bipush 9, 2) := by decide +kernel
theorem dX7_howMany_24 : decode cX7_howMany 24 = .ok (.invokestatic 56, 3) := by decide +kernel
theorem dX7_howMany_27 : decode cX7_howMany 27 = .ok (.ifCond .ne 7, 3) := by decide +kernel
theorem dX7_howMany_30 : decode cX7_howMany 30 = .ok (.ldc2_w 54, 3) := by decide +kernel
theorem dX7_howMany_33 : decode cX7_howMany 33 = .ok (.lreturn, 1) := by decide +kernel
theorem dX7_howMany_34 : decode cX7_howMany 34 = .ok (.aload_n 0, 1) := by decide +kernel
theorem dX7_howMany_35 : decode cX7_howMany 35 = .ok (.iload_n 1, 1) := by decide +kernel
theorem dX7_howMany_36 : decode cX7_howMany 36 = .ok (.putfield 138, 3) := by decide +kernel
theorem dX7_howMany_39 : decode cX7_howMany 39 = .ok (.aload_n 0, 1) := by decide +kernel
theorem dX7_howMany_40 : decode cX7_howMany 40 = .ok (.iload_n 3, 1) := by decide +kernel
theorem dX7_howMany_41 : decode cX7_howMany 41 = .ok (.putfield 135, 3) := by decide +kernel
theorem dX7_howMany_44 : decode cX7_howMany 44 = .ok (.iconst 0, 1) := by decide +kernel
theorem dX7_howMany_45 : decode cX7_howMany 45 = .ok (.istore 4, 2) := by decide +kernel
theorem dX7_howMany_47 : decode cX7_howMany 47 = .ok (.iload 4, 2) := by decide +kernel
theorem dX7_howMany_49 : decode cX7_howMany 49 = .ok (.iload_n 1, 1) := by decide +kernel
theorem dX7_howMany_50 : decode cX7_howMany 50 = .ok (.if_icmp .ge 17, 3) := by decide +kernel
theorem dX7_howMany_53 : decode cX7_howMany 53 = .ok (.aload_n 0, 1) := by decide +kernel
theorem dX7_howMany_54 : decode cX7_howMany 54 = .ok (.getfield 40, 3) := by decide +kernel
theorem dX7_howMany_57 : decode cX7_howMany 57 = .ok (.iload 4, 2) := by decide +kernel
theorem dX7_howMany_59 : decode cX7_howMany 59 = .ok (.iconst (-1), 1) := by decide +kernel
theorem dX7_howMany_60 : decode cX7_howMany 60 = .ok (.iastore, 1) := by decide +kernel
theorem dX7_howMany_61 : decode cX7_howMany 61 = .ok (.iinc 4 1, 3) := by decide +kernel
theorem dX7_howMany_64 : decode cX7_howMany 64 = .ok (.goto (-17), 3) := by decide +kernel
theorem dX7_howMany_67 : decode cX7_howMany 67 = .ok (.aload_n 0, 1) := by decide +kernel
theorem dX7_howMany_68 : decode cX7_howMany 68 = .ok (.invokevirtual 152, 3) := by decide +kernel
theorem dX7_howMany_71 : decode cX7_howMany 71 = .ok (.iload_n 1, 1) := by decide +kernel
theorem dX7_howMany_72 : decode cX7_howMany 72 = .ok (.iload_n 2, 1) := by decide +kernel
theorem dX7_howMany_73 : decode cX7_howMany 73 = .ok (.imul, 1) := by decide +kernel
theorem dX7_howMany_74 : decode cX7_howMany 74 = .ok (.bipush 80, 2) := by decide +kernel
theorem dX7_howMany_76 : decode cX7_howMany 76 = .ok (.if_icmp .le 7, 3) := by decide +kernel
theorem dX7_howMany_79 : decode cX7_howMany 79 = .ok (.lconst 0, 1) := by decide +kernel
theorem dX7_howMany_80 : decode cX7_howMany 80 = .ok (.goto 15, 3) := by decide +kernel
theorem dX7_howMany_83 : decode cX7_howMany 83 = .ok (.aload_n 0, 1) := by decide +kernel
theorem dX7_howMany_84 : decode cX7_howMany 84 = .ok (.getfield 43, 3) := by decide +kernel
theorem dX7_howMany_87 : decode cX7_howMany 87 = .ok (.iconst 0, 1) := by decide +kernel
theorem dX7_howMany_88 : decode cX7_howMany 88 = .ok (.iload_n 1, 1) := by decide +kernel
theorem dX7_howMany_89 : decode cX7_howMany 89 = .ok (.iload_n 2, 1) := by decide +kernel
theorem dX7_howMany_90 : decode cX7_howMany 90 = .ok (.imul, 1) := by decide +kernel
theorem dX7_howMany_91 : decode cX7_howMany 91 = .ok (.invokestatic 141, 3) := by decide +kernel
theorem dX7_howMany_94 : decode cX7_howMany 94 = .ok (.laload, 1) := by decide +kernel
theorem dX7_howMany_95 : decode cX7_howMany 95 = .ok (.lreturn, 1) := by decide +kernel
theorem dX7_thrownTo_0 : decode cX7_thrownTo 0 = .ok (.iload_n 0, 1) := by decide +kernel
theorem dX7_thrownTo_1 : decode cX7_thrownTo 1 = .ok (.iconst 1, 1) := by decide +kernel
theorem dX7_thrownTo_2 : decode cX7_thrownTo 2 = .ok (.iload_n 1, 1) := by decide +kernel
theorem dX7_thrownTo_3 : decode cX7_thrownTo 3 = .ok (.ishl, 1) := by decide +kernel
theorem dX7_thrownTo_4 : decode cX7_thrownTo 4 = .ok (.ior, 1) := by decide +kernel
theorem dX7_thrownTo_5 : decode cX7_thrownTo 5 = .ok (.iconst 1, 1) := by decide +kernel
theorem dX7_thrownTo_6 : decode cX7_thrownTo 6 = .ok (.ishr, 1) := by decide +kernel
theorem dX7_thrownTo_7 : decode cX7_thrownTo 7 = .ok (.ireturn, 1) := by decide +kernel
theorem dX7_mayGo_0 : decode cX7_mayGo 0 = .ok (.iload_n 0, 1) := by decide +kernel
theorem dX7_mayGo_1 : decode cX7_mayGo 1 = .ok (.iconst 1, 1) := by decide +kernel
theorem dX7_mayGo_2 : decode cX7_mayGo 2 = .ok (.iand, 1) := by decide +kernel
theorem dX7_mayGo_3 : decode cX7_mayGo 3 = .ok (.ifCond .ne 15, 3) := by decide +kernel
theorem dX7_mayGo_6 : decode cX7_mayGo 6 = .ok (.iload_n 1, 1) := by decide +kernel
theorem dX7_mayGo_7 : decode cX7_mayGo 7 = .ok (.ifCond .ne 7, 3) := by decide +kernel
theorem dX7_mayGo_10 : decode cX7_mayGo 10 = .ok (.iconst 1, 1) := by decide +kernel
theorem dX7_mayGo_11 : decode cX7_mayGo 11 = .ok (.goto 29, 3) := by decide +kernel
theorem dX7_mayGo_14 : decode cX7_mayGo 14 = .ok (.iconst 0, 1) := by decide +kernel
theorem dX7_mayGo_15 : decode cX7_mayGo 15 = .ok (.goto 25, 3) := by decide +kernel
theorem dX7_mayGo_18 : decode cX7_mayGo 18 = .ok (.iload_n 1, 1) := by decide +kernel
theorem dX7_mayGo_19 : decode cX7_mayGo 19 = .ok (.ifCond .le 20, 3) := by decide +kernel
theorem dX7_mayGo_22 : decode cX7_mayGo 22 = .ok (.iload_n 1, 1) := by decide +kernel
theorem dX7_mayGo_23 : decode cX7_mayGo 23 = .ok (.iload_n 2, 1) := by decide +kernel
theorem dX7_mayGo_24 : decode cX7_mayGo 24 = .ok (.if_icmp .gt 15, 3) := by decide +kernel
theorem dX7_mayGo_27 : decode cX7_mayGo 27 = .ok (.iload_n 0, 1) := by decide +kernel
theorem dX7_mayGo_28 : decode cX7_mayGo 28 = .ok (.iload_n 1, 1) := by decide +kernel
theorem dX7_mayGo_29 : decode cX7_mayGo 29 = .ok (.ishr, 1) := by decide +kernel
theorem dX7_mayGo_30 : decode cX7_mayGo 30 = .ok (.iconst 1, 1) := by decide +kernel
theorem dX7_mayGo_31 : decode cX7_mayGo 31 = .ok (.iand, 1) := by decide +kernel
theorem dX7_mayGo_32 : decode cX7_mayGo 32 = .ok (.ifCond .ne 7, 3) := by decide +kernel
theorem dX7_mayGo_35 : decode cX7_mayGo 35 = .ok (.iconst 1, 1) := by decide +kernel
theorem dX7_mayGo_36 : decode cX7_mayGo 36 = .ok (.goto 4, 3) := by decide +kernel
theorem dX7_mayGo_39 : decode cX7_mayGo 39 = .ok (.iconst 0, 1) := by decide +kernel
theorem dX7_mayGo_40 : decode cX7_mayGo 40 = .ok (.ireturn, 1) := by decide +kernel
theorem dX7_goesTo_0 : decode cX7_goesTo 0 = .ok (.iload_n 1, 1) := by decide +kernel
theorem dX7_goesTo_1 : decode cX7_goesTo 1 = .ok (.ifCond .ne 9, 3) := by decide +kernel
theorem dX7_goesTo_4 : decode cX7_goesTo 4 = .ok (.iload_n 0, 1) := by decide +kernel
theorem dX7_goesTo_5 : decode cX7_goesTo 5 = .ok (.iconst 1, 1) := by decide +kernel
theorem dX7_goesTo_6 : decode cX7_goesTo 6 = .ok (.ishr, 1) := by decide +kernel
theorem dX7_goesTo_7 : decode cX7_goesTo 7 = .ok (.goto 8, 3) := by decide +kernel
theorem dX7_goesTo_10 : decode cX7_goesTo 10 = .ok (.iload_n 0, 1) := by decide +kernel
theorem dX7_goesTo_11 : decode cX7_goesTo 11 = .ok (.iload_n 1, 1) := by decide +kernel
theorem dX7_goesTo_12 : decode cX7_goesTo 12 = .ok (.invokestatic 155, 3) := by decide +kernel
theorem dX7_goesTo_15 : decode cX7_goesTo 15 = .ok (.ireturn, 1) := by decide +kernel
theorem dX7_findFar_0 : decode cX7_findFar 0 = .ok (.iconst 0, 1) := by decide +kernel
theorem dX7_findFar_1 : decode cX7_findFar 1 = .ok (.istore_n 3, 1) := by decide +kernel
theorem dX7_findFar_2 : decode cX7_findFar 2 = .ok (.iload_n 3, 1) := by decide +kernel
theorem dX7_findFar_3 : decode cX7_findFar 3 = .ok (.sipush 512, 3) := by decide +kernel
theorem dX7_findFar_6 : decode cX7_findFar 6 = .ok (.if_icmp .ge 26, 3) := by decide +kernel
theorem dX7_findFar_9 : decode cX7_findFar 9 = .ok (.aload_n 0, 1) := by decide +kernel
theorem dX7_findFar_10 : decode cX7_findFar 10 = .ok (.getfield 47, 3) := by decide +kernel
theorem dX7_findFar_13 : decode cX7_findFar 13 = .ok (.iload_n 3, 1) := by decide +kernel
theorem dX7_findFar_14 : decode cX7_findFar 14 = .ok (.iload_n 3, 1) := by decide +kernel
theorem dX7_findFar_15 : decode cX7_findFar 15 = .ok (.iload_n 1, 1) := by decide +kernel
theorem dX7_findFar_16 : decode cX7_findFar 16 = .ok (.if_icmp .ne 7, 3) := by decide +kernel
theorem dX7_findFar_19 : decode cX7_findFar 19 = .ok (.iconst 0, 1) := by decide +kernel
theorem dX7_findFar_20 : decode cX7_findFar 20 = .ok (.goto 5, 3) := by decide +kernel
theorem dX7_findFar_23 : decode cX7_findFar 23 = .ok (.bipush (-9), 2) := by decide +kernel
theorem dX7_findFar_25 : decode cX7_findFar 25 = .ok (.iastore, 1) := by decide +kernel
theorem dX7_findFar_26 : decode cX7_findFar 26 = .ok (.iinc 3 1, 3) := by decide +kernel
theorem dX7_findFar_29 : decode cX7_findFar 29 = .ok (.goto (-27), 3) := by decide +kernel
theorem dX7_findFar_32 : decode cX7_findFar 32 = .ok (.iconst 1, 1) := by decide +kernel
theorem dX7_findFar_33 : decode cX7_findFar 33 = .ok (.istore_n 3, 1) := by decide +kernel
theorem dX7_findFar_34 : decode cX7_findFar 34 = .ok (.iconst 0, 1) := by decide +kernel
theorem dX7_findFar_35 : decode cX7_findFar 35 = .ok (.istore 4, 2) := by decide +kernel
theorem dX7_findFar_37 : decode cX7_findFar 37 = .ok (.iload_n 3, 1) := by decide +kernel
theorem dX7_findFar_38 : decode cX7_findFar 38 = .ok (.ifCond .eq 97, 3) := by decide +kernel
theorem dX7_findFar_41 : decode cX7_findFar 41 = .ok (.iconst 0, 1) := by decide +kernel
theorem dX7_findFar_42 : decode cX7_findFar 42 = .ok (.istore_n 3, 1) := by decide +kernel
theorem dX7_findFar_43 : decode cX7_findFar 43 = .ok (.iconst 0, 1) := by decide +kernel
theorem dX7_findFar_44 : decode cX7_findFar 44 = .ok (.istore 5, 2) := by decide +kernel
theorem dX7_findFar_46 : decode cX7_findFar 46 = .ok (.iload 5, 2) := by decide +kernel
theorem dX7_findFar_48 : decode cX7_findFar 48 = .ok (.sipush 512, 3) := by decide +kernel
theorem dX7_findFar_51 : decode cX7_findFar 51 = .ok (.if_icmp .ge 78, 3) := by decide +kernel
theorem dX7_findFar_54 : decode cX7_findFar 54 = .ok (.iconst 0, 1) := by decide +kernel
theorem dX7_findFar_55 : decode cX7_findFar 55 = .ok (.istore 6, 2) := by decide +kernel
theorem dX7_findFar_57 : decode cX7_findFar 57 = .ok (.iload 6, 2) := by decide +kernel
theorem dX7_findFar_59 : decode cX7_findFar 59 = .ok (.bipush 9, 2) := by decide +kernel
theorem dX7_findFar_61 : decode cX7_findFar 61 = .ok (.if_icmp .gt 62, 3) := by decide +kernel
theorem dX7_findFar_64 : decode cX7_findFar 64 = .ok (.aload_n 0, 1) := by decide +kernel
theorem dX7_findFar_65 : decode cX7_findFar 65 = .ok (.getfield 47, 3) := by decide +kernel
theorem dX7_findFar_68 : decode cX7_findFar 68 = .ok (.iload 5, 2) := by decide +kernel
theorem dX7_findFar_70 : decode cX7_findFar 70 = .ok (.iaload, 1) := by decide +kernel
theorem dX7_findFar_71 : decode cX7_findFar 71 = .ok (.bipush (-9), 2) := by decide +kernel
theorem dX7_findFar_73 : decode cX7_findFar 73 = .ok (.if_icmp .ne 50, 3) := by decide +kernel
theorem dX7_findFar_76 : decode cX7_findFar 76 = .ok (.iload 5, 2) := by decide +kernel
theorem dX7_findFar_78 : decode cX7_findFar 78 = .ok (.iload 6, 2) := by decide +kernel
theorem dX7_findFar_80 : decode cX7_findFar 80 = .ok (.iload_n 2, 1) := by decide +kernel
theorem dX7_findFar_81 : decode cX7_findFar 81 = .ok (.invokestatic 158, 3) := by decide +kernel
theorem dX7_findFar_84 : decode cX7_findFar 84 = .ok (.ifCond .eq 33, 3) := by decide +kernel
theorem dX7_findFar_87 : decode cX7_findFar 87 = .ok (.aload_n 0, 1) := by decide +kernel
theorem dX7_findFar_88 : decode cX7_findFar 88 = .ok (.getfield 47, 3) := by decide +kernel
theorem dX7_findFar_91 : decode cX7_findFar 91 = .ok (.iload 5, 2) := by decide +kernel
theorem dX7_findFar_93 : decode cX7_findFar 93 = .ok (.iload 6, 2) := by decide +kernel
theorem dX7_findFar_95 : decode cX7_findFar 95 = .ok (.invokestatic 161, 3) := by decide +kernel
theorem dX7_findFar_98 : decode cX7_findFar 98 = .ok (.iaload, 1) := by decide +kernel
theorem dX7_findFar_99 : decode cX7_findFar 99 = .ok (.iload 4, 2) := by decide +kernel
theorem dX7_findFar_101 : decode cX7_findFar 101 = .ok (.if_icmp .ne 16, 3) := by decide +kernel
theorem dX7_findFar_104 : decode cX7_findFar 104 = .ok (.aload_n 0, 1) := by decide +kernel
theorem dX7_findFar_105 : decode cX7_findFar 105 = .ok (.getfield 47, 3) := by decide +kernel
theorem dX7_findFar_108 : decode cX7_findFar 108 = .ok (.iload 5, 2) := by decide +kernel
theorem dX7_findFar_110 : decode cX7_findFar 110 = .ok (.iload 4, 2) := by decide +kernel
theorem dX7_findFar_112 : decode cX7_findFar 112 = .ok (.iconst 1, 1) := by decide +kernel
theorem dX7_findFar_113 : decode cX7_findFar 113 = .ok (.iadd, 1) := by decide +kernel
theorem dX7_findFar_114 : decode cX7_findFar 114 = .ok (.iastore, 1) := by decide +kernel
theorem dX7_findFar_115 : decode cX7_findFar 115 = .ok (.iconst 1, 1) := by decide +kernel
theorem dX7_findFar_116 : decode cX7_findFar 116 = .ok (.istore_n 3, 1) := by decide +kernel
theorem dX7_findFar_117 : decode cX7_findFar 117 = .ok (.iinc 6 1, 3) := by decide +kernel
theorem dX7_findFar_120 : decode cX7_findFar 120 = .ok (.goto (-63), 3) := by decide +kernel
theorem dX7_findFar_123 : decode cX7_findFar 123 = .ok (.iinc 5 1, 3) := by decide +kernel
theorem dX7_findFar_126 : decode cX7_findFar 126 = .ok (.goto (-80), 3) := by decide +kernel
theorem dX7_findFar_129 : decode cX7_findFar 129 = .ok (.iinc 4 1, 3) := by decide +kernel
theorem dX7_findFar_132 : decode cX7_findFar 132 = .ok (.goto (-95), 3) := by decide +kernel
theorem dX7_findFar_135 : decode cX7_findFar 135 = .ok (.return_, 1) := by decide +kernel
theorem dX7_way_0 : decode cX7_way 0 = .ok (.iload_n 1, 1) := by decide +kernel
theorem dX7_way_1 : decode cX7_way 1 = .ok (.iconst 0, 1) := by decide +kernel
theorem dX7_way_2 : decode cX7_way 2 = .ok (.sipush 511, 3) := by decide +kernel
theorem dX7_way_5 : decode cX7_way 5 = .ok (.invokestatic 56, 3) := by decide +kernel
theorem dX7_way_8 : decode cX7_way 8 = .ok (.ifCond .eq 35, 3) := by decide +kernel
theorem dX7_way_11 : decode cX7_way 11 = .ok (.iload_n 2, 1) := by decide +kernel
theorem dX7_way_12 : decode cX7_way 12 = .ok (.iconst 0, 1) := by decide +kernel
theorem dX7_way_13 : decode cX7_way 13 = .ok (.sipush 511, 3) := by decide +kernel
theorem dX7_way_16 : decode cX7_way 16 = .ok (.invokestatic 56, 3) := by decide +kernel
theorem dX7_way_19 : decode cX7_way 19 = .ok (.ifCond .eq 24, 3) := by decide +kernel
theorem dX7_way_22 : decode cX7_way 22 = .ok (.iload_n 1, 1) := by decide +kernel
theorem dX7_way_23 : decode cX7_way 23 = .ok (.invokestatic 119, 3) := by decide +kernel
theorem dX7_way_26 : decode cX7_way 26 = .ok (.iload_n 2, 1) := by decide +kernel
theorem dX7_way_27 : decode cX7_way 27 = .ok (.invokestatic 119, 3) := by decide +kernel
theorem dX7_way_30 : decode cX7_way 30 = .ok (.if_icmp .ne 13, 3) := by decide +kernel
theorem dX7_way_33 : decode cX7_way 33 = .ok (.iload_n 3, 1) := by decide +kernel
theorem dX7_way_34 : decode cX7_way 34 = .ok (.iconst 0, 1) := by decide +kernel
theorem dX7_way_35 : decode cX7_way 35 = .ok (.bipush 9, 2) := by decide +kernel
theorem dX7_way_37 : decode cX7_way 37 = .ok (.invokestatic 56, 3) := by decide +kernel
theorem dX7_way_40 : decode cX7_way 40 = .ok (.ifCond .ne 6, 3) := by decide +kernel
theorem dX7_way_43 : decode cX7_way 43 = .ok (.bipush (-2), 2) := by decide +kernel
theorem dX7_way_45 : decode cX7_way 45 = .ok (.ireturn, 1) := by decide +kernel
theorem dX7_way_46 : decode cX7_way 46 = .ok (.iload 4, 2) := by decide +kernel
theorem dX7_way_48 : decode cX7_way 48 = .ok (.iconst (-1), 1) := by decide +kernel
theorem dX7_way_49 : decode cX7_way 49 = .ok (.if_icmp .ge 5, 3) := by decide +kernel
theorem dX7_way_52 : decode cX7_way 52 = .ok (.iconst (-1), 1) := by decide +kernel
theorem dX7_way_53 : decode cX7_way 53 = .ok (.ireturn, 1) := by decide +kernel
theorem dX7_way_54 : decode cX7_way 54 = .ok (.aload_n 0, 1) := by decide +kernel
theorem dX7_way_55 : decode cX7_way 55 = .ok (.iload_n 2, 1) := by decide +kernel
theorem dX7_way_56 : decode cX7_way 56 = .ok (.iload_n 3, 1) := by decide +kernel
theorem dX7_way_57 : decode cX7_way 57 = .ok (.invokevirtual 164, 3) := by decide +kernel
theorem dX7_way_60 : decode cX7_way 60 = .ok (.aload_n 0, 1) := by decide +kernel
theorem dX7_way_61 : decode cX7_way 61 = .ok (.getfield 47, 3) := by decide +kernel
theorem dX7_way_64 : decode cX7_way 64 = .ok (.iload_n 1, 1) := by decide +kernel
theorem dX7_way_65 : decode cX7_way 65 = .ok (.iaload, 1) := by decide +kernel
theorem dX7_way_66 : decode cX7_way 66 = .ok (.bipush (-9), 2) := by decide +kernel
theorem dX7_way_68 : decode cX7_way 68 = .ok (.if_icmp .eq 14, 3) := by decide +kernel
theorem dX7_way_71 : decode cX7_way 71 = .ok (.iload 4, 2) := by decide +kernel
theorem dX7_way_73 : decode cX7_way 73 = .ok (.aload_n 0, 1) := by decide +kernel
theorem dX7_way_74 : decode cX7_way 74 = .ok (.getfield 47, 3) := by decide +kernel
theorem dX7_way_77 : decode cX7_way 77 = .ok (.iload_n 1, 1) := by decide +kernel
theorem dX7_way_78 : decode cX7_way 78 = .ok (.iaload, 1) := by decide +kernel
theorem dX7_way_79 : decode cX7_way 79 = .ok (.if_icmp .lt 6, 3) := by decide +kernel
theorem dX7_way_82 : decode cX7_way 82 = .ok (.bipush (-9), 2) := by decide +kernel
theorem dX7_way_84 : decode cX7_way 84 = .ok (.ireturn, 1) := by decide +kernel
theorem dX7_way_85 : decode cX7_way 85 = .ok (.iload 4, 2) := by decide +kernel
theorem dX7_way_87 : decode cX7_way 87 = .ok (.iconst (-1), 1) := by decide +kernel
theorem dX7_way_88 : decode cX7_way 88 = .ok (.if_icmp .ne 10, 3) := by decide +kernel
theorem dX7_way_91 : decode cX7_way 91 = .ok (.aload_n 0, 1) := by decide +kernel
theorem dX7_way_92 : decode cX7_way 92 = .ok (.getfield 47, 3) := by decide +kernel
theorem dX7_way_95 : decode cX7_way 95 = .ok (.iload_n 1, 1) := by decide +kernel
theorem dX7_way_96 : decode cX7_way 96 = .ok (.iaload, 1) := by decide +kernel
theorem dX7_way_97 : decode cX7_way 97 = .ok (.ireturn, 1) := by decide +kernel
theorem dX7_way_98 : decode cX7_way 98 = .ok (.iload_n 1, 1) := by decide +kernel
theorem dX7_way_99 : decode cX7_way 99 = .ok (.istore 5, 2) := by decide +kernel
theorem dX7_way_101 : decode cX7_way 101 = .ok (.iconst 0, 1) := by decide +kernel
theorem dX7_way_102 : decode cX7_way 102 = .ok (.istore 6, 2) := by decide +kernel
theorem dX7_way_104 : decode cX7_way 104 = .ok (.iconst 0, 1) := by decide +kernel
theorem dX7_way_105 : decode cX7_way 105 = .ok (.istore 7, 2) := by decide +kernel
theorem dX7_way_107 : decode cX7_way 107 = .ok (.iload 7, 2) := by decide +kernel
theorem dX7_way_109 : decode cX7_way 109 = .ok (.iload 4, 2) := by decide +kernel
theorem dX7_way_111 : decode cX7_way 111 = .ok (.if_icmp .gt 64, 3) := by decide +kernel
theorem dX7_way_114 : decode cX7_way 114 = .ok (.iconst 0, 1) := by decide +kernel
theorem dX7_way_115 : decode cX7_way 115 = .ok (.istore 6, 2) := by decide +kernel
theorem dX7_way_117 : decode cX7_way 117 = .ok (.iload 5, 2) := by decide +kernel
theorem dX7_way_119 : decode cX7_way 119 = .ok (.iload 6, 2) := by decide +kernel
theorem dX7_way_121 : decode cX7_way 121 = .ok (.iload_n 3, 1) := by decide +kernel
theorem dX7_way_122 : decode cX7_way 122 = .ok (.invokestatic 158, 3) := by decide +kernel
theorem dX7_way_125 : decode cX7_way 125 = .ok (.ifCond .eq 29, 3) := by decide +kernel
theorem dX7_way_128 : decode cX7_way 128 = .ok (.aload_n 0, 1) := by decide +kernel
theorem dX7_way_129 : decode cX7_way 129 = .ok (.getfield 47, 3) := by decide +kernel
theorem dX7_way_132 : decode cX7_way 132 = .ok (.iload 5, 2) := by decide +kernel
theorem dX7_way_134 : decode cX7_way 134 = .ok (.iload 6, 2) := by decide +kernel
theorem dX7_way_136 : decode cX7_way 136 = .ok (.invokestatic 161, 3) := by decide +kernel
theorem dX7_way_139 : decode cX7_way 139 = .ok (.iaload, 1) := by decide +kernel
theorem dX7_way_140 : decode cX7_way 140 = .ok (.aload_n 0, 1) := by decide +kernel
theorem dX7_way_141 : decode cX7_way 141 = .ok (.getfield 47, 3) := by decide +kernel
theorem dX7_way_144 : decode cX7_way 144 = .ok (.iload_n 1, 1) := by decide +kernel
theorem dX7_way_145 : decode cX7_way 145 = .ok (.iaload, 1) := by decide +kernel
theorem dX7_way_146 : decode cX7_way 146 = .ok (.iload 7, 2) := by decide +kernel
theorem dX7_way_148 : decode cX7_way 148 = .ok (.isub, 1) := by decide +kernel
theorem dX7_way_149 : decode cX7_way 149 = .ok (.iconst 1, 1) := by decide +kernel
theorem dX7_way_150 : decode cX7_way 150 = .ok (.isub, 1) := by decide +kernel
theorem dX7_way_151 : decode cX7_way 151 = .ok (.if_icmp .eq 9, 3) := by decide +kernel
theorem dX7_way_154 : decode cX7_way 154 = .ok (.iinc 6 1, 3) := by decide +kernel
theorem dX7_way_157 : decode cX7_way 157 = .ok (.goto (-40), 3) := by decide +kernel
theorem dX7_way_160 : decode cX7_way 160 = .ok (.iload 5, 2) := by decide +kernel
theorem dX7_way_162 : decode cX7_way 162 = .ok (.iload 6, 2) := by decide +kernel
theorem dX7_way_164 : decode cX7_way 164 = .ok (.invokestatic 161, 3) := by decide +kernel
theorem dX7_way_167 : decode cX7_way 167 = .ok (.istore 5, 2) := by decide +kernel
theorem dX7_way_169 : decode cX7_way 169 = .ok (.iinc 7 1, 3) := by decide +kernel
theorem dX7_way_172 : decode cX7_way 172 = .ok (.goto (-65), 3) := by decide +kernel
theorem dX7_way_175 : decode cX7_way 175 = .ok (.iload 6, 2) := by decide +kernel
theorem dX7_way_177 : decode cX7_way 177 = .ok (.ireturn, 1) := by decide +kernel
theorem dX7_leadsOn_0 : decode cX7_leadsOn 0 = .ok (.iconst 1, 1) := by decide +kernel
theorem dX7_leadsOn_1 : decode cX7_leadsOn 1 = .ok (.iload_n 3, 1) := by decide +kernel
theorem dX7_leadsOn_2 : decode cX7_leadsOn 2 = .ok (.iload 4, 2) := by decide +kernel
theorem dX7_leadsOn_4 : decode cX7_leadsOn 4 = .ok (.iadd, 1) := by decide +kernel
theorem dX7_leadsOn_5 : decode cX7_leadsOn 5 = .ok (.aload_n 0, 1) := by decide +kernel
theorem dX7_leadsOn_6 : decode cX7_leadsOn 6 = .ok (.getfield 138, 3) := by decide +kernel
theorem dX7_leadsOn_9 : decode cX7_leadsOn 9 = .ok (.irem, 1) := by decide +kernel
theorem dX7_leadsOn_10 : decode cX7_leadsOn 10 = .ok (.ishl, 1) := by decide +kernel
theorem dX7_leadsOn_11 : decode cX7_leadsOn 11 = .ok (.istore 5, 2) := by decide +kernel
theorem dX7_leadsOn_13 : decode cX7_leadsOn 13 = .ok (.aload_n 0, 1) := by decide +kernel
theorem dX7_leadsOn_14 : decode cX7_leadsOn 14 = .ok (.iload_n 3, 1) := by decide +kernel
theorem dX7_leadsOn_15 : decode cX7_leadsOn 15 = .ok (.iload 4, 2) := by decide +kernel
theorem dX7_leadsOn_17 : decode cX7_leadsOn 17 = .ok (.invokevirtual 145, 3) := by decide +kernel
theorem dX7_leadsOn_20 : decode cX7_leadsOn 20 = .ok (.ifCond .eq 41, 3) := by decide +kernel
theorem dX7_leadsOn_23 : decode cX7_leadsOn 23 = .ok (.iload_n 1, 1) := by decide +kernel
theorem dX7_leadsOn_24 : decode cX7_leadsOn 24 = .ok (.iload 5, 2) := by decide +kernel
theorem dX7_leadsOn_26 : decode cX7_leadsOn 26 = .ok (.iand, 1) := by decide +kernel
theorem dX7_leadsOn_27 : decode cX7_leadsOn 27 = .ok (.ifCond .ne 34, 3) := by decide +kernel
theorem dX7_leadsOn_30 : decode cX7_leadsOn 30 = .ok (.iload_n 2, 1) := by decide +kernel
theorem dX7_leadsOn_31 : decode cX7_leadsOn 31 = .ok (.iload 4, 2) := by decide +kernel
theorem dX7_leadsOn_33 : decode cX7_leadsOn 33 = .ok (.if_icmp .lt 28, 3) := by decide +kernel
theorem dX7_leadsOn_36 : decode cX7_leadsOn 36 = .ok (.aload_n 0, 1) := by decide +kernel
theorem dX7_leadsOn_37 : decode cX7_leadsOn 37 = .ok (.getfield 43, 3) := by decide +kernel
theorem dX7_leadsOn_40 : decode cX7_leadsOn 40 = .ok (.iload_n 1, 1) := by decide +kernel
theorem dX7_leadsOn_41 : decode cX7_leadsOn 41 = .ok (.iload 5, 2) := by decide +kernel
theorem dX7_leadsOn_43 : decode cX7_leadsOn 43 = .ok (.ior, 1) := by decide +kernel
theorem dX7_leadsOn_44 : decode cX7_leadsOn 44 = .ok (.iload_n 2, 1) := by decide +kernel
theorem dX7_leadsOn_45 : decode cX7_leadsOn 45 = .ok (.iload 4, 2) := by decide +kernel
theorem dX7_leadsOn_47 : decode cX7_leadsOn 47 = .ok (.isub, 1) := by decide +kernel
theorem dX7_leadsOn_48 : decode cX7_leadsOn 48 = .ok (.invokestatic 141, 3) := by decide +kernel
theorem dX7_leadsOn_51 : decode cX7_leadsOn 51 = .ok (.laload, 1) := by decide +kernel
theorem dX7_leadsOn_52 : decode cX7_leadsOn 52 = .ok (.lconst 0, 1) := by decide +kernel
theorem dX7_leadsOn_53 : decode cX7_leadsOn 53 = .ok (.lcmp, 1) := by decide +kernel
theorem dX7_leadsOn_54 : decode cX7_leadsOn 54 = .ok (.ifCond .le 7, 3) := by decide +kernel
theorem dX7_leadsOn_57 : decode cX7_leadsOn 57 = .ok (.iconst 1, 1) := by decide +kernel
theorem dX7_leadsOn_58 : decode cX7_leadsOn 58 = .ok (.goto 4, 3) := by decide +kernel
theorem dX7_leadsOn_61 : decode cX7_leadsOn 61 = .ok (.iconst 0, 1) := by decide +kernel
theorem dX7_leadsOn_62 : decode cX7_leadsOn 62 = .ok (.ireturn, 1) := by decide +kernel
theorem dX7_firstFill_0 : decode cX7_firstFill 0 = .ok (.iconst 0, 1) := by decide +kernel
theorem dX7_firstFill_1 : decode cX7_firstFill 1 = .ok (.istore_n 3, 1) := by decide +kernel
theorem dX7_firstFill_2 : decode cX7_firstFill 2 = .ok (.iload_n 1, 1) := by decide +kernel
theorem dX7_firstFill_3 : decode cX7_firstFill 3 = .ok (.istore 4, 2) := by decide +kernel
theorem dX7_firstFill_5 : decode cX7_firstFill 5 = .ok (.iconst 0, 1) := by decide +kernel
theorem dX7_firstFill_6 : decode cX7_firstFill 6 = .ok (.istore 5, 2) := by decide +kernel
theorem dX7_firstFill_8 : decode cX7_firstFill 8 = .ok (.iconst 0, 1) := by decide +kernel
theorem dX7_firstFill_9 : decode cX7_firstFill 9 = .ok (.istore 6, 2) := by decide +kernel
theorem dX7_firstFill_11 : decode cX7_firstFill 11 = .ok (.iload 6, 2) := by decide +kernel
theorem dX7_firstFill_13 : decode cX7_firstFill 13 = .ok (.iload_n 2, 1) := by decide +kernel
theorem dX7_firstFill_14 : decode cX7_firstFill 14 = .ok (.if_icmp .gt 54, 3) := by decide +kernel
theorem dX7_firstFill_17 : decode cX7_firstFill 17 = .ok (.iconst 0, 1) := by decide +kernel
theorem dX7_firstFill_18 : decode cX7_firstFill 18 = .ok (.istore 5, 2) := by decide +kernel
theorem dX7_firstFill_20 : decode cX7_firstFill 20 = .ok (.aload_n 0, 1) := by decide +kernel
theorem dX7_firstFill_21 : decode cX7_firstFill 21 = .ok (.iload_n 3, 1) := by decide +kernel
theorem dX7_firstFill_22 : decode cX7_firstFill 22 = .ok (.iload 4, 2) := by decide +kernel
theorem dX7_firstFill_24 : decode cX7_firstFill 24 = .ok (.iload 6, 2) := by decide +kernel
theorem dX7_firstFill_26 : decode cX7_firstFill 26 = .ok (.iload 5, 2) := by decide +kernel
theorem dX7_firstFill_28 : decode cX7_firstFill 28 = .ok (.invokevirtual 176, 3) := by decide +kernel
theorem dX7_firstFill_31 : decode cX7_firstFill 31 = .ok (.ifCond .ne 9, 3) := by decide +kernel
theorem dX7_firstFill_34 : decode cX7_firstFill 34 = .ok (.iinc 5 1, 3) := by decide +kernel
theorem dX7_firstFill_37 : decode cX7_firstFill 37 = .ok (.goto (-17), 3) := by decide +kernel
theorem dX7_firstFill_40 : decode cX7_firstFill 40 = .ok (.iload_n 3, 1) := by decide +kernel
theorem dX7_firstFill_41 : decode cX7_firstFill 41 = .ok (.iconst 1, 1) := by decide +kernel
theorem dX7_firstFill_42 : decode cX7_firstFill 42 = .ok (.iload 6, 2) := by decide +kernel
theorem dX7_firstFill_44 : decode cX7_firstFill 44 = .ok (.iload 5, 2) := by decide +kernel
theorem dX7_firstFill_46 : decode cX7_firstFill 46 = .ok (.iadd, 1) := by decide +kernel
theorem dX7_firstFill_47 : decode cX7_firstFill 47 = .ok (.aload_n 0, 1) := by decide +kernel
theorem dX7_firstFill_48 : decode cX7_firstFill 48 = .ok (.getfield 138, 3) := by decide +kernel
theorem dX7_firstFill_51 : decode cX7_firstFill 51 = .ok (.irem, 1) := by decide +kernel
theorem dX7_firstFill_52 : decode cX7_firstFill 52 = .ok (.ishl, 1) := by decide +kernel
theorem dX7_firstFill_53 : decode cX7_firstFill 53 = .ok (.ior, 1) := by decide +kernel
theorem dX7_firstFill_54 : decode cX7_firstFill 54 = .ok (.istore_n 3, 1) := by decide +kernel
theorem dX7_firstFill_55 : decode cX7_firstFill 55 = .ok (.iload 4, 2) := by decide +kernel
theorem dX7_firstFill_57 : decode cX7_firstFill 57 = .ok (.iload 5, 2) := by decide +kernel
theorem dX7_firstFill_59 : decode cX7_firstFill 59 = .ok (.isub, 1) := by decide +kernel
theorem dX7_firstFill_60 : decode cX7_firstFill 60 = .ok (.istore 4, 2) := by decide +kernel
theorem dX7_firstFill_62 : decode cX7_firstFill 62 = .ok (.iinc 6 1, 3) := by decide +kernel
theorem dX7_firstFill_65 : decode cX7_firstFill 65 = .ok (.goto (-54), 3) := by decide +kernel
theorem dX7_firstFill_68 : decode cX7_firstFill 68 = .ok (.iload 5, 2) := by decide +kernel
theorem dX7_firstFill_70 : decode cX7_firstFill 70 = .ok (.i2l, 1) := by decide +kernel
theorem dX7_firstFill_71 : decode cX7_firstFill 71 = .ok (.lreturn, 1) := by decide +kernel
theorem dX7_filled_0 : decode cX7_filled 0 = .ok (.aload_n 0, 1) := by decide +kernel
theorem dX7_filled_1 : decode cX7_filled 1 = .ok (.iconst 0, 1) := by decide +kernel
theorem dX7_filled_2 : decode cX7_filled 2 = .ok (.putfield 50, 3) := by decide +kernel
theorem dX7_filled_5 : decode cX7_filled 5 = .ok (.iload_n 1, 1) := by decide +kernel
theorem dX7_filled_6 : decode cX7_filled 6 = .ok (.invokestatic 63, 3) := by decide +kernel
theorem dX7_filled_9 : decode cX7_filled 9 = .ok (.ifCond .eq 21, 3) := by decide +kernel
theorem dX7_filled_12 : decode cX7_filled 12 = .ok (.iload_n 2, 1) := by decide +kernel
theorem dX7_filled_13 : decode cX7_filled 13 = .ok (.invokestatic 67, 3) := by decide +kernel
theorem dX7_filled_16 : decode cX7_filled 16 = .ok (.ifCond .eq 14, 3) := by decide +kernel
theorem dX7_filled_19 : decode cX7_filled 19 = .ok (.iload 5, 2) := by decide +kernel
theorem dX7_filled_21 : decode cX7_filled 21 = .ok (.iconst 0, 1) := by decide +kernel
theorem dX7_filled_22 : decode cX7_filled 22 = .ok (.bipush 9, 2) := by decide +kernel
theorem dX7_filled_24 : decode cX7_filled 24 = .ok (.invokestatic 56, 3) := by decide +kernel
theorem dX7_filled_27 : decode cX7_filled 27 = .ok (.ifCond .ne 7, 3) := by decide +kernel
theorem dX7_filled_30 : decode cX7_filled 30 = .ok (.ldc2_w 54, 3) := by decide +kernel
theorem dX7_filled_33 : decode cX7_filled 33 = .ok (.lreturn, 1) := by decide +kernel
theorem dX7_filled_34 : decode cX7_filled 34 = .ok (.aload_n 0, 1) := by decide +kernel
theorem dX7_filled_35 : decode cX7_filled 35 = .ok (.iload_n 1, 1) := by decide +kernel
theorem dX7_filled_36 : decode cX7_filled 36 = .ok (.iload_n 2, 1) := by decide +kernel
theorem dX7_filled_37 : decode cX7_filled 37 = .ok (.iload_n 3, 1) := by decide +kernel
theorem dX7_filled_38 : decode cX7_filled 38 = .ok (.iload 4, 2) := by decide +kernel
theorem dX7_filled_40 : decode cX7_filled 40 = .ok (.invokevirtual 70, 3) := by decide +kernel
theorem dX7_filled_43 : decode cX7_filled 43 = .ok (.istore 7, 2) := by decide +kernel
theorem dX7_filled_45 : decode cX7_filled 45 = .ok (.iload 7, 2) := by decide +kernel
theorem dX7_filled_47 : decode cX7_filled 47 = .ok (.ifCond .eq 10, 3) := by decide +kernel
theorem dX7_filled_50 : decode cX7_filled 50 = .ok (.aload_n 0, 1) := by decide +kernel
theorem dX7_filled_51 : decode cX7_filled 51 = .ok (.iload 7, 2) := by decide +kernel
theorem dX7_filled_53 : decode cX7_filled 53 = .ok (.invokevirtual 168, 3) := by decide +kernel
theorem dX7_filled_56 : decode cX7_filled 56 = .ok (.lreturn, 1) := by decide +kernel
theorem dX7_filled_57 : decode cX7_filled 57 = .ok (.iload 4, 2) := by decide +kernel
theorem dX7_filled_59 : decode cX7_filled 59 = .ok (.iconst 1, 1) := by decide +kernel
theorem dX7_filled_60 : decode cX7_filled 60 = .ok (.bipush 8, 2) := by decide +kernel
theorem dX7_filled_62 : decode cX7_filled 62 = .ok (.invokestatic 56, 3) := by decide +kernel
theorem dX7_filled_65 : decode cX7_filled 65 = .ok (.ifCond .ne 7, 3) := by decide +kernel
theorem dX7_filled_68 : decode cX7_filled 68 = .ok (.ldc2_w 54, 3) := by decide +kernel
theorem dX7_filled_71 : decode cX7_filled 71 = .ok (.lreturn, 1) := by decide +kernel
theorem dX7_filled_72 : decode cX7_filled 72 = .ok (.iconst 0, 1) := by decide +kernel
theorem dX7_filled_73 : decode cX7_filled 73 = .ok (.istore 8, 2) := by decide +kernel
theorem dX7_filled_75 : decode cX7_filled 75 = .ok (.iload 8, 2) := by decide +kernel
theorem dX7_filled_77 : decode cX7_filled 77 = .ok (.iload 4, 2) := by decide +kernel
theorem dX7_filled_79 : decode cX7_filled 79 = .ok (.if_icmp .ge 50, 3) := by decide +kernel
theorem dX7_filled_82 : decode cX7_filled 82 = .ok (.aload_n 0, 1) := by decide +kernel
theorem dX7_filled_83 : decode cX7_filled 83 = .ok (.getfield 40, 3) := by decide +kernel
theorem dX7_filled_86 : decode cX7_filled 86 = .ok (.iload 8, 2) := by decide +kernel
theorem dX7_filled_88 : decode cX7_filled 88 = .ok (.aload_n 0, 1) := by decide +kernel
theorem dX7_filled_89 : decode cX7_filled 89 = .ok (.getfield 16, 3) := by decide +kernel
theorem dX7_filled_92 : decode cX7_filled 92 = .ok (.bipush 40, 2) := by decide +kernel
theorem dX7_filled_94 : decode cX7_filled 94 = .ok (.iload_n 1, 1) := by decide +kernel
theorem dX7_filled_95 : decode cX7_filled 95 = .ok (.imul, 1) := by decide +kernel
theorem dX7_filled_96 : decode cX7_filled 96 = .ok (.iload_n 3, 1) := by decide +kernel
theorem dX7_filled_97 : decode cX7_filled 97 = .ok (.iadd, 1) := by decide +kernel
theorem dX7_filled_98 : decode cX7_filled 98 = .ok (.iload 8, 2) := by decide +kernel
theorem dX7_filled_100 : decode cX7_filled 100 = .ok (.iadd, 1) := by decide +kernel
theorem dX7_filled_101 : decode cX7_filled 101 = .ok (.iaload, 1) := by decide +kernel
theorem dX7_filled_102 : decode cX7_filled 102 = .ok (.iastore, 1) := by decide +kernel
theorem dX7_filled_103 : decode cX7_filled 103 = .ok (.aload_n 0, 1) := by decide +kernel
theorem dX7_filled_104 : decode cX7_filled 104 = .ok (.getfield 40, 3) := by decide +kernel
theorem dX7_filled_107 : decode cX7_filled 107 = .ok (.iload 8, 2) := by decide +kernel
theorem dX7_filled_109 : decode cX7_filled 109 = .ok (.iaload, 1) := by decide +kernel
theorem dX7_filled_110 : decode cX7_filled 110 = .ok (.iconst (-1), 1) := by decide +kernel
theorem dX7_filled_111 : decode cX7_filled 111 = .ok (.bipush 9, 2) := by decide +kernel
theorem dX7_filled_113 : decode cX7_filled 113 = .ok (.invokestatic 56, 3) := by decide +kernel
theorem dX7_filled_116 : decode cX7_filled 116 = .ok (.ifCond .ne 7, 3) := by decide +kernel
theorem dX7_filled_119 : decode cX7_filled 119 = .ok (.ldc2_w 54, 3) := by decide +kernel
theorem dX7_filled_122 : decode cX7_filled 122 = .ok (.lreturn, 1) := by decide +kernel
theorem dX7_filled_123 : decode cX7_filled 123 = .ok (.iinc 8 1, 3) := by decide +kernel
theorem dX7_filled_126 : decode cX7_filled 126 = .ok (.goto (-51), 3) := by decide +kernel
theorem dX7_filled_129 : decode cX7_filled 129 = .ok (.iload 6, 2) := by decide +kernel
theorem dX7_filled_131 : decode cX7_filled 131 = .ok (.iconst (-1), 1) := by decide +kernel
theorem dX7_filled_132 : decode cX7_filled 132 = .ok (.iload 4, 2) := by decide +kernel
theorem dX7_filled_134 : decode cX7_filled 134 = .ok (.iconst 1, 1) := by decide +kernel
theorem dX7_filled_135 : decode cX7_filled 135 = .ok (.isub, 1) := by decide +kernel
theorem dX7_filled_136 : decode cX7_filled 136 = .ok (.invokestatic 56, 3) := by decide +kernel
theorem dX7_filled_139 : decode cX7_filled 139 = .ok (.ifCond .ne 7, 3) := by decide +kernel
theorem dX7_filled_142 : decode cX7_filled 142 = .ok (.ldc2_w 54, 3) := by decide +kernel
theorem dX7_filled_145 : decode cX7_filled 145 = .ok (.lreturn, 1) := by decide +kernel
theorem dX7_filled_146 : decode cX7_filled 146 = .ok (.aload_n 0, 1) := by decide +kernel
theorem dX7_filled_147 : decode cX7_filled 147 = .ok (.iload 4, 2) := by decide +kernel
theorem dX7_filled_149 : decode cX7_filled 149 = .ok (.putfield 138, 3) := by decide +kernel
theorem dX7_filled_152 : decode cX7_filled 152 = .ok (.aload_n 0, 1) := by decide +kernel
theorem dX7_filled_153 : decode cX7_filled 153 = .ok (.bipush 9, 2) := by decide +kernel
theorem dX7_filled_155 : decode cX7_filled 155 = .ok (.putfield 135, 3) := by decide +kernel
theorem dX7_filled_158 : decode cX7_filled 158 = .ok (.aload_n 0, 1) := by decide +kernel
theorem dX7_filled_159 : decode cX7_filled 159 = .ok (.invokevirtual 152, 3) := by decide +kernel
theorem dX7_filled_162 : decode cX7_filled 162 = .ok (.iload 4, 2) := by decide +kernel
theorem dX7_filled_164 : decode cX7_filled 164 = .ok (.iload 5, 2) := by decide +kernel
theorem dX7_filled_166 : decode cX7_filled 166 = .ok (.imul, 1) := by decide +kernel
theorem dX7_filled_167 : decode cX7_filled 167 = .ok (.bipush 80, 2) := by decide +kernel
theorem dX7_filled_169 : decode cX7_filled 169 = .ok (.if_icmp .le 7, 3) := by decide +kernel
theorem dX7_filled_172 : decode cX7_filled 172 = .ok (.lconst 0, 1) := by decide +kernel
theorem dX7_filled_173 : decode cX7_filled 173 = .ok (.goto 17, 3) := by decide +kernel
theorem dX7_filled_176 : decode cX7_filled 176 = .ok (.aload_n 0, 1) := by decide +kernel
theorem dX7_filled_177 : decode cX7_filled 177 = .ok (.getfield 43, 3) := by decide +kernel
theorem dX7_filled_180 : decode cX7_filled 180 = .ok (.iconst 0, 1) := by decide +kernel
theorem dX7_filled_181 : decode cX7_filled 181 = .ok (.iload 4, 2) := by decide +kernel
theorem dX7_filled_183 : decode cX7_filled 183 = .ok (.iload 5, 2) := by decide +kernel
theorem dX7_filled_185 : decode cX7_filled 185 = .ok (.imul, 1) := by decide +kernel
theorem dX7_filled_186 : decode cX7_filled 186 = .ok (.invokestatic 141, 3) := by decide +kernel
theorem dX7_filled_189 : decode cX7_filled 189 = .ok (.laload, 1) := by decide +kernel
theorem dX7_filled_190 : decode cX7_filled 190 = .ok (.lstore 8, 2) := by decide +kernel
theorem dX7_filled_192 : decode cX7_filled 192 = .ok (.iload 6, 2) := by decide +kernel
theorem dX7_filled_194 : decode cX7_filled 194 = .ok (.iconst (-1), 1) := by decide +kernel
theorem dX7_filled_195 : decode cX7_filled 195 = .ok (.if_icmp .ne 8, 3) := by decide +kernel
theorem dX7_filled_198 : decode cX7_filled 198 = .ok (.lload 8, 2) := by decide +kernel
theorem dX7_filled_200 : decode cX7_filled 200 = .ok (.goto 27, 3) := by decide +kernel
theorem dX7_filled_203 : decode cX7_filled 203 = .ok (.lload 8, 2) := by decide +kernel
theorem dX7_filled_205 : decode cX7_filled 205 = .ok (.lconst 0, 1) := by decide +kernel
theorem dX7_filled_206 : decode cX7_filled 206 = .ok (.lcmp, 1) := by decide +kernel
theorem dX7_filled_207 : decode cX7_filled 207 = .ok (.ifCond .ne 9, 3) := by decide +kernel
theorem dX7_filled_210 : decode cX7_filled 210 = .ok (.ldc2_w 54, 3) := by decide +kernel
theorem dX7_filled_213 : decode cX7_filled 213 = .ok (.goto 14, 3) := by decide +kernel
theorem dX7_filled_216 : decode cX7_filled 216 = .ok (.aload_n 0, 1) := by decide +kernel
theorem dX7_filled_217 : decode cX7_filled 217 = .ok (.iload 4, 2) := by decide +kernel
theorem dX7_filled_219 : decode cX7_filled 219 = .ok (.iload 5, 2) := by decide +kernel
theorem dX7_filled_221 : decode cX7_filled 221 = .ok (.imul, 1) := by decide +kernel
theorem dX7_filled_222 : decode cX7_filled 222 = .ok (.iload 6, 2) := by decide +kernel
theorem dX7_filled_224 : decode cX7_filled 224 = .ok (.invokevirtual 172, 3) := by decide +kernel
theorem dX7_filled_227 : decode cX7_filled 227 = .ok (.lreturn, 1) := by decide +kernel
theorem dX7_isBall_0 : decode cX7_isBall 0 = .ok (.iload_n 0, 1) := by decide +kernel
theorem dX7_isBall_1 : decode cX7_isBall 1 = .ok (.iconst 0, 1) := by decide +kernel
theorem dX7_isBall_2 : decode cX7_isBall 2 = .ok (.bipush 9, 2) := by decide +kernel
theorem dX7_isBall_4 : decode cX7_isBall 4 = .ok (.invokestatic 56, 3) := by decide +kernel
theorem dX7_isBall_7 : decode cX7_isBall 7 = .ok (.ireturn, 1) := by decide +kernel
theorem dX7_kind_0 : decode cX7_kind 0 = .ok (.iload_n 1, 1) := by decide +kernel
theorem dX7_kind_1 : decode cX7_kind 1 = .ok (.invokestatic 180, 3) := by decide +kernel
theorem dX7_kind_4 : decode cX7_kind 4 = .ok (.ifCond .ne 5, 3) := by decide +kernel
theorem dX7_kind_7 : decode cX7_kind 7 = .ok (.iconst (-1), 1) := by decide +kernel
theorem dX7_kind_8 : decode cX7_kind 8 = .ok (.ireturn, 1) := by decide +kernel
theorem dX7_kind_9 : decode cX7_kind 9 = .ok (.iload_n 2, 1) := by decide +kernel
theorem dX7_kind_10 : decode cX7_kind 10 = .ok (.iconst 0, 1) := by decide +kernel
theorem dX7_kind_11 : decode cX7_kind 11 = .ok (.iconst 2, 1) := by decide +kernel
theorem dX7_kind_12 : decode cX7_kind 12 = .ok (.invokestatic 56, 3) := by decide +kernel
theorem dX7_kind_15 : decode cX7_kind 15 = .ok (.ifCond .ne 6, 3) := by decide +kernel
theorem dX7_kind_18 : decode cX7_kind 18 = .ok (.bipush (-2), 2) := by decide +kernel
theorem dX7_kind_20 : decode cX7_kind 20 = .ok (.ireturn, 1) := by decide +kernel
theorem dX7_kind_21 : decode cX7_kind 21 = .ok (.aload_n 0, 1) := by decide +kernel
theorem dX7_kind_22 : decode cX7_kind 22 = .ok (.getfield 22, 3) := by decide +kernel
theorem dX7_kind_25 : decode cX7_kind 25 = .ok (.iload_n 1, 1) := by decide +kernel
theorem dX7_kind_26 : decode cX7_kind 26 = .ok (.iaload, 1) := by decide +kernel
theorem dX7_kind_27 : decode cX7_kind 27 = .ok (.istore_n 3, 1) := by decide +kernel
theorem dX7_kind_28 : decode cX7_kind 28 = .ok (.aload_n 0, 1) := by decide +kernel
theorem dX7_kind_29 : decode cX7_kind 29 = .ok (.getfield 22, 3) := by decide +kernel
theorem dX7_kind_32 : decode cX7_kind 32 = .ok (.iload_n 1, 1) := by decide +kernel
theorem dX7_kind_33 : decode cX7_kind 33 = .ok (.iload_n 2, 1) := by decide +kernel
theorem dX7_kind_34 : decode cX7_kind 34 = .ok (.iastore, 1) := by decide +kernel
theorem dX7_kind_35 : decode cX7_kind 35 = .ok (.iload_n 3, 1) := by decide +kernel
theorem dX7_kind_36 : decode cX7_kind 36 = .ok (.ireturn, 1) := by decide +kernel
theorem dX7_mayGoTo_0 : decode cX7_mayGoTo 0 = .ok (.aload_n 0, 1) := by decide +kernel
theorem dX7_mayGoTo_1 : decode cX7_mayGoTo 1 = .ok (.getfield 22, 3) := by decide +kernel
theorem dX7_mayGoTo_4 : decode cX7_mayGoTo 4 = .ok (.iload_n 1, 1) := by decide +kernel
theorem dX7_mayGoTo_5 : decode cX7_mayGoTo 5 = .ok (.iaload, 1) := by decide +kernel
theorem dX7_mayGoTo_6 : decode cX7_mayGoTo 6 = .ok (.ifCond .ne 8, 3) := by decide +kernel
theorem dX7_mayGoTo_9 : decode cX7_mayGoTo 9 = .ok (.bipush 9, 2) := by decide +kernel
theorem dX7_mayGoTo_11 : decode cX7_mayGoTo 11 = .ok (.goto 19, 3) := by decide +kernel
theorem dX7_mayGoTo_14 : decode cX7_mayGoTo 14 = .ok (.aload_n 0, 1) := by decide +kernel
theorem dX7_mayGoTo_15 : decode cX7_mayGoTo 15 = .ok (.getfield 22, 3) := by decide +kernel
theorem dX7_mayGoTo_18 : decode cX7_mayGoTo 18 = .ok (.iload_n 1, 1) := by decide +kernel
theorem dX7_mayGoTo_19 : decode cX7_mayGoTo 19 = .ok (.iaload, 1) := by decide +kernel
theorem dX7_mayGoTo_20 : decode cX7_mayGoTo 20 = .ok (.iconst 1, 1) := by decide +kernel
theorem dX7_mayGoTo_21 : decode cX7_mayGoTo 21 = .ok (.if_icmp .ne 8, 3) := by decide +kernel
theorem dX7_mayGoTo_24 : decode cX7_mayGoTo 24 = .ok (.bipush 6, 2) := by decide +kernel
theorem dX7_mayGoTo_26 : decode cX7_mayGoTo 26 = .ok (.goto 4, 3) := by decide +kernel
theorem dX7_mayGoTo_29 : decode cX7_mayGoTo 29 = .ok (.iconst 4, 1) := by decide +kernel
theorem dX7_mayGoTo_30 : decode cX7_mayGoTo 30 = .ok (.ireturn, 1) := by decide +kernel
theorem dX7_broken_0 : decode cX7_broken 0 = .ok (.aload_n 0, 1) := by decide +kernel
theorem dX7_broken_1 : decode cX7_broken 1 = .ok (.invokevirtual 100, 3) := by decide +kernel
theorem dX7_broken_4 : decode cX7_broken 4 = .ok (.ifCond .ne 6, 3) := by decide +kernel
theorem dX7_broken_7 : decode cX7_broken 7 = .ok (.bipush (-3), 2) := by decide +kernel
theorem dX7_broken_9 : decode cX7_broken 9 = .ok (.ireturn, 1) := by decide +kernel
theorem dX7_broken_10 : decode cX7_broken 10 = .ok (.aload_n 0, 1) := by decide +kernel
theorem dX7_broken_11 : decode cX7_broken 11 = .ok (.invokevirtual 116, 3) := by decide +kernel
theorem dX7_broken_14 : decode cX7_broken 14 = .ok (.iconst 0, 1) := by decide +kernel
theorem dX7_broken_15 : decode cX7_broken 15 = .ok (.istore_n 1, 1) := by decide +kernel
theorem dX7_broken_16 : decode cX7_broken 16 = .ok (.iconst 0, 1) := by decide +kernel
theorem dX7_broken_17 : decode cX7_broken 17 = .ok (.istore_n 2, 1) := by decide +kernel
theorem dX7_broken_18 : decode cX7_broken 18 = .ok (.iload_n 2, 1) := by decide +kernel
theorem dX7_broken_19 : decode cX7_broken 19 = .ok (.sipush 999, 3) := by decide +kernel
theorem dX7_broken_22 : decode cX7_broken 22 = .ok (.if_icmp .gt 59, 3) := by decide +kernel
theorem dX7_broken_25 : decode cX7_broken 25 = .ok (.iload_n 1, 1) := by decide +kernel
theorem dX7_broken_26 : decode cX7_broken 26 = .ok (.aload_n 0, 1) := by decide +kernel
theorem dX7_broken_27 : decode cX7_broken 27 = .ok (.getfield 28, 3) := by decide +kernel
theorem dX7_broken_30 : decode cX7_broken 30 = .ok (.iload_n 2, 1) := by decide +kernel
theorem dX7_broken_31 : decode cX7_broken 31 = .ok (.iaload, 1) := by decide +kernel
theorem dX7_broken_32 : decode cX7_broken 32 = .ok (.bipush (-9), 2) := by decide +kernel
theorem dX7_broken_34 : decode cX7_broken 34 = .ok (.if_icmp .eq 38, 3) := by decide +kernel
theorem dX7_broken_37 : decode cX7_broken 37 = .ok (.aload_n 0, 1) := by decide +kernel
theorem dX7_broken_38 : decode cX7_broken 38 = .ok (.getfield 19, 3) := by decide +kernel
theorem dX7_broken_41 : decode cX7_broken 41 = .ok (.iload_n 2, 1) := by decide +kernel
theorem dX7_broken_42 : decode cX7_broken 42 = .ok (.aload_n 0, 1) := by decide +kernel
theorem dX7_broken_43 : decode cX7_broken 43 = .ok (.getfield 60, 3) := by decide +kernel
theorem dX7_broken_46 : decode cX7_broken 46 = .ok (.irem, 1) := by decide +kernel
theorem dX7_broken_47 : decode cX7_broken 47 = .ok (.iaload, 1) := by decide +kernel
theorem dX7_broken_48 : decode cX7_broken 48 = .ok (.aload_n 0, 1) := by decide +kernel
theorem dX7_broken_49 : decode cX7_broken 49 = .ok (.aload_n 0, 1) := by decide +kernel
theorem dX7_broken_50 : decode cX7_broken 50 = .ok (.getfield 28, 3) := by decide +kernel
theorem dX7_broken_53 : decode cX7_broken 53 = .ok (.iload_n 2, 1) := by decide +kernel
theorem dX7_broken_54 : decode cX7_broken 54 = .ok (.iaload, 1) := by decide +kernel
theorem dX7_broken_55 : decode cX7_broken 55 = .ok (.invokevirtual 183, 3) := by decide +kernel
theorem dX7_broken_58 : decode cX7_broken 58 = .ok (.if_icmp .le 14, 3) := by decide +kernel
theorem dX7_broken_61 : decode cX7_broken 61 = .ok (.iconst 1, 1) := by decide +kernel
theorem dX7_broken_62 : decode cX7_broken 62 = .ok (.aload_n 0, 1) := by decide +kernel
theorem dX7_broken_63 : decode cX7_broken 63 = .ok (.getfield 28, 3) := by decide +kernel
theorem dX7_broken_66 : decode cX7_broken 66 = .ok (.iload_n 2, 1) := by decide +kernel
theorem dX7_broken_67 : decode cX7_broken 67 = .ok (.iaload, 1) := by decide +kernel
theorem dX7_broken_68 : decode cX7_broken 68 = .ok (.ishl, 1) := by decide +kernel
theorem dX7_broken_69 : decode cX7_broken 69 = .ok (.goto 4, 3) := by decide +kernel
theorem dX7_broken_72 : decode cX7_broken 72 = .ok (.iconst 0, 1) := by decide +kernel
theorem dX7_broken_73 : decode cX7_broken 73 = .ok (.ior, 1) := by decide +kernel
theorem dX7_broken_74 : decode cX7_broken 74 = .ok (.istore_n 1, 1) := by decide +kernel
theorem dX7_broken_75 : decode cX7_broken 75 = .ok (.iinc 2 1, 3) := by decide +kernel
theorem dX7_broken_78 : decode cX7_broken 78 = .ok (.goto (-60), 3) := by decide +kernel
theorem dX7_broken_81 : decode cX7_broken 81 = .ok (.iload_n 1, 1) := by decide +kernel
theorem dX7_broken_82 : decode cX7_broken 82 = .ok (.ireturn, 1) := by decide +kernel
theorem dX7_drop_0 : decode cX7_drop 0 = .ok (.iload_n 1, 1) := by decide +kernel
theorem dX7_drop_1 : decode cX7_drop 1 = .ok (.iconst 0, 1) := by decide +kernel
theorem dX7_drop_2 : decode cX7_drop 2 = .ok (.sipush 1023, 3) := by decide +kernel
theorem dX7_drop_5 : decode cX7_drop 5 = .ok (.invokestatic 56, 3) := by decide +kernel
theorem dX7_drop_8 : decode cX7_drop 8 = .ok (.ifCond .ne 6, 3) := by decide +kernel
theorem dX7_drop_11 : decode cX7_drop 11 = .ok (.bipush (-2), 2) := by decide +kernel
theorem dX7_drop_13 : decode cX7_drop 13 = .ok (.ireturn, 1) := by decide +kernel
theorem dX7_drop_14 : decode cX7_drop 14 = .ok (.aload_n 0, 1) := by decide +kernel
theorem dX7_drop_15 : decode cX7_drop 15 = .ok (.getfield 60, 3) := by decide +kernel
theorem dX7_drop_18 : decode cX7_drop 18 = .ok (.ifCond .ne 6, 3) := by decide +kernel
theorem dX7_drop_21 : decode cX7_drop 21 = .ok (.bipush (-3), 2) := by decide +kernel
theorem dX7_drop_23 : decode cX7_drop 23 = .ok (.ireturn, 1) := by decide +kernel
theorem dX7_drop_24 : decode cX7_drop 24 = .ok (.aload_n 0, 1) := by decide +kernel
theorem dX7_drop_25 : decode cX7_drop 25 = .ok (.getfield 81, 3) := by decide +kernel
theorem dX7_drop_28 : decode cX7_drop 28 = .ok (.istore_n 2, 1) := by decide +kernel
theorem dX7_drop_29 : decode cX7_drop 29 = .ok (.aload_n 0, 1) := by decide +kernel
theorem dX7_drop_30 : decode cX7_drop 30 = .ok (.iload_n 1, 1) := by decide +kernel
theorem dX7_drop_31 : decode cX7_drop 31 = .ok (.putfield 81, 3) := by decide +kernel
theorem dX7_drop_34 : decode cX7_drop 34 = .ok (.iload_n 2, 1) := by decide +kernel
theorem dX7_drop_35 : decode cX7_drop 35 = .ok (.ireturn, 1) := by decide +kernel
theorem dX7_empty_0 : decode cX7_empty 0 = .ok (.iload_n 1, 1) := by decide +kernel
theorem dX7_empty_1 : decode cX7_empty 1 = .ok (.iconst 0, 1) := by decide +kernel
theorem dX7_empty_2 : decode cX7_empty 2 = .ok (.sipush 999, 3) := by decide +kernel
theorem dX7_empty_5 : decode cX7_empty 5 = .ok (.invokestatic 56, 3) := by decide +kernel
theorem dX7_empty_8 : decode cX7_empty 8 = .ok (.ifCond .ne 6, 3) := by decide +kernel
theorem dX7_empty_11 : decode cX7_empty 11 = .ok (.bipush (-2), 2) := by decide +kernel
theorem dX7_empty_13 : decode cX7_empty 13 = .ok (.ireturn, 1) := by decide +kernel
theorem dX7_empty_14 : decode cX7_empty 14 = .ok (.aload_n 0, 1) := by decide +kernel
theorem dX7_empty_15 : decode cX7_empty 15 = .ok (.invokevirtual 100, 3) := by decide +kernel
theorem dX7_empty_18 : decode cX7_empty 18 = .ok (.ifCond .ne 6, 3) := by decide +kernel
theorem dX7_empty_21 : decode cX7_empty 21 = .ok (.bipush (-3), 2) := by decide +kernel
theorem dX7_empty_23 : decode cX7_empty 23 = .ok (.ireturn, 1) := by decide +kernel
theorem dX7_empty_24 : decode cX7_empty 24 = .ok (.aload_n 0, 1) := by decide +kernel
theorem dX7_empty_25 : decode cX7_empty 25 = .ok (.invokevirtual 116, 3) := by decide +kernel
theorem dX7_empty_28 : decode cX7_empty 28 = .ok (.iconst 0, 1) := by decide +kernel
theorem dX7_empty_29 : decode cX7_empty 29 = .ok (.istore_n 2, 1) := by decide +kernel
theorem dX7_empty_30 : decode cX7_empty 30 = .ok (.iconst 0, 1) := by decide +kernel
theorem dX7_empty_31 : decode cX7_empty 31 = .ok (.istore_n 3, 1) := by decide +kernel
theorem dX7_empty_32 : decode cX7_empty 32 = .ok (.iload_n 3, 1) := by decide +kernel
theorem dX7_empty_33 : decode cX7_empty 33 = .ok (.iload_n 1, 1) := by decide +kernel
theorem dX7_empty_34 : decode cX7_empty 34 = .ok (.if_icmp .gt 40, 3) := by decide +kernel
theorem dX7_empty_37 : decode cX7_empty 37 = .ok (.iload_n 2, 1) := by decide +kernel
theorem dX7_empty_38 : decode cX7_empty 38 = .ok (.aload_n 0, 1) := by decide +kernel
theorem dX7_empty_39 : decode cX7_empty 39 = .ok (.getfield 28, 3) := by decide +kernel
theorem dX7_empty_42 : decode cX7_empty 42 = .ok (.iload_n 3, 1) := by decide +kernel
theorem dX7_empty_43 : decode cX7_empty 43 = .ok (.iaload, 1) := by decide +kernel
theorem dX7_empty_44 : decode cX7_empty 44 = .ok (.bipush (-9), 2) := by decide +kernel
theorem dX7_empty_46 : decode cX7_empty 46 = .ok (.if_icmp .eq 19, 3) := by decide +kernel
theorem dX7_empty_49 : decode cX7_empty 49 = .ok (.aload_n 0, 1) := by decide +kernel
theorem dX7_empty_50 : decode cX7_empty 50 = .ok (.getfield 81, 3) := by decide +kernel
theorem dX7_empty_53 : decode cX7_empty 53 = .ok (.aload_n 0, 1) := by decide +kernel
theorem dX7_empty_54 : decode cX7_empty 54 = .ok (.getfield 28, 3) := by decide +kernel
theorem dX7_empty_57 : decode cX7_empty 57 = .ok (.iload_n 3, 1) := by decide +kernel
theorem dX7_empty_58 : decode cX7_empty 58 = .ok (.iaload, 1) := by decide +kernel
theorem dX7_empty_59 : decode cX7_empty 59 = .ok (.ishr, 1) := by decide +kernel
theorem dX7_empty_60 : decode cX7_empty 60 = .ok (.iconst 1, 1) := by decide +kernel
theorem dX7_empty_61 : decode cX7_empty 61 = .ok (.iand, 1) := by decide +kernel
theorem dX7_empty_62 : decode cX7_empty 62 = .ok (.goto 4, 3) := by decide +kernel
theorem dX7_empty_65 : decode cX7_empty 65 = .ok (.iconst 0, 1) := by decide +kernel
theorem dX7_empty_66 : decode cX7_empty 66 = .ok (.iadd, 1) := by decide +kernel
theorem dX7_empty_67 : decode cX7_empty 67 = .ok (.istore_n 2, 1) := by decide +kernel
theorem dX7_empty_68 : decode cX7_empty 68 = .ok (.iinc 3 1, 3) := by decide +kernel
theorem dX7_empty_71 : decode cX7_empty 71 = .ok (.goto (-39), 3) := by decide +kernel
theorem dX7_empty_74 : decode cX7_empty 74 = .ok (.iload_n 2, 1) := by decide +kernel
theorem dX7_empty_75 : decode cX7_empty 75 = .ok (.ireturn, 1) := by decide +kernel
theorem dX7_sheet_0 : decode cX7_sheet 0 = .ok (.aload_n 0, 1) := by decide +kernel
theorem dX7_sheet_1 : decode cX7_sheet 1 = .ok (.iconst 0, 1) := by decide +kernel
theorem dX7_sheet_2 : decode cX7_sheet 2 = .ok (.putfield 50, 3) := by decide +kernel
theorem dX7_sheet_5 : decode cX7_sheet 5 = .ok (.iload_n 1, 1) := by decide +kernel
theorem dX7_sheet_6 : decode cX7_sheet 6 = .ok (.invokestatic 63, 3) := by decide +kernel
theorem dX7_sheet_9 : decode cX7_sheet 9 = .ok (.ifCond .ne 5, 3) := by decide +kernel
theorem dX7_sheet_12 : decode cX7_sheet 12 = .ok (.iconst (-1), 1) := by decide +kernel
theorem dX7_sheet_13 : decode cX7_sheet 13 = .ok (.ireturn, 1) := by decide +kernel
theorem dX7_sheet_14 : decode cX7_sheet 14 = .ok (.iload_n 2, 1) := by decide +kernel
theorem dX7_sheet_15 : decode cX7_sheet 15 = .ok (.invokestatic 67, 3) := by decide +kernel
theorem dX7_sheet_18 : decode cX7_sheet 18 = .ok (.ifCond .eq 9, 3) := by decide +kernel
theorem dX7_sheet_21 : decode cX7_sheet 21 = .ok (.iload_n 3, 1) := by decide +kernel
theorem dX7_sheet_22 : decode cX7_sheet 22 = .ok (.bipush 40, 2) := by decide +kernel
theorem dX7_sheet_24 : decode cX7_sheet 24 = .ok (.if_icmp .le 6, 3) := by decide +kernel
theorem dX7_sheet_27 : decode cX7_sheet 27 = .ok (.bipush (-2), 2) := by decide +kernel
theorem dX7_sheet_29 : decode cX7_sheet 29 = .ok (.ireturn, 1) := by decide +kernel
theorem dX7_sheet_30 : decode cX7_sheet 30 = .ok (.iload_n 3, 1) := by decide +kernel
theorem dX7_sheet_31 : decode cX7_sheet 31 = .ok (.ifCond .ge 9, 3) := by decide +kernel
theorem dX7_sheet_34 : decode cX7_sheet 34 = .ok (.aload_n 0, 1) := by decide +kernel
theorem dX7_sheet_35 : decode cX7_sheet 35 = .ok (.iconst 4, 1) := by decide +kernel
theorem dX7_sheet_36 : decode cX7_sheet 36 = .ok (.invokevirtual 74, 3) := by decide +kernel
theorem dX7_sheet_39 : decode cX7_sheet 39 = .ok (.ireturn, 1) := by decide +kernel
theorem dX7_sheet_40 : decode cX7_sheet 40 = .ok (.aload_n 0, 1) := by decide +kernel
theorem dX7_sheet_41 : decode cX7_sheet 41 = .ok (.getfield 9, 3) := by decide +kernel
theorem dX7_sheet_44 : decode cX7_sheet 44 = .ok (.iload_n 1, 1) := by decide +kernel
theorem dX7_sheet_45 : decode cX7_sheet 45 = .ok (.iload_n 2, 1) := by decide +kernel
theorem dX7_sheet_46 : decode cX7_sheet 46 = .ok (.iastore, 1) := by decide +kernel
theorem dX7_sheet_47 : decode cX7_sheet 47 = .ok (.aload_n 0, 1) := by decide +kernel
theorem dX7_sheet_48 : decode cX7_sheet 48 = .ok (.getfield 13, 3) := by decide +kernel
theorem dX7_sheet_51 : decode cX7_sheet 51 = .ok (.iload_n 1, 1) := by decide +kernel
theorem dX7_sheet_52 : decode cX7_sheet 52 = .ok (.iload_n 3, 1) := by decide +kernel
theorem dX7_sheet_53 : decode cX7_sheet 53 = .ok (.iastore, 1) := by decide +kernel
theorem dX7_sheet_54 : decode cX7_sheet 54 = .ok (.iconst 0, 1) := by decide +kernel
theorem dX7_sheet_55 : decode cX7_sheet 55 = .ok (.istore 4, 2) := by decide +kernel
theorem dX7_sheet_57 : decode cX7_sheet 57 = .ok (.iload 4, 2) := by decide +kernel
theorem dX7_sheet_59 : decode cX7_sheet 59 = .ok (.bipush 40, 2) := by decide +kernel
theorem dX7_sheet_61 : decode cX7_sheet 61 = .ok (.if_icmp .ge 22, 3) := by decide +kernel
theorem dX7_sheet_64 : decode cX7_sheet 64 = .ok (.aload_n 0, 1) := by decide +kernel
theorem dX7_sheet_65 : decode cX7_sheet 65 = .ok (.getfield 16, 3) := by decide +kernel
theorem dX7_sheet_68 : decode cX7_sheet 68 = .ok (.bipush 40, 2) := by decide +kernel
theorem dX7_sheet_70 : decode cX7_sheet 70 = .ok (.iload_n 1, 1) := by decide +kernel
theorem dX7_sheet_71 : decode cX7_sheet 71 = .ok (.imul, 1) := by decide +kernel
theorem dX7_sheet_72 : decode cX7_sheet 72 = .ok (.iload 4, 2) := by decide +kernel
theorem dX7_sheet_74 : decode cX7_sheet 74 = .ok (.iadd, 1) := by decide +kernel
theorem dX7_sheet_75 : decode cX7_sheet 75 = .ok (.iconst 0, 1) := by decide +kernel
theorem dX7_sheet_76 : decode cX7_sheet 76 = .ok (.iastore, 1) := by decide +kernel
theorem dX7_sheet_77 : decode cX7_sheet 77 = .ok (.iinc 4 1, 3) := by decide +kernel
theorem dX7_sheet_80 : decode cX7_sheet 80 = .ok (.goto (-23), 3) := by decide +kernel
theorem dX7_sheet_83 : decode cX7_sheet 83 = .ok (.iconst 1, 1) := by decide +kernel
theorem dX7_sheet_84 : decode cX7_sheet 84 = .ok (.ireturn, 1) := by decide +kernel
theorem dX7_lose_0 : decode cX7_lose 0 = .ok (.iload_n 1, 1) := by decide +kernel
theorem dX7_lose_1 : decode cX7_lose 1 = .ok (.invokestatic 63, 3) := by decide +kernel
theorem dX7_lose_4 : decode cX7_lose 4 = .ok (.ifCond .ne 5, 3) := by decide +kernel
theorem dX7_lose_7 : decode cX7_lose 7 = .ok (.iconst (-1), 1) := by decide +kernel
theorem dX7_lose_8 : decode cX7_lose 8 = .ok (.ireturn, 1) := by decide +kernel
theorem dX7_lose_9 : decode cX7_lose 9 = .ok (.aload_n 0, 1) := by decide +kernel
theorem dX7_lose_10 : decode cX7_lose 10 = .ok (.getfield 9, 3) := by decide +kernel
theorem dX7_lose_13 : decode cX7_lose 13 = .ok (.iload_n 1, 1) := by decide +kernel
theorem dX7_lose_14 : decode cX7_lose 14 = .ok (.iaload, 1) := by decide +kernel
theorem dX7_lose_15 : decode cX7_lose 15 = .ok (.bipush (-9), 2) := by decide +kernel
theorem dX7_lose_17 : decode cX7_lose 17 = .ok (.if_icmp .ne 7, 3) := by decide +kernel
theorem dX7_lose_20 : decode cX7_lose 20 = .ok (.iconst 0, 1) := by decide +kernel
theorem dX7_lose_21 : decode cX7_lose 21 = .ok (.goto 4, 3) := by decide +kernel
theorem dX7_lose_24 : decode cX7_lose 24 = .ok (.iconst 1, 1) := by decide +kernel
theorem dX7_lose_25 : decode cX7_lose 25 = .ok (.istore_n 2, 1) := by decide +kernel
theorem dX7_lose_26 : decode cX7_lose 26 = .ok (.aload_n 0, 1) := by decide +kernel
theorem dX7_lose_27 : decode cX7_lose 27 = .ok (.getfield 9, 3) := by decide +kernel
theorem dX7_lose_30 : decode cX7_lose 30 = .ok (.iload_n 1, 1) := by decide +kernel
theorem dX7_lose_31 : decode cX7_lose 31 = .ok (.bipush (-9), 2) := by decide +kernel
theorem dX7_lose_33 : decode cX7_lose 33 = .ok (.iastore, 1) := by decide +kernel
theorem dX7_lose_34 : decode cX7_lose 34 = .ok (.iload_n 2, 1) := by decide +kernel
theorem dX7_lose_35 : decode cX7_lose 35 = .ok (.ireturn, 1) := by decide +kernel
theorem dX7_put_0 : decode cX7_put 0 = .ok (.aload_n 0, 1) := by decide +kernel
theorem dX7_put_1 : decode cX7_put 1 = .ok (.iconst 0, 1) := by decide +kernel
theorem dX7_put_2 : decode cX7_put 2 = .ok (.putfield 50, 3) := by decide +kernel
theorem dX7_put_5 : decode cX7_put 5 = .ok (.iload_n 1, 1) := by decide +kernel
theorem dX7_put_6 : decode cX7_put 6 = .ok (.invokestatic 63, 3) := by decide +kernel
theorem dX7_put_9 : decode cX7_put 9 = .ok (.ifCond .ne 5, 3) := by decide +kernel
theorem dX7_put_12 : decode cX7_put 12 = .ok (.iconst (-1), 1) := by decide +kernel
theorem dX7_put_13 : decode cX7_put 13 = .ok (.ireturn, 1) := by decide +kernel
theorem dX7_put_14 : decode cX7_put 14 = .ok (.aload_n 0, 1) := by decide +kernel
theorem dX7_put_15 : decode cX7_put 15 = .ok (.getfield 9, 3) := by decide +kernel
theorem dX7_put_18 : decode cX7_put 18 = .ok (.iload_n 1, 1) := by decide +kernel
theorem dX7_put_19 : decode cX7_put 19 = .ok (.iaload, 1) := by decide +kernel
theorem dX7_put_20 : decode cX7_put 20 = .ok (.bipush (-9), 2) := by decide +kernel
theorem dX7_put_22 : decode cX7_put 22 = .ok (.if_icmp .ne 9, 3) := by decide +kernel
theorem dX7_put_25 : decode cX7_put 25 = .ok (.aload_n 0, 1) := by decide +kernel
theorem dX7_put_26 : decode cX7_put 26 = .ok (.iconst 1, 1) := by decide +kernel
theorem dX7_put_27 : decode cX7_put 27 = .ok (.invokevirtual 74, 3) := by decide +kernel
theorem dX7_put_30 : decode cX7_put 30 = .ok (.ireturn, 1) := by decide +kernel
theorem dX7_put_31 : decode cX7_put 31 = .ok (.iload_n 2, 1) := by decide +kernel
theorem dX7_put_32 : decode cX7_put 32 = .ok (.iconst 0, 1) := by decide +kernel
theorem dX7_put_33 : decode cX7_put 33 = .ok (.aload_n 0, 1) := by decide +kernel
theorem dX7_put_34 : decode cX7_put 34 = .ok (.getfield 13, 3) := by decide +kernel
theorem dX7_put_37 : decode cX7_put 37 = .ok (.iload_n 1, 1) := by decide +kernel
theorem dX7_put_38 : decode cX7_put 38 = .ok (.iaload, 1) := by decide +kernel
theorem dX7_put_39 : decode cX7_put 39 = .ok (.iconst 1, 1) := by decide +kernel
theorem dX7_put_40 : decode cX7_put 40 = .ok (.isub, 1) := by decide +kernel
theorem dX7_put_41 : decode cX7_put 41 = .ok (.invokestatic 56, 3) := by decide +kernel
theorem dX7_put_44 : decode cX7_put 44 = .ok (.ifCond .ne 9, 3) := by decide +kernel
theorem dX7_put_47 : decode cX7_put 47 = .ok (.aload_n 0, 1) := by decide +kernel
theorem dX7_put_48 : decode cX7_put 48 = .ok (.iconst 3, 1) := by decide +kernel
theorem dX7_put_49 : decode cX7_put 49 = .ok (.invokevirtual 74, 3) := by decide +kernel
theorem dX7_put_52 : decode cX7_put 52 = .ok (.ireturn, 1) := by decide +kernel
theorem dX7_put_53 : decode cX7_put 53 = .ok (.aload_n 0, 1) := by decide +kernel
theorem dX7_put_54 : decode cX7_put 54 = .ok (.getfield 16, 3) := by decide +kernel
theorem dX7_put_57 : decode cX7_put 57 = .ok (.bipush 40, 2) := by decide +kernel
theorem dX7_put_59 : decode cX7_put 59 = .ok (.iload_n 1, 1) := by decide +kernel
theorem dX7_put_60 : decode cX7_put 60 = .ok (.imul, 1) := by decide +kernel
theorem dX7_put_61 : decode cX7_put 61 = .ok (.iload_n 2, 1) := by decide +kernel
theorem dX7_put_62 : decode cX7_put 62 = .ok (.iadd, 1) := by decide +kernel
theorem dX7_put_63 : decode cX7_put 63 = .ok (.aload_n 0, 1) := by decide +kernel
theorem dX7_put_64 : decode cX7_put 64 = .ok (.getfield 9, 3) := by decide +kernel
theorem dX7_put_67 : decode cX7_put 67 = .ok (.iload_n 1, 1) := by decide +kernel
theorem dX7_put_68 : decode cX7_put 68 = .ok (.iaload, 1) := by decide +kernel
theorem dX7_put_69 : decode cX7_put 69 = .ok (.ifCond .ne 8, 3) := by decide +kernel
theorem dX7_put_72 : decode cX7_put 72 = .ok (.iload_n 3, 1) := by decide +kernel
theorem dX7_put_73 : decode cX7_put 73 = .ok (.i2b, 1) := by decide +kernel
theorem dX7_put_74 : decode cX7_put 74 = .ok (.goto 19, 3) := by decide +kernel
theorem dX7_put_77 : decode cX7_put 77 = .ok (.aload_n 0, 1) := by decide +kernel
theorem dX7_put_78 : decode cX7_put 78 = .ok (.getfield 9, 3) := by decide +kernel
theorem dX7_put_81 : decode cX7_put 81 = .ok (.iload_n 1, 1) := by decide +kernel
theorem dX7_put_82 : decode cX7_put 82 = .ok (.iaload, 1) := by decide +kernel
theorem dX7_put_83 : decode cX7_put 83 = .ok (.iconst 1, 1) := by decide +kernel
theorem dX7_put_84 : decode cX7_put 84 = .ok (.if_icmp .ne 8, 3) := by decide +kernel
theorem dX7_put_87 : decode cX7_put 87 = .ok (.iload_n 3, 1) := by decide +kernel
theorem dX7_put_88 : decode cX7_put 88 = .ok (.i2s, 1) := by decide +kernel
theorem dX7_put_89 : decode cX7_put 89 = .ok (.goto 4, 3) := by decide +kernel
theorem dX7_put_92 : decode cX7_put 92 = .ok (.iload_n 3, 1) := by decide +kernel
theorem dX7_put_93 : decode cX7_put 93 = .ok (.iastore, 1) := by decide +kernel
theorem dX7_put_94 : decode cX7_put 94 = .ok (.iconst 1, 1) := by decide +kernel
theorem dX7_put_95 : decode cX7_put 95 = .ok (.ireturn, 1) := by decide +kernel
theorem dX7_cell_0 : decode cX7_cell 0 = .ok (.aload_n 0, 1) := by decide +kernel
theorem dX7_cell_1 : decode cX7_cell 1 = .ok (.iconst 0, 1) := by decide +kernel
theorem dX7_cell_2 : decode cX7_cell 2 = .ok (.putfield 50, 3) := by decide +kernel
theorem dX7_cell_5 : decode cX7_cell 5 = .ok (.iload_n 1, 1) := by decide +kernel
theorem dX7_cell_6 : decode cX7_cell 6 = .ok (.invokestatic 63, 3) := by decide +kernel
theorem dX7_cell_9 : decode cX7_cell 9 = .ok (.ifCond .eq 10, 3) := by decide +kernel
theorem dX7_cell_12 : decode cX7_cell 12 = .ok (.iload_n 3, 1) := by decide +kernel
theorem dX7_cell_13 : decode cX7_cell 13 = .ok (.invokestatic 67, 3) := by decide +kernel
theorem dX7_cell_16 : decode cX7_cell 16 = .ok (.ifCond .ne 7, 3) := by decide +kernel
theorem dX7_cell_19 : decode cX7_cell 19 = .ok (.ldc2_w 54, 3) := by decide +kernel
theorem dX7_cell_22 : decode cX7_cell 22 = .ok (.lreturn, 1) := by decide +kernel
theorem dX7_cell_23 : decode cX7_cell 23 = .ok (.aload_n 0, 1) := by decide +kernel
theorem dX7_cell_24 : decode cX7_cell 24 = .ok (.getfield 9, 3) := by decide +kernel
theorem dX7_cell_27 : decode cX7_cell 27 = .ok (.iload_n 1, 1) := by decide +kernel
theorem dX7_cell_28 : decode cX7_cell 28 = .ok (.iaload, 1) := by decide +kernel
theorem dX7_cell_29 : decode cX7_cell 29 = .ok (.bipush (-9), 2) := by decide +kernel
theorem dX7_cell_31 : decode cX7_cell 31 = .ok (.if_icmp .eq 19, 3) := by decide +kernel
theorem dX7_cell_34 : decode cX7_cell 34 = .ok (.aload_n 0, 1) := by decide +kernel
theorem dX7_cell_35 : decode cX7_cell 35 = .ok (.getfield 9, 3) := by decide +kernel
theorem dX7_cell_38 : decode cX7_cell 38 = .ok (.iload_n 1, 1) := by decide +kernel
theorem dX7_cell_39 : decode cX7_cell 39 = .ok (.iaload, 1) := by decide +kernel
theorem dX7_cell_40 : decode cX7_cell 40 = .ok (.iload_n 3, 1) := by decide +kernel
theorem dX7_cell_41 : decode cX7_cell 41 = .ok (.if_icmp .eq 9, 3) := by decide +kernel
theorem dX7_cell_44 : decode cX7_cell 44 = .ok (.aload_n 0, 1) := by decide +kernel
theorem dX7_cell_45 : decode cX7_cell 45 = .ok (.iconst 2, 1) := by decide +kernel
theorem dX7_cell_46 : decode cX7_cell 46 = .ok (.invokevirtual 168, 3) := by decide +kernel
theorem dX7_cell_49 : decode cX7_cell 49 = .ok (.lreturn, 1) := by decide +kernel
theorem dX7_cell_50 : decode cX7_cell 50 = .ok (.aload_n 0, 1) := by decide +kernel
theorem dX7_cell_51 : decode cX7_cell 51 = .ok (.getfield 9, 3) := by decide +kernel
theorem dX7_cell_54 : decode cX7_cell 54 = .ok (.iload_n 1, 1) := by decide +kernel
theorem dX7_cell_55 : decode cX7_cell 55 = .ok (.iaload, 1) := by decide +kernel
theorem dX7_cell_56 : decode cX7_cell 56 = .ok (.bipush (-9), 2) := by decide +kernel
theorem dX7_cell_58 : decode cX7_cell 58 = .ok (.if_icmp .ne 9, 3) := by decide +kernel
theorem dX7_cell_61 : decode cX7_cell 61 = .ok (.aload_n 0, 1) := by decide +kernel
theorem dX7_cell_62 : decode cX7_cell 62 = .ok (.iconst 1, 1) := by decide +kernel
theorem dX7_cell_63 : decode cX7_cell 63 = .ok (.invokevirtual 168, 3) := by decide +kernel
theorem dX7_cell_66 : decode cX7_cell 66 = .ok (.lreturn, 1) := by decide +kernel
theorem dX7_cell_67 : decode cX7_cell 67 = .ok (.iload_n 2, 1) := by decide +kernel
theorem dX7_cell_68 : decode cX7_cell 68 = .ok (.iconst 0, 1) := by decide +kernel
theorem dX7_cell_69 : decode cX7_cell 69 = .ok (.aload_n 0, 1) := by decide +kernel
theorem dX7_cell_70 : decode cX7_cell 70 = .ok (.getfield 13, 3) := by decide +kernel
theorem dX7_cell_73 : decode cX7_cell 73 = .ok (.iload_n 1, 1) := by decide +kernel
theorem dX7_cell_74 : decode cX7_cell 74 = .ok (.iaload, 1) := by decide +kernel
theorem dX7_cell_75 : decode cX7_cell 75 = .ok (.iconst 1, 1) := by decide +kernel
theorem dX7_cell_76 : decode cX7_cell 76 = .ok (.isub, 1) := by decide +kernel
theorem dX7_cell_77 : decode cX7_cell 77 = .ok (.invokestatic 56, 3) := by decide +kernel
theorem dX7_cell_80 : decode cX7_cell 80 = .ok (.ifCond .ne 9, 3) := by decide +kernel
theorem dX7_cell_83 : decode cX7_cell 83 = .ok (.aload_n 0, 1) := by decide +kernel
theorem dX7_cell_84 : decode cX7_cell 84 = .ok (.iconst 3, 1) := by decide +kernel
theorem dX7_cell_85 : decode cX7_cell 85 = .ok (.invokevirtual 168, 3) := by decide +kernel
theorem dX7_cell_88 : decode cX7_cell 88 = .ok (.lreturn, 1) := by decide +kernel
theorem dX7_cell_89 : decode cX7_cell 89 = .ok (.aload_n 0, 1) := by decide +kernel
theorem dX7_cell_90 : decode cX7_cell 90 = .ok (.getfield 16, 3) := by decide +kernel
theorem dX7_cell_93 : decode cX7_cell 93 = .ok (.bipush 40, 2) := by decide +kernel
theorem dX7_cell_95 : decode cX7_cell 95 = .ok (.iload_n 1, 1) := by decide +kernel
theorem dX7_cell_96 : decode cX7_cell 96 = .ok (.imul, 1) := by decide +kernel
theorem dX7_cell_97 : decode cX7_cell 97 = .ok (.iload_n 2, 1) := by decide +kernel
theorem dX7_cell_98 : decode cX7_cell 98 = .ok (.iadd, 1) := by decide +kernel
theorem dX7_cell_99 : decode cX7_cell 99 = .ok (.iaload, 1) := by decide +kernel
theorem dX7_cell_100 : decode cX7_cell 100 = .ok (.i2l, 1) := by decide +kernel
theorem dX7_cell_101 : decode cX7_cell 101 = .ok (.lreturn, 1) := by decide +kernel
theorem dX7_copy_0 : decode cX7_copy 0 = .ok (.aload_n 0, 1) := by decide +kernel
theorem dX7_copy_1 : decode cX7_copy 1 = .ok (.iconst 0, 1) := by decide +kernel
theorem dX7_copy_2 : decode cX7_copy 2 = .ok (.putfield 50, 3) := by decide +kernel
theorem dX7_copy_5 : decode cX7_copy 5 = .ok (.iload_n 1, 1) := by decide +kernel
theorem dX7_copy_6 : decode cX7_copy 6 = .ok (.invokestatic 63, 3) := by decide +kernel
theorem dX7_copy_9 : decode cX7_copy 9 = .ok (.ifCond .eq 10, 3) := by decide +kernel
theorem dX7_copy_12 : decode cX7_copy 12 = .ok (.iload_n 3, 1) := by decide +kernel
theorem dX7_copy_13 : decode cX7_copy 13 = .ok (.invokestatic 63, 3) := by decide +kernel
theorem dX7_copy_16 : decode cX7_copy 16 = .ok (.ifCond .ne 5, 3) := by decide +kernel
theorem dX7_copy_19 : decode cX7_copy 19 = .ok (.iconst (-1), 1) := by decide +kernel
theorem dX7_copy_20 : decode cX7_copy 20 = .ok (.ireturn, 1) := by decide +kernel
theorem dX7_copy_21 : decode cX7_copy 21 = .ok (.aload_n 0, 1) := by decide +kernel
theorem dX7_copy_22 : decode cX7_copy 22 = .ok (.getfield 9, 3) := by decide +kernel
theorem dX7_copy_25 : decode cX7_copy 25 = .ok (.iload_n 1, 1) := by decide +kernel
theorem dX7_copy_26 : decode cX7_copy 26 = .ok (.iaload, 1) := by decide +kernel
theorem dX7_copy_27 : decode cX7_copy 27 = .ok (.bipush (-9), 2) := by decide +kernel
theorem dX7_copy_29 : decode cX7_copy 29 = .ok (.if_icmp .eq 14, 3) := by decide +kernel
theorem dX7_copy_32 : decode cX7_copy 32 = .ok (.aload_n 0, 1) := by decide +kernel
theorem dX7_copy_33 : decode cX7_copy 33 = .ok (.getfield 9, 3) := by decide +kernel
theorem dX7_copy_36 : decode cX7_copy 36 = .ok (.iload_n 3, 1) := by decide +kernel
theorem dX7_copy_37 : decode cX7_copy 37 = .ok (.iaload, 1) := by decide +kernel
theorem dX7_copy_38 : decode cX7_copy 38 = .ok (.bipush (-9), 2) := by decide +kernel
theorem dX7_copy_40 : decode cX7_copy 40 = .ok (.if_icmp .ne 9, 3) := by decide +kernel
theorem dX7_copy_43 : decode cX7_copy 43 = .ok (.aload_n 0, 1) := by decide +kernel
theorem dX7_copy_44 : decode cX7_copy 44 = .ok (.iconst 1, 1) := by decide +kernel
theorem dX7_copy_45 : decode cX7_copy 45 = .ok (.invokevirtual 74, 3) := by decide +kernel
theorem dX7_copy_48 : decode cX7_copy 48 = .ok (.ireturn, 1) := by decide +kernel
theorem dX7_copy_49 : decode cX7_copy 49 = .ok (.aload_n 0, 1) := by decide +kernel
theorem dX7_copy_50 : decode cX7_copy 50 = .ok (.getfield 9, 3) := by decide +kernel
theorem dX7_copy_53 : decode cX7_copy 53 = .ok (.iload_n 1, 1) := by decide +kernel
theorem dX7_copy_54 : decode cX7_copy 54 = .ok (.iaload, 1) := by decide +kernel
theorem dX7_copy_55 : decode cX7_copy 55 = .ok (.aload_n 0, 1) := by decide +kernel
theorem dX7_copy_56 : decode cX7_copy 56 = .ok (.getfield 9, 3) := by decide +kernel
theorem dX7_copy_59 : decode cX7_copy 59 = .ok (.iload_n 3, 1) := by decide +kernel
theorem dX7_copy_60 : decode cX7_copy 60 = .ok (.iaload, 1) := by decide +kernel
theorem dX7_copy_61 : decode cX7_copy 61 = .ok (.if_icmp .eq 9, 3) := by decide +kernel
theorem dX7_copy_64 : decode cX7_copy 64 = .ok (.aload_n 0, 1) := by decide +kernel
theorem dX7_copy_65 : decode cX7_copy 65 = .ok (.iconst 2, 1) := by decide +kernel
theorem dX7_copy_66 : decode cX7_copy 66 = .ok (.invokevirtual 74, 3) := by decide +kernel
theorem dX7_copy_69 : decode cX7_copy 69 = .ok (.ireturn, 1) := by decide +kernel
theorem dX7_copy_70 : decode cX7_copy 70 = .ok (.iload_n 2, 1) := by decide +kernel
theorem dX7_copy_71 : decode cX7_copy 71 = .ok (.ifCond .lt 38, 3) := by decide +kernel
theorem dX7_copy_74 : decode cX7_copy 74 = .ok (.iload 4, 2) := by decide +kernel
theorem dX7_copy_76 : decode cX7_copy 76 = .ok (.ifCond .lt 33, 3) := by decide +kernel
theorem dX7_copy_79 : decode cX7_copy 79 = .ok (.iload 5, 2) := by decide +kernel
theorem dX7_copy_81 : decode cX7_copy 81 = .ok (.ifCond .lt 28, 3) := by decide +kernel
theorem dX7_copy_84 : decode cX7_copy 84 = .ok (.iload_n 2, 1) := by decide +kernel
theorem dX7_copy_85 : decode cX7_copy 85 = .ok (.aload_n 0, 1) := by decide +kernel
theorem dX7_copy_86 : decode cX7_copy 86 = .ok (.getfield 13, 3) := by decide +kernel
theorem dX7_copy_89 : decode cX7_copy 89 = .ok (.iload_n 1, 1) := by decide +kernel
theorem dX7_copy_90 : decode cX7_copy 90 = .ok (.iaload, 1) := by decide +kernel
theorem dX7_copy_91 : decode cX7_copy 91 = .ok (.if_icmp .gt 18, 3) := by decide +kernel
theorem dX7_copy_94 : decode cX7_copy 94 = .ok (.iload 4, 2) := by decide +kernel
theorem dX7_copy_96 : decode cX7_copy 96 = .ok (.aload_n 0, 1) := by decide +kernel
theorem dX7_copy_97 : decode cX7_copy 97 = .ok (.getfield 13, 3) := by decide +kernel
theorem dX7_copy_100 : decode cX7_copy 100 = .ok (.iload_n 3, 1) := by decide +kernel
theorem dX7_copy_101 : decode cX7_copy 101 = .ok (.iaload, 1) := by decide +kernel
theorem dX7_copy_102 : decode cX7_copy 102 = .ok (.if_icmp .gt 7, 3) := by decide +kernel
theorem dX7_copy_105 : decode cX7_copy 105 = .ok (.iconst 1, 1) := by decide +kernel
theorem dX7_copy_106 : decode cX7_copy 106 = .ok (.goto 4, 3) := by decide +kernel
theorem dX7_copy_109 : decode cX7_copy 109 = .ok (.iconst 0, 1) := by decide +kernel
theorem dX7_copy_110 : decode cX7_copy 110 = .ok (.istore 6, 2) := by decide +kernel
theorem dX7_copy_112 : decode cX7_copy 112 = .ok (.iload 6, 2) := by decide +kernel
theorem dX7_copy_114 : decode cX7_copy 114 = .ok (.ifCond .eq 30, 3) := by decide +kernel
theorem dX7_copy_117 : decode cX7_copy 117 = .ok (.iload 5, 2) := by decide +kernel
theorem dX7_copy_119 : decode cX7_copy 119 = .ok (.aload_n 0, 1) := by decide +kernel
theorem dX7_copy_120 : decode cX7_copy 120 = .ok (.getfield 13, 3) := by decide +kernel
theorem dX7_copy_123 : decode cX7_copy 123 = .ok (.iload_n 1, 1) := by decide +kernel
theorem dX7_copy_124 : decode cX7_copy 124 = .ok (.iaload, 1) := by decide +kernel
theorem dX7_copy_125 : decode cX7_copy 125 = .ok (.iload_n 2, 1) := by decide +kernel
theorem dX7_copy_126 : decode cX7_copy 126 = .ok (.isub, 1) := by decide +kernel
theorem dX7_copy_127 : decode cX7_copy 127 = .ok (.if_icmp .gt 17, 3) := by decide +kernel
theorem dX7_copy_130 : decode cX7_copy 130 = .ok (.iload 5, 2) := by decide +kernel
theorem dX7_copy_132 : decode cX7_copy 132 = .ok (.aload_n 0, 1) := by decide +kernel
theorem dX7_copy_133 : decode cX7_copy 133 = .ok (.getfield 13, 3) := by decide +kernel
theorem dX7_copy_136 : decode cX7_copy 136 = .ok (.iload_n 3, 1) := by decide +kernel
theorem dX7_copy_137 : decode cX7_copy 137 = .ok (.iaload, 1) := by decide +kernel
theorem dX7_copy_138 : decode cX7_copy 138 = .ok (.iload 4, 2) := by decide +kernel
theorem dX7_copy_140 : decode cX7_copy 140 = .ok (.isub, 1) := by decide +kernel
theorem dX7_copy_141 : decode cX7_copy 141 = .ok (.if_icmp .le 9, 3) := by decide +kernel
theorem dX7_copy_144 : decode cX7_copy 144 = .ok (.aload_n 0, 1) := by decide +kernel
theorem dX7_copy_145 : decode cX7_copy 145 = .ok (.iconst 3, 1) := by decide +kernel
theorem dX7_copy_146 : decode cX7_copy 146 = .ok (.invokevirtual 74, 3) := by decide +kernel
theorem dX7_copy_149 : decode cX7_copy 149 = .ok (.ireturn, 1) := by decide +kernel
theorem dX7_copy_150 : decode cX7_copy 150 = .ok (.iload_n 2, 1) := by decide +kernel
theorem dX7_copy_151 : decode cX7_copy 151 = .ok (.iload 4, 2) := by decide +kernel
theorem dX7_copy_153 : decode cX7_copy 153 = .ok (.if_icmp .ge 7, 3) := by decide +kernel
theorem dX7_copy_156 : decode cX7_copy 156 = .ok (.iconst 1, 1) := by decide +kernel
theorem dX7_copy_157 : decode cX7_copy 157 = .ok (.goto 4, 3) := by decide +kernel
theorem dX7_copy_160 : decode cX7_copy 160 = .ok (.iconst 0, 1) := by decide +kernel
theorem dX7_copy_161 : decode cX7_copy 161 = .ok (.istore 7, 2) := by decide +kernel
theorem dX7_copy_163 : decode cX7_copy 163 = .ok (.iconst 0, 1) := by decide +kernel
theorem dX7_copy_164 : decode cX7_copy 164 = .ok (.istore 8, 2) := by decide +kernel
theorem dX7_copy_166 : decode cX7_copy 166 = .ok (.iload 8, 2) := by decide +kernel
theorem dX7_copy_168 : decode cX7_copy 168 = .ok (.iload 5, 2) := by decide +kernel
theorem dX7_copy_170 : decode cX7_copy 170 = .ok (.if_icmp .ge 57, 3) := by decide +kernel
theorem dX7_copy_173 : decode cX7_copy 173 = .ok (.iload 7, 2) := by decide +kernel
theorem dX7_copy_175 : decode cX7_copy 175 = .ok (.ifCond .eq 13, 3) := by decide +kernel
theorem dX7_copy_178 : decode cX7_copy 178 = .ok (.iload 5, 2) := by decide +kernel
theorem dX7_copy_180 : decode cX7_copy 180 = .ok (.iconst 1, 1) := by decide +kernel
theorem dX7_copy_181 : decode cX7_copy 181 = .ok (.isub, 1) := by decide +kernel
theorem dX7_copy_182 : decode cX7_copy 182 = .ok (.iload 8, 2) := by decide +kernel
theorem dX7_copy_184 : decode cX7_copy 184 = .ok (.isub, 1) := by decide +kernel
theorem dX7_copy_185 : decode cX7_copy 185 = .ok (.goto 5, 3) := by decide +kernel
theorem dX7_copy_188 : decode cX7_copy 188 = .ok (.iload 8, 2) := by decide +kernel
theorem dX7_copy_190 : decode cX7_copy 190 = .ok (.istore 9, 2) := by decide +kernel
theorem dX7_copy_192 : decode cX7_copy 192 = .ok (.aload_n 0, 1) := by decide +kernel
theorem dX7_copy_193 : decode cX7_copy 193 = .ok (.getfield 16, 3) := by decide +kernel
theorem dX7_copy_196 : decode cX7_copy 196 = .ok (.bipush 40, 2) := by decide +kernel
theorem dX7_copy_198 : decode cX7_copy 198 = .ok (.iload_n 3, 1) := by decide +kernel
theorem dX7_copy_199 : decode cX7_copy 199 = .ok (.imul, 1) := by decide +kernel
theorem dX7_copy_200 : decode cX7_copy 200 = .ok (.iload 4, 2) := by decide +kernel
theorem dX7_copy_202 : decode cX7_copy 202 = .ok (.iadd, 1) := by decide +kernel
theorem dX7_copy_203 : decode cX7_copy 203 = .ok (.iload 9, 2) := by decide +kernel
theorem dX7_copy_205 : decode cX7_copy 205 = .ok (.iadd, 1) := by decide +kernel
theorem dX7_copy_206 : decode cX7_copy 206 = .ok (.aload_n 0, 1) := by decide +kernel
theorem dX7_copy_207 : decode cX7_copy 207 = .ok (.getfield 16, 3) := by decide +kernel
theorem dX7_copy_210 : decode cX7_copy 210 = .ok (.bipush 40, 2) := by decide +kernel
theorem dX7_copy_212 : decode cX7_copy 212 = .ok (.iload_n 1, 1) := by decide +kernel
theorem dX7_copy_213 : decode cX7_copy 213 = .ok (.imul, 1) := by decide +kernel
theorem dX7_copy_214 : decode cX7_copy 214 = .ok (.iload_n 2, 1) := by decide +kernel
theorem dX7_copy_215 : decode cX7_copy 215 = .ok (.iadd, 1) := by decide +kernel
theorem dX7_copy_216 : decode cX7_copy 216 = .ok (.iload 9, 2) := by decide +kernel
theorem dX7_copy_218 : decode cX7_copy 218 = .ok (.iadd, 1) := by decide +kernel
theorem dX7_copy_219 : decode cX7_copy 219 = .ok (.iaload, 1) := by decide +kernel
theorem dX7_copy_220 : decode cX7_copy 220 = .ok (.iastore, 1) := by decide +kernel
theorem dX7_copy_221 : decode cX7_copy 221 = .ok (.iinc 8 1, 3) := by decide +kernel
theorem dX7_copy_224 : decode cX7_copy 224 = .ok (.goto (-58), 3) := by decide +kernel
theorem dX7_copy_227 : decode cX7_copy 227 = .ok (.iload 5, 2) := by decide +kernel
theorem dX7_copy_229 : decode cX7_copy 229 = .ok (.ireturn, 1) := by decide +kernel
theorem dX7_begins_0 : decode cX7_begins 0 = .ok (.aload_n 0, 1) := by decide +kernel
theorem dX7_begins_1 : decode cX7_begins 1 = .ok (.bipush 31, 2) := by decide +kernel
theorem dX7_begins_3 : decode cX7_begins 3 = .ok (.aload_n 0, 1) := by decide +kernel
theorem dX7_begins_4 : decode cX7_begins 4 = .ok (.getfield 186, 3) := by decide +kernel
theorem dX7_begins_7 : decode cX7_begins 7 = .ok (.imul, 1) := by decide +kernel
theorem dX7_begins_8 : decode cX7_begins 8 = .ok (.iload_n 1, 1) := by decide +kernel
theorem dX7_begins_9 : decode cX7_begins 9 = .ok (.iadd, 1) := by decide +kernel
theorem dX7_begins_10 : decode cX7_begins 10 = .ok (.putfield 186, 3) := by decide +kernel
theorem dX7_begins_13 : decode cX7_begins 13 = .ok (.return_, 1) := by decide +kernel
theorem dX7_tell_0 : decode cX7_tell 0 = .ok (.iload_n 1, 1) := by decide +kernel
theorem dX7_tell_1 : decode cX7_tell 1 = .ok (.invokestatic 180, 3) := by decide +kernel
theorem dX7_tell_4 : decode cX7_tell 4 = .ok (.ifCond .ne 5, 3) := by decide +kernel
theorem dX7_tell_7 : decode cX7_tell 7 = .ok (.iconst (-1), 1) := by decide +kernel
theorem dX7_tell_8 : decode cX7_tell 8 = .ok (.ireturn, 1) := by decide +kernel
theorem dX7_tell_9 : decode cX7_tell 9 = .ok (.aload_n 0, 1) := by decide +kernel
theorem dX7_tell_10 : decode cX7_tell 10 = .ok (.getfield 22, 3) := by decide +kernel
theorem dX7_tell_13 : decode cX7_tell 13 = .ok (.iload_n 1, 1) := by decide +kernel
theorem dX7_tell_14 : decode cX7_tell 14 = .ok (.iaload, 1) := by decide +kernel
theorem dX7_tell_15 : decode cX7_tell 15 = .ok (.lookupswitch 67 #[(1, 25), (2, 40)], 25) := by decide +kernel
theorem dX7_tell_40 : decode cX7_tell 40 = .ok (.aload_n 0, 1) := by decide +kernel
theorem dX7_tell_41 : decode cX7_tell 41 = .ok (.iconst 2, 1) := by decide +kernel
theorem dX7_tell_42 : decode cX7_tell 42 = .ok (.invokevirtual 189, 3) := by decide +kernel
theorem dX7_tell_45 : decode cX7_tell 45 = .ok (.aload_n 0, 1) := by decide +kernel
theorem dX7_tell_46 : decode cX7_tell 46 = .ok (.iconst 1, 1) := by decide +kernel
theorem dX7_tell_47 : decode cX7_tell 47 = .ok (.invokevirtual 189, 3) := by decide +kernel
theorem dX7_tell_50 : decode cX7_tell 50 = .ok (.iload_n 1, 1) := by decide +kernel
theorem dX7_tell_51 : decode cX7_tell 51 = .ok (.bipush 100, 2) := by decide +kernel
theorem dX7_tell_53 : decode cX7_tell 53 = .ok (.iadd, 1) := by decide +kernel
theorem dX7_tell_54 : decode cX7_tell 54 = .ok (.ireturn, 1) := by decide +kernel
theorem dX7_tell_55 : decode cX7_tell 55 = .ok (.aload_n 0, 1) := by decide +kernel
theorem dX7_tell_56 : decode cX7_tell 56 = .ok (.iconst 3, 1) := by decide +kernel
theorem dX7_tell_57 : decode cX7_tell 57 = .ok (.invokevirtual 189, 3) := by decide +kernel
theorem dX7_tell_60 : decode cX7_tell 60 = .ok (.aload_n 0, 1) := by decide +kernel
theorem dX7_tell_61 : decode cX7_tell 61 = .ok (.iconst 2, 1) := by decide +kernel
theorem dX7_tell_62 : decode cX7_tell 62 = .ok (.invokevirtual 189, 3) := by decide +kernel
theorem dX7_tell_65 : decode cX7_tell 65 = .ok (.aload_n 0, 1) := by decide +kernel
theorem dX7_tell_66 : decode cX7_tell 66 = .ok (.iconst 1, 1) := by decide +kernel
theorem dX7_tell_67 : decode cX7_tell 67 = .ok (.invokevirtual 189, 3) := by decide +kernel
theorem dX7_tell_70 : decode cX7_tell 70 = .ok (.aload_n 0, 1) := by decide +kernel
theorem dX7_tell_71 : decode cX7_tell 71 = .ok (.iconst 1, 1) := by decide +kernel
theorem dX7_tell_72 : decode cX7_tell 72 = .ok (.invokevirtual 189, 3) := by decide +kernel
theorem dX7_tell_75 : decode cX7_tell 75 = .ok (.iconst 2, 1) := by decide +kernel
theorem dX7_tell_76 : decode cX7_tell 76 = .ok (.iload_n 1, 1) := by decide +kernel
theorem dX7_tell_77 : decode cX7_tell 77 = .ok (.imul, 1) := by decide +kernel
theorem dX7_tell_78 : decode cX7_tell 78 = .ok (.bipush 100, 2) := by decide +kernel
theorem dX7_tell_80 : decode cX7_tell 80 = .ok (.iadd, 1) := by decide +kernel
theorem dX7_tell_81 : decode cX7_tell 81 = .ok (.ireturn, 1) := by decide +kernel
theorem dX7_tell_82 : decode cX7_tell 82 = .ok (.aload_n 0, 1) := by decide +kernel
theorem dX7_tell_83 : decode cX7_tell 83 = .ok (.iconst 1, 1) := by decide +kernel
theorem dX7_tell_84 : decode cX7_tell 84 = .ok (.invokevirtual 189, 3) := by decide +kernel
theorem dX7_tell_87 : decode cX7_tell 87 = .ok (.iload_n 1, 1) := by decide +kernel
theorem dX7_tell_88 : decode cX7_tell 88 = .ok (.ireturn, 1) := by decide +kernel
theorem dX7_call_0 : decode cX7_call 0 = .ok (.iload_n 1, 1) := by decide +kernel
theorem dX7_call_1 : decode cX7_call 1 = .ok (.invokestatic 180, 3) := by decide +kernel
theorem dX7_call_4 : decode cX7_call 4 = .ok (.ifCond .ne 5, 3) := by decide +kernel
theorem dX7_call_7 : decode cX7_call 7 = .ok (.iconst (-1), 1) := by decide +kernel
theorem dX7_call_8 : decode cX7_call 8 = .ok (.ireturn, 1) := by decide +kernel
theorem dX7_call_9 : decode cX7_call 9 = .ok (.aload_n 0, 1) := by decide +kernel
theorem dX7_call_10 : decode cX7_call 10 = .ok (.aload_n 0, 1) := by decide +kernel
theorem dX7_call_11 : decode cX7_call 11 = .ok (.getfield 22, 3) := by decide +kernel
theorem dX7_call_14 : decode cX7_call 14 = .ok (.iload_n 1, 1) := by decide +kernel
theorem dX7_call_15 : decode cX7_call 15 = .ok (.iaload, 1) := by decide +kernel
theorem dX7_call_16 : decode cX7_call 16 = .ok (.iconst 2, 1) := by decide +kernel
theorem dX7_call_17 : decode cX7_call 17 = .ok (.if_icmp .ne 7, 3) := by decide +kernel
theorem dX7_call_20 : decode cX7_call 20 = .ok (.iconst 5, 1) := by decide +kernel
theorem dX7_call_21 : decode cX7_call 21 = .ok (.goto 4, 3) := by decide +kernel
theorem dX7_call_24 : decode cX7_call 24 = .ok (.iconst 4, 1) := by decide +kernel
theorem dX7_call_25 : decode cX7_call 25 = .ok (.invokevirtual 189, 3) := by decide +kernel
theorem dX7_call_28 : decode cX7_call 28 = .ok (.aload_n 0, 1) := by decide +kernel
theorem dX7_call_29 : decode cX7_call 29 = .ok (.getfield 22, 3) := by decide +kernel
theorem dX7_call_32 : decode cX7_call 32 = .ok (.iload_n 1, 1) := by decide +kernel
theorem dX7_call_33 : decode cX7_call 33 = .ok (.iaload, 1) := by decide +kernel
theorem dX7_call_34 : decode cX7_call 34 = .ok (.iconst 2, 1) := by decide +kernel
theorem dX7_call_35 : decode cX7_call 35 = .ok (.if_icmp .ne 8, 3) := by decide +kernel
theorem dX7_call_38 : decode cX7_call 38 = .ok (.bipush 70, 2) := by decide +kernel
theorem dX7_call_40 : decode cX7_call 40 = .ok (.goto 8, 3) := by decide +kernel
theorem dX7_call_43 : decode cX7_call 43 = .ok (.aload_n 0, 1) := by decide +kernel
theorem dX7_call_44 : decode cX7_call 44 = .ok (.iload_n 1, 1) := by decide +kernel
theorem dX7_call_45 : decode cX7_call 45 = .ok (.invokevirtual 183, 3) := by decide +kernel
theorem dX7_call_48 : decode cX7_call 48 = .ok (.ireturn, 1) := by decide +kernel
theorem dX7_as_0 : decode cX7_as 0 = .ok (.aload_n 0, 1) := by decide +kernel
theorem dX7_as_1 : decode cX7_as 1 = .ok (.iconst 0, 1) := by decide +kernel
theorem dX7_as_2 : decode cX7_as 2 = .ok (.putfield 50, 3) := by decide +kernel
theorem dX7_as_5 : decode cX7_as 5 = .ok (.iload_n 1, 1) := by decide +kernel
theorem dX7_as_6 : decode cX7_as 6 = .ok (.invokestatic 180, 3) := by decide +kernel
theorem dX7_as_9 : decode cX7_as 9 = .ok (.ifCond .ne 5, 3) := by decide +kernel
theorem dX7_as_12 : decode cX7_as 12 = .ok (.iconst (-1), 1) := by decide +kernel
theorem dX7_as_13 : decode cX7_as 13 = .ok (.ireturn, 1) := by decide +kernel
theorem dX7_as_14 : decode cX7_as 14 = .ok (.iload_n 2, 1) := by decide +kernel
theorem dX7_as_15 : decode cX7_as 15 = .ok (.iconst 0, 1) := by decide +kernel
theorem dX7_as_16 : decode cX7_as 16 = .ok (.iconst 2, 1) := by decide +kernel
theorem dX7_as_17 : decode cX7_as 17 = .ok (.invokestatic 56, 3) := by decide +kernel
theorem dX7_as_20 : decode cX7_as 20 = .ok (.ifCond .ne 6, 3) := by decide +kernel
theorem dX7_as_23 : decode cX7_as 23 = .ok (.bipush (-2), 2) := by decide +kernel
theorem dX7_as_25 : decode cX7_as 25 = .ok (.ireturn, 1) := by decide +kernel
theorem dX7_as_26 : decode cX7_as 26 = .ok (.aload_n 0, 1) := by decide +kernel
theorem dX7_as_27 : decode cX7_as 27 = .ok (.getfield 22, 3) := by decide +kernel
theorem dX7_as_30 : decode cX7_as 30 = .ok (.iload_n 1, 1) := by decide +kernel
theorem dX7_as_31 : decode cX7_as 31 = .ok (.iaload, 1) := by decide +kernel
theorem dX7_as_32 : decode cX7_as 32 = .ok (.iload_n 2, 1) := by decide +kernel
theorem dX7_as_33 : decode cX7_as 33 = .ok (.if_icmp .lt 7, 3) := by decide +kernel
theorem dX7_as_36 : decode cX7_as 36 = .ok (.iconst 1, 1) := by decide +kernel
theorem dX7_as_37 : decode cX7_as 37 = .ok (.goto 8, 3) := by decide +kernel
theorem dX7_as_40 : decode cX7_as 40 = .ok (.aload_n 0, 1) := by decide +kernel
theorem dX7_as_41 : decode cX7_as 41 = .ok (.iconst 2, 1) := by decide +kernel
theorem dX7_as_42 : decode cX7_as 42 = .ok (.invokevirtual 74, 3) := by decide +kernel
theorem dX7_as_45 : decode cX7_as 45 = .ok (.ireturn, 1) := by decide +kernel
theorem dX7_trace_0 : decode cX7_trace 0 = .ok (.aload_n 0, 1) := by decide +kernel
theorem dX7_trace_1 : decode cX7_trace 1 = .ok (.getfield 186, 3) := by decide +kernel
theorem dX7_trace_4 : decode cX7_trace 4 = .ok (.ireturn, 1) := by decide +kernel
theorem dX7_fault_0 : decode cX7_fault 0 = .ok (.aload_n 0, 1) := by decide +kernel
theorem dX7_fault_1 : decode cX7_fault 1 = .ok (.getfield 50, 3) := by decide +kernel
theorem dX7_fault_4 : decode cX7_fault 4 = .ok (.ireturn, 1) := by decide +kernel
theorem dX7_many_0 : decode cX7_many 0 = .ok (.iconst 0, 1) := by decide +kernel
theorem dX7_many_1 : decode cX7_many 1 = .ok (.istore_n 2, 1) := by decide +kernel
theorem dX7_many_2 : decode cX7_many 2 = .ok (.iconst 0, 1) := by decide +kernel
theorem dX7_many_3 : decode cX7_many 3 = .ok (.istore_n 3, 1) := by decide +kernel
theorem dX7_many_4 : decode cX7_many 4 = .ok (.iload_n 3, 1) := by decide +kernel
theorem dX7_many_5 : decode cX7_many 5 = .ok (.iconst 3, 1) := by decide +kernel
theorem dX7_many_6 : decode cX7_many 6 = .ok (.if_icmp .ge 26, 3) := by decide +kernel
theorem dX7_many_9 : decode cX7_many 9 = .ok (.iload_n 2, 1) := by decide +kernel
theorem dX7_many_10 : decode cX7_many 10 = .ok (.aload_n 0, 1) := by decide +kernel
theorem dX7_many_11 : decode cX7_many 11 = .ok (.getfield 34, 3) := by decide +kernel
theorem dX7_many_14 : decode cX7_many 14 = .ok (.iload_n 3, 1) := by decide +kernel
theorem dX7_many_15 : decode cX7_many 15 = .ok (.iaload, 1) := by decide +kernel
theorem dX7_many_16 : decode cX7_many 16 = .ok (.ifCond .le 7, 3) := by decide +kernel
theorem dX7_many_19 : decode cX7_many 19 = .ok (.iconst 1, 1) := by decide +kernel
theorem dX7_many_20 : decode cX7_many 20 = .ok (.goto 4, 3) := by decide +kernel
theorem dX7_many_23 : decode cX7_many 23 = .ok (.iconst 0, 1) := by decide +kernel
theorem dX7_many_24 : decode cX7_many 24 = .ok (.iadd, 1) := by decide +kernel
theorem dX7_many_25 : decode cX7_many 25 = .ok (.istore_n 2, 1) := by decide +kernel
theorem dX7_many_26 : decode cX7_many 26 = .ok (.iinc 3 1, 3) := by decide +kernel
theorem dX7_many_29 : decode cX7_many 29 = .ok (.goto (-25), 3) := by decide +kernel
theorem dX7_many_32 : decode cX7_many 32 = .ok (.iload_n 1, 1) := by decide +kernel
theorem dX7_many_33 : decode cX7_many 33 = .ok (.ifCond .ne 10, 3) := by decide +kernel
theorem dX7_many_36 : decode cX7_many 36 = .ok (.aload_n 0, 1) := by decide +kernel
theorem dX7_many_37 : decode cX7_many 37 = .ok (.getfield 60, 3) := by decide +kernel
theorem dX7_many_40 : decode cX7_many 40 = .ok (.goto 26, 3) := by decide +kernel
theorem dX7_many_43 : decode cX7_many 43 = .ok (.iload_n 1, 1) := by decide +kernel
theorem dX7_many_44 : decode cX7_many 44 = .ok (.iconst 1, 1) := by decide +kernel
theorem dX7_many_45 : decode cX7_many 45 = .ok (.if_icmp .ne 10, 3) := by decide +kernel
theorem dX7_many_48 : decode cX7_many 48 = .ok (.aload_n 0, 1) := by decide +kernel
theorem dX7_many_49 : decode cX7_many 49 = .ok (.getfield 78, 3) := by decide +kernel
theorem dX7_many_52 : decode cX7_many 52 = .ok (.goto 14, 3) := by decide +kernel
theorem dX7_many_55 : decode cX7_many 55 = .ok (.iload_n 1, 1) := by decide +kernel
theorem dX7_many_56 : decode cX7_many 56 = .ok (.iconst 2, 1) := by decide +kernel
theorem dX7_many_57 : decode cX7_many 57 = .ok (.if_icmp .ne 7, 3) := by decide +kernel
theorem dX7_many_60 : decode cX7_many 60 = .ok (.iload_n 2, 1) := by decide +kernel
theorem dX7_many_61 : decode cX7_many 61 = .ok (.goto 5, 3) := by decide +kernel
theorem dX7_many_64 : decode cX7_many 64 = .ok (.bipush (-2), 2) := by decide +kernel
theorem dX7_many_66 : decode cX7_many 66 = .ok (.ireturn, 1) := by decide +kernel
