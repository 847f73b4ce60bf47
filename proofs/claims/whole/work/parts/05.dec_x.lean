theorem dX0_init_0 : decode cX0_init 0 = .ok (.aload_n 0, 1) := by decide +kernel
theorem dX0_init_1 : decode cX0_init 1 = .ok (.invokespecial 3, 3) := by decide +kernel
theorem dX0_init_4 : decode cX0_init 4 = .ok (.aload_n 0, 1) := by decide +kernel
theorem dX0_init_5 : decode cX0_init 5 = .ok (.bipush 8, 2) := by decide +kernel
theorem dX0_init_7 : decode cX0_init 7 = .ok (.newarray .int, 2) := by decide +kernel
theorem dX0_init_9 : decode cX0_init 9 = .ok (.putfield 9, 3) := by decide +kernel
theorem dX0_init_12 : decode cX0_init 12 = .ok (.aload_n 0, 1) := by decide +kernel
theorem dX0_init_13 : decode cX0_init 13 = .ok (.bipush 8, 2) := by decide +kernel
theorem dX0_init_15 : decode cX0_init 15 = .ok (.newarray .int, 2) := by decide +kernel
theorem dX0_init_17 : decode cX0_init 17 = .ok (.putfield 15, 3) := by decide +kernel
theorem dX0_init_20 : decode cX0_init 20 = .ok (.aload_n 0, 1) := by decide +kernel
theorem dX0_init_21 : decode cX0_init 21 = .ok (.sipush 2560, 3) := by decide +kernel
theorem dX0_init_24 : decode cX0_init 24 = .ok (.newarray .int, 2) := by decide +kernel
theorem dX0_init_26 : decode cX0_init 26 = .ok (.putfield 18, 3) := by decide +kernel
theorem dX0_init_29 : decode cX0_init 29 = .ok (.return_, 1) := by decide +kernel
theorem dX1_init_0 : decode cX1_init 0 = .ok (.aload_n 0, 1) := by decide +kernel
theorem dX1_init_1 : decode cX1_init 1 = .ok (.invokespecial 3, 3) := by decide +kernel
theorem dX1_init_4 : decode cX1_init 4 = .ok (.aload_n 0, 1) := by decide +kernel
theorem dX1_init_5 : decode cX1_init 5 = .ok (.bipush 10, 2) := by decide +kernel
theorem dX1_init_7 : decode cX1_init 7 = .ok (.newarray .int, 2) := by decide +kernel
theorem dX1_init_9 : decode cX1_init 9 = .ok (.putfield 9, 3) := by decide +kernel
theorem dX1_init_12 : decode cX1_init 12 = .ok (.return_, 1) := by decide +kernel
theorem dX2_init_0 : decode cX2_init 0 = .ok (.aload_n 0, 1) := by decide +kernel
theorem dX2_init_1 : decode cX2_init 1 = .ok (.invokespecial 3, 3) := by decide +kernel
theorem dX2_init_4 : decode cX2_init 4 = .ok (.aload_n 0, 1) := by decide +kernel
theorem dX2_init_5 : decode cX2_init 5 = .ok (.bipush 10, 2) := by decide +kernel
theorem dX2_init_7 : decode cX2_init 7 = .ok (.newarray .int, 2) := by decide +kernel
theorem dX2_init_9 : decode cX2_init 9 = .ok (.putfield 9, 3) := by decide +kernel
theorem dX2_init_12 : decode cX2_init 12 = .ok (.return_, 1) := by decide +kernel
theorem dX3_init_0 : decode cX3_init 0 = .ok (.aload_n 0, 1) := by decide +kernel
theorem dX3_init_1 : decode cX3_init 1 = .ok (.invokespecial 3, 3) := by decide +kernel
theorem dX3_init_4 : decode cX3_init 4 = .ok (.aload_n 0, 1) := by decide +kernel
theorem dX3_init_5 : decode cX3_init 5 = .ok (.bipush 8, 2) := by decide +kernel
theorem dX3_init_7 : decode cX3_init 7 = .ok (.newarray .int, 2) := by decide +kernel
theorem dX3_init_9 : decode cX3_init 9 = .ok (.putfield 9, 3) := by decide +kernel
theorem dX3_init_12 : decode cX3_init 12 = .ok (.return_, 1) := by decide +kernel
theorem dX4_init_0 : decode cX4_init 0 = .ok (.aload_n 0, 1) := by decide +kernel
theorem dX4_init_1 : decode cX4_init 1 = .ok (.invokespecial 3, 3) := by decide +kernel
theorem dX4_init_4 : decode cX4_init 4 = .ok (.aload_n 0, 1) := by decide +kernel
theorem dX4_init_5 : decode cX4_init 5 = .ok (.bipush 40, 2) := by decide +kernel
theorem dX4_init_7 : decode cX4_init 7 = .ok (.newarray .int, 2) := by decide +kernel
theorem dX4_init_9 : decode cX4_init 9 = .ok (.putfield 9, 3) := by decide +kernel
theorem dX4_init_12 : decode cX4_init 12 = .ok (.aload_n 0, 1) := by decide +kernel
theorem dX4_init_13 : decode cX4_init 13 = .ok (.iconst (-1), 1) := by decide +kernel
theorem dX4_init_14 : decode cX4_init 14 = .ok (.putfield 15, 3) := by decide +kernel
theorem dX4_init_17 : decode cX4_init 17 = .ok (.return_, 1) := by decide +kernel
theorem dX5_init_0 : decode cX5_init 0 = .ok (.aload_n 0, 1) := by decide +kernel
theorem dX5_init_1 : decode cX5_init 1 = .ok (.invokespecial 3, 3) := by decide +kernel
theorem dX5_init_4 : decode cX5_init 4 = .ok (.aload_n 0, 1) := by decide +kernel
theorem dX5_init_5 : decode cX5_init 5 = .ok (.sipush 512, 3) := by decide +kernel
theorem dX5_init_8 : decode cX5_init 8 = .ok (.newarray .int, 2) := by decide +kernel
theorem dX5_init_10 : decode cX5_init 10 = .ok (.putfield 9, 3) := by decide +kernel
theorem dX5_init_13 : decode cX5_init 13 = .ok (.aload_n 0, 1) := by decide +kernel
theorem dX5_init_14 : decode cX5_init 14 = .ok (.sipush 512, 3) := by decide +kernel
theorem dX5_init_17 : decode cX5_init 17 = .ok (.newarray .int, 2) := by decide +kernel
theorem dX5_init_19 : decode cX5_init 19 = .ok (.putfield 15, 3) := by decide +kernel
theorem dX5_init_22 : decode cX5_init 22 = .ok (.return_, 1) := by decide +kernel
theorem dX6_init_0 : decode cX6_init 0 = .ok (.aload_n 0, 1) := by decide +kernel
theorem dX6_init_1 : decode cX6_init 1 = .ok (.invokespecial 3, 3) := by decide +kernel
theorem dX6_init_4 : decode cX6_init 4 = .ok (.aload_n 0, 1) := by decide +kernel
theorem dX6_init_5 : decode cX6_init 5 = .ok (.new 9, 3) := by decide +kernel
theorem dX6_init_8 : decode cX6_init 8 = .ok (.dup, 1) := by decide +kernel
theorem dX6_init_9 : decode cX6_init 9 = .ok (.invokespecial 11, 3) := by decide +kernel
theorem dX6_init_12 : decode cX6_init 12 = .ok (.putfield 12, 3) := by decide +kernel
theorem dX6_init_15 : decode cX6_init 15 = .ok (.aload_n 0, 1) := by decide +kernel
theorem dX6_init_16 : decode cX6_init 16 = .ok (.new 9, 3) := by decide +kernel
theorem dX6_init_19 : decode cX6_init 19 = .ok (.dup, 1) := by decide +kernel
theorem dX6_init_20 : decode cX6_init 20 = .ok (.invokespecial 11, 3) := by decide +kernel
theorem dX6_init_23 : decode cX6_init 23 = .ok (.putfield 18, 3) := by decide +kernel
theorem dX6_init_26 : decode cX6_init 26 = .ok (.aload_n 0, 1) := by decide +kernel
theorem dX6_init_27 : decode cX6_init 27 = .ok (.iconst 3, 1) := by decide +kernel
theorem dX6_init_28 : decode cX6_init 28 = .ok (.anewarray 9, 3) := by decide +kernel
theorem dX6_init_31 : decode cX6_init 31 = .ok (.putfield 21, 3) := by decide +kernel
theorem dX6_init_34 : decode cX6_init 34 = .ok (.aload_n 0, 1) := by decide +kernel
theorem dX6_init_35 : decode cX6_init 35 = .ok (.iconst 4, 1) := by decide +kernel
theorem dX6_init_36 : decode cX6_init 36 = .ok (.anewarray 25, 3) := by decide +kernel
theorem dX6_init_39 : decode cX6_init 39 = .ok (.putfield 27, 3) := by decide +kernel
theorem dX6_init_42 : decode cX6_init 42 = .ok (.aload_n 0, 1) := by decide +kernel
theorem dX6_init_43 : decode cX6_init 43 = .ok (.new 31, 3) := by decide +kernel
theorem dX6_init_46 : decode cX6_init 46 = .ok (.dup, 1) := by decide +kernel
theorem dX6_init_47 : decode cX6_init 47 = .ok (.invokespecial 33, 3) := by decide +kernel
theorem dX6_init_50 : decode cX6_init 50 = .ok (.putfield 34, 3) := by decide +kernel
theorem dX6_init_53 : decode cX6_init 53 = .ok (.aload_n 0, 1) := by decide +kernel
theorem dX6_init_54 : decode cX6_init 54 = .ok (.new 38, 3) := by decide +kernel
theorem dX6_init_57 : decode cX6_init 57 = .ok (.dup, 1) := by decide +kernel
theorem dX6_init_58 : decode cX6_init 58 = .ok (.invokespecial 40, 3) := by decide +kernel
theorem dX6_init_61 : decode cX6_init 61 = .ok (.putfield 41, 3) := by decide +kernel
theorem dX6_init_64 : decode cX6_init 64 = .ok (.aload_n 0, 1) := by decide +kernel
theorem dX6_init_65 : decode cX6_init 65 = .ok (.new 45, 3) := by decide +kernel
theorem dX6_init_68 : decode cX6_init 68 = .ok (.dup, 1) := by decide +kernel
theorem dX6_init_69 : decode cX6_init 69 = .ok (.invokespecial 47, 3) := by decide +kernel
theorem dX6_init_72 : decode cX6_init 72 = .ok (.putfield 48, 3) := by decide +kernel
theorem dX6_init_75 : decode cX6_init 75 = .ok (.aload_n 0, 1) := by decide +kernel
theorem dX6_init_76 : decode cX6_init 76 = .ok (.new 52, 3) := by decide +kernel
theorem dX6_init_79 : decode cX6_init 79 = .ok (.dup, 1) := by decide +kernel
theorem dX6_init_80 : decode cX6_init 80 = .ok (.invokespecial 54, 3) := by decide +kernel
theorem dX6_init_83 : decode cX6_init 83 = .ok (.putfield 55, 3) := by decide +kernel
theorem dX6_init_86 : decode cX6_init 86 = .ok (.aload_n 0, 1) := by decide +kernel
theorem dX6_init_87 : decode cX6_init 87 = .ok (.iconst 2, 1) := by decide +kernel
theorem dX6_init_88 : decode cX6_init 88 = .ok (.putfield 59, 3) := by decide +kernel
theorem dX6_init_91 : decode cX6_init 91 = .ok (.iconst 0, 1) := by decide +kernel
theorem dX6_init_92 : decode cX6_init 92 = .ok (.istore_n 1, 1) := by decide +kernel
theorem dX6_init_93 : decode cX6_init 93 = .ok (.iload_n 1, 1) := by decide +kernel
theorem dX6_init_94 : decode cX6_init 94 = .ok (.iconst 3, 1) := by decide +kernel
theorem dX6_init_95 : decode cX6_init 95 = .ok (.if_icmp .ge 22, 3) := by decide +kernel
theorem dX6_init_98 : decode cX6_init 98 = .ok (.aload_n 0, 1) := by decide +kernel
theorem dX6_init_99 : decode cX6_init 99 = .ok (.getfield 21, 3) := by decide +kernel
theorem dX6_init_102 : decode cX6_init 102 = .ok (.iload_n 1, 1) := by decide +kernel
theorem dX6_init_103 : decode cX6_init 103 = .ok (.new 9, 3) := by decide +kernel
theorem dX6_init_106 : decode cX6_init 106 = .ok (.dup, 1) := by decide +kernel
theorem dX6_init_107 : decode cX6_init 107 = .ok (.invokespecial 11, 3) := by decide +kernel
theorem dX6_init_110 : decode cX6_init 110 = .ok (.aastore, 1) := by decide +kernel
theorem dX6_init_111 : decode cX6_init 111 = .ok (.iinc 1 1, 3) := by decide +kernel
theorem dX6_init_114 : decode cX6_init 114 = .ok (.goto (-21), 3) := by decide +kernel
theorem dX6_init_117 : decode cX6_init 117 = .ok (.iconst 0, 1) := by decide +kernel
theorem dX6_init_118 : decode cX6_init 118 = .ok (.istore_n 1, 1) := by decide +kernel
theorem dX6_init_119 : decode cX6_init 119 = .ok (.iload_n 1, 1) := by decide +kernel
theorem dX6_init_120 : decode cX6_init 120 = .ok (.iconst 4, 1) := by decide +kernel
theorem dX6_init_121 : decode cX6_init 121 = .ok (.if_icmp .ge 22, 3) := by decide +kernel
theorem dX6_init_124 : decode cX6_init 124 = .ok (.aload_n 0, 1) := by decide +kernel
theorem dX6_init_125 : decode cX6_init 125 = .ok (.getfield 27, 3) := by decide +kernel
theorem dX6_init_128 : decode cX6_init 128 = .ok (.iload_n 1, 1) := by decide +kernel
theorem dX6_init_129 : decode cX6_init 129 = .ok (.new 25, 3) := by decide +kernel
theorem dX6_init_132 : decode cX6_init 132 = .ok (.dup, 1) := by decide +kernel
theorem dX6_init_133 : decode cX6_init 133 = .ok (.invokespecial 63, 3) := by decide +kernel
theorem dX6_init_136 : decode cX6_init 136 = .ok (.aastore, 1) := by decide +kernel
theorem dX6_init_137 : decode cX6_init 137 = .ok (.iinc 1 1, 3) := by decide +kernel
theorem dX6_init_140 : decode cX6_init 140 = .ok (.goto (-21), 3) := by decide +kernel
theorem dX6_init_143 : decode cX6_init 143 = .ok (.return_, 1) := by decide +kernel
theorem dX7_init_0 : decode cX7_init 0 = .ok (.aload_n 0, 1) := by decide +kernel
theorem dX7_init_1 : decode cX7_init 1 = .ok (.invokespecial 1, 3) := by decide +kernel
theorem dX7_init_4 : decode cX7_init 4 = .ok (.aload_n 0, 1) := by decide +kernel
theorem dX7_init_5 : decode cX7_init 5 = .ok (.iconst 4, 1) := by decide +kernel
theorem dX7_init_6 : decode cX7_init 6 = .ok (.newarray .int, 2) := by decide +kernel
theorem dX7_init_8 : decode cX7_init 8 = .ok (.dup, 1) := by decide +kernel
theorem dX7_init_9 : decode cX7_init 9 = .ok (.iconst 0, 1) := by decide +kernel
theorem dX7_init_10 : decode cX7_init 10 = .ok (.bipush (-9), 2) := by decide +kernel
theorem dX7_init_12 : decode cX7_init 12 = .ok (.iastore, 1) := by decide +kernel
theorem dX7_init_13 : decode cX7_init 13 = .ok (.dup, 1) := by decide +kernel
theorem dX7_init_14 : decode cX7_init 14 = .ok (.iconst 1, 1) := by decide +kernel
theorem dX7_init_15 : decode cX7_init 15 = .ok (.bipush (-9), 2) := by decide +kernel
theorem dX7_init_17 : decode cX7_init 17 = .ok (.iastore, 1) := by decide +kernel
theorem dX7_init_18 : decode cX7_init 18 = .ok (.dup, 1) := by decide +kernel
theorem dX7_init_19 : decode cX7_init 19 = .ok (.iconst 2, 1) := by decide +kernel
theorem dX7_init_20 : decode cX7_init 20 = .ok (.bipush (-9), 2) := by decide +kernel
theorem dX7_init_22 : decode cX7_init 22 = .ok (.iastore, 1) := by decide +kernel
theorem dX7_init_23 : decode cX7_init 23 = .ok (.dup, 1) := by decide +kernel
theorem dX7_init_24 : decode cX7_init 24 = .ok (.iconst 3, 1) := by decide +kernel
theorem dX7_init_25 : decode cX7_init 25 = .ok (.bipush (-9), 2) := by decide +kernel
theorem dX7_init_27 : decode cX7_init 27 = .ok (.iastore, 1) := by decide +kernel
theorem dX7_init_28 : decode cX7_init 28 = .ok (.putfield 9, 3) := by decide +kernel
theorem dX7_init_31 : decode cX7_init 31 = .ok (.aload_n 0, 1) := by decide +kernel
theorem dX7_init_32 : decode cX7_init 32 = .ok (.iconst 4, 1) := by decide +kernel
theorem dX7_init_33 : decode cX7_init 33 = .ok (.newarray .int, 2) := by decide +kernel
theorem dX7_init_35 : decode cX7_init 35 = .ok (.putfield 13, 3) := by decide +kernel
theorem dX7_init_38 : decode cX7_init 38 = .ok (.aload_n 0, 1) := by decide +kernel
theorem dX7_init_39 : decode cX7_init 39 = .ok (.sipush 160, 3) := by decide +kernel
theorem dX7_init_42 : decode cX7_init 42 = .ok (.newarray .int, 2) := by decide +kernel
theorem dX7_init_44 : decode cX7_init 44 = .ok (.putfield 16, 3) := by decide +kernel
theorem dX7_init_47 : decode cX7_init 47 = .ok (.aload_n 0, 1) := by decide +kernel
theorem dX7_init_48 : decode cX7_init 48 = .ok (.bipush 8, 2) := by decide +kernel
theorem dX7_init_50 : decode cX7_init 50 = .ok (.newarray .int, 2) := by decide +kernel
theorem dX7_init_52 : decode cX7_init 52 = .ok (.putfield 19, 3) := by decide +kernel
theorem dX7_init_55 : decode cX7_init 55 = .ok (.aload_n 0, 1) := by decide +kernel
theorem dX7_init_56 : decode cX7_init 56 = .ok (.bipush 10, 2) := by decide +kernel
theorem dX7_init_58 : decode cX7_init 58 = .ok (.newarray .int, 2) := by decide +kernel
theorem dX7_init_60 : decode cX7_init 60 = .ok (.putfield 22, 3) := by decide +kernel
theorem dX7_init_63 : decode cX7_init 63 = .ok (.aload_n 0, 1) := by decide +kernel
theorem dX7_init_64 : decode cX7_init 64 = .ok (.bipush 8, 2) := by decide +kernel
theorem dX7_init_66 : decode cX7_init 66 = .ok (.newarray .int, 2) := by decide +kernel
theorem dX7_init_68 : decode cX7_init 68 = .ok (.putfield 25, 3) := by decide +kernel
theorem dX7_init_71 : decode cX7_init 71 = .ok (.aload_n 0, 1) := by decide +kernel
theorem dX7_init_72 : decode cX7_init 72 = .ok (.sipush 1010, 3) := by decide +kernel
theorem dX7_init_75 : decode cX7_init 75 = .ok (.newarray .int, 2) := by decide +kernel
theorem dX7_init_77 : decode cX7_init 77 = .ok (.putfield 28, 3) := by decide +kernel
theorem dX7_init_80 : decode cX7_init 80 = .ok (.aload_n 0, 1) := by decide +kernel
theorem dX7_init_81 : decode cX7_init 81 = .ok (.bipush 8, 2) := by decide +kernel
theorem dX7_init_83 : decode cX7_init 83 = .ok (.newarray .int, 2) := by decide +kernel
theorem dX7_init_85 : decode cX7_init 85 = .ok (.putfield 31, 3) := by decide +kernel
theorem dX7_init_88 : decode cX7_init 88 = .ok (.aload_n 0, 1) := by decide +kernel
theorem dX7_init_89 : decode cX7_init 89 = .ok (.iconst 3, 1) := by decide +kernel
theorem dX7_init_90 : decode cX7_init 90 = .ok (.newarray .int, 2) := by decide +kernel
theorem dX7_init_92 : decode cX7_init 92 = .ok (.putfield 34, 3) := by decide +kernel
theorem dX7_init_95 : decode cX7_init 95 = .ok (.aload_n 0, 1) := by decide +kernel
theorem dX7_init_96 : decode cX7_init 96 = .ok (.bipush 24, 2) := by decide +kernel
theorem dX7_init_98 : decode cX7_init 98 = .ok (.newarray .int, 2) := by decide +kernel
theorem dX7_init_100 : decode cX7_init 100 = .ok (.putfield 37, 3) := by decide +kernel
theorem dX7_init_103 : decode cX7_init 103 = .ok (.aload_n 0, 1) := by decide +kernel
theorem dX7_init_104 : decode cX7_init 104 = .ok (.bipush 8, 2) := by decide +kernel
theorem dX7_init_106 : decode cX7_init 106 = .ok (.newarray .int, 2) := by decide +kernel
theorem dX7_init_108 : decode cX7_init 108 = .ok (.putfield 40, 3) := by decide +kernel
theorem dX7_init_111 : decode cX7_init 111 = .ok (.aload_n 0, 1) := by decide +kernel
theorem dX7_init_112 : decode cX7_init 112 = .ok (.sipush 20736, 3) := by decide +kernel
theorem dX7_init_115 : decode cX7_init 115 = .ok (.newarray .long, 2) := by decide +kernel
theorem dX7_init_117 : decode cX7_init 117 = .ok (.putfield 43, 3) := by decide +kernel
theorem dX7_init_120 : decode cX7_init 120 = .ok (.aload_n 0, 1) := by decide +kernel
theorem dX7_init_121 : decode cX7_init 121 = .ok (.sipush 512, 3) := by decide +kernel
theorem dX7_init_124 : decode cX7_init 124 = .ok (.newarray .int, 2) := by decide +kernel
theorem dX7_init_126 : decode cX7_init 126 = .ok (.putfield 47, 3) := by decide +kernel
theorem dX7_init_129 : decode cX7_init 129 = .ok (.return_, 1) := by decide +kernel
theorem dX6_isWithin_0 : decode cX6_isWithin 0 = .ok (.iload_n 0, 1) := by decide +kernel
theorem dX6_isWithin_1 : decode cX6_isWithin 1 = .ok (.iload_n 1, 1) := by decide +kernel
theorem dX6_isWithin_2 : decode cX6_isWithin 2 = .ok (.if_icmp .lt 12, 3) := by decide +kernel
theorem dX6_isWithin_5 : decode cX6_isWithin 5 = .ok (.iload_n 0, 1) := by decide +kernel
theorem dX6_isWithin_6 : decode cX6_isWithin 6 = .ok (.iload_n 2, 1) := by decide +kernel
theorem dX6_isWithin_7 : decode cX6_isWithin 7 = .ok (.if_icmp .gt 7, 3) := by decide +kernel
theorem dX6_isWithin_10 : decode cX6_isWithin 10 = .ok (.iconst 1, 1) := by decide +kernel
theorem dX6_isWithin_11 : decode cX6_isWithin 11 = .ok (.goto 4, 3) := by decide +kernel
theorem dX6_isWithin_14 : decode cX6_isWithin 14 = .ok (.iconst 0, 1) := by decide +kernel
theorem dX6_isWithin_15 : decode cX6_isWithin 15 = .ok (.ireturn, 1) := by decide +kernel
theorem dX0_allow_0 : decode cX0_allow 0 = .ok (.iload_n 1, 1) := by decide +kernel
theorem dX0_allow_1 : decode cX0_allow 1 = .ok (.iconst 0, 1) := by decide +kernel
theorem dX0_allow_2 : decode cX0_allow 2 = .ok (.bipush 7, 2) := by decide +kernel
theorem dX0_allow_4 : decode cX0_allow 4 = .ok (.invokestatic 21, 3) := by decide +kernel
theorem dX0_allow_7 : decode cX0_allow 7 = .ok (.ifCond .eq 17, 3) := by decide +kernel
theorem dX0_allow_10 : decode cX0_allow 10 = .ok (.aload_n 0, 1) := by decide +kernel
theorem dX0_allow_11 : decode cX0_allow 11 = .ok (.getfield 9, 3) := by decide +kernel
theorem dX0_allow_14 : decode cX0_allow 14 = .ok (.iload_n 1, 1) := by decide +kernel
theorem dX0_allow_15 : decode cX0_allow 15 = .ok (.iload_n 2, 1) := by decide +kernel
theorem dX0_allow_16 : decode cX0_allow 16 = .ok (.iastore, 1) := by decide +kernel
theorem dX0_allow_17 : decode cX0_allow 17 = .ok (.aload_n 0, 1) := by decide +kernel
theorem dX0_allow_18 : decode cX0_allow 18 = .ok (.getfield 15, 3) := by decide +kernel
theorem dX0_allow_21 : decode cX0_allow 21 = .ok (.iload_n 1, 1) := by decide +kernel
theorem dX0_allow_22 : decode cX0_allow 22 = .ok (.iload_n 3, 1) := by decide +kernel
theorem dX0_allow_23 : decode cX0_allow 23 = .ok (.iastore, 1) := by decide +kernel
theorem dX0_allow_24 : decode cX0_allow 24 = .ok (.return_, 1) := by decide +kernel
theorem dJ7_fill_53178_0 : decode cJ7_fill_53178 0 = .ok (.iconst 0, 1) := by decide +kernel
theorem dJ7_fill_53178_1 : decode cJ7_fill_53178 1 = .ok (.istore_n 2, 1) := by decide +kernel
theorem dJ7_fill_53178_2 : decode cJ7_fill_53178 2 = .ok (.aload_n 0, 1) := by decide +kernel
theorem dJ7_fill_53178_3 : decode cJ7_fill_53178 3 = .ok (.arraylength, 1) := by decide +kernel
theorem dJ7_fill_53178_4 : decode cJ7_fill_53178 4 = .ok (.istore_n 3, 1) := by decide +kernel
theorem dJ7_fill_53178_5 : decode cJ7_fill_53178 5 = .ok (.iload_n 2, 1) := by decide +kernel
theorem dJ7_fill_53178_6 : decode cJ7_fill_53178 6 = .ok (.iload_n 3, 1) := by decide +kernel
theorem dJ7_fill_53178_7 : decode cJ7_fill_53178 7 = .ok (.if_icmp .ge 13, 3) := by decide +kernel
theorem dJ7_fill_53178_10 : decode cJ7_fill_53178 10 = .ok (.aload_n 0, 1) := by decide +kernel
theorem dJ7_fill_53178_11 : decode cJ7_fill_53178 11 = .ok (.iload_n 2, 1) := by decide +kernel
theorem dJ7_fill_53178_12 : decode cJ7_fill_53178 12 = .ok (.iload_n 1, 1) := by decide +kernel
theorem dJ7_fill_53178_13 : decode cJ7_fill_53178 13 = .ok (.iastore, 1) := by decide +kernel
theorem dJ7_fill_53178_14 : decode cJ7_fill_53178 14 = .ok (.iinc 2 1, 3) := by decide +kernel
theorem dJ7_fill_53178_17 : decode cJ7_fill_53178 17 = .ok (.goto (-12), 3) := by decide +kernel
theorem dJ7_fill_53178_20 : decode cJ7_fill_53178 20 = .ok (.return_, 1) := by decide +kernel
theorem dJ6_bitCount_0f7a4_0 : decode cJ6_bitCount_0f7a4 0 = .ok (.iload_n 0, 1) := by decide +kernel
theorem dJ6_bitCount_0f7a4_1 : decode cJ6_bitCount_0f7a4 1 = .ok (.iload_n 0, 1) := by decide +kernel
theorem dJ6_bitCount_0f7a4_2 : decode cJ6_bitCount_0f7a4 2 = .ok (.iconst 1, 1) := by decide +kernel
theorem dJ6_bitCount_0f7a4_3 : decode cJ6_bitCount_0f7a4 3 = .ok (.iushr, 1) := by decide +kernel
theorem dJ6_bitCount_0f7a4_4 : decode cJ6_bitCount_0f7a4 4 = .ok (.ldc_w 265, 3) := by decide +kernel
theorem dJ6_bitCount_0f7a4_7 : decode cJ6_bitCount_0f7a4 7 = .ok (.iand, 1) := by decide +kernel
theorem dJ6_bitCount_0f7a4_8 : decode cJ6_bitCount_0f7a4 8 = .ok (.isub, 1) := by decide +kernel
theorem dJ6_bitCount_0f7a4_9 : decode cJ6_bitCount_0f7a4 9 = .ok (.istore_n 0, 1) := by decide +kernel
theorem dJ6_bitCount_0f7a4_10 : decode cJ6_bitCount_0f7a4 10 = .ok (.iload_n 0, 1) := by decide +kernel
theorem dJ6_bitCount_0f7a4_11 : decode cJ6_bitCount_0f7a4 11 = .ok (.ldc_w 266, 3) := by decide +kernel
theorem dJ6_bitCount_0f7a4_14 : decode cJ6_bitCount_0f7a4 14 = .ok (.iand, 1) := by decide +kernel
theorem dJ6_bitCount_0f7a4_15 : decode cJ6_bitCount_0f7a4 15 = .ok (.iload_n 0, 1) := by decide +kernel
theorem dJ6_bitCount_0f7a4_16 : decode cJ6_bitCount_0f7a4 16 = .ok (.iconst 2, 1) := by decide +kernel
theorem dJ6_bitCount_0f7a4_17 : decode cJ6_bitCount_0f7a4 17 = .ok (.iushr, 1) := by decide +kernel
theorem dJ6_bitCount_0f7a4_18 : decode cJ6_bitCount_0f7a4 18 = .ok (.ldc_w 266, 3) := by decide +kernel
theorem dJ6_bitCount_0f7a4_21 : decode cJ6_bitCount_0f7a4 21 = .ok (.iand, 1) := by decide +kernel
theorem dJ6_bitCount_0f7a4_22 : decode cJ6_bitCount_0f7a4 22 = .ok (.iadd, 1) := by decide +kernel
theorem dJ6_bitCount_0f7a4_23 : decode cJ6_bitCount_0f7a4 23 = .ok (.istore_n 0, 1) := by decide +kernel
theorem dJ6_bitCount_0f7a4_24 : decode cJ6_bitCount_0f7a4 24 = .ok (.iload_n 0, 1) := by decide +kernel
theorem dJ6_bitCount_0f7a4_25 : decode cJ6_bitCount_0f7a4 25 = .ok (.iload_n 0, 1) := by decide +kernel
theorem dJ6_bitCount_0f7a4_26 : decode cJ6_bitCount_0f7a4 26 = .ok (.iconst 4, 1) := by decide +kernel
theorem dJ6_bitCount_0f7a4_27 : decode cJ6_bitCount_0f7a4 27 = .ok (.iushr, 1) := by decide +kernel
theorem dJ6_bitCount_0f7a4_28 : decode cJ6_bitCount_0f7a4 28 = .ok (.iadd, 1) := by decide +kernel
theorem dJ6_bitCount_0f7a4_29 : decode cJ6_bitCount_0f7a4 29 = .ok (.ldc_w 267, 3) := by decide +kernel
theorem dJ6_bitCount_0f7a4_32 : decode cJ6_bitCount_0f7a4 32 = .ok (.iand, 1) := by decide +kernel
theorem dJ6_bitCount_0f7a4_33 : decode cJ6_bitCount_0f7a4 33 = .ok (.istore_n 0, 1) := by decide +kernel
theorem dJ6_bitCount_0f7a4_34 : decode cJ6_bitCount_0f7a4 34 = .ok (.iload_n 0, 1) := by decide +kernel
theorem dJ6_bitCount_0f7a4_35 : decode cJ6_bitCount_0f7a4 35 = .ok (.iload_n 0, 1) := by decide +kernel
theorem dJ6_bitCount_0f7a4_36 : decode cJ6_bitCount_0f7a4 36 = .ok (.bipush 8, 2) := by decide +kernel
theorem dJ6_bitCount_0f7a4_38 : decode cJ6_bitCount_0f7a4 38 = .ok (.iushr, 1) := by decide +kernel
theorem dJ6_bitCount_0f7a4_39 : decode cJ6_bitCount_0f7a4 39 = .ok (.iadd, 1) := by decide +kernel
theorem dJ6_bitCount_0f7a4_40 : decode cJ6_bitCount_0f7a4 40 = .ok (.istore_n 0, 1) := by decide +kernel
theorem dJ6_bitCount_0f7a4_41 : decode cJ6_bitCount_0f7a4 41 = .ok (.iload_n 0, 1) := by decide +kernel
theorem dJ6_bitCount_0f7a4_42 : decode cJ6_bitCount_0f7a4 42 = .ok (.iload_n 0, 1) := by decide +kernel
theorem dJ6_bitCount_0f7a4_43 : decode cJ6_bitCount_0f7a4 43 = .ok (.bipush 16, 2) := by decide +kernel
theorem dJ6_bitCount_0f7a4_45 : decode cJ6_bitCount_0f7a4 45 = .ok (.iushr, 1) := by decide +kernel
theorem dJ6_bitCount_0f7a4_46 : decode cJ6_bitCount_0f7a4 46 = .ok (.iadd, 1) := by decide +kernel
theorem dJ6_bitCount_0f7a4_47 : decode cJ6_bitCount_0f7a4 47 = .ok (.istore_n 0, 1) := by decide +kernel
theorem dJ6_bitCount_0f7a4_48 : decode cJ6_bitCount_0f7a4 48 = .ok (.iload_n 0, 1) := by decide +kernel
theorem dJ6_bitCount_0f7a4_49 : decode cJ6_bitCount_0f7a4 49 = .ok (.bipush 63, 2) := by decide +kernel
theorem dJ6_bitCount_0f7a4_51 : decode cJ6_bitCount_0f7a4 51 = .ok (.iand, 1) := by decide +kernel
theorem dJ6_bitCount_0f7a4_52 : decode cJ6_bitCount_0f7a4 52 = .ok (.ireturn, 1) := by decide +kernel
theorem dX0_addThrow_0 : decode cX0_addThrow 0 = .ok (.iconst 1, 1) := by decide +kernel
theorem dX0_addThrow_1 : decode cX0_addThrow 1 = .ok (.iload 4, 2) := by decide +kernel
theorem dX0_addThrow_3 : decode cX0_addThrow 3 = .ok (.iload_n 1, 1) := by decide +kernel
theorem dX0_addThrow_4 : decode cX0_addThrow 4 = .ok (.irem, 1) := by decide +kernel
theorem dX0_addThrow_5 : decode cX0_addThrow 5 = .ok (.ishl, 1) := by decide +kernel
theorem dX0_addThrow_6 : decode cX0_addThrow 6 = .ok (.istore 5, 2) := by decide +kernel
theorem dX0_addThrow_8 : decode cX0_addThrow 8 = .ok (.iload_n 3, 1) := by decide +kernel
theorem dX0_addThrow_9 : decode cX0_addThrow 9 = .ok (.iload 5, 2) := by decide +kernel
theorem dX0_addThrow_11 : decode cX0_addThrow 11 = .ok (.iand, 1) := by decide +kernel
theorem dX0_addThrow_12 : decode cX0_addThrow 12 = .ok (.ifCond .eq 4, 3) := by decide +kernel
theorem dX0_addThrow_15 : decode cX0_addThrow 15 = .ok (.return_, 1) := by decide +kernel
theorem dX0_addThrow_16 : decode cX0_addThrow 16 = .ok (.iload 4, 2) := by decide +kernel
theorem dX0_addThrow_18 : decode cX0_addThrow 18 = .ok (.iload_n 1, 1) := by decide +kernel
theorem dX0_addThrow_19 : decode cX0_addThrow 19 = .ok (.idiv, 1) := by decide +kernel
theorem dX0_addThrow_20 : decode cX0_addThrow 20 = .ok (.istore 6, 2) := by decide +kernel
theorem dX0_addThrow_22 : decode cX0_addThrow 22 = .ok (.iload_n 3, 1) := by decide +kernel
theorem dX0_addThrow_23 : decode cX0_addThrow 23 = .ok (.bipush 10, 2) := by decide +kernel
theorem dX0_addThrow_25 : decode cX0_addThrow 25 = .ok (.imul, 1) := by decide +kernel
theorem dX0_addThrow_26 : decode cX0_addThrow 26 = .ok (.istore 7, 2) := by decide +kernel
theorem dX0_addThrow_28 : decode cX0_addThrow 28 = .ok (.iload_n 3, 1) := by decide +kernel
theorem dX0_addThrow_29 : decode cX0_addThrow 29 = .ok (.iload 5, 2) := by decide +kernel
theorem dX0_addThrow_31 : decode cX0_addThrow 31 = .ok (.ior, 1) := by decide +kernel
theorem dX0_addThrow_32 : decode cX0_addThrow 32 = .ok (.bipush 10, 2) := by decide +kernel
theorem dX0_addThrow_34 : decode cX0_addThrow 34 = .ok (.imul, 1) := by decide +kernel
theorem dX0_addThrow_35 : decode cX0_addThrow 35 = .ok (.iload 6, 2) := by decide +kernel
theorem dX0_addThrow_37 : decode cX0_addThrow 37 = .ok (.isub, 1) := by decide +kernel
theorem dX0_addThrow_38 : decode cX0_addThrow 38 = .ok (.istore 8, 2) := by decide +kernel
theorem dX0_addThrow_40 : decode cX0_addThrow 40 = .ok (.iload 6, 2) := by decide +kernel
theorem dX0_addThrow_42 : decode cX0_addThrow 42 = .ok (.istore 9, 2) := by decide +kernel
theorem dX0_addThrow_44 : decode cX0_addThrow 44 = .ok (.iload 9, 2) := by decide +kernel
theorem dX0_addThrow_46 : decode cX0_addThrow 46 = .ok (.iload_n 2, 1) := by decide +kernel
theorem dX0_addThrow_47 : decode cX0_addThrow 47 = .ok (.if_icmp .gt 32, 3) := by decide +kernel
theorem dX0_addThrow_50 : decode cX0_addThrow 50 = .ok (.aload_n 0, 1) := by decide +kernel
theorem dX0_addThrow_51 : decode cX0_addThrow 51 = .ok (.getfield 18, 3) := by decide +kernel
theorem dX0_addThrow_54 : decode cX0_addThrow 54 = .ok (.iload 7, 2) := by decide +kernel
theorem dX0_addThrow_56 : decode cX0_addThrow 56 = .ok (.iload 9, 2) := by decide +kernel
theorem dX0_addThrow_58 : decode cX0_addThrow 58 = .ok (.iadd, 1) := by decide +kernel
theorem dX0_addThrow_59 : decode cX0_addThrow 59 = .ok (.dup2, 1) := by decide +kernel
theorem dX0_addThrow_60 : decode cX0_addThrow 60 = .ok (.iaload, 1) := by decide +kernel
theorem dX0_addThrow_61 : decode cX0_addThrow 61 = .ok (.aload_n 0, 1) := by decide +kernel
theorem dX0_addThrow_62 : decode cX0_addThrow 62 = .ok (.getfield 18, 3) := by decide +kernel
theorem dX0_addThrow_65 : decode cX0_addThrow 65 = .ok (.iload 8, 2) := by decide +kernel
theorem dX0_addThrow_67 : decode cX0_addThrow 67 = .ok (.iload 9, 2) := by decide +kernel
theorem dX0_addThrow_69 : decode cX0_addThrow 69 = .ok (.iadd, 1) := by decide +kernel
theorem dX0_addThrow_70 : decode cX0_addThrow 70 = .ok (.iaload, 1) := by decide +kernel
theorem dX0_addThrow_71 : decode cX0_addThrow 71 = .ok (.iadd, 1) := by decide +kernel
theorem dX0_addThrow_72 : decode cX0_addThrow 72 = .ok (.iastore, 1) := by decide +kernel
theorem dX0_addThrow_73 : decode cX0_addThrow 73 = .ok (.iinc 9 1, 3) := by decide +kernel
theorem dX0_addThrow_76 : decode cX0_addThrow 76 = .ok (.goto (-32), 3) := by decide +kernel
theorem dX0_addThrow_79 : decode cX0_addThrow 79 = .ok (.return_, 1) := by decide +kernel
theorem dX0_count_0 : decode cX0_count 0 = .ok (.iload_n 1, 1) := by decide +kernel
theorem dX0_count_1 : decode cX0_count 1 = .ok (.iconst 1, 1) := by decide +kernel
theorem dX0_count_2 : decode cX0_count 2 = .ok (.bipush 8, 2) := by decide +kernel
theorem dX0_count_4 : decode cX0_count 4 = .ok (.invokestatic 21, 3) := by decide +kernel
theorem dX0_count_7 : decode cX0_count 7 = .ok (.ifCond .eq 13, 3) := by decide +kernel
theorem dX0_count_10 : decode cX0_count 10 = .ok (.iload_n 2, 1) := by decide +kernel
theorem dX0_count_11 : decode cX0_count 11 = .ok (.iconst 0, 1) := by decide +kernel
theorem dX0_count_12 : decode cX0_count 12 = .ok (.bipush 9, 2) := by decide +kernel
theorem dX0_count_14 : decode cX0_count 14 = .ok (.invokestatic 21, 3) := by decide +kernel
theorem dX0_count_17 : decode cX0_count 17 = .ok (.ifCond .ne 5, 3) := by decide +kernel
theorem dX0_count_20 : decode cX0_count 20 = .ok (.iconst 0, 1) := by decide +kernel
theorem dX0_count_21 : decode cX0_count 21 = .ok (.ireturn, 1) := by decide +kernel
theorem dX0_count_22 : decode cX0_count 22 = .ok (.aload_n 0, 1) := by decide +kernel
theorem dX0_count_23 : decode cX0_count 23 = .ok (.getfield 18, 3) := by decide +kernel
theorem dX0_count_26 : decode cX0_count 26 = .ok (.iconst 0, 1) := by decide +kernel
theorem dX0_count_27 : decode cX0_count 27 = .ok (.invokestatic 25, 3) := by decide +kernel
theorem dX0_count_30 : decode cX0_count 30 = .ok (.iconst 1, 1) := by decide +kernel
theorem dX0_count_31 : decode cX0_count 31 = .ok (.iload_n 1, 1) := by decide +kernel
theorem dX0_count_32 : decode cX0_count 32 = .ok (.ishl, 1) := by decide +kernel
theorem dX0_count_33 : decode cX0_count 33 = .ok (.iconst 1, 1) := by decide +kernel
theorem dX0_count_34 : decode cX0_count 34 = .ok (.isub, 1) := by decide +kernel
theorem dX0_count_35 : decode cX0_count 35 = .ok (.istore_n 3, 1) := by decide +kernel
theorem dX0_count_36 : decode cX0_count 36 = .ok (.aload_n 0, 1) := by decide +kernel
theorem dX0_count_37 : decode cX0_count 37 = .ok (.getfield 18, 3) := by decide +kernel
theorem dX0_count_40 : decode cX0_count 40 = .ok (.iload_n 3, 1) := by decide +kernel
theorem dX0_count_41 : decode cX0_count 41 = .ok (.bipush 10, 2) := by decide +kernel
theorem dX0_count_43 : decode cX0_count 43 = .ok (.imul, 1) := by decide +kernel
theorem dX0_count_44 : decode cX0_count 44 = .ok (.iconst 1, 1) := by decide +kernel
theorem dX0_count_45 : decode cX0_count 45 = .ok (.iastore, 1) := by decide +kernel
theorem dX0_count_46 : decode cX0_count 46 = .ok (.iload_n 3, 1) := by decide +kernel
theorem dX0_count_47 : decode cX0_count 47 = .ok (.iconst 1, 1) := by decide +kernel
theorem dX0_count_48 : decode cX0_count 48 = .ok (.isub, 1) := by decide +kernel
theorem dX0_count_49 : decode cX0_count 49 = .ok (.istore 4, 2) := by decide +kernel
theorem dX0_count_51 : decode cX0_count 51 = .ok (.iload 4, 2) := by decide +kernel
theorem dX0_count_53 : decode cX0_count 53 = .ok (.ifCond .lt 56, 3) := by decide +kernel
theorem dX0_count_56 : decode cX0_count 56 = .ok (.iload 4, 2) := by decide +kernel
theorem dX0_count_58 : decode cX0_count 58 = .ok (.invokestatic 31, 3) := by decide +kernel
theorem dX0_count_61 : decode cX0_count 61 = .ok (.istore 5, 2) := by decide +kernel
theorem dX0_count_63 : decode cX0_count 63 = .ok (.aload_n 0, 1) := by decide +kernel
theorem dX0_count_64 : decode cX0_count 64 = .ok (.getfield 9, 3) := by decide +kernel
theorem dX0_count_67 : decode cX0_count 67 = .ok (.iload 5, 2) := by decide +kernel
theorem dX0_count_69 : decode cX0_count 69 = .ok (.iaload, 1) := by decide +kernel
theorem dX0_count_70 : decode cX0_count 70 = .ok (.istore 6, 2) := by decide +kernel
theorem dX0_count_72 : decode cX0_count 72 = .ok (.iload 6, 2) := by decide +kernel
theorem dX0_count_74 : decode cX0_count 74 = .ok (.aload_n 0, 1) := by decide +kernel
theorem dX0_count_75 : decode cX0_count 75 = .ok (.getfield 15, 3) := by decide +kernel
theorem dX0_count_78 : decode cX0_count 78 = .ok (.iload 5, 2) := by decide +kernel
theorem dX0_count_80 : decode cX0_count 80 = .ok (.iaload, 1) := by decide +kernel
theorem dX0_count_81 : decode cX0_count 81 = .ok (.if_icmp .gt 22, 3) := by decide +kernel
theorem dX0_count_84 : decode cX0_count 84 = .ok (.aload_n 0, 1) := by decide +kernel
theorem dX0_count_85 : decode cX0_count 85 = .ok (.iload_n 1, 1) := by decide +kernel
theorem dX0_count_86 : decode cX0_count 86 = .ok (.iload_n 2, 1) := by decide +kernel
theorem dX0_count_87 : decode cX0_count 87 = .ok (.iload 4, 2) := by decide +kernel
theorem dX0_count_89 : decode cX0_count 89 = .ok (.iload 5, 2) := by decide +kernel
theorem dX0_count_91 : decode cX0_count 91 = .ok (.iload 6, 2) := by decide +kernel
theorem dX0_count_93 : decode cX0_count 93 = .ok (.iadd, 1) := by decide +kernel
theorem dX0_count_94 : decode cX0_count 94 = .ok (.invokevirtual 37, 3) := by decide +kernel
theorem dX0_count_97 : decode cX0_count 97 = .ok (.iinc 6 1, 3) := by decide +kernel
theorem dX0_count_100 : decode cX0_count 100 = .ok (.goto (-28), 3) := by decide +kernel
theorem dX0_count_103 : decode cX0_count 103 = .ok (.iinc 4 (-1), 3) := by decide +kernel
theorem dX0_count_106 : decode cX0_count 106 = .ok (.goto (-55), 3) := by decide +kernel
theorem dX0_count_109 : decode cX0_count 109 = .ok (.aload_n 0, 1) := by decide +kernel
theorem dX0_count_110 : decode cX0_count 110 = .ok (.getfield 18, 3) := by decide +kernel
theorem dX0_count_113 : decode cX0_count 113 = .ok (.iload_n 2, 1) := by decide +kernel
theorem dX0_count_114 : decode cX0_count 114 = .ok (.iaload, 1) := by decide +kernel
theorem dX0_count_115 : decode cX0_count 115 = .ok (.ireturn, 1) := by decide +kernel
theorem dX0_firstThrow_0 : decode cX0_firstThrow 0 = .ok (.iload_n 2, 1) := by decide +kernel
theorem dX0_firstThrow_1 : decode cX0_firstThrow 1 = .ok (.invokestatic 31, 3) := by decide +kernel
theorem dX0_firstThrow_4 : decode cX0_firstThrow 4 = .ok (.istore 4, 2) := by decide +kernel
theorem dX0_firstThrow_6 : decode cX0_firstThrow 6 = .ok (.iload 4, 2) := by decide +kernel
theorem dX0_firstThrow_8 : decode cX0_firstThrow 8 = .ok (.iload_n 1, 1) := by decide +kernel
theorem dX0_firstThrow_9 : decode cX0_firstThrow 9 = .ok (.if_icmp .lt 5, 3) := by decide +kernel
theorem dX0_firstThrow_12 : decode cX0_firstThrow 12 = .ok (.iconst 0, 1) := by decide +kernel
theorem dX0_firstThrow_13 : decode cX0_firstThrow 13 = .ok (.ireturn, 1) := by decide +kernel
theorem dX0_firstThrow_14 : decode cX0_firstThrow 14 = .ok (.aload_n 0, 1) := by decide +kernel
theorem dX0_firstThrow_15 : decode cX0_firstThrow 15 = .ok (.getfield 9, 3) := by decide +kernel
theorem dX0_firstThrow_18 : decode cX0_firstThrow 18 = .ok (.iload 4, 2) := by decide +kernel
theorem dX0_firstThrow_20 : decode cX0_firstThrow 20 = .ok (.iaload, 1) := by decide +kernel
theorem dX0_firstThrow_21 : decode cX0_firstThrow 21 = .ok (.istore 5, 2) := by decide +kernel
theorem dX0_firstThrow_23 : decode cX0_firstThrow 23 = .ok (.iload 5, 2) := by decide +kernel
theorem dX0_firstThrow_25 : decode cX0_firstThrow 25 = .ok (.aload_n 0, 1) := by decide +kernel
theorem dX0_firstThrow_26 : decode cX0_firstThrow 26 = .ok (.getfield 15, 3) := by decide +kernel
theorem dX0_firstThrow_29 : decode cX0_firstThrow 29 = .ok (.iload 4, 2) := by decide +kernel
theorem dX0_firstThrow_31 : decode cX0_firstThrow 31 = .ok (.iaload, 1) := by decide +kernel
theorem dX0_firstThrow_32 : decode cX0_firstThrow 32 = .ok (.if_icmp .ge 64, 3) := by decide +kernel
theorem dX0_firstThrow_35 : decode cX0_firstThrow 35 = .ok (.iconst 1, 1) := by decide +kernel
theorem dX0_firstThrow_36 : decode cX0_firstThrow 36 = .ok (.iload 4, 2) := by decide +kernel
theorem dX0_firstThrow_38 : decode cX0_firstThrow 38 = .ok (.iload 5, 2) := by decide +kernel
theorem dX0_firstThrow_40 : decode cX0_firstThrow 40 = .ok (.iadd, 1) := by decide +kernel
theorem dX0_firstThrow_41 : decode cX0_firstThrow 41 = .ok (.iload_n 1, 1) := by decide +kernel
theorem dX0_firstThrow_42 : decode cX0_firstThrow 42 = .ok (.irem, 1) := by decide +kernel
theorem dX0_firstThrow_43 : decode cX0_firstThrow 43 = .ok (.ishl, 1) := by decide +kernel
theorem dX0_firstThrow_44 : decode cX0_firstThrow 44 = .ok (.istore 6, 2) := by decide +kernel
theorem dX0_firstThrow_46 : decode cX0_firstThrow 46 = .ok (.iload_n 3, 1) := by decide +kernel
theorem dX0_firstThrow_47 : decode cX0_firstThrow 47 = .ok (.iload 4, 2) := by decide +kernel
theorem dX0_firstThrow_49 : decode cX0_firstThrow 49 = .ok (.iload 5, 2) := by decide +kernel
theorem dX0_firstThrow_51 : decode cX0_firstThrow 51 = .ok (.iadd, 1) := by decide +kernel
theorem dX0_firstThrow_52 : decode cX0_firstThrow 52 = .ok (.iload_n 1, 1) := by decide +kernel
theorem dX0_firstThrow_53 : decode cX0_firstThrow 53 = .ok (.idiv, 1) := by decide +kernel
theorem dX0_firstThrow_54 : decode cX0_firstThrow 54 = .ok (.isub, 1) := by decide +kernel
theorem dX0_firstThrow_55 : decode cX0_firstThrow 55 = .ok (.istore 7, 2) := by decide +kernel
theorem dX0_firstThrow_57 : decode cX0_firstThrow 57 = .ok (.iload_n 2, 1) := by decide +kernel
theorem dX0_firstThrow_58 : decode cX0_firstThrow 58 = .ok (.iload 6, 2) := by decide +kernel
theorem dX0_firstThrow_60 : decode cX0_firstThrow 60 = .ok (.iand, 1) := by decide +kernel
theorem dX0_firstThrow_61 : decode cX0_firstThrow 61 = .ok (.ifCond .ne 29, 3) := by decide +kernel
theorem dX0_firstThrow_64 : decode cX0_firstThrow 64 = .ok (.iload 7, 2) := by decide +kernel
theorem dX0_firstThrow_66 : decode cX0_firstThrow 66 = .ok (.ifCond .lt 24, 3) := by decide +kernel
theorem dX0_firstThrow_69 : decode cX0_firstThrow 69 = .ok (.aload_n 0, 1) := by decide +kernel
theorem dX0_firstThrow_70 : decode cX0_firstThrow 70 = .ok (.getfield 18, 3) := by decide +kernel
theorem dX0_firstThrow_73 : decode cX0_firstThrow 73 = .ok (.iload_n 2, 1) := by decide +kernel
theorem dX0_firstThrow_74 : decode cX0_firstThrow 74 = .ok (.iload 6, 2) := by decide +kernel
theorem dX0_firstThrow_76 : decode cX0_firstThrow 76 = .ok (.ior, 1) := by decide +kernel
theorem dX0_firstThrow_77 : decode cX0_firstThrow 77 = .ok (.bipush 10, 2) := by decide +kernel
theorem dX0_firstThrow_79 : decode cX0_firstThrow 79 = .ok (.imul, 1) := by decide +kernel
theorem dX0_firstThrow_80 : decode cX0_firstThrow 80 = .ok (.iload 7, 2) := by decide +kernel
theorem dX0_firstThrow_82 : decode cX0_firstThrow 82 = .ok (.iadd, 1) := by decide +kernel
theorem dX0_firstThrow_83 : decode cX0_firstThrow 83 = .ok (.iaload, 1) := by decide +kernel
theorem dX0_firstThrow_84 : decode cX0_firstThrow 84 = .ok (.ifCond .le 6, 3) := by decide +kernel
theorem dX0_firstThrow_87 : decode cX0_firstThrow 87 = .ok (.iload 5, 2) := by decide +kernel
theorem dX0_firstThrow_89 : decode cX0_firstThrow 89 = .ok (.ireturn, 1) := by decide +kernel
theorem dX0_firstThrow_90 : decode cX0_firstThrow 90 = .ok (.iinc 5 1, 3) := by decide +kernel
theorem dX0_firstThrow_93 : decode cX0_firstThrow 93 = .ok (.goto (-70), 3) := by decide +kernel
theorem dX0_firstThrow_96 : decode cX0_firstThrow 96 = .ok (.aload_n 0, 1) := by decide +kernel
theorem dX0_firstThrow_97 : decode cX0_firstThrow 97 = .ok (.getfield 15, 3) := by decide +kernel
theorem dX0_firstThrow_100 : decode cX0_firstThrow 100 = .ok (.iload 4, 2) := by decide +kernel
theorem dX0_firstThrow_102 : decode cX0_firstThrow 102 = .ok (.iaload, 1) := by decide +kernel
theorem dX0_firstThrow_103 : decode cX0_firstThrow 103 = .ok (.ireturn, 1) := by decide +kernel
theorem dX0_throwOfFirst_0 : decode cX0_throwOfFirst 0 = .ok (.iconst 0, 1) := by decide +kernel
theorem dX0_throwOfFirst_1 : decode cX0_throwOfFirst 1 = .ok (.istore 4, 2) := by decide +kernel
theorem dX0_throwOfFirst_3 : decode cX0_throwOfFirst 3 = .ok (.iload_n 2, 1) := by decide +kernel
theorem dX0_throwOfFirst_4 : decode cX0_throwOfFirst 4 = .ok (.istore 5, 2) := by decide +kernel
theorem dX0_throwOfFirst_6 : decode cX0_throwOfFirst 6 = .ok (.iconst 0, 1) := by decide +kernel
theorem dX0_throwOfFirst_7 : decode cX0_throwOfFirst 7 = .ok (.istore 6, 2) := by decide +kernel
theorem dX0_throwOfFirst_9 : decode cX0_throwOfFirst 9 = .ok (.iconst 0, 1) := by decide +kernel
theorem dX0_throwOfFirst_10 : decode cX0_throwOfFirst 10 = .ok (.istore 7, 2) := by decide +kernel
theorem dX0_throwOfFirst_12 : decode cX0_throwOfFirst 12 = .ok (.iload 7, 2) := by decide +kernel
theorem dX0_throwOfFirst_14 : decode cX0_throwOfFirst 14 = .ok (.iload_n 3, 1) := by decide +kernel
theorem dX0_throwOfFirst_15 : decode cX0_throwOfFirst 15 = .ok (.if_icmp .gt 56, 3) := by decide +kernel
theorem dX0_throwOfFirst_18 : decode cX0_throwOfFirst 18 = .ok (.iload_n 1, 1) := by decide +kernel
theorem dX0_throwOfFirst_19 : decode cX0_throwOfFirst 19 = .ok (.iconst 1, 1) := by decide +kernel
theorem dX0_throwOfFirst_20 : decode cX0_throwOfFirst 20 = .ok (.bipush 8, 2) := by decide +kernel
theorem dX0_throwOfFirst_22 : decode cX0_throwOfFirst 22 = .ok (.invokestatic 21, 3) := by decide +kernel
theorem dX0_throwOfFirst_25 : decode cX0_throwOfFirst 25 = .ok (.ifCond .eq 46, 3) := by decide +kernel
theorem dX0_throwOfFirst_28 : decode cX0_throwOfFirst 28 = .ok (.aload_n 0, 1) := by decide +kernel
theorem dX0_throwOfFirst_29 : decode cX0_throwOfFirst 29 = .ok (.iload_n 1, 1) := by decide +kernel
theorem dX0_throwOfFirst_30 : decode cX0_throwOfFirst 30 = .ok (.iload 4, 2) := by decide +kernel
theorem dX0_throwOfFirst_32 : decode cX0_throwOfFirst 32 = .ok (.iload 5, 2) := by decide +kernel
theorem dX0_throwOfFirst_34 : decode cX0_throwOfFirst 34 = .ok (.invokevirtual 41, 3) := by decide +kernel
theorem dX0_throwOfFirst_37 : decode cX0_throwOfFirst 37 = .ok (.istore 6, 2) := by decide +kernel
theorem dX0_throwOfFirst_39 : decode cX0_throwOfFirst 39 = .ok (.iload 4, 2) := by decide +kernel
theorem dX0_throwOfFirst_41 : decode cX0_throwOfFirst 41 = .ok (.iconst 1, 1) := by decide +kernel
theorem dX0_throwOfFirst_42 : decode cX0_throwOfFirst 42 = .ok (.iload 7, 2) := by decide +kernel
theorem dX0_throwOfFirst_44 : decode cX0_throwOfFirst 44 = .ok (.iload 6, 2) := by decide +kernel
theorem dX0_throwOfFirst_46 : decode cX0_throwOfFirst 46 = .ok (.iadd, 1) := by decide +kernel
theorem dX0_throwOfFirst_47 : decode cX0_throwOfFirst 47 = .ok (.iload_n 1, 1) := by decide +kernel
theorem dX0_throwOfFirst_48 : decode cX0_throwOfFirst 48 = .ok (.irem, 1) := by decide +kernel
theorem dX0_throwOfFirst_49 : decode cX0_throwOfFirst 49 = .ok (.ishl, 1) := by decide +kernel
theorem dX0_throwOfFirst_50 : decode cX0_throwOfFirst 50 = .ok (.ior, 1) := by decide +kernel
theorem dX0_throwOfFirst_51 : decode cX0_throwOfFirst 51 = .ok (.istore 4, 2) := by decide +kernel
theorem dX0_throwOfFirst_53 : decode cX0_throwOfFirst 53 = .ok (.iload 5, 2) := by decide +kernel
theorem dX0_throwOfFirst_55 : decode cX0_throwOfFirst 55 = .ok (.iload 7, 2) := by decide +kernel
theorem dX0_throwOfFirst_57 : decode cX0_throwOfFirst 57 = .ok (.iload 6, 2) := by decide +kernel
theorem dX0_throwOfFirst_59 : decode cX0_throwOfFirst 59 = .ok (.iadd, 1) := by decide +kernel
theorem dX0_throwOfFirst_60 : decode cX0_throwOfFirst 60 = .ok (.iload_n 1, 1) := by decide +kernel
theorem dX0_throwOfFirst_61 : decode cX0_throwOfFirst 61 = .ok (.idiv, 1) := by decide +kernel
theorem dX0_throwOfFirst_62 : decode cX0_throwOfFirst 62 = .ok (.isub, 1) := by decide +kernel
theorem dX0_throwOfFirst_63 : decode cX0_throwOfFirst 63 = .ok (.istore 5, 2) := by decide +kernel
theorem dX0_throwOfFirst_65 : decode cX0_throwOfFirst 65 = .ok (.iinc 7 1, 3) := by decide +kernel
theorem dX0_throwOfFirst_68 : decode cX0_throwOfFirst 68 = .ok (.goto (-56), 3) := by decide +kernel
theorem dX0_throwOfFirst_71 : decode cX0_throwOfFirst 71 = .ok (.iload 6, 2) := by decide +kernel
theorem dX0_throwOfFirst_73 : decode cX0_throwOfFirst 73 = .ok (.ireturn, 1) := by decide +kernel
theorem dX1_begin_0 : decode cX1_begin 0 = .ok (.aload_n 0, 1) := by decide +kernel
theorem dX1_begin_1 : decode cX1_begin 1 = .ok (.getfield 9, 3) := by decide +kernel
theorem dX1_begin_4 : decode cX1_begin 4 = .ok (.bipush (-9), 2) := by decide +kernel
theorem dX1_begin_6 : decode cX1_begin 6 = .ok (.invokestatic 15, 3) := by decide +kernel
theorem dX1_begin_9 : decode cX1_begin 9 = .ok (.aload_n 0, 1) := by decide +kernel
theorem dX1_begin_10 : decode cX1_begin 10 = .ok (.iconst 0, 1) := by decide +kernel
theorem dX1_begin_11 : decode cX1_begin 11 = .ok (.putfield 21, 3) := by decide +kernel
theorem dX1_begin_14 : decode cX1_begin 14 = .ok (.return_, 1) := by decide +kernel
theorem dX1_pass_0 : decode cX1_pass 0 = .ok (.iload_n 1, 1) := by decide +kernel
theorem dX1_pass_1 : decode cX1_pass 1 = .ok (.ifCond .lt 8, 3) := by decide +kernel
theorem dX1_pass_4 : decode cX1_pass 4 = .ok (.iload_n 2, 1) := by decide +kernel
theorem dX1_pass_5 : decode cX1_pass 5 = .ok (.iconst 1, 1) := by decide +kernel
theorem dX1_pass_6 : decode cX1_pass 6 = .ok (.if_icmp .ge 6, 3) := by decide +kernel
theorem dX1_pass_9 : decode cX1_pass 9 = .ok (.bipush (-9), 2) := by decide +kernel
theorem dX1_pass_11 : decode cX1_pass 11 = .ok (.ireturn, 1) := by decide +kernel
theorem dX1_pass_12 : decode cX1_pass 12 = .ok (.iload_n 1, 1) := by decide +kernel
theorem dX1_pass_13 : decode cX1_pass 13 = .ok (.aload_n 0, 1) := by decide +kernel
theorem dX1_pass_14 : decode cX1_pass 14 = .ok (.getfield 9, 3) := by decide +kernel
theorem dX1_pass_17 : decode cX1_pass 17 = .ok (.arraylength, 1) := by decide +kernel
theorem dX1_pass_18 : decode cX1_pass 18 = .ok (.irem, 1) := by decide +kernel
theorem dX1_pass_19 : decode cX1_pass 19 = .ok (.istore_n 3, 1) := by decide +kernel
theorem dX1_pass_20 : decode cX1_pass 20 = .ok (.aload_n 0, 1) := by decide +kernel
theorem dX1_pass_21 : decode cX1_pass 21 = .ok (.getfield 9, 3) := by decide +kernel
theorem dX1_pass_24 : decode cX1_pass 24 = .ok (.iload_n 3, 1) := by decide +kernel
theorem dX1_pass_25 : decode cX1_pass 25 = .ok (.iaload, 1) := by decide +kernel
theorem dX1_pass_26 : decode cX1_pass 26 = .ok (.istore 4, 2) := by decide +kernel
theorem dX1_pass_28 : decode cX1_pass 28 = .ok (.iload 4, 2) := by decide +kernel
theorem dX1_pass_30 : decode cX1_pass 30 = .ok (.bipush (-9), 2) := by decide +kernel
theorem dX1_pass_32 : decode cX1_pass 32 = .ok (.if_icmp .ne 19, 3) := by decide +kernel
theorem dX1_pass_35 : decode cX1_pass 35 = .ok (.aload_n 0, 1) := by decide +kernel
theorem dX1_pass_36 : decode cX1_pass 36 = .ok (.getfield 21, 3) := by decide +kernel
theorem dX1_pass_39 : decode cX1_pass 39 = .ok (.istore 4, 2) := by decide +kernel
theorem dX1_pass_41 : decode cX1_pass 41 = .ok (.aload_n 0, 1) := by decide +kernel
theorem dX1_pass_42 : decode cX1_pass 42 = .ok (.dup, 1) := by decide +kernel
theorem dX1_pass_43 : decode cX1_pass 43 = .ok (.getfield 21, 3) := by decide +kernel
theorem dX1_pass_46 : decode cX1_pass 46 = .ok (.iconst 1, 1) := by decide +kernel
theorem dX1_pass_47 : decode cX1_pass 47 = .ok (.iadd, 1) := by decide +kernel
theorem dX1_pass_48 : decode cX1_pass 48 = .ok (.putfield 21, 3) := by decide +kernel
theorem dX1_pass_51 : decode cX1_pass 51 = .ok (.aload_n 0, 1) := by decide +kernel
theorem dX1_pass_52 : decode cX1_pass 52 = .ok (.getfield 9, 3) := by decide +kernel
theorem dX1_pass_55 : decode cX1_pass 55 = .ok (.iload_n 3, 1) := by decide +kernel
theorem dX1_pass_56 : decode cX1_pass 56 = .ok (.bipush (-9), 2) := by decide +kernel
theorem dX1_pass_58 : decode cX1_pass 58 = .ok (.iastore, 1) := by decide +kernel
theorem dX1_pass_59 : decode cX1_pass 59 = .ok (.aload_n 0, 1) := by decide +kernel
theorem dX1_pass_60 : decode cX1_pass 60 = .ok (.getfield 9, 3) := by decide +kernel
theorem dX1_pass_63 : decode cX1_pass 63 = .ok (.iload_n 1, 1) := by decide +kernel
theorem dX1_pass_64 : decode cX1_pass 64 = .ok (.iload_n 2, 1) := by decide +kernel
theorem dX1_pass_65 : decode cX1_pass 65 = .ok (.iadd, 1) := by decide +kernel
theorem dX1_pass_66 : decode cX1_pass 66 = .ok (.aload_n 0, 1) := by decide +kernel
theorem dX1_pass_67 : decode cX1_pass 67 = .ok (.getfield 9, 3) := by decide +kernel
theorem dX1_pass_70 : decode cX1_pass 70 = .ok (.arraylength, 1) := by decide +kernel
theorem dX1_pass_71 : decode cX1_pass 71 = .ok (.irem, 1) := by decide +kernel
theorem dX1_pass_72 : decode cX1_pass 72 = .ok (.iload 4, 2) := by decide +kernel
theorem dX1_pass_74 : decode cX1_pass 74 = .ok (.iastore, 1) := by decide +kernel
theorem dX1_pass_75 : decode cX1_pass 75 = .ok (.iload 4, 2) := by decide +kernel
theorem dX1_pass_77 : decode cX1_pass 77 = .ok (.ireturn, 1) := by decide +kernel
theorem dX2_reset_0 : decode cX2_reset 0 = .ok (.aload_n 0, 1) := by decide +kernel
theorem dX2_reset_1 : decode cX2_reset 1 = .ok (.getfield 9, 3) := by decide +kernel
theorem dX2_reset_4 : decode cX2_reset 4 = .ok (.iconst 0, 1) := by decide +kernel
theorem dX2_reset_5 : decode cX2_reset 5 = .ok (.invokestatic 15, 3) := by decide +kernel
theorem dX2_reset_8 : decode cX2_reset 8 = .ok (.return_, 1) := by decide +kernel
theorem dX6_isBall_0 : decode cX6_isBall 0 = .ok (.iload_n 0, 1) := by decide +kernel
theorem dX6_isBall_1 : decode cX6_isBall 1 = .ok (.iconst 0, 1) := by decide +kernel
theorem dX6_isBall_2 : decode cX6_isBall 2 = .ok (.bipush 9, 2) := by decide +kernel
theorem dX6_isBall_4 : decode cX6_isBall 4 = .ok (.invokestatic 104, 3) := by decide +kernel
theorem dX6_isBall_7 : decode cX6_isBall 7 = .ok (.ireturn, 1) := by decide +kernel
theorem dX2_kindOf_0 : decode cX2_kindOf 0 = .ok (.iload_n 1, 1) := by decide +kernel
theorem dX2_kindOf_1 : decode cX2_kindOf 1 = .ok (.invokestatic 21, 3) := by decide +kernel
theorem dX2_kindOf_4 : decode cX2_kindOf 4 = .ok (.ifCond .eq 12, 3) := by decide +kernel
theorem dX2_kindOf_7 : decode cX2_kindOf 7 = .ok (.aload_n 0, 1) := by decide +kernel
theorem dX2_kindOf_8 : decode cX2_kindOf 8 = .ok (.getfield 9, 3) := by decide +kernel
theorem dX2_kindOf_11 : decode cX2_kindOf 11 = .ok (.iload_n 1, 1) := by decide +kernel
theorem dX2_kindOf_12 : decode cX2_kindOf 12 = .ok (.iaload, 1) := by decide +kernel
theorem dX2_kindOf_13 : decode cX2_kindOf 13 = .ok (.goto 4, 3) := by decide +kernel
theorem dX2_kindOf_16 : decode cX2_kindOf 16 = .ok (.iconst 0, 1) := by decide +kernel
theorem dX2_kindOf_17 : decode cX2_kindOf 17 = .ok (.ireturn, 1) := by decide +kernel
theorem dX2_setKind_0 : decode cX2_setKind 0 = .ok (.iload_n 1, 1) := by decide +kernel
theorem dX2_setKind_1 : decode cX2_setKind 1 = .ok (.invokestatic 21, 3) := by decide +kernel
theorem dX2_setKind_4 : decode cX2_setKind 4 = .ok (.ifCond .eq 10, 3) := by decide +kernel
theorem dX2_setKind_7 : decode cX2_setKind 7 = .ok (.aload_n 0, 1) := by decide +kernel
theorem dX2_setKind_8 : decode cX2_setKind 8 = .ok (.getfield 9, 3) := by decide +kernel
theorem dX2_setKind_11 : decode cX2_setKind 11 = .ok (.iload_n 1, 1) := by decide +kernel
theorem dX2_setKind_12 : decode cX2_setKind 12 = .ok (.iload_n 2, 1) := by decide +kernel
theorem dX2_setKind_13 : decode cX2_setKind 13 = .ok (.iastore, 1) := by decide +kernel
theorem dX2_setKind_14 : decode cX2_setKind 14 = .ok (.return_, 1) := by decide +kernel
theorem dX2_mayGo_0 : decode cX2_mayGo 0 = .ok (.aload_n 0, 1) := by decide +kernel
theorem dX2_mayGo_1 : decode cX2_mayGo 1 = .ok (.iload_n 1, 1) := by decide +kernel
theorem dX2_mayGo_2 : decode cX2_mayGo 2 = .ok (.invokevirtual 25, 3) := by decide +kernel
theorem dX2_mayGo_5 : decode cX2_mayGo 5 = .ok (.lookupswitch 32 #[(1, 29), (2, 27)], 27) := by decide +kernel
theorem dX2_mayGo_32 : decode cX2_mayGo 32 = .ok (.iconst 4, 1) := by decide +kernel
theorem dX2_mayGo_33 : decode cX2_mayGo 33 = .ok (.ireturn, 1) := by decide +kernel
theorem dX2_mayGo_34 : decode cX2_mayGo 34 = .ok (.bipush 6, 2) := by decide +kernel
theorem dX2_mayGo_36 : decode cX2_mayGo 36 = .ok (.ireturn, 1) := by decide +kernel
theorem dX2_mayGo_37 : decode cX2_mayGo 37 = .ok (.bipush 9, 2) := by decide +kernel
theorem dX2_mayGo_39 : decode cX2_mayGo 39 = .ok (.ireturn, 1) := by decide +kernel
theorem dX2_leave_0 : decode cX2_leave 0 = .ok (.aload_n 0, 1) := by decide +kernel
theorem dX2_leave_1 : decode cX2_leave 1 = .ok (.bipush 31, 2) := by decide +kernel
theorem dX2_leave_3 : decode cX2_leave 3 = .ok (.aload_n 0, 1) := by decide +kernel
theorem dX2_leave_4 : decode cX2_leave 4 = .ok (.getfield 45, 3) := by decide +kernel
theorem dX2_leave_7 : decode cX2_leave 7 = .ok (.imul, 1) := by decide +kernel
theorem dX2_leave_8 : decode cX2_leave 8 = .ok (.iload_n 1, 1) := by decide +kernel
theorem dX2_leave_9 : decode cX2_leave 9 = .ok (.iadd, 1) := by decide +kernel
theorem dX2_leave_10 : decode cX2_leave 10 = .ok (.putfield 45, 3) := by decide +kernel
theorem dX2_leave_13 : decode cX2_leave 13 = .ok (.return_, 1) := by decide +kernel
theorem dX2_tellingOfBall_0 : decode cX2_tellingOfBall 0 = .ok (.aload_n 0, 1) := by decide +kernel
theorem dX2_tellingOfBall_1 : decode cX2_tellingOfBall 1 = .ok (.iconst 1, 1) := by decide +kernel
theorem dX2_tellingOfBall_2 : decode cX2_tellingOfBall 2 = .ok (.invokevirtual 38, 3) := by decide +kernel
theorem dX2_tellingOfBall_5 : decode cX2_tellingOfBall 5 = .ok (.iload_n 1, 1) := by decide +kernel
theorem dX2_tellingOfBall_6 : decode cX2_tellingOfBall 6 = .ok (.ireturn, 1) := by decide +kernel
theorem dX2_tellingOfHeavy_0 : decode cX2_tellingOfHeavy 0 = .ok (.aload_n 0, 1) := by decide +kernel
theorem dX2_tellingOfHeavy_1 : decode cX2_tellingOfHeavy 1 = .ok (.iconst 2, 1) := by decide +kernel
theorem dX2_tellingOfHeavy_2 : decode cX2_tellingOfHeavy 2 = .ok (.invokevirtual 38, 3) := by decide +kernel
theorem dX2_tellingOfHeavy_5 : decode cX2_tellingOfHeavy 5 = .ok (.aload_n 0, 1) := by decide +kernel
theorem dX2_tellingOfHeavy_6 : decode cX2_tellingOfHeavy 6 = .ok (.iload_n 1, 1) := by decide +kernel
theorem dX2_tellingOfHeavy_7 : decode cX2_tellingOfHeavy 7 = .ok (.invokevirtual 35, 3) := by decide +kernel
theorem dX2_tellingOfHeavy_10 : decode cX2_tellingOfHeavy 10 = .ok (.bipush 100, 2) := by decide +kernel
theorem dX2_tellingOfHeavy_12 : decode cX2_tellingOfHeavy 12 = .ok (.iadd, 1) := by decide +kernel
theorem dX2_tellingOfHeavy_13 : decode cX2_tellingOfHeavy 13 = .ok (.ireturn, 1) := by decide +kernel
theorem dX2_tellingOfEgg_0 : decode cX2_tellingOfEgg 0 = .ok (.aload_n 0, 1) := by decide +kernel
theorem dX2_tellingOfEgg_1 : decode cX2_tellingOfEgg 1 = .ok (.iconst 3, 1) := by decide +kernel
theorem dX2_tellingOfEgg_2 : decode cX2_tellingOfEgg 2 = .ok (.invokevirtual 38, 3) := by decide +kernel
theorem dX2_tellingOfEgg_5 : decode cX2_tellingOfEgg 5 = .ok (.aload_n 0, 1) := by decide +kernel
theorem dX2_tellingOfEgg_6 : decode cX2_tellingOfEgg 6 = .ok (.iload_n 1, 1) := by decide +kernel
theorem dX2_tellingOfEgg_7 : decode cX2_tellingOfEgg 7 = .ok (.invokevirtual 32, 3) := by decide +kernel
theorem dX2_tellingOfEgg_10 : decode cX2_tellingOfEgg 10 = .ok (.aload_n 0, 1) := by decide +kernel
theorem dX2_tellingOfEgg_11 : decode cX2_tellingOfEgg 11 = .ok (.iload_n 1, 1) := by decide +kernel
theorem dX2_tellingOfEgg_12 : decode cX2_tellingOfEgg 12 = .ok (.invokevirtual 35, 3) := by decide +kernel
theorem dX2_tellingOfEgg_15 : decode cX2_tellingOfEgg 15 = .ok (.iadd, 1) := by decide +kernel
theorem dX2_tellingOfEgg_16 : decode cX2_tellingOfEgg 16 = .ok (.ireturn, 1) := by decide +kernel
theorem dX2_telling_0 : decode cX2_telling 0 = .ok (.aload_n 0, 1) := by decide +kernel
theorem dX2_telling_1 : decode cX2_telling 1 = .ok (.iload_n 1, 1) := by decide +kernel
theorem dX2_telling_2 : decode cX2_telling 2 = .ok (.invokevirtual 25, 3) := by decide +kernel
theorem dX2_telling_5 : decode cX2_telling 5 = .ok (.lookupswitch 39 #[(1, 33), (2, 27)], 27) := by decide +kernel
theorem dX2_telling_32 : decode cX2_telling 32 = .ok (.aload_n 0, 1) := by decide +kernel
theorem dX2_telling_33 : decode cX2_telling 33 = .ok (.iload_n 1, 1) := by decide +kernel
theorem dX2_telling_34 : decode cX2_telling 34 = .ok (.invokevirtual 29, 3) := by decide +kernel
theorem dX2_telling_37 : decode cX2_telling 37 = .ok (.ireturn, 1) := by decide +kernel
theorem dX2_telling_38 : decode cX2_telling 38 = .ok (.aload_n 0, 1) := by decide +kernel
theorem dX2_telling_39 : decode cX2_telling 39 = .ok (.iload_n 1, 1) := by decide +kernel
theorem dX2_telling_40 : decode cX2_telling 40 = .ok (.invokevirtual 32, 3) := by decide +kernel
theorem dX2_telling_43 : decode cX2_telling 43 = .ok (.ireturn, 1) := by decide +kernel
theorem dX2_telling_44 : decode cX2_telling 44 = .ok (.aload_n 0, 1) := by decide +kernel
theorem dX2_telling_45 : decode cX2_telling 45 = .ok (.iload_n 1, 1) := by decide +kernel
theorem dX2_telling_46 : decode cX2_telling 46 = .ok (.invokevirtual 35, 3) := by decide +kernel
theorem dX2_telling_49 : decode cX2_telling 49 = .ok (.ireturn, 1) := by decide +kernel
theorem dX2_calling_0 : decode cX2_calling 0 = .ok (.aload_n 0, 1) := by decide +kernel
theorem dX2_calling_1 : decode cX2_calling 1 = .ok (.iload_n 1, 1) := by decide +kernel
theorem dX2_calling_2 : decode cX2_calling 2 = .ok (.invokevirtual 25, 3) := by decide +kernel
theorem dX2_calling_5 : decode cX2_calling 5 = .ok (.iconst 2, 1) := by decide +kernel
theorem dX2_calling_6 : decode cX2_calling 6 = .ok (.if_icmp .ne 11, 3) := by decide +kernel
theorem dX2_calling_9 : decode cX2_calling 9 = .ok (.aload_n 0, 1) := by decide +kernel
theorem dX2_calling_10 : decode cX2_calling 10 = .ok (.iconst 5, 1) := by decide +kernel
theorem dX2_calling_11 : decode cX2_calling 11 = .ok (.invokevirtual 38, 3) := by decide +kernel
theorem dX2_calling_14 : decode cX2_calling 14 = .ok (.bipush 70, 2) := by decide +kernel
theorem dX2_calling_16 : decode cX2_calling 16 = .ok (.ireturn, 1) := by decide +kernel
theorem dX2_calling_17 : decode cX2_calling 17 = .ok (.aload_n 0, 1) := by decide +kernel
theorem dX2_calling_18 : decode cX2_calling 18 = .ok (.iconst 4, 1) := by decide +kernel
theorem dX2_calling_19 : decode cX2_calling 19 = .ok (.invokevirtual 38, 3) := by decide +kernel
theorem dX2_calling_22 : decode cX2_calling 22 = .ok (.aload_n 0, 1) := by decide +kernel
theorem dX2_calling_23 : decode cX2_calling 23 = .ok (.iload_n 1, 1) := by decide +kernel
theorem dX2_calling_24 : decode cX2_calling 24 = .ok (.invokevirtual 42, 3) := by decide +kernel
theorem dX2_calling_27 : decode cX2_calling 27 = .ok (.ireturn, 1) := by decide +kernel
theorem dX3_isThere_0 : decode cX3_isThere 0 = .ok (.aload_n 0, 1) := by decide +kernel
theorem dX3_isThere_1 : decode cX3_isThere 1 = .ok (.getfield 15, 3) := by decide +kernel
theorem dX3_isThere_4 : decode cX3_isThere 4 = .ok (.ifCond .le 7, 3) := by decide +kernel
theorem dX3_isThere_7 : decode cX3_isThere 7 = .ok (.iconst 1, 1) := by decide +kernel
theorem dX3_isThere_8 : decode cX3_isThere 8 = .ok (.goto 4, 3) := by decide +kernel
theorem dX3_isThere_11 : decode cX3_isThere 11 = .ok (.iconst 0, 1) := by decide +kernel
theorem dX3_isThere_12 : decode cX3_isThere 12 = .ok (.ireturn, 1) := by decide +kernel
theorem dX3_hasBeat_0 : decode cX3_hasBeat 0 = .ok (.iload_n 1, 1) := by decide +kernel
theorem dX3_hasBeat_1 : decode cX3_hasBeat 1 = .ok (.ifCond .lt 15, 3) := by decide +kernel
theorem dX3_hasBeat_4 : decode cX3_hasBeat 4 = .ok (.iload_n 1, 1) := by decide +kernel
theorem dX3_hasBeat_5 : decode cX3_hasBeat 5 = .ok (.aload_n 0, 1) := by decide +kernel
theorem dX3_hasBeat_6 : decode cX3_hasBeat 6 = .ok (.getfield 15, 3) := by decide +kernel
theorem dX3_hasBeat_9 : decode cX3_hasBeat 9 = .ok (.if_icmp .ge 7, 3) := by decide +kernel
theorem dX3_hasBeat_12 : decode cX3_hasBeat 12 = .ok (.iconst 1, 1) := by decide +kernel
theorem dX3_hasBeat_13 : decode cX3_hasBeat 13 = .ok (.goto 4, 3) := by decide +kernel
theorem dX3_hasBeat_16 : decode cX3_hasBeat 16 = .ok (.iconst 0, 1) := by decide +kernel
theorem dX3_hasBeat_17 : decode cX3_hasBeat 17 = .ok (.ireturn, 1) := by decide +kernel
theorem dJ9_floorMod_7cf53_0 : decode cJ9_floorMod_7cf53 0 = .ok (.iload_n 0, 1) := by decide +kernel
theorem dJ9_floorMod_7cf53_1 : decode cJ9_floorMod_7cf53 1 = .ok (.iload_n 1, 1) := by decide +kernel
theorem dJ9_floorMod_7cf53_2 : decode cJ9_floorMod_7cf53 2 = .ok (.irem, 1) := by decide +kernel
theorem dJ9_floorMod_7cf53_3 : decode cJ9_floorMod_7cf53 3 = .ok (.istore_n 2, 1) := by decide +kernel
theorem dJ9_floorMod_7cf53_4 : decode cJ9_floorMod_7cf53 4 = .ok (.iload_n 0, 1) := by decide +kernel
theorem dJ9_floorMod_7cf53_5 : decode cJ9_floorMod_7cf53 5 = .ok (.iload_n 1, 1) := by decide +kernel
theorem dJ9_floorMod_7cf53_6 : decode cJ9_floorMod_7cf53 6 = .ok (.ixor, 1) := by decide +kernel
theorem dJ9_floorMod_7cf53_7 : decode cJ9_floorMod_7cf53 7 = .ok (.ifCond .ge 11, 3) := by decide +kernel
theorem dJ9_floorMod_7cf53_10 : decode cJ9_floorMod_7cf53 10 = .ok (.iload_n 2, 1) := by decide +kernel
theorem dJ9_floorMod_7cf53_11 : decode cJ9_floorMod_7cf53 11 = .ok (.ifCond .eq 7, 3) := by decide +kernel
theorem dJ9_floorMod_7cf53_14 : decode cJ9_floorMod_7cf53 14 = .ok (.iload_n 2, 1) := by decide +kernel
theorem dJ9_floorMod_7cf53_15 : decode cJ9_floorMod_7cf53 15 = .ok (.iload_n 1, 1) := by decide +kernel
theorem dJ9_floorMod_7cf53_16 : decode cJ9_floorMod_7cf53 16 = .ok (.iadd, 1) := by decide +kernel
theorem dJ9_floorMod_7cf53_17 : decode cJ9_floorMod_7cf53 17 = .ok (.ireturn, 1) := by decide +kernel
theorem dJ9_floorMod_7cf53_18 : decode cJ9_floorMod_7cf53 18 = .ok (.iload_n 2, 1) := by decide +kernel
theorem dJ9_floorMod_7cf53_19 : decode cJ9_floorMod_7cf53 19 = .ok (.ireturn, 1) := by decide +kernel
theorem dX3_heightIn_0 : decode cX3_heightIn 0 = .ok (.aload_n 0, 1) := by decide +kernel
theorem dX3_heightIn_1 : decode cX3_heightIn 1 = .ok (.getfield 15, 3) := by decide +kernel
theorem dX3_heightIn_4 : decode cX3_heightIn 4 = .ok (.iconst 1, 1) := by decide +kernel
theorem dX3_heightIn_5 : decode cX3_heightIn 5 = .ok (.if_icmp .ge 7, 3) := by decide +kernel
theorem dX3_heightIn_8 : decode cX3_heightIn 8 = .ok (.iconst 0, 1) := by decide +kernel
theorem dX3_heightIn_9 : decode cX3_heightIn 9 = .ok (.goto 16, 3) := by decide +kernel
theorem dX3_heightIn_12 : decode cX3_heightIn 12 = .ok (.aload_n 0, 1) := by decide +kernel
theorem dX3_heightIn_13 : decode cX3_heightIn 13 = .ok (.getfield 9, 3) := by decide +kernel
theorem dX3_heightIn_16 : decode cX3_heightIn 16 = .ok (.iload_n 1, 1) := by decide +kernel
theorem dX3_heightIn_17 : decode cX3_heightIn 17 = .ok (.aload_n 0, 1) := by decide +kernel
theorem dX3_heightIn_18 : decode cX3_heightIn 18 = .ok (.getfield 15, 3) := by decide +kernel
theorem dX3_heightIn_21 : decode cX3_heightIn 21 = .ok (.invokestatic 19, 3) := by decide +kernel
theorem dX3_heightIn_24 : decode cX3_heightIn 24 = .ok (.iaload, 1) := by decide +kernel
theorem dX3_heightIn_25 : decode cX3_heightIn 25 = .ok (.ireturn, 1) := by decide +kernel
theorem dX3_setHeight_0 : decode cX3_setHeight 0 = .ok (.aload_n 0, 1) := by decide +kernel
theorem dX3_setHeight_1 : decode cX3_setHeight 1 = .ok (.iload_n 1, 1) := by decide +kernel
theorem dX3_setHeight_2 : decode cX3_setHeight 2 = .ok (.invokevirtual 25, 3) := by decide +kernel
theorem dX3_setHeight_5 : decode cX3_setHeight 5 = .ok (.ifCond .eq 10, 3) := by decide +kernel
theorem dX3_setHeight_8 : decode cX3_setHeight 8 = .ok (.aload_n 0, 1) := by decide +kernel
theorem dX3_setHeight_9 : decode cX3_setHeight 9 = .ok (.getfield 9, 3) := by decide +kernel
theorem dX3_setHeight_12 : decode cX3_setHeight 12 = .ok (.iload_n 1, 1) := by decide +kernel
theorem dX3_setHeight_13 : decode cX3_setHeight 13 = .ok (.iload_n 2, 1) := by decide +kernel
theorem dX3_setHeight_14 : decode cX3_setHeight 14 = .ok (.iastore, 1) := by decide +kernel
theorem dX3_setHeight_15 : decode cX3_setHeight 15 = .ok (.return_, 1) := by decide +kernel
theorem dX3_landingOf_0 : decode cX3_landingOf 0 = .ok (.aload_n 0, 1) := by decide +kernel
theorem dX3_landingOf_1 : decode cX3_landingOf 1 = .ok (.getfield 15, 3) := by decide +kernel
theorem dX3_landingOf_4 : decode cX3_landingOf 4 = .ok (.iconst 1, 1) := by decide +kernel
theorem dX3_landingOf_5 : decode cX3_landingOf 5 = .ok (.if_icmp .ge 7, 3) := by decide +kernel
theorem dX3_landingOf_8 : decode cX3_landingOf 8 = .ok (.iconst 0, 1) := by decide +kernel
theorem dX3_landingOf_9 : decode cX3_landingOf 9 = .ok (.goto 17, 3) := by decide +kernel
theorem dX3_landingOf_12 : decode cX3_landingOf 12 = .ok (.iload_n 1, 1) := by decide +kernel
theorem dX3_landingOf_13 : decode cX3_landingOf 13 = .ok (.aload_n 0, 1) := by decide +kernel
theorem dX3_landingOf_14 : decode cX3_landingOf 14 = .ok (.iload_n 1, 1) := by decide +kernel
theorem dX3_landingOf_15 : decode cX3_landingOf 15 = .ok (.invokevirtual 29, 3) := by decide +kernel
theorem dX3_landingOf_18 : decode cX3_landingOf 18 = .ok (.iadd, 1) := by decide +kernel
theorem dX3_landingOf_19 : decode cX3_landingOf 19 = .ok (.aload_n 0, 1) := by decide +kernel
theorem dX3_landingOf_20 : decode cX3_landingOf 20 = .ok (.getfield 15, 3) := by decide +kernel
theorem dX3_landingOf_23 : decode cX3_landingOf 23 = .ok (.invokestatic 19, 3) := by decide +kernel
theorem dX3_landingOf_26 : decode cX3_landingOf 26 = .ok (.ireturn, 1) := by decide +kernel
theorem dX3_firstClash_0 : decode cX3_firstClash 0 = .ok (.iconst 0, 1) := by decide +kernel
theorem dX3_firstClash_1 : decode cX3_firstClash 1 = .ok (.istore_n 1, 1) := by decide +kernel
theorem dX3_firstClash_2 : decode cX3_firstClash 2 = .ok (.iload_n 1, 1) := by decide +kernel
theorem dX3_firstClash_3 : decode cX3_firstClash 3 = .ok (.aload_n 0, 1) := by decide +kernel
theorem dX3_firstClash_4 : decode cX3_firstClash 4 = .ok (.getfield 15, 3) := by decide +kernel
theorem dX3_firstClash_7 : decode cX3_firstClash 7 = .ok (.if_icmp .ge 47, 3) := by decide +kernel
theorem dX3_firstClash_10 : decode cX3_firstClash 10 = .ok (.iload_n 1, 1) := by decide +kernel
theorem dX3_firstClash_11 : decode cX3_firstClash 11 = .ok (.iconst 1, 1) := by decide +kernel
theorem dX3_firstClash_12 : decode cX3_firstClash 12 = .ok (.iadd, 1) := by decide +kernel
theorem dX3_firstClash_13 : decode cX3_firstClash 13 = .ok (.istore_n 2, 1) := by decide +kernel
theorem dX3_firstClash_14 : decode cX3_firstClash 14 = .ok (.iload_n 2, 1) := by decide +kernel
theorem dX3_firstClash_15 : decode cX3_firstClash 15 = .ok (.aload_n 0, 1) := by decide +kernel
theorem dX3_firstClash_16 : decode cX3_firstClash 16 = .ok (.getfield 15, 3) := by decide +kernel
theorem dX3_firstClash_19 : decode cX3_firstClash 19 = .ok (.if_icmp .ge 29, 3) := by decide +kernel
theorem dX3_firstClash_22 : decode cX3_firstClash 22 = .ok (.aload_n 0, 1) := by decide +kernel
theorem dX3_firstClash_23 : decode cX3_firstClash 23 = .ok (.iload_n 1, 1) := by decide +kernel
theorem dX3_firstClash_24 : decode cX3_firstClash 24 = .ok (.invokevirtual 33, 3) := by decide +kernel
theorem dX3_firstClash_27 : decode cX3_firstClash 27 = .ok (.aload_n 0, 1) := by decide +kernel
theorem dX3_firstClash_28 : decode cX3_firstClash 28 = .ok (.iload_n 2, 1) := by decide +kernel
theorem dX3_firstClash_29 : decode cX3_firstClash 29 = .ok (.invokevirtual 33, 3) := by decide +kernel
theorem dX3_firstClash_32 : decode cX3_firstClash 32 = .ok (.if_icmp .ne 10, 3) := by decide +kernel
theorem dX3_firstClash_35 : decode cX3_firstClash 35 = .ok (.bipush 10, 2) := by decide +kernel
theorem dX3_firstClash_37 : decode cX3_firstClash 37 = .ok (.iload_n 1, 1) := by decide +kernel
theorem dX3_firstClash_38 : decode cX3_firstClash 38 = .ok (.imul, 1) := by decide +kernel
theorem dX3_firstClash_39 : decode cX3_firstClash 39 = .ok (.iload_n 2, 1) := by decide +kernel
theorem dX3_firstClash_40 : decode cX3_firstClash 40 = .ok (.iadd, 1) := by decide +kernel
theorem dX3_firstClash_41 : decode cX3_firstClash 41 = .ok (.ireturn, 1) := by decide +kernel
theorem dX3_firstClash_42 : decode cX3_firstClash 42 = .ok (.iinc 2 1, 3) := by decide +kernel
theorem dX3_firstClash_45 : decode cX3_firstClash 45 = .ok (.goto (-31), 3) := by decide +kernel
theorem dX3_firstClash_48 : decode cX3_firstClash 48 = .ok (.iinc 1 1, 3) := by decide +kernel
theorem dX3_firstClash_51 : decode cX3_firstClash 51 = .ok (.goto (-49), 3) := by decide +kernel
theorem dX3_firstClash_54 : decode cX3_firstClash 54 = .ok (.bipush (-9), 2) := by decide +kernel
theorem dX3_firstClash_56 : decode cX3_firstClash 56 = .ok (.ireturn, 1) := by decide +kernel
theorem dX3_isGood_0 : decode cX3_isGood 0 = .ok (.aload_n 0, 1) := by decide +kernel
theorem dX3_isGood_1 : decode cX3_isGood 1 = .ok (.invokevirtual 36, 3) := by decide +kernel
theorem dX3_isGood_4 : decode cX3_isGood 4 = .ok (.ifCond .eq 16, 3) := by decide +kernel
theorem dX3_isGood_7 : decode cX3_isGood 7 = .ok (.aload_n 0, 1) := by decide +kernel
theorem dX3_isGood_8 : decode cX3_isGood 8 = .ok (.invokevirtual 40, 3) := by decide +kernel
theorem dX3_isGood_11 : decode cX3_isGood 11 = .ok (.bipush (-9), 2) := by decide +kernel
theorem dX3_isGood_13 : decode cX3_isGood 13 = .ok (.if_icmp .ne 7, 3) := by decide +kernel
theorem dX3_isGood_16 : decode cX3_isGood 16 = .ok (.iconst 1, 1) := by decide +kernel
theorem dX3_isGood_17 : decode cX3_isGood 17 = .ok (.goto 4, 3) := by decide +kernel
theorem dX3_isGood_20 : decode cX3_isGood 20 = .ok (.iconst 0, 1) := by decide +kernel
theorem dX3_isGood_21 : decode cX3_isGood 21 = .ok (.ireturn, 1) := by decide +kernel
theorem dX3_ballCount_0 : decode cX3_ballCount 0 = .ok (.iconst 0, 1) := by decide +kernel
theorem dX3_ballCount_1 : decode cX3_ballCount 1 = .ok (.istore_n 1, 1) := by decide +kernel
theorem dX3_ballCount_2 : decode cX3_ballCount 2 = .ok (.iconst 0, 1) := by decide +kernel
theorem dX3_ballCount_3 : decode cX3_ballCount 3 = .ok (.istore_n 2, 1) := by decide +kernel
theorem dX3_ballCount_4 : decode cX3_ballCount 4 = .ok (.iload_n 2, 1) := by decide +kernel
theorem dX3_ballCount_5 : decode cX3_ballCount 5 = .ok (.aload_n 0, 1) := by decide +kernel
theorem dX3_ballCount_6 : decode cX3_ballCount 6 = .ok (.getfield 15, 3) := by decide +kernel
theorem dX3_ballCount_9 : decode cX3_ballCount 9 = .ok (.if_icmp .ge 18, 3) := by decide +kernel
theorem dX3_ballCount_12 : decode cX3_ballCount 12 = .ok (.iload_n 1, 1) := by decide +kernel
theorem dX3_ballCount_13 : decode cX3_ballCount 13 = .ok (.aload_n 0, 1) := by decide +kernel
theorem dX3_ballCount_14 : decode cX3_ballCount 14 = .ok (.getfield 9, 3) := by decide +kernel
theorem dX3_ballCount_17 : decode cX3_ballCount 17 = .ok (.iload_n 2, 1) := by decide +kernel
theorem dX3_ballCount_18 : decode cX3_ballCount 18 = .ok (.iaload, 1) := by decide +kernel
theorem dX3_ballCount_19 : decode cX3_ballCount 19 = .ok (.iadd, 1) := by decide +kernel
theorem dX3_ballCount_20 : decode cX3_ballCount 20 = .ok (.istore_n 1, 1) := by decide +kernel
theorem dX3_ballCount_21 : decode cX3_ballCount 21 = .ok (.iinc 2 1, 3) := by decide +kernel
theorem dX3_ballCount_24 : decode cX3_ballCount 24 = .ok (.goto (-20), 3) := by decide +kernel
theorem dX3_ballCount_27 : decode cX3_ballCount 27 = .ok (.aload_n 0, 1) := by decide +kernel
theorem dX3_ballCount_28 : decode cX3_ballCount 28 = .ok (.getfield 15, 3) := by decide +kernel
theorem dX3_ballCount_31 : decode cX3_ballCount 31 = .ok (.iconst 1, 1) := by decide +kernel
theorem dX3_ballCount_32 : decode cX3_ballCount 32 = .ok (.if_icmp .ge 7, 3) := by decide +kernel
theorem dX3_ballCount_35 : decode cX3_ballCount 35 = .ok (.iconst 0, 1) := by decide +kernel
theorem dX3_ballCount_36 : decode cX3_ballCount 36 = .ok (.goto 9, 3) := by decide +kernel
theorem dX3_ballCount_39 : decode cX3_ballCount 39 = .ok (.iload_n 1, 1) := by decide +kernel
theorem dX3_ballCount_40 : decode cX3_ballCount 40 = .ok (.aload_n 0, 1) := by decide +kernel
theorem dX3_ballCount_41 : decode cX3_ballCount 41 = .ok (.getfield 15, 3) := by decide +kernel
theorem dX3_ballCount_44 : decode cX3_ballCount 44 = .ok (.idiv, 1) := by decide +kernel
theorem dX3_ballCount_45 : decode cX3_ballCount 45 = .ok (.ireturn, 1) := by decide +kernel
theorem dJ9_max_7cf53_0 : decode cJ9_max_7cf53 0 = .ok (.iload_n 0, 1) := by decide +kernel
theorem dJ9_max_7cf53_1 : decode cJ9_max_7cf53 1 = .ok (.iload_n 1, 1) := by decide +kernel
theorem dJ9_max_7cf53_2 : decode cJ9_max_7cf53 2 = .ok (.if_icmp .lt 7, 3) := by decide +kernel
theorem dJ9_max_7cf53_5 : decode cJ9_max_7cf53 5 = .ok (.iload_n 0, 1) := by decide +kernel
theorem dJ9_max_7cf53_6 : decode cJ9_max_7cf53 6 = .ok (.goto 4, 3) := by decide +kernel
theorem dJ9_max_7cf53_9 : decode cJ9_max_7cf53 9 = .ok (.iload_n 1, 1) := by decide +kernel
theorem dJ9_max_7cf53_10 : decode cJ9_max_7cf53 10 = .ok (.ireturn, 1) := by decide +kernel
theorem dX3_greatestHeight_0 : decode cX3_greatestHeight 0 = .ok (.iconst 0, 1) := by decide +kernel
theorem dX3_greatestHeight_1 : decode cX3_greatestHeight 1 = .ok (.istore_n 1, 1) := by decide +kernel
theorem dX3_greatestHeight_2 : decode cX3_greatestHeight 2 = .ok (.iconst 0, 1) := by decide +kernel
theorem dX3_greatestHeight_3 : decode cX3_greatestHeight 3 = .ok (.istore_n 2, 1) := by decide +kernel
theorem dX3_greatestHeight_4 : decode cX3_greatestHeight 4 = .ok (.iload_n 2, 1) := by decide +kernel
theorem dX3_greatestHeight_5 : decode cX3_greatestHeight 5 = .ok (.aload_n 0, 1) := by decide +kernel
theorem dX3_greatestHeight_6 : decode cX3_greatestHeight 6 = .ok (.getfield 15, 3) := by decide +kernel
theorem dX3_greatestHeight_9 : decode cX3_greatestHeight 9 = .ok (.if_icmp .ge 20, 3) := by decide +kernel
theorem dX3_greatestHeight_12 : decode cX3_greatestHeight 12 = .ok (.iload_n 1, 1) := by decide +kernel
theorem dX3_greatestHeight_13 : decode cX3_greatestHeight 13 = .ok (.aload_n 0, 1) := by decide +kernel
theorem dX3_greatestHeight_14 : decode cX3_greatestHeight 14 = .ok (.getfield 9, 3) := by decide +kernel
theorem dX3_greatestHeight_17 : decode cX3_greatestHeight 17 = .ok (.iload_n 2, 1) := by decide +kernel
theorem dX3_greatestHeight_18 : decode cX3_greatestHeight 18 = .ok (.iaload, 1) := by decide +kernel
theorem dX3_greatestHeight_19 : decode cX3_greatestHeight 19 = .ok (.invokestatic 44, 3) := by decide +kernel
theorem dX3_greatestHeight_22 : decode cX3_greatestHeight 22 = .ok (.istore_n 1, 1) := by decide +kernel
theorem dX3_greatestHeight_23 : decode cX3_greatestHeight 23 = .ok (.iinc 2 1, 3) := by decide +kernel
theorem dX3_greatestHeight_26 : decode cX3_greatestHeight 26 = .ok (.goto (-22), 3) := by decide +kernel
theorem dX3_greatestHeight_29 : decode cX3_greatestHeight 29 = .ok (.iload_n 1, 1) := by decide +kernel
theorem dX3_greatestHeight_30 : decode cX3_greatestHeight 30 = .ok (.ireturn, 1) := by decide +kernel
theorem dX3_stateAhead_0 : decode cX3_stateAhead 0 = .ok (.iconst 0, 1) := by decide +kernel
theorem dX3_stateAhead_1 : decode cX3_stateAhead 1 = .ok (.istore_n 2, 1) := by decide +kernel
theorem dX3_stateAhead_2 : decode cX3_stateAhead 2 = .ok (.iconst 1, 1) := by decide +kernel
theorem dX3_stateAhead_3 : decode cX3_stateAhead 3 = .ok (.istore_n 3, 1) := by decide +kernel
theorem dX3_stateAhead_4 : decode cX3_stateAhead 4 = .ok (.iload_n 3, 1) := by decide +kernel
theorem dX3_stateAhead_5 : decode cX3_stateAhead 5 = .ok (.bipush 9, 2) := by decide +kernel
theorem dX3_stateAhead_7 : decode cX3_stateAhead 7 = .ok (.if_icmp .gt 32, 3) := by decide +kernel
theorem dX3_stateAhead_10 : decode cX3_stateAhead 10 = .ok (.aload_n 0, 1) := by decide +kernel
theorem dX3_stateAhead_11 : decode cX3_stateAhead 11 = .ok (.iload_n 1, 1) := by decide +kernel
theorem dX3_stateAhead_12 : decode cX3_stateAhead 12 = .ok (.iload_n 3, 1) := by decide +kernel
theorem dX3_stateAhead_13 : decode cX3_stateAhead 13 = .ok (.isub, 1) := by decide +kernel
theorem dX3_stateAhead_14 : decode cX3_stateAhead 14 = .ok (.invokevirtual 29, 3) := by decide +kernel
theorem dX3_stateAhead_17 : decode cX3_stateAhead 17 = .ok (.iload_n 3, 1) := by decide +kernel
theorem dX3_stateAhead_18 : decode cX3_stateAhead 18 = .ok (.isub, 1) := by decide +kernel
theorem dX3_stateAhead_19 : decode cX3_stateAhead 19 = .ok (.istore 4, 2) := by decide +kernel
theorem dX3_stateAhead_21 : decode cX3_stateAhead 21 = .ok (.iload 4, 2) := by decide +kernel
theorem dX3_stateAhead_23 : decode cX3_stateAhead 23 = .ok (.ifCond .lt 10, 3) := by decide +kernel
theorem dX3_stateAhead_26 : decode cX3_stateAhead 26 = .ok (.iload_n 2, 1) := by decide +kernel
theorem dX3_stateAhead_27 : decode cX3_stateAhead 27 = .ok (.iconst 1, 1) := by decide +kernel
theorem dX3_stateAhead_28 : decode cX3_stateAhead 28 = .ok (.iload 4, 2) := by decide +kernel
theorem dX3_stateAhead_30 : decode cX3_stateAhead 30 = .ok (.ishl, 1) := by decide +kernel
theorem dX3_stateAhead_31 : decode cX3_stateAhead 31 = .ok (.ior, 1) := by decide +kernel
theorem dX3_stateAhead_32 : decode cX3_stateAhead 32 = .ok (.istore_n 2, 1) := by decide +kernel
theorem dX3_stateAhead_33 : decode cX3_stateAhead 33 = .ok (.iinc 3 1, 3) := by decide +kernel
theorem dX3_stateAhead_36 : decode cX3_stateAhead 36 = .ok (.goto (-32), 3) := by decide +kernel
theorem dX3_stateAhead_39 : decode cX3_stateAhead 39 = .ok (.iload_n 2, 1) := by decide +kernel
theorem dX3_stateAhead_40 : decode cX3_stateAhead 40 = .ok (.ireturn, 1) := by decide +kernel
theorem dX3_isPrime_0 : decode cX3_isPrime 0 = .ok (.iconst 0, 1) := by decide +kernel
theorem dX3_isPrime_1 : decode cX3_isPrime 1 = .ok (.istore_n 1, 1) := by decide +kernel
theorem dX3_isPrime_2 : decode cX3_isPrime 2 = .ok (.iload_n 1, 1) := by decide +kernel
theorem dX3_isPrime_3 : decode cX3_isPrime 3 = .ok (.aload_n 0, 1) := by decide +kernel
theorem dX3_isPrime_4 : decode cX3_isPrime 4 = .ok (.getfield 15, 3) := by decide +kernel
theorem dX3_isPrime_7 : decode cX3_isPrime 7 = .ok (.if_icmp .ge 42, 3) := by decide +kernel
theorem dX3_isPrime_10 : decode cX3_isPrime 10 = .ok (.iload_n 1, 1) := by decide +kernel
theorem dX3_isPrime_11 : decode cX3_isPrime 11 = .ok (.iconst 1, 1) := by decide +kernel
theorem dX3_isPrime_12 : decode cX3_isPrime 12 = .ok (.iadd, 1) := by decide +kernel
theorem dX3_isPrime_13 : decode cX3_isPrime 13 = .ok (.istore_n 2, 1) := by decide +kernel
theorem dX3_isPrime_14 : decode cX3_isPrime 14 = .ok (.iload_n 2, 1) := by decide +kernel
theorem dX3_isPrime_15 : decode cX3_isPrime 15 = .ok (.aload_n 0, 1) := by decide +kernel
theorem dX3_isPrime_16 : decode cX3_isPrime 16 = .ok (.getfield 15, 3) := by decide +kernel
theorem dX3_isPrime_19 : decode cX3_isPrime 19 = .ok (.if_icmp .ge 24, 3) := by decide +kernel
theorem dX3_isPrime_22 : decode cX3_isPrime 22 = .ok (.aload_n 0, 1) := by decide +kernel
theorem dX3_isPrime_23 : decode cX3_isPrime 23 = .ok (.iload_n 1, 1) := by decide +kernel
theorem dX3_isPrime_24 : decode cX3_isPrime 24 = .ok (.invokevirtual 47, 3) := by decide +kernel
theorem dX3_isPrime_27 : decode cX3_isPrime 27 = .ok (.aload_n 0, 1) := by decide +kernel
theorem dX3_isPrime_28 : decode cX3_isPrime 28 = .ok (.iload_n 2, 1) := by decide +kernel
theorem dX3_isPrime_29 : decode cX3_isPrime 29 = .ok (.invokevirtual 47, 3) := by decide +kernel
theorem dX3_isPrime_32 : decode cX3_isPrime 32 = .ok (.if_icmp .ne 5, 3) := by decide +kernel
theorem dX3_isPrime_35 : decode cX3_isPrime 35 = .ok (.iconst 0, 1) := by decide +kernel
theorem dX3_isPrime_36 : decode cX3_isPrime 36 = .ok (.ireturn, 1) := by decide +kernel
theorem dX3_isPrime_37 : decode cX3_isPrime 37 = .ok (.iinc 2 1, 3) := by decide +kernel
theorem dX3_isPrime_40 : decode cX3_isPrime 40 = .ok (.goto (-26), 3) := by decide +kernel
theorem dX3_isPrime_43 : decode cX3_isPrime 43 = .ok (.iinc 1 1, 3) := by decide +kernel
theorem dX3_isPrime_46 : decode cX3_isPrime 46 = .ok (.goto (-44), 3) := by decide +kernel
theorem dX3_isPrime_49 : decode cX3_isPrime 49 = .ok (.iconst 1, 1) := by decide +kernel
theorem dX3_isPrime_50 : decode cX3_isPrime 50 = .ok (.ireturn, 1) := by decide +kernel
theorem dX3_isGround_0 : decode cX3_isGround 0 = .ok (.iconst 1, 1) := by decide +kernel
theorem dX3_isGround_1 : decode cX3_isGround 1 = .ok (.aload_n 0, 1) := by decide +kernel
theorem dX3_isGround_2 : decode cX3_isGround 2 = .ok (.invokevirtual 50, 3) := by decide +kernel
theorem dX3_isGround_5 : decode cX3_isGround 5 = .ok (.ishl, 1) := by decide +kernel
theorem dX3_isGround_6 : decode cX3_isGround 6 = .ok (.iconst 1, 1) := by decide +kernel
theorem dX3_isGround_7 : decode cX3_isGround 7 = .ok (.isub, 1) := by decide +kernel
theorem dX3_isGround_8 : decode cX3_isGround 8 = .ok (.istore_n 1, 1) := by decide +kernel
theorem dX3_isGround_9 : decode cX3_isGround 9 = .ok (.iconst 0, 1) := by decide +kernel
theorem dX3_isGround_10 : decode cX3_isGround 10 = .ok (.istore_n 2, 1) := by decide +kernel
theorem dX3_isGround_11 : decode cX3_isGround 11 = .ok (.iload_n 2, 1) := by decide +kernel
theorem dX3_isGround_12 : decode cX3_isGround 12 = .ok (.aload_n 0, 1) := by decide +kernel
theorem dX3_isGround_13 : decode cX3_isGround 13 = .ok (.getfield 15, 3) := by decide +kernel
theorem dX3_isGround_16 : decode cX3_isGround 16 = .ok (.if_icmp .ge 20, 3) := by decide +kernel
theorem dX3_isGround_19 : decode cX3_isGround 19 = .ok (.aload_n 0, 1) := by decide +kernel
theorem dX3_isGround_20 : decode cX3_isGround 20 = .ok (.iload_n 2, 1) := by decide +kernel
theorem dX3_isGround_21 : decode cX3_isGround 21 = .ok (.invokevirtual 47, 3) := by decide +kernel
theorem dX3_isGround_24 : decode cX3_isGround 24 = .ok (.iload_n 1, 1) := by decide +kernel
theorem dX3_isGround_25 : decode cX3_isGround 25 = .ok (.if_icmp .ne 5, 3) := by decide +kernel
theorem dX3_isGround_28 : decode cX3_isGround 28 = .ok (.iconst 1, 1) := by decide +kernel
theorem dX3_isGround_29 : decode cX3_isGround 29 = .ok (.ireturn, 1) := by decide +kernel
theorem dX3_isGround_30 : decode cX3_isGround 30 = .ok (.iinc 2 1, 3) := by decide +kernel
theorem dX3_isGround_33 : decode cX3_isGround 33 = .ok (.goto (-22), 3) := by decide +kernel
theorem dX3_isGround_36 : decode cX3_isGround 36 = .ok (.iconst 0, 1) := by decide +kernel
theorem dX3_isGround_37 : decode cX3_isGround 37 = .ok (.ireturn, 1) := by decide +kernel
theorem dJ9_min_7cf53_0 : decode cJ9_min_7cf53 0 = .ok (.iload_n 0, 1) := by decide +kernel
theorem dJ9_min_7cf53_1 : decode cJ9_min_7cf53 1 = .ok (.iload_n 1, 1) := by decide +kernel
theorem dJ9_min_7cf53_2 : decode cJ9_min_7cf53 2 = .ok (.if_icmp .gt 7, 3) := by decide +kernel
theorem dJ9_min_7cf53_5 : decode cJ9_min_7cf53 5 = .ok (.iload_n 0, 1) := by decide +kernel
theorem dJ9_min_7cf53_6 : decode cJ9_min_7cf53 6 = .ok (.goto 4, 3) := by decide +kernel
theorem dJ9_min_7cf53_9 : decode cJ9_min_7cf53 9 = .ok (.iload_n 1, 1) := by decide +kernel
theorem dJ9_min_7cf53_10 : decode cJ9_min_7cf53 10 = .ok (.ireturn, 1) := by decide +kernel
theorem dX3_leastInOrbit_0 : decode cX3_leastInOrbit 0 = .ok (.iload_n 1, 1) := by decide +kernel
theorem dX3_leastInOrbit_1 : decode cX3_leastInOrbit 1 = .ok (.istore_n 2, 1) := by decide +kernel
theorem dX3_leastInOrbit_2 : decode cX3_leastInOrbit 2 = .ok (.iload_n 1, 1) := by decide +kernel
theorem dX3_leastInOrbit_3 : decode cX3_leastInOrbit 3 = .ok (.istore_n 3, 1) := by decide +kernel
theorem dX3_leastInOrbit_4 : decode cX3_leastInOrbit 4 = .ok (.iconst 0, 1) := by decide +kernel
theorem dX3_leastInOrbit_5 : decode cX3_leastInOrbit 5 = .ok (.istore 4, 2) := by decide +kernel
theorem dX3_leastInOrbit_7 : decode cX3_leastInOrbit 7 = .ok (.iload 4, 2) := by decide +kernel
theorem dX3_leastInOrbit_9 : decode cX3_leastInOrbit 9 = .ok (.aload_n 0, 1) := by decide +kernel
theorem dX3_leastInOrbit_10 : decode cX3_leastInOrbit 10 = .ok (.getfield 15, 3) := by decide +kernel
theorem dX3_leastInOrbit_13 : decode cX3_leastInOrbit 13 = .ok (.if_icmp .ge 21, 3) := by decide +kernel
theorem dX3_leastInOrbit_16 : decode cX3_leastInOrbit 16 = .ok (.aload_n 0, 1) := by decide +kernel
theorem dX3_leastInOrbit_17 : decode cX3_leastInOrbit 17 = .ok (.iload_n 3, 1) := by decide +kernel
theorem dX3_leastInOrbit_18 : decode cX3_leastInOrbit 18 = .ok (.invokevirtual 33, 3) := by decide +kernel
theorem dX3_leastInOrbit_21 : decode cX3_leastInOrbit 21 = .ok (.istore_n 3, 1) := by decide +kernel
theorem dX3_leastInOrbit_22 : decode cX3_leastInOrbit 22 = .ok (.iload_n 2, 1) := by decide +kernel
theorem dX3_leastInOrbit_23 : decode cX3_leastInOrbit 23 = .ok (.iload_n 3, 1) := by decide +kernel
theorem dX3_leastInOrbit_24 : decode cX3_leastInOrbit 24 = .ok (.invokestatic 53, 3) := by decide +kernel
theorem dX3_leastInOrbit_27 : decode cX3_leastInOrbit 27 = .ok (.istore_n 2, 1) := by decide +kernel
theorem dX3_leastInOrbit_28 : decode cX3_leastInOrbit 28 = .ok (.iinc 4 1, 3) := by decide +kernel
theorem dX3_leastInOrbit_31 : decode cX3_leastInOrbit 31 = .ok (.goto (-24), 3) := by decide +kernel
theorem dX3_leastInOrbit_34 : decode cX3_leastInOrbit 34 = .ok (.iload_n 2, 1) := by decide +kernel
theorem dX3_leastInOrbit_35 : decode cX3_leastInOrbit 35 = .ok (.ireturn, 1) := by decide +kernel
theorem dX3_orbitsBelow_0 : decode cX3_orbitsBelow 0 = .ok (.iconst 0, 1) := by decide +kernel
theorem dX3_orbitsBelow_1 : decode cX3_orbitsBelow 1 = .ok (.istore_n 2, 1) := by decide +kernel
theorem dX3_orbitsBelow_2 : decode cX3_orbitsBelow 2 = .ok (.iconst 0, 1) := by decide +kernel
theorem dX3_orbitsBelow_3 : decode cX3_orbitsBelow 3 = .ok (.istore_n 3, 1) := by decide +kernel
theorem dX3_orbitsBelow_4 : decode cX3_orbitsBelow 4 = .ok (.iload_n 3, 1) := by decide +kernel
theorem dX3_orbitsBelow_5 : decode cX3_orbitsBelow 5 = .ok (.iload_n 1, 1) := by decide +kernel
theorem dX3_orbitsBelow_6 : decode cX3_orbitsBelow 6 = .ok (.if_icmp .ge 21, 3) := by decide +kernel
theorem dX3_orbitsBelow_9 : decode cX3_orbitsBelow 9 = .ok (.aload_n 0, 1) := by decide +kernel
theorem dX3_orbitsBelow_10 : decode cX3_orbitsBelow 10 = .ok (.iload_n 3, 1) := by decide +kernel
theorem dX3_orbitsBelow_11 : decode cX3_orbitsBelow 11 = .ok (.invokevirtual 56, 3) := by decide +kernel
theorem dX3_orbitsBelow_14 : decode cX3_orbitsBelow 14 = .ok (.iload_n 3, 1) := by decide +kernel
theorem dX3_orbitsBelow_15 : decode cX3_orbitsBelow 15 = .ok (.if_icmp .ne 6, 3) := by decide +kernel
theorem dX3_orbitsBelow_18 : decode cX3_orbitsBelow 18 = .ok (.iinc 2 1, 3) := by decide +kernel
theorem dX3_orbitsBelow_21 : decode cX3_orbitsBelow 21 = .ok (.iinc 3 1, 3) := by decide +kernel
theorem dX3_orbitsBelow_24 : decode cX3_orbitsBelow 24 = .ok (.goto (-20), 3) := by decide +kernel
theorem dX3_orbitsBelow_27 : decode cX3_orbitsBelow 27 = .ok (.iload_n 2, 1) := by decide +kernel
theorem dX3_orbitsBelow_28 : decode cX3_orbitsBelow 28 = .ok (.ireturn, 1) := by decide +kernel
theorem dX3_takeTurned_0 : decode cX3_takeTurned 0 = .ok (.aload_n 0, 1) := by decide +kernel
theorem dX3_takeTurned_1 : decode cX3_takeTurned 1 = .ok (.aload_n 1, 1) := by decide +kernel
theorem dX3_takeTurned_2 : decode cX3_takeTurned 2 = .ok (.getfield 15, 3) := by decide +kernel
theorem dX3_takeTurned_5 : decode cX3_takeTurned 5 = .ok (.putfield 15, 3) := by decide +kernel
theorem dX3_takeTurned_8 : decode cX3_takeTurned 8 = .ok (.iconst 0, 1) := by decide +kernel
theorem dX3_takeTurned_9 : decode cX3_takeTurned 9 = .ok (.istore_n 3, 1) := by decide +kernel
theorem dX3_takeTurned_10 : decode cX3_takeTurned 10 = .ok (.iload_n 3, 1) := by decide +kernel
theorem dX3_takeTurned_11 : decode cX3_takeTurned 11 = .ok (.aload_n 0, 1) := by decide +kernel
theorem dX3_takeTurned_12 : decode cX3_takeTurned 12 = .ok (.getfield 15, 3) := by decide +kernel
theorem dX3_takeTurned_15 : decode cX3_takeTurned 15 = .ok (.if_icmp .ge 21, 3) := by decide +kernel
theorem dX3_takeTurned_18 : decode cX3_takeTurned 18 = .ok (.aload_n 0, 1) := by decide +kernel
theorem dX3_takeTurned_19 : decode cX3_takeTurned 19 = .ok (.iload_n 3, 1) := by decide +kernel
theorem dX3_takeTurned_20 : decode cX3_takeTurned 20 = .ok (.aload_n 1, 1) := by decide +kernel
theorem dX3_takeTurned_21 : decode cX3_takeTurned 21 = .ok (.iload_n 3, 1) := by decide +kernel
theorem dX3_takeTurned_22 : decode cX3_takeTurned 22 = .ok (.iload_n 2, 1) := by decide +kernel
theorem dX3_takeTurned_23 : decode cX3_takeTurned 23 = .ok (.iadd, 1) := by decide +kernel
theorem dX3_takeTurned_24 : decode cX3_takeTurned 24 = .ok (.invokevirtual 29, 3) := by decide +kernel
theorem dX3_takeTurned_27 : decode cX3_takeTurned 27 = .ok (.invokevirtual 63, 3) := by decide +kernel
theorem dX3_takeTurned_30 : decode cX3_takeTurned 30 = .ok (.iinc 3 1, 3) := by decide +kernel
theorem dX3_takeTurned_33 : decode cX3_takeTurned 33 = .ok (.goto (-23), 3) := by decide +kernel
theorem dX3_takeTurned_36 : decode cX3_takeTurned 36 = .ok (.return_, 1) := by decide +kernel
theorem dX3_take_0 : decode cX3_take 0 = .ok (.aload_n 0, 1) := by decide +kernel
theorem dX3_take_1 : decode cX3_take 1 = .ok (.aload_n 1, 1) := by decide +kernel
theorem dX3_take_2 : decode cX3_take 2 = .ok (.iconst 0, 1) := by decide +kernel
theorem dX3_take_3 : decode cX3_take 3 = .ok (.invokevirtual 59, 3) := by decide +kernel
theorem dX3_take_6 : decode cX3_take 6 = .ok (.return_, 1) := by decide +kernel
theorem dX3_takeBackward_0 : decode cX3_takeBackward 0 = .ok (.aload_n 0, 1) := by decide +kernel
theorem dX3_takeBackward_1 : decode cX3_takeBackward 1 = .ok (.aload_n 1, 1) := by decide +kernel
theorem dX3_takeBackward_2 : decode cX3_takeBackward 2 = .ok (.getfield 15, 3) := by decide +kernel
theorem dX3_takeBackward_5 : decode cX3_takeBackward 5 = .ok (.putfield 15, 3) := by decide +kernel
theorem dX3_takeBackward_8 : decode cX3_takeBackward 8 = .ok (.iconst 0, 1) := by decide +kernel
theorem dX3_takeBackward_9 : decode cX3_takeBackward 9 = .ok (.istore_n 2, 1) := by decide +kernel
theorem dX3_takeBackward_10 : decode cX3_takeBackward 10 = .ok (.iload_n 2, 1) := by decide +kernel
theorem dX3_takeBackward_11 : decode cX3_takeBackward 11 = .ok (.aload_n 0, 1) := by decide +kernel
theorem dX3_takeBackward_12 : decode cX3_takeBackward 12 = .ok (.getfield 15, 3) := by decide +kernel
theorem dX3_takeBackward_15 : decode cX3_takeBackward 15 = .ok (.if_icmp .ge 30, 3) := by decide +kernel
theorem dX3_takeBackward_18 : decode cX3_takeBackward 18 = .ok (.aload_n 0, 1) := by decide +kernel
theorem dX3_takeBackward_19 : decode cX3_takeBackward 19 = .ok (.aload_n 0, 1) := by decide +kernel
theorem dX3_takeBackward_20 : decode cX3_takeBackward 20 = .ok (.getfield 15, 3) := by decide +kernel
theorem dX3_takeBackward_23 : decode cX3_takeBackward 23 = .ok (.iconst 1, 1) := by decide +kernel
theorem dX3_takeBackward_24 : decode cX3_takeBackward 24 = .ok (.isub, 1) := by decide +kernel
theorem dX3_takeBackward_25 : decode cX3_takeBackward 25 = .ok (.aload_n 1, 1) := by decide +kernel
theorem dX3_takeBackward_26 : decode cX3_takeBackward 26 = .ok (.iload_n 2, 1) := by decide +kernel
theorem dX3_takeBackward_27 : decode cX3_takeBackward 27 = .ok (.invokevirtual 33, 3) := by decide +kernel
theorem dX3_takeBackward_30 : decode cX3_takeBackward 30 = .ok (.isub, 1) := by decide +kernel
theorem dX3_takeBackward_31 : decode cX3_takeBackward 31 = .ok (.aload_n 1, 1) := by decide +kernel
theorem dX3_takeBackward_32 : decode cX3_takeBackward 32 = .ok (.iload_n 2, 1) := by decide +kernel
theorem dX3_takeBackward_33 : decode cX3_takeBackward 33 = .ok (.invokevirtual 29, 3) := by decide +kernel
theorem dX3_takeBackward_36 : decode cX3_takeBackward 36 = .ok (.invokevirtual 63, 3) := by decide +kernel
theorem dX3_takeBackward_39 : decode cX3_takeBackward 39 = .ok (.iinc 2 1, 3) := by decide +kernel
theorem dX3_takeBackward_42 : decode cX3_takeBackward 42 = .ok (.goto (-32), 3) := by decide +kernel
theorem dX3_takeBackward_45 : decode cX3_takeBackward 45 = .ok (.return_, 1) := by decide +kernel
theorem dX3_isTurnGreater_0 : decode cX3_isTurnGreater 0 = .ok (.iconst 0, 1) := by decide +kernel
theorem dX3_isTurnGreater_1 : decode cX3_isTurnGreater 1 = .ok (.istore_n 3, 1) := by decide +kernel
theorem dX3_isTurnGreater_2 : decode cX3_isTurnGreater 2 = .ok (.iload_n 3, 1) := by decide +kernel
theorem dX3_isTurnGreater_3 : decode cX3_isTurnGreater 3 = .ok (.aload_n 0, 1) := by decide +kernel
theorem dX3_isTurnGreater_4 : decode cX3_isTurnGreater 4 = .ok (.getfield 15, 3) := by decide +kernel
theorem dX3_isTurnGreater_7 : decode cX3_isTurnGreater 7 = .ok (.if_icmp .ge 42, 3) := by decide +kernel
theorem dX3_isTurnGreater_10 : decode cX3_isTurnGreater 10 = .ok (.aload_n 0, 1) := by decide +kernel
theorem dX3_isTurnGreater_11 : decode cX3_isTurnGreater 11 = .ok (.iload_n 3, 1) := by decide +kernel
theorem dX3_isTurnGreater_12 : decode cX3_isTurnGreater 12 = .ok (.iload_n 1, 1) := by decide +kernel
theorem dX3_isTurnGreater_13 : decode cX3_isTurnGreater 13 = .ok (.iadd, 1) := by decide +kernel
theorem dX3_isTurnGreater_14 : decode cX3_isTurnGreater 14 = .ok (.invokevirtual 29, 3) := by decide +kernel
theorem dX3_isTurnGreater_17 : decode cX3_isTurnGreater 17 = .ok (.aload_n 0, 1) := by decide +kernel
theorem dX3_isTurnGreater_18 : decode cX3_isTurnGreater 18 = .ok (.iload_n 3, 1) := by decide +kernel
theorem dX3_isTurnGreater_19 : decode cX3_isTurnGreater 19 = .ok (.iload_n 2, 1) := by decide +kernel
theorem dX3_isTurnGreater_20 : decode cX3_isTurnGreater 20 = .ok (.iadd, 1) := by decide +kernel
theorem dX3_isTurnGreater_21 : decode cX3_isTurnGreater 21 = .ok (.invokevirtual 29, 3) := by decide +kernel
theorem dX3_isTurnGreater_24 : decode cX3_isTurnGreater 24 = .ok (.isub, 1) := by decide +kernel
theorem dX3_isTurnGreater_25 : decode cX3_isTurnGreater 25 = .ok (.istore 4, 2) := by decide +kernel
theorem dX3_isTurnGreater_27 : decode cX3_isTurnGreater 27 = .ok (.iload 4, 2) := by decide +kernel
theorem dX3_isTurnGreater_29 : decode cX3_isTurnGreater 29 = .ok (.ifCond .eq 14, 3) := by decide +kernel
theorem dX3_isTurnGreater_32 : decode cX3_isTurnGreater 32 = .ok (.iload 4, 2) := by decide +kernel
theorem dX3_isTurnGreater_34 : decode cX3_isTurnGreater 34 = .ok (.ifCond .le 7, 3) := by decide +kernel
theorem dX3_isTurnGreater_37 : decode cX3_isTurnGreater 37 = .ok (.iconst 1, 1) := by decide +kernel
theorem dX3_isTurnGreater_38 : decode cX3_isTurnGreater 38 = .ok (.goto 4, 3) := by decide +kernel
theorem dX3_isTurnGreater_41 : decode cX3_isTurnGreater 41 = .ok (.iconst 0, 1) := by decide +kernel
theorem dX3_isTurnGreater_42 : decode cX3_isTurnGreater 42 = .ok (.ireturn, 1) := by decide +kernel
theorem dX3_isTurnGreater_43 : decode cX3_isTurnGreater 43 = .ok (.iinc 3 1, 3) := by decide +kernel
theorem dX3_isTurnGreater_46 : decode cX3_isTurnGreater 46 = .ok (.goto (-44), 3) := by decide +kernel
theorem dX3_isTurnGreater_49 : decode cX3_isTurnGreater 49 = .ok (.iconst 0, 1) := by decide +kernel
theorem dX3_isTurnGreater_50 : decode cX3_isTurnGreater 50 = .ok (.ireturn, 1) := by decide +kernel
theorem dX3_greatestTurn_0 : decode cX3_greatestTurn 0 = .ok (.iconst 0, 1) := by decide +kernel
theorem dX3_greatestTurn_1 : decode cX3_greatestTurn 1 = .ok (.istore_n 1, 1) := by decide +kernel
theorem dX3_greatestTurn_2 : decode cX3_greatestTurn 2 = .ok (.iconst 1, 1) := by decide +kernel
theorem dX3_greatestTurn_3 : decode cX3_greatestTurn 3 = .ok (.istore_n 2, 1) := by decide +kernel
theorem dX3_greatestTurn_4 : decode cX3_greatestTurn 4 = .ok (.iload_n 2, 1) := by decide +kernel
theorem dX3_greatestTurn_5 : decode cX3_greatestTurn 5 = .ok (.aload_n 0, 1) := by decide +kernel
theorem dX3_greatestTurn_6 : decode cX3_greatestTurn 6 = .ok (.getfield 15, 3) := by decide +kernel
theorem dX3_greatestTurn_9 : decode cX3_greatestTurn 9 = .ok (.if_icmp .ge 20, 3) := by decide +kernel
theorem dX3_greatestTurn_12 : decode cX3_greatestTurn 12 = .ok (.aload_n 0, 1) := by decide +kernel
theorem dX3_greatestTurn_13 : decode cX3_greatestTurn 13 = .ok (.iload_n 2, 1) := by decide +kernel
theorem dX3_greatestTurn_14 : decode cX3_greatestTurn 14 = .ok (.iload_n 1, 1) := by decide +kernel
theorem dX3_greatestTurn_15 : decode cX3_greatestTurn 15 = .ok (.invokevirtual 67, 3) := by decide +kernel
theorem dX3_greatestTurn_18 : decode cX3_greatestTurn 18 = .ok (.ifCond .eq 5, 3) := by decide +kernel
theorem dX3_greatestTurn_21 : decode cX3_greatestTurn 21 = .ok (.iload_n 2, 1) := by decide +kernel
theorem dX3_greatestTurn_22 : decode cX3_greatestTurn 22 = .ok (.istore_n 1, 1) := by decide +kernel
theorem dX3_greatestTurn_23 : decode cX3_greatestTurn 23 = .ok (.iinc 2 1, 3) := by decide +kernel
theorem dX3_greatestTurn_26 : decode cX3_greatestTurn 26 = .ok (.goto (-22), 3) := by decide +kernel
theorem dX3_greatestTurn_29 : decode cX3_greatestTurn 29 = .ok (.iload_n 1, 1) := by decide +kernel
theorem dX3_greatestTurn_30 : decode cX3_greatestTurn 30 = .ok (.ireturn, 1) := by decide +kernel
theorem dX3_isTurned_0 : decode cX3_isTurned 0 = .ok (.aload_n 0, 1) := by decide +kernel
theorem dX3_isTurned_1 : decode cX3_isTurned 1 = .ok (.getfield 15, 3) := by decide +kernel
theorem dX3_isTurned_4 : decode cX3_isTurned 4 = .ok (.aload_n 1, 1) := by decide +kernel
theorem dX3_isTurned_5 : decode cX3_isTurned 5 = .ok (.getfield 15, 3) := by decide +kernel
theorem dX3_isTurned_8 : decode cX3_isTurned 8 = .ok (.if_icmp .eq 5, 3) := by decide +kernel
theorem dX3_isTurned_11 : decode cX3_isTurned 11 = .ok (.iconst 0, 1) := by decide +kernel
theorem dX3_isTurned_12 : decode cX3_isTurned 12 = .ok (.ireturn, 1) := by decide +kernel
theorem dX3_isTurned_13 : decode cX3_isTurned 13 = .ok (.aload_n 0, 1) := by decide +kernel
theorem dX3_isTurned_14 : decode cX3_isTurned 14 = .ok (.invokevirtual 71, 3) := by decide +kernel
theorem dX3_isTurned_17 : decode cX3_isTurned 17 = .ok (.istore_n 2, 1) := by decide +kernel
theorem dX3_isTurned_18 : decode cX3_isTurned 18 = .ok (.aload_n 1, 1) := by decide +kernel
theorem dX3_isTurned_19 : decode cX3_isTurned 19 = .ok (.invokevirtual 71, 3) := by decide +kernel
theorem dX3_isTurned_22 : decode cX3_isTurned 22 = .ok (.istore_n 3, 1) := by decide +kernel
theorem dX3_isTurned_23 : decode cX3_isTurned 23 = .ok (.iconst 0, 1) := by decide +kernel
theorem dX3_isTurned_24 : decode cX3_isTurned 24 = .ok (.istore 4, 2) := by decide +kernel
theorem dX3_isTurned_26 : decode cX3_isTurned 26 = .ok (.iload 4, 2) := by decide +kernel
theorem dX3_isTurned_28 : decode cX3_isTurned 28 = .ok (.aload_n 0, 1) := by decide +kernel
theorem dX3_isTurned_29 : decode cX3_isTurned 29 = .ok (.getfield 15, 3) := by decide +kernel
theorem dX3_isTurned_32 : decode cX3_isTurned 32 = .ok (.if_icmp .ge 30, 3) := by decide +kernel
theorem dX3_isTurned_35 : decode cX3_isTurned 35 = .ok (.aload_n 0, 1) := by decide +kernel
theorem dX3_isTurned_36 : decode cX3_isTurned 36 = .ok (.iload 4, 2) := by decide +kernel
theorem dX3_isTurned_38 : decode cX3_isTurned 38 = .ok (.iload_n 2, 1) := by decide +kernel
theorem dX3_isTurned_39 : decode cX3_isTurned 39 = .ok (.iadd, 1) := by decide +kernel
theorem dX3_isTurned_40 : decode cX3_isTurned 40 = .ok (.invokevirtual 29, 3) := by decide +kernel
theorem dX3_isTurned_43 : decode cX3_isTurned 43 = .ok (.aload_n 1, 1) := by decide +kernel
theorem dX3_isTurned_44 : decode cX3_isTurned 44 = .ok (.iload 4, 2) := by decide +kernel
theorem dX3_isTurned_46 : decode cX3_isTurned 46 = .ok (.iload_n 3, 1) := by decide +kernel
theorem dX3_isTurned_47 : decode cX3_isTurned 47 = .ok (.iadd, 1) := by decide +kernel
theorem dX3_isTurned_48 : decode cX3_isTurned 48 = .ok (.invokevirtual 29, 3) := by decide +kernel
theorem dX3_isTurned_51 : decode cX3_isTurned 51 = .ok (.if_icmp .eq 5, 3) := by decide +kernel
theorem dX3_isTurned_54 : decode cX3_isTurned 54 = .ok (.iconst 0, 1) := by decide +kernel
theorem dX3_isTurned_55 : decode cX3_isTurned 55 = .ok (.ireturn, 1) := by decide +kernel
theorem dX3_isTurned_56 : decode cX3_isTurned 56 = .ok (.iinc 4 1, 3) := by decide +kernel
theorem dX3_isTurned_59 : decode cX3_isTurned 59 = .ok (.goto (-33), 3) := by decide +kernel
theorem dX3_isTurned_62 : decode cX3_isTurned 62 = .ok (.iconst 1, 1) := by decide +kernel
theorem dX3_isTurned_63 : decode cX3_isTurned 63 = .ok (.ireturn, 1) := by decide +kernel
theorem dX4_isThere_0 : decode cX4_isThere 0 = .ok (.aload_n 0, 1) := by decide +kernel
theorem dX4_isThere_1 : decode cX4_isThere 1 = .ok (.getfield 15, 3) := by decide +kernel
theorem dX4_isThere_4 : decode cX4_isThere 4 = .ok (.iconst (-1), 1) := by decide +kernel
theorem dX4_isThere_5 : decode cX4_isThere 5 = .ok (.if_icmp .eq 7, 3) := by decide +kernel
theorem dX4_isThere_8 : decode cX4_isThere 8 = .ok (.iconst 1, 1) := by decide +kernel
theorem dX4_isThere_9 : decode cX4_isThere 9 = .ok (.goto 4, 3) := by decide +kernel
theorem dX4_isThere_12 : decode cX4_isThere 12 = .ok (.iconst 0, 1) := by decide +kernel
theorem dX4_isThere_13 : decode cX4_isThere 13 = .ok (.ireturn, 1) := by decide +kernel
theorem dX4_renew_0 : decode cX4_renew 0 = .ok (.aload_n 0, 1) := by decide +kernel
theorem dX4_renew_1 : decode cX4_renew 1 = .ok (.getfield 9, 3) := by decide +kernel
theorem dX4_renew_4 : decode cX4_renew 4 = .ok (.iconst 0, 1) := by decide +kernel
theorem dX4_renew_5 : decode cX4_renew 5 = .ok (.invokestatic 19, 3) := by decide +kernel
theorem dX4_renew_8 : decode cX4_renew 8 = .ok (.aload_n 0, 1) := by decide +kernel
theorem dX4_renew_9 : decode cX4_renew 9 = .ok (.iload_n 1, 1) := by decide +kernel
theorem dX4_renew_10 : decode cX4_renew 10 = .ok (.putfield 25, 3) := by decide +kernel
theorem dX4_renew_13 : decode cX4_renew 13 = .ok (.aload_n 0, 1) := by decide +kernel
theorem dX4_renew_14 : decode cX4_renew 14 = .ok (.iload_n 2, 1) := by decide +kernel
theorem dX4_renew_15 : decode cX4_renew 15 = .ok (.putfield 15, 3) := by decide +kernel
theorem dX4_renew_18 : decode cX4_renew 18 = .ok (.return_, 1) := by decide +kernel
theorem dX4_clear_0 : decode cX4_clear 0 = .ok (.aload_n 0, 1) := by decide +kernel
theorem dX4_clear_1 : decode cX4_clear 1 = .ok (.invokevirtual 28, 3) := by decide +kernel
theorem dX4_clear_4 : decode cX4_clear 4 = .ok (.istore_n 1, 1) := by decide +kernel
theorem dX4_clear_5 : decode cX4_clear 5 = .ok (.aload_n 0, 1) := by decide +kernel
theorem dX4_clear_6 : decode cX4_clear 6 = .ok (.iconst (-1), 1) := by decide +kernel
theorem dX4_clear_7 : decode cX4_clear 7 = .ok (.putfield 15, 3) := by decide +kernel
theorem dX4_clear_10 : decode cX4_clear 10 = .ok (.iload_n 1, 1) := by decide +kernel
theorem dX4_clear_11 : decode cX4_clear 11 = .ok (.ireturn, 1) := by decide +kernel
theorem dX4_holds_0 : decode cX4_holds 0 = .ok (.iload_n 1, 1) := by decide +kernel
theorem dX4_holds_1 : decode cX4_holds 1 = .ok (.ifCond .lt 25, 3) := by decide +kernel
theorem dX4_holds_4 : decode cX4_holds 4 = .ok (.iload_n 1, 1) := by decide +kernel
theorem dX4_holds_5 : decode cX4_holds 5 = .ok (.aload_n 0, 1) := by decide +kernel
theorem dX4_holds_6 : decode cX4_holds 6 = .ok (.getfield 15, 3) := by decide +kernel
theorem dX4_holds_9 : decode cX4_holds 9 = .ok (.if_icmp .gt 17, 3) := by decide +kernel
theorem dX4_holds_12 : decode cX4_holds 12 = .ok (.iload_n 2, 1) := by decide +kernel
theorem dX4_holds_13 : decode cX4_holds 13 = .ok (.aload_n 0, 1) := by decide +kernel
theorem dX4_holds_14 : decode cX4_holds 14 = .ok (.getfield 15, 3) := by decide +kernel
theorem dX4_holds_17 : decode cX4_holds 17 = .ok (.iload_n 1, 1) := by decide +kernel
theorem dX4_holds_18 : decode cX4_holds 18 = .ok (.isub, 1) := by decide +kernel
theorem dX4_holds_19 : decode cX4_holds 19 = .ok (.if_icmp .gt 7, 3) := by decide +kernel
theorem dX4_holds_22 : decode cX4_holds 22 = .ok (.iconst 1, 1) := by decide +kernel
theorem dX4_holds_23 : decode cX4_holds 23 = .ok (.goto 4, 3) := by decide +kernel
theorem dX4_holds_26 : decode cX4_holds 26 = .ok (.iconst 0, 1) := by decide +kernel
theorem dX4_holds_27 : decode cX4_holds 27 = .ok (.ireturn, 1) := by decide +kernel
theorem dX4_faultOfCells_0 : decode cX4_faultOfCells 0 = .ok (.aload_n 0, 1) := by decide +kernel
theorem dX4_faultOfCells_1 : decode cX4_faultOfCells 1 = .ok (.invokevirtual 28, 3) := by decide +kernel
theorem dX4_faultOfCells_4 : decode cX4_faultOfCells 4 = .ok (.ifCond .ne 5, 3) := by decide +kernel
theorem dX4_faultOfCells_7 : decode cX4_faultOfCells 7 = .ok (.iconst 1, 1) := by decide +kernel
theorem dX4_faultOfCells_8 : decode cX4_faultOfCells 8 = .ok (.ireturn, 1) := by decide +kernel
theorem dX4_faultOfCells_9 : decode cX4_faultOfCells 9 = .ok (.aload_n 0, 1) := by decide +kernel
theorem dX4_faultOfCells_10 : decode cX4_faultOfCells 10 = .ok (.getfield 25, 3) := by decide +kernel
theorem dX4_faultOfCells_13 : decode cX4_faultOfCells 13 = .ok (.iload_n 1, 1) := by decide +kernel
theorem dX4_faultOfCells_14 : decode cX4_faultOfCells 14 = .ok (.if_icmp .eq 5, 3) := by decide +kernel
theorem dX4_faultOfCells_17 : decode cX4_faultOfCells 17 = .ok (.iconst 2, 1) := by decide +kernel
theorem dX4_faultOfCells_18 : decode cX4_faultOfCells 18 = .ok (.ireturn, 1) := by decide +kernel
theorem dX4_faultOfCells_19 : decode cX4_faultOfCells 19 = .ok (.iload_n 3, 1) := by decide +kernel
theorem dX4_faultOfCells_20 : decode cX4_faultOfCells 20 = .ok (.ifCond .ge 5, 3) := by decide +kernel
theorem dX4_faultOfCells_23 : decode cX4_faultOfCells 23 = .ok (.iconst 4, 1) := by decide +kernel
theorem dX4_faultOfCells_24 : decode cX4_faultOfCells 24 = .ok (.ireturn, 1) := by decide +kernel
theorem dX4_faultOfCells_25 : decode cX4_faultOfCells 25 = .ok (.aload_n 0, 1) := by decide +kernel
theorem dX4_faultOfCells_26 : decode cX4_faultOfCells 26 = .ok (.iload_n 2, 1) := by decide +kernel
theorem dX4_faultOfCells_27 : decode cX4_faultOfCells 27 = .ok (.iload_n 3, 1) := by decide +kernel
theorem dX4_faultOfCells_28 : decode cX4_faultOfCells 28 = .ok (.invokevirtual 32, 3) := by decide +kernel
theorem dX4_faultOfCells_31 : decode cX4_faultOfCells 31 = .ok (.ifCond .eq 7, 3) := by decide +kernel
theorem dX4_faultOfCells_34 : decode cX4_faultOfCells 34 = .ok (.iconst 0, 1) := by decide +kernel
theorem dX4_faultOfCells_35 : decode cX4_faultOfCells 35 = .ok (.goto 4, 3) := by decide +kernel
theorem dX4_faultOfCells_38 : decode cX4_faultOfCells 38 = .ok (.iconst 3, 1) := by decide +kernel
theorem dX4_faultOfCells_39 : decode cX4_faultOfCells 39 = .ok (.ireturn, 1) := by decide +kernel
theorem dX4_read_0 : decode cX4_read 0 = .ok (.aload_n 0, 1) := by decide +kernel
theorem dX4_read_1 : decode cX4_read 1 = .ok (.iload_n 1, 1) := by decide +kernel
theorem dX4_read_2 : decode cX4_read 2 = .ok (.iconst 1, 1) := by decide +kernel
theorem dX4_read_3 : decode cX4_read 3 = .ok (.invokevirtual 32, 3) := by decide +kernel
theorem dX4_read_6 : decode cX4_read 6 = .ok (.ifCond .eq 12, 3) := by decide +kernel
theorem dX4_read_9 : decode cX4_read 9 = .ok (.aload_n 0, 1) := by decide +kernel
theorem dX4_read_10 : decode cX4_read 10 = .ok (.getfield 9, 3) := by decide +kernel
theorem dX4_read_13 : decode cX4_read 13 = .ok (.iload_n 1, 1) := by decide +kernel
theorem dX4_read_14 : decode cX4_read 14 = .ok (.iaload, 1) := by decide +kernel
theorem dX4_read_15 : decode cX4_read 15 = .ok (.goto 4, 3) := by decide +kernel
theorem dX4_read_18 : decode cX4_read 18 = .ok (.iconst 0, 1) := by decide +kernel
theorem dX4_read_19 : decode cX4_read 19 = .ok (.ireturn, 1) := by decide +kernel
theorem dX4_cutToSort_0 : decode cX4_cutToSort 0 = .ok (.aload_n 0, 1) := by decide +kernel
theorem dX4_cutToSort_1 : decode cX4_cutToSort 1 = .ok (.getfield 25, 3) := by decide +kernel
theorem dX4_cutToSort_4 : decode cX4_cutToSort 4 = .ok (.lookupswitch 34 #[(0, 28), (1, 31)], 28) := by decide +kernel
theorem dX4_cutToSort_32 : decode cX4_cutToSort 32 = .ok (.iload_n 1, 1) := by decide +kernel
theorem dX4_cutToSort_33 : decode cX4_cutToSort 33 = .ok (.i2b, 1) := by decide +kernel
theorem dX4_cutToSort_34 : decode cX4_cutToSort 34 = .ok (.ireturn, 1) := by decide +kernel
theorem dX4_cutToSort_35 : decode cX4_cutToSort 35 = .ok (.iload_n 1, 1) := by decide +kernel
theorem dX4_cutToSort_36 : decode cX4_cutToSort 36 = .ok (.i2s, 1) := by decide +kernel
theorem dX4_cutToSort_37 : decode cX4_cutToSort 37 = .ok (.ireturn, 1) := by decide +kernel
theorem dX4_cutToSort_38 : decode cX4_cutToSort 38 = .ok (.iload_n 1, 1) := by decide +kernel
theorem dX4_cutToSort_39 : decode cX4_cutToSort 39 = .ok (.ireturn, 1) := by decide +kernel
theorem dX4_write_0 : decode cX4_write 0 = .ok (.aload_n 0, 1) := by decide +kernel
theorem dX4_write_1 : decode cX4_write 1 = .ok (.iload_n 1, 1) := by decide +kernel
theorem dX4_write_2 : decode cX4_write 2 = .ok (.iconst 1, 1) := by decide +kernel
theorem dX4_write_3 : decode cX4_write 3 = .ok (.invokevirtual 32, 3) := by decide +kernel
theorem dX4_write_6 : decode cX4_write 6 = .ok (.ifCond .eq 14, 3) := by decide +kernel
theorem dX4_write_9 : decode cX4_write 9 = .ok (.aload_n 0, 1) := by decide +kernel
theorem dX4_write_10 : decode cX4_write 10 = .ok (.getfield 9, 3) := by decide +kernel
theorem dX4_write_13 : decode cX4_write 13 = .ok (.iload_n 1, 1) := by decide +kernel
theorem dX4_write_14 : decode cX4_write 14 = .ok (.aload_n 0, 1) := by decide +kernel
theorem dX4_write_15 : decode cX4_write 15 = .ok (.iload_n 2, 1) := by decide +kernel
theorem dX4_write_16 : decode cX4_write 16 = .ok (.invokevirtual 36, 3) := by decide +kernel
theorem dX4_write_19 : decode cX4_write 19 = .ok (.iastore, 1) := by decide +kernel
theorem dX4_write_20 : decode cX4_write 20 = .ok (.return_, 1) := by decide +kernel
theorem dX5_reach_0 : decode cX5_reach 0 = .ok (.iload_n 1, 1) := by decide +kernel
theorem dX5_reach_1 : decode cX5_reach 1 = .ok (.iconst 0, 1) := by decide +kernel
theorem dX5_reach_2 : decode cX5_reach 2 = .ok (.sipush 511, 3) := by decide +kernel
theorem dX5_reach_5 : decode cX5_reach 5 = .ok (.invokestatic 39, 3) := by decide +kernel
theorem dX5_reach_8 : decode cX5_reach 8 = .ok (.ifCond .eq 53, 3) := by decide +kernel
theorem dX5_reach_11 : decode cX5_reach 11 = .ok (.aload_n 0, 1) := by decide +kernel
theorem dX5_reach_12 : decode cX5_reach 12 = .ok (.getfield 9, 3) := by decide +kernel
theorem dX5_reach_15 : decode cX5_reach 15 = .ok (.iload_n 1, 1) := by decide +kernel
theorem dX5_reach_16 : decode cX5_reach 16 = .ok (.iaload, 1) := by decide +kernel
theorem dX5_reach_17 : decode cX5_reach 17 = .ok (.bipush (-9), 2) := by decide +kernel
theorem dX5_reach_19 : decode cX5_reach 19 = .ok (.if_icmp .ne 42, 3) := by decide +kernel
theorem dX5_reach_22 : decode cX5_reach 22 = .ok (.aload_n 0, 1) := by decide +kernel
theorem dX5_reach_23 : decode cX5_reach 23 = .ok (.getfield 24, 3) := by decide +kernel
theorem dX5_reach_26 : decode cX5_reach 26 = .ok (.aload_n 0, 1) := by decide +kernel
theorem dX5_reach_27 : decode cX5_reach 27 = .ok (.getfield 15, 3) := by decide +kernel
theorem dX5_reach_30 : decode cX5_reach 30 = .ok (.arraylength, 1) := by decide +kernel
theorem dX5_reach_31 : decode cX5_reach 31 = .ok (.if_icmp .ge 30, 3) := by decide +kernel
theorem dX5_reach_34 : decode cX5_reach 34 = .ok (.aload_n 0, 1) := by decide +kernel
theorem dX5_reach_35 : decode cX5_reach 35 = .ok (.getfield 9, 3) := by decide +kernel
theorem dX5_reach_38 : decode cX5_reach 38 = .ok (.iload_n 1, 1) := by decide +kernel
theorem dX5_reach_39 : decode cX5_reach 39 = .ok (.iload_n 2, 1) := by decide +kernel
theorem dX5_reach_40 : decode cX5_reach 40 = .ok (.iastore, 1) := by decide +kernel
theorem dX5_reach_41 : decode cX5_reach 41 = .ok (.aload_n 0, 1) := by decide +kernel
theorem dX5_reach_42 : decode cX5_reach 42 = .ok (.getfield 15, 3) := by decide +kernel
theorem dX5_reach_45 : decode cX5_reach 45 = .ok (.aload_n 0, 1) := by decide +kernel
theorem dX5_reach_46 : decode cX5_reach 46 = .ok (.getfield 24, 3) := by decide +kernel
theorem dX5_reach_49 : decode cX5_reach 49 = .ok (.iload_n 1, 1) := by decide +kernel
theorem dX5_reach_50 : decode cX5_reach 50 = .ok (.iastore, 1) := by decide +kernel
theorem dX5_reach_51 : decode cX5_reach 51 = .ok (.aload_n 0, 1) := by decide +kernel
theorem dX5_reach_52 : decode cX5_reach 52 = .ok (.dup, 1) := by decide +kernel
theorem dX5_reach_53 : decode cX5_reach 53 = .ok (.getfield 24, 3) := by decide +kernel
theorem dX5_reach_56 : decode cX5_reach 56 = .ok (.iconst 1, 1) := by decide +kernel
theorem dX5_reach_57 : decode cX5_reach 57 = .ok (.iadd, 1) := by decide +kernel
theorem dX5_reach_58 : decode cX5_reach 58 = .ok (.putfield 24, 3) := by decide +kernel
theorem dX5_reach_61 : decode cX5_reach 61 = .ok (.return_, 1) := by decide +kernel
theorem dX5_beatsFrom_0 : decode cX5_beatsFrom 0 = .ok (.iload_n 1, 1) := by decide +kernel
theorem dX5_beatsFrom_1 : decode cX5_beatsFrom 1 = .ok (.iconst 0, 1) := by decide +kernel
theorem dX5_beatsFrom_2 : decode cX5_beatsFrom 2 = .ok (.sipush 511, 3) := by decide +kernel
theorem dX5_beatsFrom_5 : decode cX5_beatsFrom 5 = .ok (.invokestatic 39, 3) := by decide +kernel
theorem dX5_beatsFrom_8 : decode cX5_beatsFrom 8 = .ok (.ifCond .eq 12, 3) := by decide +kernel
theorem dX5_beatsFrom_11 : decode cX5_beatsFrom 11 = .ok (.aload_n 0, 1) := by decide +kernel
theorem dX5_beatsFrom_12 : decode cX5_beatsFrom 12 = .ok (.getfield 9, 3) := by decide +kernel
theorem dX5_beatsFrom_15 : decode cX5_beatsFrom 15 = .ok (.iload_n 1, 1) := by decide +kernel
theorem dX5_beatsFrom_16 : decode cX5_beatsFrom 16 = .ok (.iaload, 1) := by decide +kernel
theorem dX5_beatsFrom_17 : decode cX5_beatsFrom 17 = .ok (.goto 5, 3) := by decide +kernel
theorem dX5_beatsFrom_20 : decode cX5_beatsFrom 20 = .ok (.bipush (-9), 2) := by decide +kernel
theorem dX5_beatsFrom_22 : decode cX5_beatsFrom 22 = .ok (.ireturn, 1) := by decide +kernel
theorem dX5_reachFrom_0 : decode cX5_reachFrom 0 = .ok (.iload_n 1, 1) := by decide +kernel
theorem dX5_reachFrom_1 : decode cX5_reachFrom 1 = .ok (.iconst 1, 1) := by decide +kernel
theorem dX5_reachFrom_2 : decode cX5_reachFrom 2 = .ok (.ishl, 1) := by decide +kernel
theorem dX5_reachFrom_3 : decode cX5_reachFrom 3 = .ok (.istore_n 3, 1) := by decide +kernel
theorem dX5_reachFrom_4 : decode cX5_reachFrom 4 = .ok (.aload_n 0, 1) := by decide +kernel
theorem dX5_reachFrom_5 : decode cX5_reachFrom 5 = .ok (.iload_n 1, 1) := by decide +kernel
theorem dX5_reachFrom_6 : decode cX5_reachFrom 6 = .ok (.invokevirtual 35, 3) := by decide +kernel
theorem dX5_reachFrom_9 : decode cX5_reachFrom 9 = .ok (.iconst 1, 1) := by decide +kernel
theorem dX5_reachFrom_10 : decode cX5_reachFrom 10 = .ok (.iadd, 1) := by decide +kernel
theorem dX5_reachFrom_11 : decode cX5_reachFrom 11 = .ok (.istore 4, 2) := by decide +kernel
theorem dX5_reachFrom_13 : decode cX5_reachFrom 13 = .ok (.aload_n 0, 1) := by decide +kernel
theorem dX5_reachFrom_14 : decode cX5_reachFrom 14 = .ok (.iload_n 3, 1) := by decide +kernel
theorem dX5_reachFrom_15 : decode cX5_reachFrom 15 = .ok (.iload 4, 2) := by decide +kernel
theorem dX5_reachFrom_17 : decode cX5_reachFrom 17 = .ok (.invokevirtual 28, 3) := by decide +kernel
theorem dX5_reachFrom_20 : decode cX5_reachFrom 20 = .ok (.iconst 1, 1) := by decide +kernel
theorem dX5_reachFrom_21 : decode cX5_reachFrom 21 = .ok (.istore 5, 2) := by decide +kernel
theorem dX5_reachFrom_23 : decode cX5_reachFrom 23 = .ok (.iload 5, 2) := by decide +kernel
theorem dX5_reachFrom_25 : decode cX5_reachFrom 25 = .ok (.iload_n 2, 1) := by decide +kernel
theorem dX5_reachFrom_26 : decode cX5_reachFrom 26 = .ok (.if_icmp .gt 33, 3) := by decide +kernel
theorem dX5_reachFrom_29 : decode cX5_reachFrom 29 = .ok (.iload_n 3, 1) := by decide +kernel
theorem dX5_reachFrom_30 : decode cX5_reachFrom 30 = .ok (.iload 5, 2) := by decide +kernel
theorem dX5_reachFrom_32 : decode cX5_reachFrom 32 = .ok (.ishr, 1) := by decide +kernel
theorem dX5_reachFrom_33 : decode cX5_reachFrom 33 = .ok (.iconst 1, 1) := by decide +kernel
theorem dX5_reachFrom_34 : decode cX5_reachFrom 34 = .ok (.iand, 1) := by decide +kernel
theorem dX5_reachFrom_35 : decode cX5_reachFrom 35 = .ok (.iconst 1, 1) := by decide +kernel
theorem dX5_reachFrom_36 : decode cX5_reachFrom 36 = .ok (.if_icmp .ne 17, 3) := by decide +kernel
theorem dX5_reachFrom_39 : decode cX5_reachFrom 39 = .ok (.aload_n 0, 1) := by decide +kernel
theorem dX5_reachFrom_40 : decode cX5_reachFrom 40 = .ok (.iload_n 3, 1) := by decide +kernel
theorem dX5_reachFrom_41 : decode cX5_reachFrom 41 = .ok (.iconst 1, 1) := by decide +kernel
theorem dX5_reachFrom_42 : decode cX5_reachFrom 42 = .ok (.iload 5, 2) := by decide +kernel
theorem dX5_reachFrom_44 : decode cX5_reachFrom 44 = .ok (.ishl, 1) := by decide +kernel
theorem dX5_reachFrom_45 : decode cX5_reachFrom 45 = .ok (.ixor, 1) := by decide +kernel
theorem dX5_reachFrom_46 : decode cX5_reachFrom 46 = .ok (.iconst 1, 1) := by decide +kernel
theorem dX5_reachFrom_47 : decode cX5_reachFrom 47 = .ok (.ior, 1) := by decide +kernel
theorem dX5_reachFrom_48 : decode cX5_reachFrom 48 = .ok (.iload 4, 2) := by decide +kernel
theorem dX5_reachFrom_50 : decode cX5_reachFrom 50 = .ok (.invokevirtual 28, 3) := by decide +kernel
theorem dX5_reachFrom_53 : decode cX5_reachFrom 53 = .ok (.iinc 5 1, 3) := by decide +kernel
theorem dX5_reachFrom_56 : decode cX5_reachFrom 56 = .ok (.goto (-33), 3) := by decide +kernel
theorem dX5_reachFrom_59 : decode cX5_reachFrom 59 = .ok (.return_, 1) := by decide +kernel
theorem dX5_measure_0 : decode cX5_measure 0 = .ok (.aload_n 0, 1) := by decide +kernel
theorem dX5_measure_1 : decode cX5_measure 1 = .ok (.getfield 9, 3) := by decide +kernel
theorem dX5_measure_4 : decode cX5_measure 4 = .ok (.bipush (-9), 2) := by decide +kernel
theorem dX5_measure_6 : decode cX5_measure 6 = .ok (.invokestatic 18, 3) := by decide +kernel
theorem dX5_measure_9 : decode cX5_measure 9 = .ok (.aload_n 0, 1) := by decide +kernel
theorem dX5_measure_10 : decode cX5_measure 10 = .ok (.iconst 0, 1) := by decide +kernel
theorem dX5_measure_11 : decode cX5_measure 11 = .ok (.putfield 24, 3) := by decide +kernel
theorem dX5_measure_14 : decode cX5_measure 14 = .ok (.aload_n 0, 1) := by decide +kernel
theorem dX5_measure_15 : decode cX5_measure 15 = .ok (.iload_n 1, 1) := by decide +kernel
theorem dX5_measure_16 : decode cX5_measure 16 = .ok (.iconst 0, 1) := by decide +kernel
theorem dX5_measure_17 : decode cX5_measure 17 = .ok (.invokevirtual 28, 3) := by decide +kernel
theorem dX5_measure_20 : decode cX5_measure 20 = .ok (.iconst 0, 1) := by decide +kernel
theorem dX5_measure_21 : decode cX5_measure 21 = .ok (.istore_n 3, 1) := by decide +kernel
theorem dX5_measure_22 : decode cX5_measure 22 = .ok (.iload_n 3, 1) := by decide +kernel
theorem dX5_measure_23 : decode cX5_measure 23 = .ok (.aload_n 0, 1) := by decide +kernel
theorem dX5_measure_24 : decode cX5_measure 24 = .ok (.getfield 24, 3) := by decide +kernel
theorem dX5_measure_27 : decode cX5_measure 27 = .ok (.if_icmp .ge 29, 3) := by decide +kernel
theorem dX5_measure_30 : decode cX5_measure 30 = .ok (.iload_n 3, 1) := by decide +kernel
theorem dX5_measure_31 : decode cX5_measure 31 = .ok (.aload_n 0, 1) := by decide +kernel
theorem dX5_measure_32 : decode cX5_measure 32 = .ok (.getfield 15, 3) := by decide +kernel
theorem dX5_measure_35 : decode cX5_measure 35 = .ok (.arraylength, 1) := by decide +kernel
theorem dX5_measure_36 : decode cX5_measure 36 = .ok (.if_icmp .ge 20, 3) := by decide +kernel
theorem dX5_measure_39 : decode cX5_measure 39 = .ok (.aload_n 0, 1) := by decide +kernel
theorem dX5_measure_40 : decode cX5_measure 40 = .ok (.aload_n 0, 1) := by decide +kernel
theorem dX5_measure_41 : decode cX5_measure 41 = .ok (.getfield 15, 3) := by decide +kernel
theorem dX5_measure_44 : decode cX5_measure 44 = .ok (.iload_n 3, 1) := by decide +kernel
theorem dX5_measure_45 : decode cX5_measure 45 = .ok (.iaload, 1) := by decide +kernel
theorem dX5_measure_46 : decode cX5_measure 46 = .ok (.iload_n 2, 1) := by decide +kernel
theorem dX5_measure_47 : decode cX5_measure 47 = .ok (.invokevirtual 32, 3) := by decide +kernel
theorem dX5_measure_50 : decode cX5_measure 50 = .ok (.iinc 3 1, 3) := by decide +kernel
theorem dX5_measure_53 : decode cX5_measure 53 = .ok (.goto (-31), 3) := by decide +kernel
theorem dX5_measure_56 : decode cX5_measure 56 = .ok (.return_, 1) := by decide +kernel
theorem dX5_stateBehind_0 : decode cX5_stateBehind 0 = .ok (.iload_n 1, 1) := by decide +kernel
theorem dX5_stateBehind_1 : decode cX5_stateBehind 1 = .ok (.ifCond .ne 7, 3) := by decide +kernel
theorem dX5_stateBehind_4 : decode cX5_stateBehind 4 = .ok (.iload_n 0, 1) := by decide +kernel
theorem dX5_stateBehind_5 : decode cX5_stateBehind 5 = .ok (.goto 8, 3) := by decide +kernel
theorem dX5_stateBehind_8 : decode cX5_stateBehind 8 = .ok (.iload_n 0, 1) := by decide +kernel
theorem dX5_stateBehind_9 : decode cX5_stateBehind 9 = .ok (.iconst 1, 1) := by decide +kernel
theorem dX5_stateBehind_10 : decode cX5_stateBehind 10 = .ok (.iload_n 1, 1) := by decide +kernel
theorem dX5_stateBehind_11 : decode cX5_stateBehind 11 = .ok (.ishl, 1) := by decide +kernel
theorem dX5_stateBehind_12 : decode cX5_stateBehind 12 = .ok (.ior, 1) := by decide +kernel
theorem dX5_stateBehind_13 : decode cX5_stateBehind 13 = .ok (.istore_n 2, 1) := by decide +kernel
theorem dX5_stateBehind_14 : decode cX5_stateBehind 14 = .ok (.iload_n 2, 1) := by decide +kernel
theorem dX5_stateBehind_15 : decode cX5_stateBehind 15 = .ok (.iconst 1, 1) := by decide +kernel
theorem dX5_stateBehind_16 : decode cX5_stateBehind 16 = .ok (.ishr, 1) := by decide +kernel
theorem dX5_stateBehind_17 : decode cX5_stateBehind 17 = .ok (.ireturn, 1) := by decide +kernel
theorem dX5_leastThrow_0 : decode cX5_leastThrow 0 = .ok (.iload_n 1, 1) := by decide +kernel
theorem dX5_leastThrow_1 : decode cX5_leastThrow 1 = .ok (.iconst 1, 1) := by decide +kernel
theorem dX5_leastThrow_2 : decode cX5_leastThrow 2 = .ok (.iand, 1) := by decide +kernel
theorem dX5_leastThrow_3 : decode cX5_leastThrow 3 = .ok (.ifCond .ne 5, 3) := by decide +kernel
theorem dX5_leastThrow_6 : decode cX5_leastThrow 6 = .ok (.iconst 0, 1) := by decide +kernel
theorem dX5_leastThrow_7 : decode cX5_leastThrow 7 = .ok (.ireturn, 1) := by decide +kernel
theorem dX5_leastThrow_8 : decode cX5_leastThrow 8 = .ok (.aload_n 0, 1) := by decide +kernel
theorem dX5_leastThrow_9 : decode cX5_leastThrow 9 = .ok (.iload_n 1, 1) := by decide +kernel
theorem dX5_leastThrow_10 : decode cX5_leastThrow 10 = .ok (.invokevirtual 35, 3) := by decide +kernel
theorem dX5_leastThrow_13 : decode cX5_leastThrow 13 = .ok (.iconst 1, 1) := by decide +kernel
theorem dX5_leastThrow_14 : decode cX5_leastThrow 14 = .ok (.isub, 1) := by decide +kernel
theorem dX5_leastThrow_15 : decode cX5_leastThrow 15 = .ok (.istore_n 3, 1) := by decide +kernel
theorem dX5_leastThrow_16 : decode cX5_leastThrow 16 = .ok (.iconst 1, 1) := by decide +kernel
theorem dX5_leastThrow_17 : decode cX5_leastThrow 17 = .ok (.istore 4, 2) := by decide +kernel
theorem dX5_leastThrow_19 : decode cX5_leastThrow 19 = .ok (.iload 4, 2) := by decide +kernel
theorem dX5_leastThrow_21 : decode cX5_leastThrow 21 = .ok (.iload_n 2, 1) := by decide +kernel
theorem dX5_leastThrow_22 : decode cX5_leastThrow 22 = .ok (.if_icmp .gt 35, 3) := by decide +kernel
theorem dX5_leastThrow_25 : decode cX5_leastThrow 25 = .ok (.iload_n 1, 1) := by decide +kernel
theorem dX5_leastThrow_26 : decode cX5_leastThrow 26 = .ok (.iload 4, 2) := by decide +kernel
theorem dX5_leastThrow_28 : decode cX5_leastThrow 28 = .ok (.ishr, 1) := by decide +kernel
theorem dX5_leastThrow_29 : decode cX5_leastThrow 29 = .ok (.iconst 1, 1) := by decide +kernel
theorem dX5_leastThrow_30 : decode cX5_leastThrow 30 = .ok (.iand, 1) := by decide +kernel
theorem dX5_leastThrow_31 : decode cX5_leastThrow 31 = .ok (.ifCond .ne 20, 3) := by decide +kernel
theorem dX5_leastThrow_34 : decode cX5_leastThrow 34 = .ok (.aload_n 0, 1) := by decide +kernel
theorem dX5_leastThrow_35 : decode cX5_leastThrow 35 = .ok (.iload_n 1, 1) := by decide +kernel
theorem dX5_leastThrow_36 : decode cX5_leastThrow 36 = .ok (.iload 4, 2) := by decide +kernel
theorem dX5_leastThrow_38 : decode cX5_leastThrow 38 = .ok (.invokestatic 47, 3) := by decide +kernel
theorem dX5_leastThrow_41 : decode cX5_leastThrow 41 = .ok (.invokevirtual 35, 3) := by decide +kernel
theorem dX5_leastThrow_44 : decode cX5_leastThrow 44 = .ok (.iload_n 3, 1) := by decide +kernel
theorem dX5_leastThrow_45 : decode cX5_leastThrow 45 = .ok (.if_icmp .ne 6, 3) := by decide +kernel
theorem dX5_leastThrow_48 : decode cX5_leastThrow 48 = .ok (.iload 4, 2) := by decide +kernel
theorem dX5_leastThrow_50 : decode cX5_leastThrow 50 = .ok (.ireturn, 1) := by decide +kernel
theorem dX5_leastThrow_51 : decode cX5_leastThrow 51 = .ok (.iinc 4 1, 3) := by decide +kernel
theorem dX5_leastThrow_54 : decode cX5_leastThrow 54 = .ok (.goto (-35), 3) := by decide +kernel
theorem dX5_leastThrow_57 : decode cX5_leastThrow 57 = .ok (.iconst 0, 1) := by decide +kernel
theorem dX5_leastThrow_58 : decode cX5_leastThrow 58 = .ok (.ireturn, 1) := by decide +kernel
theorem dX5_throwOnWay_0 : decode cX5_throwOnWay 0 = .ok (.aload_n 0, 1) := by decide +kernel
theorem dX5_throwOnWay_1 : decode cX5_throwOnWay 1 = .ok (.iload_n 1, 1) := by decide +kernel
theorem dX5_throwOnWay_2 : decode cX5_throwOnWay 2 = .ok (.invokevirtual 35, 3) := by decide +kernel
theorem dX5_throwOnWay_5 : decode cX5_throwOnWay 5 = .ok (.istore 4, 2) := by decide +kernel
theorem dX5_throwOnWay_7 : decode cX5_throwOnWay 7 = .ok (.iload 4, 2) := by decide +kernel
theorem dX5_throwOnWay_9 : decode cX5_throwOnWay 9 = .ok (.bipush (-9), 2) := by decide +kernel
theorem dX5_throwOnWay_11 : decode cX5_throwOnWay 11 = .ok (.if_icmp .eq 9, 3) := by decide +kernel
theorem dX5_throwOnWay_14 : decode cX5_throwOnWay 14 = .ok (.iload_n 3, 1) := by decide +kernel
theorem dX5_throwOnWay_15 : decode cX5_throwOnWay 15 = .ok (.iload 4, 2) := by decide +kernel
theorem dX5_throwOnWay_17 : decode cX5_throwOnWay 17 = .ok (.if_icmp .lt 6, 3) := by decide +kernel
theorem dX5_throwOnWay_20 : decode cX5_throwOnWay 20 = .ok (.bipush (-9), 2) := by decide +kernel
theorem dX5_throwOnWay_22 : decode cX5_throwOnWay 22 = .ok (.ireturn, 1) := by decide +kernel
theorem dX5_throwOnWay_23 : decode cX5_throwOnWay 23 = .ok (.iload_n 1, 1) := by decide +kernel
theorem dX5_throwOnWay_24 : decode cX5_throwOnWay 24 = .ok (.istore 5, 2) := by decide +kernel
theorem dX5_throwOnWay_26 : decode cX5_throwOnWay 26 = .ok (.iconst 0, 1) := by decide +kernel
theorem dX5_throwOnWay_27 : decode cX5_throwOnWay 27 = .ok (.istore 6, 2) := by decide +kernel
theorem dX5_throwOnWay_29 : decode cX5_throwOnWay 29 = .ok (.iload 6, 2) := by decide +kernel
theorem dX5_throwOnWay_31 : decode cX5_throwOnWay 31 = .ok (.iload_n 3, 1) := by decide +kernel
theorem dX5_throwOnWay_32 : decode cX5_throwOnWay 32 = .ok (.if_icmp .ge 23, 3) := by decide +kernel
theorem dX5_throwOnWay_35 : decode cX5_throwOnWay 35 = .ok (.iload 5, 2) := by decide +kernel
theorem dX5_throwOnWay_37 : decode cX5_throwOnWay 37 = .ok (.aload_n 0, 1) := by decide +kernel
theorem dX5_throwOnWay_38 : decode cX5_throwOnWay 38 = .ok (.iload 5, 2) := by decide +kernel
theorem dX5_throwOnWay_40 : decode cX5_throwOnWay 40 = .ok (.iload_n 2, 1) := by decide +kernel
theorem dX5_throwOnWay_41 : decode cX5_throwOnWay 41 = .ok (.invokevirtual 43, 3) := by decide +kernel
theorem dX5_throwOnWay_44 : decode cX5_throwOnWay 44 = .ok (.invokestatic 47, 3) := by decide +kernel
theorem dX5_throwOnWay_47 : decode cX5_throwOnWay 47 = .ok (.istore 5, 2) := by decide +kernel
theorem dX5_throwOnWay_49 : decode cX5_throwOnWay 49 = .ok (.iinc 6 1, 3) := by decide +kernel
theorem dX5_throwOnWay_52 : decode cX5_throwOnWay 52 = .ok (.goto (-23), 3) := by decide +kernel
theorem dX5_throwOnWay_55 : decode cX5_throwOnWay 55 = .ok (.aload_n 0, 1) := by decide +kernel
theorem dX5_throwOnWay_56 : decode cX5_throwOnWay 56 = .ok (.iload 5, 2) := by decide +kernel
theorem dX5_throwOnWay_58 : decode cX5_throwOnWay 58 = .ok (.iload_n 2, 1) := by decide +kernel
theorem dX5_throwOnWay_59 : decode cX5_throwOnWay 59 = .ok (.invokevirtual 43, 3) := by decide +kernel
theorem dX5_throwOnWay_62 : decode cX5_throwOnWay 62 = .ok (.ireturn, 1) := by decide +kernel
theorem dX6_isSheet_0 : decode cX6_isSheet 0 = .ok (.iload_n 0, 1) := by decide +kernel
theorem dX6_isSheet_1 : decode cX6_isSheet 1 = .ok (.iconst 0, 1) := by decide +kernel
theorem dX6_isSheet_2 : decode cX6_isSheet 2 = .ok (.iconst 3, 1) := by decide +kernel
theorem dX6_isSheet_3 : decode cX6_isSheet 3 = .ok (.invokestatic 104, 3) := by decide +kernel
theorem dX6_isSheet_6 : decode cX6_isSheet 6 = .ok (.ireturn, 1) := by decide +kernel
theorem dX6_isSort_0 : decode cX6_isSort 0 = .ok (.iload_n 0, 1) := by decide +kernel
theorem dX6_isSort_1 : decode cX6_isSort 1 = .ok (.iconst 0, 1) := by decide +kernel
theorem dX6_isSort_2 : decode cX6_isSort 2 = .ok (.iconst 2, 1) := by decide +kernel
theorem dX6_isSort_3 : decode cX6_isSort 3 = .ok (.invokestatic 104, 3) := by decide +kernel
theorem dX6_isSort_6 : decode cX6_isSort 6 = .ok (.ireturn, 1) := by decide +kernel
theorem dX6_firstWrongCode_0 : decode cX6_firstWrongCode 0 = .ok (.iconst 0, 1) := by decide +kernel
theorem dX6_firstWrongCode_1 : decode cX6_firstWrongCode 1 = .ok (.istore_n 3, 1) := by decide +kernel
theorem dX6_firstWrongCode_2 : decode cX6_firstWrongCode 2 = .ok (.iload_n 3, 1) := by decide +kernel
theorem dX6_firstWrongCode_3 : decode cX6_firstWrongCode 3 = .ok (.iload_n 2, 1) := by decide +kernel
theorem dX6_firstWrongCode_4 : decode cX6_firstWrongCode 4 = .ok (.if_icmp .ge 34, 3) := by decide +kernel
theorem dX6_firstWrongCode_7 : decode cX6_firstWrongCode 7 = .ok (.iload_n 3, 1) := by decide +kernel
theorem dX6_firstWrongCode_8 : decode cX6_firstWrongCode 8 = .ok (.bipush 8, 2) := by decide +kernel
theorem dX6_firstWrongCode_10 : decode cX6_firstWrongCode 10 = .ok (.if_icmp .ge 20, 3) := by decide +kernel
theorem dX6_firstWrongCode_13 : decode cX6_firstWrongCode 13 = .ok (.aload_n 0, 1) := by decide +kernel
theorem dX6_firstWrongCode_14 : decode cX6_firstWrongCode 14 = .ok (.iload_n 1, 1) := by decide +kernel
theorem dX6_firstWrongCode_15 : decode cX6_firstWrongCode 15 = .ok (.iload_n 3, 1) := by decide +kernel
theorem dX6_firstWrongCode_16 : decode cX6_firstWrongCode 16 = .ok (.iadd, 1) := by decide +kernel
theorem dX6_firstWrongCode_17 : decode cX6_firstWrongCode 17 = .ok (.invokevirtual 235, 3) := by decide +kernel
theorem dX6_firstWrongCode_20 : decode cX6_firstWrongCode 20 = .ok (.bipush 48, 2) := by decide +kernel
theorem dX6_firstWrongCode_22 : decode cX6_firstWrongCode 22 = .ok (.bipush 57, 2) := by decide +kernel
theorem dX6_firstWrongCode_24 : decode cX6_firstWrongCode 24 = .ok (.invokestatic 104, 3) := by decide +kernel
theorem dX6_firstWrongCode_27 : decode cX6_firstWrongCode 27 = .ok (.ifCond .ne 5, 3) := by decide +kernel
theorem dX6_firstWrongCode_30 : decode cX6_firstWrongCode 30 = .ok (.iload_n 3, 1) := by decide +kernel
theorem dX6_firstWrongCode_31 : decode cX6_firstWrongCode 31 = .ok (.ireturn, 1) := by decide +kernel
theorem dX6_firstWrongCode_32 : decode cX6_firstWrongCode 32 = .ok (.iinc 3 1, 3) := by decide +kernel
theorem dX6_firstWrongCode_35 : decode cX6_firstWrongCode 35 = .ok (.goto (-33), 3) := by decide +kernel
theorem dX6_firstWrongCode_38 : decode cX6_firstWrongCode 38 = .ok (.iload_n 2, 1) := by decide +kernel
theorem dX6_firstWrongCode_39 : decode cX6_firstWrongCode 39 = .ok (.ifCond .ne 7, 3) := by decide +kernel
theorem dX6_firstWrongCode_42 : decode cX6_firstWrongCode 42 = .ok (.iconst 0, 1) := by decide +kernel
theorem dX6_firstWrongCode_43 : decode cX6_firstWrongCode 43 = .ok (.goto 5, 3) := by decide +kernel
theorem dX6_firstWrongCode_46 : decode cX6_firstWrongCode 46 = .ok (.bipush (-9), 2) := by decide +kernel
theorem dX6_firstWrongCode_48 : decode cX6_firstWrongCode 48 = .ok (.ireturn, 1) := by decide +kernel
theorem dX6_takeText_0 : decode cX6_takeText 0 = .ok (.aload_n 0, 1) := by decide +kernel
theorem dX6_takeText_1 : decode cX6_takeText 1 = .ok (.getfield 12, 3) := by decide +kernel
theorem dX6_takeText_4 : decode cX6_takeText 4 = .ok (.iload_n 3, 1) := by decide +kernel
theorem dX6_takeText_5 : decode cX6_takeText 5 = .ok (.putfield 86, 3) := by decide +kernel
theorem dX6_takeText_8 : decode cX6_takeText 8 = .ok (.iconst 0, 1) := by decide +kernel
theorem dX6_takeText_9 : decode cX6_takeText 9 = .ok (.istore 4, 2) := by decide +kernel
theorem dX6_takeText_11 : decode cX6_takeText 11 = .ok (.iload 4, 2) := by decide +kernel
theorem dX6_takeText_13 : decode cX6_takeText 13 = .ok (.iload_n 3, 1) := by decide +kernel
theorem dX6_takeText_14 : decode cX6_takeText 14 = .ok (.if_icmp .ge 29, 3) := by decide +kernel
theorem dX6_takeText_17 : decode cX6_takeText 17 = .ok (.aload_n 0, 1) := by decide +kernel
theorem dX6_takeText_18 : decode cX6_takeText 18 = .ok (.getfield 12, 3) := by decide +kernel
theorem dX6_takeText_21 : decode cX6_takeText 21 = .ok (.iload 4, 2) := by decide +kernel
theorem dX6_takeText_23 : decode cX6_takeText 23 = .ok (.aload_n 1, 1) := by decide +kernel
theorem dX6_takeText_24 : decode cX6_takeText 24 = .ok (.iload_n 2, 1) := by decide +kernel
theorem dX6_takeText_25 : decode cX6_takeText 25 = .ok (.iload 4, 2) := by decide +kernel
theorem dX6_takeText_27 : decode cX6_takeText 27 = .ok (.iadd, 1) := by decide +kernel
theorem dX6_takeText_28 : decode cX6_takeText 28 = .ok (.invokevirtual 235, 3) := by decide +kernel
theorem dX6_takeText_31 : decode cX6_takeText 31 = .ok (.bipush 48, 2) := by decide +kernel
theorem dX6_takeText_33 : decode cX6_takeText 33 = .ok (.isub, 1) := by decide +kernel
theorem dX6_takeText_34 : decode cX6_takeText 34 = .ok (.invokevirtual 147, 3) := by decide +kernel
theorem dX6_takeText_37 : decode cX6_takeText 37 = .ok (.iinc 4 1, 3) := by decide +kernel
theorem dX6_takeText_40 : decode cX6_takeText 40 = .ok (.goto (-29), 3) := by decide +kernel
theorem dX6_takeText_43 : decode cX6_takeText 43 = .ok (.aload_n 0, 1) := by decide +kernel
theorem dX6_takeText_44 : decode cX6_takeText 44 = .ok (.iconst 2, 1) := by decide +kernel
theorem dX6_takeText_45 : decode cX6_takeText 45 = .ok (.putfield 59, 3) := by decide +kernel
theorem dX6_takeText_48 : decode cX6_takeText 48 = .ok (.aload_n 0, 1) := by decide +kernel
theorem dX6_takeText_49 : decode cX6_takeText 49 = .ok (.getfield 41, 3) := by decide +kernel
theorem dX6_takeText_52 : decode cX6_takeText 52 = .ok (.invokevirtual 263, 3) := by decide +kernel
theorem dX6_takeText_55 : decode cX6_takeText 55 = .ok (.aload_n 0, 1) := by decide +kernel
theorem dX6_takeText_56 : decode cX6_takeText 56 = .ok (.iconst 0, 1) := by decide +kernel
theorem dX6_takeText_57 : decode cX6_takeText 57 = .ok (.putfield 215, 3) := by decide +kernel
theorem dX6_takeText_60 : decode cX6_takeText 60 = .ok (.return_, 1) := by decide +kernel
theorem dX6_pattern_0 : decode cX6_pattern 0 = .ok (.aload_n 0, 1) := by decide +kernel
theorem dX6_pattern_1 : decode cX6_pattern 1 = .ok (.iconst 0, 1) := by decide +kernel
theorem dX6_pattern_2 : decode cX6_pattern 2 = .ok (.putfield 64, 3) := by decide +kernel
theorem dX6_pattern_5 : decode cX6_pattern 5 = .ok (.iload_n 1, 1) := by decide +kernel
theorem dX6_pattern_6 : decode cX6_pattern 6 = .ok (.invokestatic 67, 3) := by decide +kernel
theorem dX6_pattern_9 : decode cX6_pattern 9 = .ok (.ifCond .ne 5, 3) := by decide +kernel
theorem dX6_pattern_12 : decode cX6_pattern 12 = .ok (.iconst (-1), 1) := by decide +kernel
theorem dX6_pattern_13 : decode cX6_pattern 13 = .ok (.ireturn, 1) := by decide +kernel
theorem dX6_pattern_14 : decode cX6_pattern 14 = .ok (.iload_n 2, 1) := by decide +kernel
theorem dX6_pattern_15 : decode cX6_pattern 15 = .ok (.invokestatic 71, 3) := by decide +kernel
theorem dX6_pattern_18 : decode cX6_pattern 18 = .ok (.ifCond .ne 6, 3) := by decide +kernel
theorem dX6_pattern_21 : decode cX6_pattern 21 = .ok (.bipush (-2), 2) := by decide +kernel
theorem dX6_pattern_23 : decode cX6_pattern 23 = .ok (.ireturn, 1) := by decide +kernel
theorem dX6_pattern_24 : decode cX6_pattern 24 = .ok (.aload_n 0, 1) := by decide +kernel
theorem dX6_pattern_25 : decode cX6_pattern 25 = .ok (.aload_n 0, 1) := by decide +kernel
theorem dX6_pattern_26 : decode cX6_pattern 26 = .ok (.getfield 27, 3) := by decide +kernel
theorem dX6_pattern_29 : decode cX6_pattern 29 = .ok (.iload_n 1, 1) := by decide +kernel
theorem dX6_pattern_30 : decode cX6_pattern 30 = .ok (.aaload, 1) := by decide +kernel
theorem dX6_pattern_31 : decode cX6_pattern 31 = .ok (.iload_n 2, 1) := by decide +kernel
theorem dX6_pattern_32 : decode cX6_pattern 32 = .ok (.iload_n 3, 1) := by decide +kernel
theorem dX6_pattern_33 : decode cX6_pattern 33 = .ok (.iload 4, 2) := by decide +kernel
theorem dX6_pattern_35 : decode cX6_pattern 35 = .ok (.invokevirtual 74, 3) := by decide +kernel
theorem dX6_pattern_38 : decode cX6_pattern 38 = .ok (.putfield 64, 3) := by decide +kernel
theorem dX6_pattern_41 : decode cX6_pattern 41 = .ok (.aload_n 0, 1) := by decide +kernel
theorem dX6_pattern_42 : decode cX6_pattern 42 = .ok (.getfield 64, 3) := by decide +kernel
theorem dX6_pattern_45 : decode cX6_pattern 45 = .ok (.ifCond .eq 11, 3) := by decide +kernel
theorem dX6_pattern_48 : decode cX6_pattern 48 = .ok (.bipush (-10), 2) := by decide +kernel
theorem dX6_pattern_50 : decode cX6_pattern 50 = .ok (.aload_n 0, 1) := by decide +kernel
theorem dX6_pattern_51 : decode cX6_pattern 51 = .ok (.getfield 64, 3) := by decide +kernel
theorem dX6_pattern_54 : decode cX6_pattern 54 = .ok (.isub, 1) := by decide +kernel
theorem dX6_pattern_55 : decode cX6_pattern 55 = .ok (.ireturn, 1) := by decide +kernel
theorem dX6_pattern_56 : decode cX6_pattern 56 = .ok (.aload_n 0, 1) := by decide +kernel
theorem dX6_pattern_57 : decode cX6_pattern 57 = .ok (.getfield 27, 3) := by decide +kernel
theorem dX6_pattern_60 : decode cX6_pattern 60 = .ok (.iload_n 1, 1) := by decide +kernel
theorem dX6_pattern_61 : decode cX6_pattern 61 = .ok (.aaload, 1) := by decide +kernel
theorem dX6_pattern_62 : decode cX6_pattern 62 = .ok (.iload_n 3, 1) := by decide +kernel
theorem dX6_pattern_63 : decode cX6_pattern 63 = .ok (.iload 4, 2) := by decide +kernel
theorem dX6_pattern_65 : decode cX6_pattern 65 = .ok (.invokestatic 78, 3) := by decide +kernel
theorem dX6_pattern_68 : decode cX6_pattern 68 = .ok (.istore 5, 2) := by decide +kernel
theorem dX6_pattern_70 : decode cX6_pattern 70 = .ok (.iload 5, 2) := by decide +kernel
theorem dX6_pattern_72 : decode cX6_pattern 72 = .ok (.bipush (-9), 2) := by decide +kernel
theorem dX6_pattern_74 : decode cX6_pattern 74 = .ok (.if_icmp .eq 9, 3) := by decide +kernel
theorem dX6_pattern_77 : decode cX6_pattern 77 = .ok (.bipush (-100), 2) := by decide +kernel
theorem dX6_pattern_79 : decode cX6_pattern 79 = .ok (.iload 5, 2) := by decide +kernel
theorem dX6_pattern_81 : decode cX6_pattern 81 = .ok (.isub, 1) := by decide +kernel
theorem dX6_pattern_82 : decode cX6_pattern 82 = .ok (.ireturn, 1) := by decide +kernel
theorem dX6_pattern_83 : decode cX6_pattern 83 = .ok (.aload_n 0, 1) := by decide +kernel
theorem dX6_pattern_84 : decode cX6_pattern 84 = .ok (.aload_n 0, 1) := by decide +kernel
theorem dX6_pattern_85 : decode cX6_pattern 85 = .ok (.getfield 27, 3) := by decide +kernel
theorem dX6_pattern_88 : decode cX6_pattern 88 = .ok (.iload_n 1, 1) := by decide +kernel
theorem dX6_pattern_89 : decode cX6_pattern 89 = .ok (.aaload, 1) := by decide +kernel
theorem dX6_pattern_90 : decode cX6_pattern 90 = .ok (.iload_n 3, 1) := by decide +kernel
theorem dX6_pattern_91 : decode cX6_pattern 91 = .ok (.iload 4, 2) := by decide +kernel
theorem dX6_pattern_93 : decode cX6_pattern 93 = .ok (.invokevirtual 82, 3) := by decide +kernel
theorem dX6_pattern_96 : decode cX6_pattern 96 = .ok (.aload_n 0, 1) := by decide +kernel
theorem dX6_pattern_97 : decode cX6_pattern 97 = .ok (.getfield 12, 3) := by decide +kernel
theorem dX6_pattern_100 : decode cX6_pattern 100 = .ok (.getfield 86, 3) := by decide +kernel
theorem dX6_pattern_103 : decode cX6_pattern 103 = .ok (.ireturn, 1) := by decide +kernel
theorem dX6_throwOf_0 : decode cX6_throwOf 0 = .ok (.aload_n 0, 1) := by decide +kernel
theorem dX6_throwOf_1 : decode cX6_throwOf 1 = .ok (.getfield 12, 3) := by decide +kernel
theorem dX6_throwOf_4 : decode cX6_throwOf 4 = .ok (.iload_n 1, 1) := by decide +kernel
theorem dX6_throwOf_5 : decode cX6_throwOf 5 = .ok (.invokevirtual 89, 3) := by decide +kernel
theorem dX6_throwOf_8 : decode cX6_throwOf 8 = .ok (.ifCond .eq 14, 3) := by decide +kernel
theorem dX6_throwOf_11 : decode cX6_throwOf 11 = .ok (.aload_n 0, 1) := by decide +kernel
theorem dX6_throwOf_12 : decode cX6_throwOf 12 = .ok (.getfield 12, 3) := by decide +kernel
theorem dX6_throwOf_15 : decode cX6_throwOf 15 = .ok (.iload_n 1, 1) := by decide +kernel
theorem dX6_throwOf_16 : decode cX6_throwOf 16 = .ok (.invokevirtual 92, 3) := by decide +kernel
theorem dX6_throwOf_19 : decode cX6_throwOf 19 = .ok (.goto 4, 3) := by decide +kernel
theorem dX6_throwOf_22 : decode cX6_throwOf 22 = .ok (.iconst (-1), 1) := by decide +kernel
theorem dX6_throwOf_23 : decode cX6_throwOf 23 = .ok (.ireturn, 1) := by decide +kernel
theorem dX6_clash_0 : decode cX6_clash 0 = .ok (.aload_n 0, 1) := by decide +kernel
theorem dX6_clash_1 : decode cX6_clash 1 = .ok (.getfield 12, 3) := by decide +kernel
theorem dX6_clash_4 : decode cX6_clash 4 = .ok (.invokevirtual 96, 3) := by decide +kernel
theorem dX6_clash_7 : decode cX6_clash 7 = .ok (.ifCond .eq 13, 3) := by decide +kernel
theorem dX6_clash_10 : decode cX6_clash 10 = .ok (.aload_n 0, 1) := by decide +kernel
theorem dX6_clash_11 : decode cX6_clash 11 = .ok (.getfield 12, 3) := by decide +kernel
theorem dX6_clash_14 : decode cX6_clash 14 = .ok (.invokevirtual 100, 3) := by decide +kernel
theorem dX6_clash_17 : decode cX6_clash 17 = .ok (.goto 5, 3) := by decide +kernel
theorem dX6_clash_20 : decode cX6_clash 20 = .ok (.bipush (-3), 2) := by decide +kernel
theorem dX6_clash_22 : decode cX6_clash 22 = .ok (.ireturn, 1) := by decide +kernel
theorem dX6_good_0 : decode cX6_good 0 = .ok (.iload_n 1, 1) := by decide +kernel
theorem dX6_good_1 : decode cX6_good 1 = .ok (.iconst 0, 1) := by decide +kernel
theorem dX6_good_2 : decode cX6_good 2 = .ok (.iconst 4, 1) := by decide +kernel
theorem dX6_good_3 : decode cX6_good 3 = .ok (.invokestatic 104, 3) := by decide +kernel
theorem dX6_good_6 : decode cX6_good 6 = .ok (.ifCond .ne 6, 3) := by decide +kernel
theorem dX6_good_9 : decode cX6_good 9 = .ok (.bipush (-2), 2) := by decide +kernel
theorem dX6_good_11 : decode cX6_good 11 = .ok (.ireturn, 1) := by decide +kernel
theorem dX6_good_12 : decode cX6_good 12 = .ok (.aload_n 0, 1) := by decide +kernel
theorem dX6_good_13 : decode cX6_good 13 = .ok (.getfield 12, 3) := by decide +kernel
theorem dX6_good_16 : decode cX6_good 16 = .ok (.invokevirtual 108, 3) := by decide +kernel
theorem dX6_good_19 : decode cX6_good 19 = .ok (.ifCond .ne 6, 3) := by decide +kernel
theorem dX6_good_22 : decode cX6_good 22 = .ok (.bipush (-3), 2) := by decide +kernel
theorem dX6_good_24 : decode cX6_good 24 = .ok (.ireturn, 1) := by decide +kernel
theorem dX6_good_25 : decode cX6_good 25 = .ok (.iload_n 1, 1) := by decide +kernel
theorem dX6_good_26 : decode cX6_good 26 = .ok (.tableswitch 78 0 3 #[30, 38, 46, 62], 30) := by decide +kernel
theorem dX6_good_56 : decode cX6_good 56 = .ok (.aload_n 0, 1) := by decide +kernel
theorem dX6_good_57 : decode cX6_good 57 = .ok (.getfield 12, 3) := by decide +kernel
theorem dX6_good_60 : decode cX6_good 60 = .ok (.invokevirtual 111, 3) := by decide +kernel
theorem dX6_good_63 : decode cX6_good 63 = .ok (.ireturn, 1) := by decide +kernel
theorem dX6_good_64 : decode cX6_good 64 = .ok (.aload_n 0, 1) := by decide +kernel
theorem dX6_good_65 : decode cX6_good 65 = .ok (.getfield 12, 3) := by decide +kernel
theorem dX6_good_68 : decode cX6_good 68 = .ok (.invokevirtual 114, 3) := by decide +kernel
theorem dX6_good_71 : decode cX6_good 71 = .ok (.ireturn, 1) := by decide +kernel
theorem dX6_good_72 : decode cX6_good 72 = .ok (.aload_n 0, 1) := by decide +kernel
theorem dX6_good_73 : decode cX6_good 73 = .ok (.getfield 12, 3) := by decide +kernel
theorem dX6_good_76 : decode cX6_good 76 = .ok (.invokevirtual 117, 3) := by decide +kernel
theorem dX6_good_79 : decode cX6_good 79 = .ok (.ifCond .eq 7, 3) := by decide +kernel
theorem dX6_good_82 : decode cX6_good 82 = .ok (.iconst 1, 1) := by decide +kernel
theorem dX6_good_83 : decode cX6_good 83 = .ok (.goto 4, 3) := by decide +kernel
theorem dX6_good_86 : decode cX6_good 86 = .ok (.iconst 0, 1) := by decide +kernel
theorem dX6_good_87 : decode cX6_good 87 = .ok (.ireturn, 1) := by decide +kernel
theorem dX6_good_88 : decode cX6_good 88 = .ok (.aload_n 0, 1) := by decide +kernel
theorem dX6_good_89 : decode cX6_good 89 = .ok (.getfield 12, 3) := by decide +kernel
theorem dX6_good_92 : decode cX6_good 92 = .ok (.invokevirtual 120, 3) := by decide +kernel
theorem dX6_good_95 : decode cX6_good 95 = .ok (.ifCond .eq 7, 3) := by decide +kernel
theorem dX6_good_98 : decode cX6_good 98 = .ok (.iconst 1, 1) := by decide +kernel
theorem dX6_good_99 : decode cX6_good 99 = .ok (.goto 4, 3) := by decide +kernel
theorem dX6_good_102 : decode cX6_good 102 = .ok (.iconst 0, 1) := by decide +kernel
theorem dX6_good_103 : decode cX6_good 103 = .ok (.ireturn, 1) := by decide +kernel
theorem dX6_good_104 : decode cX6_good 104 = .ok (.aload_n 0, 1) := by decide +kernel
theorem dX6_good_105 : decode cX6_good 105 = .ok (.getfield 12, 3) := by decide +kernel
theorem dX6_good_108 : decode cX6_good 108 = .ok (.aload_n 0, 1) := by decide +kernel
theorem dX6_good_109 : decode cX6_good 109 = .ok (.getfield 12, 3) := by decide +kernel
theorem dX6_good_112 : decode cX6_good 112 = .ok (.getfield 86, 3) := by decide +kernel
theorem dX6_good_115 : decode cX6_good 115 = .ok (.invokevirtual 123, 3) := by decide +kernel
theorem dX6_good_118 : decode cX6_good 118 = .ok (.ireturn, 1) := by decide +kernel
theorem dX6_state_0 : decode cX6_state 0 = .ok (.aload_n 0, 1) := by decide +kernel
theorem dX6_state_1 : decode cX6_state 1 = .ok (.getfield 12, 3) := by decide +kernel
theorem dX6_state_4 : decode cX6_state 4 = .ok (.iload_n 1, 1) := by decide +kernel
theorem dX6_state_5 : decode cX6_state 5 = .ok (.invokevirtual 89, 3) := by decide +kernel
theorem dX6_state_8 : decode cX6_state 8 = .ok (.ifCond .ne 5, 3) := by decide +kernel
theorem dX6_state_11 : decode cX6_state 11 = .ok (.iconst (-1), 1) := by decide +kernel
theorem dX6_state_12 : decode cX6_state 12 = .ok (.ireturn, 1) := by decide +kernel
theorem dX6_state_13 : decode cX6_state 13 = .ok (.aload_n 0, 1) := by decide +kernel
theorem dX6_state_14 : decode cX6_state 14 = .ok (.getfield 12, 3) := by decide +kernel
theorem dX6_state_17 : decode cX6_state 17 = .ok (.invokevirtual 108, 3) := by decide +kernel
theorem dX6_state_20 : decode cX6_state 20 = .ok (.ifCond .eq 14, 3) := by decide +kernel
theorem dX6_state_23 : decode cX6_state 23 = .ok (.aload_n 0, 1) := by decide +kernel
theorem dX6_state_24 : decode cX6_state 24 = .ok (.getfield 12, 3) := by decide +kernel
theorem dX6_state_27 : decode cX6_state 27 = .ok (.iload_n 1, 1) := by decide +kernel
theorem dX6_state_28 : decode cX6_state 28 = .ok (.invokevirtual 126, 3) := by decide +kernel
theorem dX6_state_31 : decode cX6_state 31 = .ok (.goto 5, 3) := by decide +kernel
theorem dX6_state_34 : decode cX6_state 34 = .ok (.bipush (-3), 2) := by decide +kernel
theorem dX6_state_36 : decode cX6_state 36 = .ok (.ireturn, 1) := by decide +kernel
theorem dX6_ball_0 : decode cX6_ball 0 = .ok (.iload_n 1, 1) := by decide +kernel
theorem dX6_ball_1 : decode cX6_ball 1 = .ok (.iconst 0, 1) := by decide +kernel
theorem dX6_ball_2 : decode cX6_ball 2 = .ok (.sipush 999, 3) := by decide +kernel
theorem dX6_ball_5 : decode cX6_ball 5 = .ok (.invokestatic 104, 3) := by decide +kernel
theorem dX6_ball_8 : decode cX6_ball 8 = .ok (.ifCond .ne 6, 3) := by decide +kernel
theorem dX6_ball_11 : decode cX6_ball 11 = .ok (.bipush (-2), 2) := by decide +kernel
theorem dX6_ball_13 : decode cX6_ball 13 = .ok (.ireturn, 1) := by decide +kernel
theorem dX6_ball_14 : decode cX6_ball 14 = .ok (.aload_n 0, 1) := by decide +kernel
theorem dX6_ball_15 : decode cX6_ball 15 = .ok (.getfield 12, 3) := by decide +kernel
theorem dX6_ball_18 : decode cX6_ball 18 = .ok (.invokevirtual 108, 3) := by decide +kernel
theorem dX6_ball_21 : decode cX6_ball 21 = .ok (.ifCond .ne 6, 3) := by decide +kernel
theorem dX6_ball_24 : decode cX6_ball 24 = .ok (.bipush (-3), 2) := by decide +kernel
theorem dX6_ball_26 : decode cX6_ball 26 = .ok (.ireturn, 1) := by decide +kernel
theorem dX6_ball_27 : decode cX6_ball 27 = .ok (.aload_n 0, 1) := by decide +kernel
theorem dX6_ball_28 : decode cX6_ball 28 = .ok (.getfield 34, 3) := by decide +kernel
theorem dX6_ball_31 : decode cX6_ball 31 = .ok (.invokevirtual 129, 3) := by decide +kernel
theorem dX6_ball_34 : decode cX6_ball 34 = .ok (.bipush (-9), 2) := by decide +kernel
theorem dX6_ball_36 : decode cX6_ball 36 = .ok (.istore_n 2, 1) := by decide +kernel
theorem dX6_ball_37 : decode cX6_ball 37 = .ok (.iconst 0, 1) := by decide +kernel
theorem dX6_ball_38 : decode cX6_ball 38 = .ok (.istore_n 3, 1) := by decide +kernel
theorem dX6_ball_39 : decode cX6_ball 39 = .ok (.iload_n 3, 1) := by decide +kernel
theorem dX6_ball_40 : decode cX6_ball 40 = .ok (.iload_n 1, 1) := by decide +kernel
theorem dX6_ball_41 : decode cX6_ball 41 = .ok (.if_icmp .gt 26, 3) := by decide +kernel
theorem dX6_ball_44 : decode cX6_ball 44 = .ok (.aload_n 0, 1) := by decide +kernel
theorem dX6_ball_45 : decode cX6_ball 45 = .ok (.getfield 34, 3) := by decide +kernel
theorem dX6_ball_48 : decode cX6_ball 48 = .ok (.iload_n 3, 1) := by decide +kernel
theorem dX6_ball_49 : decode cX6_ball 49 = .ok (.aload_n 0, 1) := by decide +kernel
theorem dX6_ball_50 : decode cX6_ball 50 = .ok (.getfield 12, 3) := by decide +kernel
theorem dX6_ball_53 : decode cX6_ball 53 = .ok (.iload_n 3, 1) := by decide +kernel
theorem dX6_ball_54 : decode cX6_ball 54 = .ok (.invokevirtual 92, 3) := by decide +kernel
theorem dX6_ball_57 : decode cX6_ball 57 = .ok (.invokevirtual 132, 3) := by decide +kernel
theorem dX6_ball_60 : decode cX6_ball 60 = .ok (.istore_n 2, 1) := by decide +kernel
theorem dX6_ball_61 : decode cX6_ball 61 = .ok (.iinc 3 1, 3) := by decide +kernel
theorem dX6_ball_64 : decode cX6_ball 64 = .ok (.goto (-25), 3) := by decide +kernel
theorem dX6_ball_67 : decode cX6_ball 67 = .ok (.iload_n 2, 1) := by decide +kernel
theorem dX6_ball_68 : decode cX6_ball 68 = .ok (.ireturn, 1) := by decide +kernel
theorem dX6_orbit_0 : decode cX6_orbit 0 = .ok (.aload_n 0, 1) := by decide +kernel
theorem dX6_orbit_1 : decode cX6_orbit 1 = .ok (.getfield 12, 3) := by decide +kernel
theorem dX6_orbit_4 : decode cX6_orbit 4 = .ok (.iload_n 1, 1) := by decide +kernel
theorem dX6_orbit_5 : decode cX6_orbit 5 = .ok (.invokevirtual 89, 3) := by decide +kernel
theorem dX6_orbit_8 : decode cX6_orbit 8 = .ok (.ifCond .ne 5, 3) := by decide +kernel
theorem dX6_orbit_11 : decode cX6_orbit 11 = .ok (.iconst (-1), 1) := by decide +kernel
theorem dX6_orbit_12 : decode cX6_orbit 12 = .ok (.ireturn, 1) := by decide +kernel
theorem dX6_orbit_13 : decode cX6_orbit 13 = .ok (.aload_n 0, 1) := by decide +kernel
theorem dX6_orbit_14 : decode cX6_orbit 14 = .ok (.getfield 12, 3) := by decide +kernel
theorem dX6_orbit_17 : decode cX6_orbit 17 = .ok (.invokevirtual 108, 3) := by decide +kernel
theorem dX6_orbit_20 : decode cX6_orbit 20 = .ok (.ifCond .eq 21, 3) := by decide +kernel
theorem dX6_orbit_23 : decode cX6_orbit 23 = .ok (.aload_n 0, 1) := by decide +kernel
theorem dX6_orbit_24 : decode cX6_orbit 24 = .ok (.getfield 12, 3) := by decide +kernel
theorem dX6_orbit_27 : decode cX6_orbit 27 = .ok (.aload_n 0, 1) := by decide +kernel
theorem dX6_orbit_28 : decode cX6_orbit 28 = .ok (.getfield 12, 3) := by decide +kernel
theorem dX6_orbit_31 : decode cX6_orbit 31 = .ok (.iload_n 1, 1) := by decide +kernel
theorem dX6_orbit_32 : decode cX6_orbit 32 = .ok (.invokevirtual 136, 3) := by decide +kernel
theorem dX6_orbit_35 : decode cX6_orbit 35 = .ok (.invokevirtual 123, 3) := by decide +kernel
theorem dX6_orbit_38 : decode cX6_orbit 38 = .ok (.goto 5, 3) := by decide +kernel
theorem dX6_orbit_41 : decode cX6_orbit 41 = .ok (.bipush (-3), 2) := by decide +kernel
theorem dX6_orbit_43 : decode cX6_orbit 43 = .ok (.ireturn, 1) := by decide +kernel
theorem dX6_hands_0 : decode cX6_hands 0 = .ok (.iload_n 1, 1) := by decide +kernel
theorem dX6_hands_1 : decode cX6_hands 1 = .ok (.iconst 1, 1) := by decide +kernel
theorem dX6_hands_2 : decode cX6_hands 2 = .ok (.iconst 4, 1) := by decide +kernel
theorem dX6_hands_3 : decode cX6_hands 3 = .ok (.invokestatic 104, 3) := by decide +kernel
theorem dX6_hands_6 : decode cX6_hands 6 = .ok (.ifCond .ne 6, 3) := by decide +kernel
theorem dX6_hands_9 : decode cX6_hands 9 = .ok (.bipush (-2), 2) := by decide +kernel
theorem dX6_hands_11 : decode cX6_hands 11 = .ok (.ireturn, 1) := by decide +kernel
theorem dX6_hands_12 : decode cX6_hands 12 = .ok (.aload_n 0, 1) := by decide +kernel
theorem dX6_hands_13 : decode cX6_hands 13 = .ok (.getfield 12, 3) := by decide +kernel
theorem dX6_hands_16 : decode cX6_hands 16 = .ok (.invokevirtual 96, 3) := by decide +kernel
theorem dX6_hands_19 : decode cX6_hands 19 = .ok (.ifCond .ne 6, 3) := by decide +kernel
theorem dX6_hands_22 : decode cX6_hands 22 = .ok (.bipush (-3), 2) := by decide +kernel
theorem dX6_hands_24 : decode cX6_hands 24 = .ok (.ireturn, 1) := by decide +kernel
theorem dX6_hands_25 : decode cX6_hands 25 = .ok (.aload_n 0, 1) := by decide +kernel
theorem dX6_hands_26 : decode cX6_hands 26 = .ok (.getfield 59, 3) := by decide +kernel
theorem dX6_hands_29 : decode cX6_hands 29 = .ok (.istore_n 2, 1) := by decide +kernel
theorem dX6_hands_30 : decode cX6_hands 30 = .ok (.aload_n 0, 1) := by decide +kernel
theorem dX6_hands_31 : decode cX6_hands 31 = .ok (.iload_n 1, 1) := by decide +kernel
theorem dX6_hands_32 : decode cX6_hands 32 = .ok (.putfield 59, 3) := by decide +kernel
theorem dX6_hands_35 : decode cX6_hands 35 = .ok (.iload_n 2, 1) := by decide +kernel
theorem dX6_hands_36 : decode cX6_hands 36 = .ok (.ireturn, 1) := by decide +kernel
theorem dX6_handIn_0 : decode cX6_handIn 0 = .ok (.aload_n 0, 1) := by decide +kernel
theorem dX6_handIn_1 : decode cX6_handIn 1 = .ok (.getfield 59, 3) := by decide +kernel
theorem dX6_handIn_4 : decode cX6_handIn 4 = .ok (.iconst 1, 1) := by decide +kernel
theorem dX6_handIn_5 : decode cX6_handIn 5 = .ok (.if_icmp .ge 8, 3) := by decide +kernel
theorem dX6_handIn_8 : decode cX6_handIn 8 = .ok (.bipush (-9), 2) := by decide +kernel
theorem dX6_handIn_10 : decode cX6_handIn 10 = .ok (.goto 9, 3) := by decide +kernel
theorem dX6_handIn_13 : decode cX6_handIn 13 = .ok (.iload_n 1, 1) := by decide +kernel
theorem dX6_handIn_14 : decode cX6_handIn 14 = .ok (.aload_n 0, 1) := by decide +kernel
theorem dX6_handIn_15 : decode cX6_handIn 15 = .ok (.getfield 59, 3) := by decide +kernel
theorem dX6_handIn_18 : decode cX6_handIn 18 = .ok (.irem, 1) := by decide +kernel
theorem dX6_handIn_19 : decode cX6_handIn 19 = .ok (.ireturn, 1) := by decide +kernel
theorem dX6_beat_0 : decode cX6_beat 0 = .ok (.iload_n 1, 1) := by decide +kernel
theorem dX6_beat_1 : decode cX6_beat 1 = .ok (.iconst 0, 1) := by decide +kernel
theorem dX6_beat_2 : decode cX6_beat 2 = .ok (.sipush 999, 3) := by decide +kernel
theorem dX6_beat_5 : decode cX6_beat 5 = .ok (.invokestatic 104, 3) := by decide +kernel
theorem dX6_beat_8 : decode cX6_beat 8 = .ok (.ifCond .eq 12, 3) := by decide +kernel
theorem dX6_beat_11 : decode cX6_beat 11 = .ok (.iload_n 2, 1) := by decide +kernel
theorem dX6_beat_12 : decode cX6_beat 12 = .ok (.iconst 0, 1) := by decide +kernel
theorem dX6_beat_13 : decode cX6_beat 13 = .ok (.iconst 2, 1) := by decide +kernel
theorem dX6_beat_14 : decode cX6_beat 14 = .ok (.invokestatic 104, 3) := by decide +kernel
theorem dX6_beat_17 : decode cX6_beat 17 = .ok (.ifCond .ne 6, 3) := by decide +kernel
theorem dX6_beat_20 : decode cX6_beat 20 = .ok (.bipush (-2), 2) := by decide +kernel
theorem dX6_beat_22 : decode cX6_beat 22 = .ok (.ireturn, 1) := by decide +kernel
theorem dX6_beat_23 : decode cX6_beat 23 = .ok (.aload_n 0, 1) := by decide +kernel
theorem dX6_beat_24 : decode cX6_beat 24 = .ok (.getfield 12, 3) := by decide +kernel
theorem dX6_beat_27 : decode cX6_beat 27 = .ok (.invokevirtual 108, 3) := by decide +kernel
theorem dX6_beat_30 : decode cX6_beat 30 = .ok (.ifCond .ne 6, 3) := by decide +kernel
theorem dX6_beat_33 : decode cX6_beat 33 = .ok (.bipush (-3), 2) := by decide +kernel
theorem dX6_beat_35 : decode cX6_beat 35 = .ok (.ireturn, 1) := by decide +kernel
theorem dX6_beat_36 : decode cX6_beat 36 = .ok (.iload_n 2, 1) := by decide +kernel
theorem dX6_beat_37 : decode cX6_beat 37 = .ok (.ifCond .ne 9, 3) := by decide +kernel
theorem dX6_beat_40 : decode cX6_beat 40 = .ok (.aload_n 0, 1) := by decide +kernel
theorem dX6_beat_41 : decode cX6_beat 41 = .ok (.iload_n 1, 1) := by decide +kernel
theorem dX6_beat_42 : decode cX6_beat 42 = .ok (.invokevirtual 139, 3) := by decide +kernel
theorem dX6_beat_45 : decode cX6_beat 45 = .ok (.ireturn, 1) := by decide +kernel
theorem dX6_beat_46 : decode cX6_beat 46 = .ok (.iload_n 2, 1) := by decide +kernel
theorem dX6_beat_47 : decode cX6_beat 47 = .ok (.iconst 1, 1) := by decide +kernel
theorem dX6_beat_48 : decode cX6_beat 48 = .ok (.if_icmp .ne 29, 3) := by decide +kernel
theorem dX6_beat_51 : decode cX6_beat 51 = .ok (.aload_n 0, 1) := by decide +kernel
theorem dX6_beat_52 : decode cX6_beat 52 = .ok (.getfield 12, 3) := by decide +kernel
theorem dX6_beat_55 : decode cX6_beat 55 = .ok (.iload_n 1, 1) := by decide +kernel
theorem dX6_beat_56 : decode cX6_beat 56 = .ok (.invokevirtual 92, 3) := by decide +kernel
theorem dX6_beat_59 : decode cX6_beat 59 = .ok (.istore_n 3, 1) := by decide +kernel
theorem dX6_beat_60 : decode cX6_beat 60 = .ok (.iload_n 3, 1) := by decide +kernel
theorem dX6_beat_61 : decode cX6_beat 61 = .ok (.ifCond .ne 8, 3) := by decide +kernel
theorem dX6_beat_64 : decode cX6_beat 64 = .ok (.bipush (-9), 2) := by decide +kernel
theorem dX6_beat_66 : decode cX6_beat 66 = .ok (.goto 10, 3) := by decide +kernel
theorem dX6_beat_69 : decode cX6_beat 69 = .ok (.aload_n 0, 1) := by decide +kernel
theorem dX6_beat_70 : decode cX6_beat 70 = .ok (.iload_n 1, 1) := by decide +kernel
theorem dX6_beat_71 : decode cX6_beat 71 = .ok (.iload_n 3, 1) := by decide +kernel
theorem dX6_beat_72 : decode cX6_beat 72 = .ok (.iadd, 1) := by decide +kernel
theorem dX6_beat_73 : decode cX6_beat 73 = .ok (.invokevirtual 139, 3) := by decide +kernel
theorem dX6_beat_76 : decode cX6_beat 76 = .ok (.ireturn, 1) := by decide +kernel
theorem dX6_beat_77 : decode cX6_beat 77 = .ok (.aload_n 0, 1) := by decide +kernel
theorem dX6_beat_78 : decode cX6_beat 78 = .ok (.getfield 12, 3) := by decide +kernel
theorem dX6_beat_81 : decode cX6_beat 81 = .ok (.iload_n 1, 1) := by decide +kernel
theorem dX6_beat_82 : decode cX6_beat 82 = .ok (.invokevirtual 126, 3) := by decide +kernel
theorem dX6_beat_85 : decode cX6_beat 85 = .ok (.iconst 1, 1) := by decide +kernel
theorem dX6_beat_86 : decode cX6_beat 86 = .ok (.ishr, 1) := by decide +kernel
theorem dX6_beat_87 : decode cX6_beat 87 = .ok (.invokestatic 142, 3) := by decide +kernel
theorem dX6_beat_90 : decode cX6_beat 90 = .ok (.ireturn, 1) := by decide +kernel
theorem dX6_swap_0 : decode cX6_swap 0 = .ok (.aload_n 0, 1) := by decide +kernel
theorem dX6_swap_1 : decode cX6_swap 1 = .ok (.getfield 12, 3) := by decide +kernel
theorem dX6_swap_4 : decode cX6_swap 4 = .ok (.iload_n 1, 1) := by decide +kernel
theorem dX6_swap_5 : decode cX6_swap 5 = .ok (.invokevirtual 89, 3) := by decide +kernel
theorem dX6_swap_8 : decode cX6_swap 8 = .ok (.ifCond .eq 19, 3) := by decide +kernel
theorem dX6_swap_11 : decode cX6_swap 11 = .ok (.aload_n 0, 1) := by decide +kernel
theorem dX6_swap_12 : decode cX6_swap 12 = .ok (.getfield 12, 3) := by decide +kernel
theorem dX6_swap_15 : decode cX6_swap 15 = .ok (.iload_n 2, 1) := by decide +kernel
theorem dX6_swap_16 : decode cX6_swap 16 = .ok (.invokevirtual 89, 3) := by decide +kernel
theorem dX6_swap_19 : decode cX6_swap 19 = .ok (.ifCond .eq 8, 3) := by decide +kernel
theorem dX6_swap_22 : decode cX6_swap 22 = .ok (.iload_n 2, 1) := by decide +kernel
theorem dX6_swap_23 : decode cX6_swap 23 = .ok (.iload_n 1, 1) := by decide +kernel
theorem dX6_swap_24 : decode cX6_swap 24 = .ok (.if_icmp .gt 5, 3) := by decide +kernel
theorem dX6_swap_27 : decode cX6_swap 27 = .ok (.iconst (-1), 1) := by decide +kernel
theorem dX6_swap_28 : decode cX6_swap 28 = .ok (.ireturn, 1) := by decide +kernel
theorem dX6_swap_29 : decode cX6_swap 29 = .ok (.aload_n 0, 1) := by decide +kernel
theorem dX6_swap_30 : decode cX6_swap 30 = .ok (.getfield 12, 3) := by decide +kernel
theorem dX6_swap_33 : decode cX6_swap 33 = .ok (.iload_n 2, 1) := by decide +kernel
theorem dX6_swap_34 : decode cX6_swap 34 = .ok (.invokevirtual 92, 3) := by decide +kernel
theorem dX6_swap_37 : decode cX6_swap 37 = .ok (.iload_n 2, 1) := by decide +kernel
theorem dX6_swap_38 : decode cX6_swap 38 = .ok (.iload_n 1, 1) := by decide +kernel
theorem dX6_swap_39 : decode cX6_swap 39 = .ok (.isub, 1) := by decide +kernel
theorem dX6_swap_40 : decode cX6_swap 40 = .ok (.iadd, 1) := by decide +kernel
theorem dX6_swap_41 : decode cX6_swap 41 = .ok (.istore_n 3, 1) := by decide +kernel
theorem dX6_swap_42 : decode cX6_swap 42 = .ok (.aload_n 0, 1) := by decide +kernel
theorem dX6_swap_43 : decode cX6_swap 43 = .ok (.getfield 12, 3) := by decide +kernel
theorem dX6_swap_46 : decode cX6_swap 46 = .ok (.iload_n 1, 1) := by decide +kernel
theorem dX6_swap_47 : decode cX6_swap 47 = .ok (.invokevirtual 92, 3) := by decide +kernel
theorem dX6_swap_50 : decode cX6_swap 50 = .ok (.iload_n 2, 1) := by decide +kernel
theorem dX6_swap_51 : decode cX6_swap 51 = .ok (.iload_n 1, 1) := by decide +kernel
theorem dX6_swap_52 : decode cX6_swap 52 = .ok (.isub, 1) := by decide +kernel
theorem dX6_swap_53 : decode cX6_swap 53 = .ok (.isub, 1) := by decide +kernel
theorem dX6_swap_54 : decode cX6_swap 54 = .ok (.istore 4, 2) := by decide +kernel
theorem dX6_swap_56 : decode cX6_swap 56 = .ok (.iload 4, 2) := by decide +kernel
theorem dX6_swap_58 : decode cX6_swap 58 = .ok (.ifCond .ge 6, 3) := by decide +kernel
theorem dX6_swap_61 : decode cX6_swap 61 = .ok (.bipush (-3), 2) := by decide +kernel
theorem dX6_swap_63 : decode cX6_swap 63 = .ok (.ireturn, 1) := by decide +kernel
theorem dX6_swap_64 : decode cX6_swap 64 = .ok (.iload_n 3, 1) := by decide +kernel
theorem dX6_swap_65 : decode cX6_swap 65 = .ok (.bipush 9, 2) := by decide +kernel
theorem dX6_swap_67 : decode cX6_swap 67 = .ok (.if_icmp .le 6, 3) := by decide +kernel
theorem dX6_swap_70 : decode cX6_swap 70 = .ok (.bipush (-4), 2) := by decide +kernel
theorem dX6_swap_72 : decode cX6_swap 72 = .ok (.ireturn, 1) := by decide +kernel
theorem dX6_swap_73 : decode cX6_swap 73 = .ok (.aload_n 0, 1) := by decide +kernel
theorem dX6_swap_74 : decode cX6_swap 74 = .ok (.getfield 12, 3) := by decide +kernel
theorem dX6_swap_77 : decode cX6_swap 77 = .ok (.iload_n 1, 1) := by decide +kernel
theorem dX6_swap_78 : decode cX6_swap 78 = .ok (.iload_n 3, 1) := by decide +kernel
theorem dX6_swap_79 : decode cX6_swap 79 = .ok (.invokevirtual 147, 3) := by decide +kernel
theorem dX6_swap_82 : decode cX6_swap 82 = .ok (.aload_n 0, 1) := by decide +kernel
theorem dX6_swap_83 : decode cX6_swap 83 = .ok (.getfield 12, 3) := by decide +kernel
theorem dX6_swap_86 : decode cX6_swap 86 = .ok (.iload_n 2, 1) := by decide +kernel
theorem dX6_swap_87 : decode cX6_swap 87 = .ok (.iload 4, 2) := by decide +kernel
theorem dX6_swap_89 : decode cX6_swap 89 = .ok (.invokevirtual 147, 3) := by decide +kernel
theorem dX6_swap_92 : decode cX6_swap 92 = .ok (.iconst 1, 1) := by decide +kernel
theorem dX6_swap_93 : decode cX6_swap 93 = .ok (.ireturn, 1) := by decide +kernel
theorem dX6_turn_0 : decode cX6_turn 0 = .ok (.iload_n 1, 1) := by decide +kernel
theorem dX6_turn_1 : decode cX6_turn 1 = .ok (.iconst 0, 1) := by decide +kernel
theorem dX6_turn_2 : decode cX6_turn 2 = .ok (.bipush 7, 2) := by decide +kernel
theorem dX6_turn_4 : decode cX6_turn 4 = .ok (.invokestatic 104, 3) := by decide +kernel
theorem dX6_turn_7 : decode cX6_turn 7 = .ok (.ifCond .ne 6, 3) := by decide +kernel
theorem dX6_turn_10 : decode cX6_turn 10 = .ok (.bipush (-2), 2) := by decide +kernel
theorem dX6_turn_12 : decode cX6_turn 12 = .ok (.ireturn, 1) := by decide +kernel
theorem dX6_turn_13 : decode cX6_turn 13 = .ok (.aload_n 0, 1) := by decide +kernel
theorem dX6_turn_14 : decode cX6_turn 14 = .ok (.getfield 12, 3) := by decide +kernel
theorem dX6_turn_17 : decode cX6_turn 17 = .ok (.invokevirtual 96, 3) := by decide +kernel
theorem dX6_turn_20 : decode cX6_turn 20 = .ok (.ifCond .ne 6, 3) := by decide +kernel
theorem dX6_turn_23 : decode cX6_turn 23 = .ok (.bipush (-3), 2) := by decide +kernel
theorem dX6_turn_25 : decode cX6_turn 25 = .ok (.ireturn, 1) := by decide +kernel
theorem dX6_turn_26 : decode cX6_turn 26 = .ok (.aload_n 0, 1) := by decide +kernel
theorem dX6_turn_27 : decode cX6_turn 27 = .ok (.getfield 18, 3) := by decide +kernel
theorem dX6_turn_30 : decode cX6_turn 30 = .ok (.aload_n 0, 1) := by decide +kernel
theorem dX6_turn_31 : decode cX6_turn 31 = .ok (.getfield 12, 3) := by decide +kernel
theorem dX6_turn_34 : decode cX6_turn 34 = .ok (.invokevirtual 151, 3) := by decide +kernel
theorem dX6_turn_37 : decode cX6_turn 37 = .ok (.aload_n 0, 1) := by decide +kernel
theorem dX6_turn_38 : decode cX6_turn 38 = .ok (.getfield 12, 3) := by decide +kernel
theorem dX6_turn_41 : decode cX6_turn 41 = .ok (.aload_n 0, 1) := by decide +kernel
theorem dX6_turn_42 : decode cX6_turn 42 = .ok (.getfield 18, 3) := by decide +kernel
theorem dX6_turn_45 : decode cX6_turn 45 = .ok (.iload_n 1, 1) := by decide +kernel
theorem dX6_turn_46 : decode cX6_turn 46 = .ok (.invokevirtual 155, 3) := by decide +kernel
theorem dX6_turn_49 : decode cX6_turn 49 = .ok (.aload_n 0, 1) := by decide +kernel
theorem dX6_turn_50 : decode cX6_turn 50 = .ok (.getfield 12, 3) := by decide +kernel
theorem dX6_turn_53 : decode cX6_turn 53 = .ok (.iconst 0, 1) := by decide +kernel
theorem dX6_turn_54 : decode cX6_turn 54 = .ok (.invokevirtual 92, 3) := by decide +kernel
theorem dX6_turn_57 : decode cX6_turn 57 = .ok (.ireturn, 1) := by decide +kernel
theorem dX6_backward_0 : decode cX6_backward 0 = .ok (.aload_n 0, 1) := by decide +kernel
theorem dX6_backward_1 : decode cX6_backward 1 = .ok (.getfield 12, 3) := by decide +kernel
theorem dX6_backward_4 : decode cX6_backward 4 = .ok (.invokevirtual 108, 3) := by decide +kernel
theorem dX6_backward_7 : decode cX6_backward 7 = .ok (.ifCond .ne 6, 3) := by decide +kernel
theorem dX6_backward_10 : decode cX6_backward 10 = .ok (.bipush (-3), 2) := by decide +kernel
theorem dX6_backward_12 : decode cX6_backward 12 = .ok (.ireturn, 1) := by decide +kernel
theorem dX6_backward_13 : decode cX6_backward 13 = .ok (.aload_n 0, 1) := by decide +kernel
theorem dX6_backward_14 : decode cX6_backward 14 = .ok (.getfield 18, 3) := by decide +kernel
theorem dX6_backward_17 : decode cX6_backward 17 = .ok (.aload_n 0, 1) := by decide +kernel
theorem dX6_backward_18 : decode cX6_backward 18 = .ok (.getfield 12, 3) := by decide +kernel
theorem dX6_backward_21 : decode cX6_backward 21 = .ok (.invokevirtual 151, 3) := by decide +kernel
theorem dX6_backward_24 : decode cX6_backward 24 = .ok (.aload_n 0, 1) := by decide +kernel
theorem dX6_backward_25 : decode cX6_backward 25 = .ok (.getfield 12, 3) := by decide +kernel
theorem dX6_backward_28 : decode cX6_backward 28 = .ok (.aload_n 0, 1) := by decide +kernel
theorem dX6_backward_29 : decode cX6_backward 29 = .ok (.getfield 18, 3) := by decide +kernel
theorem dX6_backward_32 : decode cX6_backward 32 = .ok (.invokevirtual 159, 3) := by decide +kernel
theorem dX6_backward_35 : decode cX6_backward 35 = .ok (.aload_n 0, 1) := by decide +kernel
theorem dX6_backward_36 : decode cX6_backward 36 = .ok (.getfield 12, 3) := by decide +kernel
theorem dX6_backward_39 : decode cX6_backward 39 = .ok (.iconst 0, 1) := by decide +kernel
theorem dX6_backward_40 : decode cX6_backward 40 = .ok (.invokevirtual 92, 3) := by decide +kernel
theorem dX6_backward_43 : decode cX6_backward 43 = .ok (.ireturn, 1) := by decide +kernel
theorem dX6_greatest_0 : decode cX6_greatest 0 = .ok (.aload_n 0, 1) := by decide +kernel
theorem dX6_greatest_1 : decode cX6_greatest 1 = .ok (.getfield 12, 3) := by decide +kernel
theorem dX6_greatest_4 : decode cX6_greatest 4 = .ok (.iload_n 1, 1) := by decide +kernel
theorem dX6_greatest_5 : decode cX6_greatest 5 = .ok (.invokevirtual 89, 3) := by decide +kernel
theorem dX6_greatest_8 : decode cX6_greatest 8 = .ok (.ifCond .eq 22, 3) := by decide +kernel
theorem dX6_greatest_11 : decode cX6_greatest 11 = .ok (.aload_n 0, 1) := by decide +kernel
theorem dX6_greatest_12 : decode cX6_greatest 12 = .ok (.getfield 12, 3) := by decide +kernel
theorem dX6_greatest_15 : decode cX6_greatest 15 = .ok (.aload_n 0, 1) := by decide +kernel
theorem dX6_greatest_16 : decode cX6_greatest 16 = .ok (.getfield 12, 3) := by decide +kernel
theorem dX6_greatest_19 : decode cX6_greatest 19 = .ok (.invokevirtual 162, 3) := by decide +kernel
theorem dX6_greatest_22 : decode cX6_greatest 22 = .ok (.iload_n 1, 1) := by decide +kernel
theorem dX6_greatest_23 : decode cX6_greatest 23 = .ok (.iadd, 1) := by decide +kernel
theorem dX6_greatest_24 : decode cX6_greatest 24 = .ok (.invokevirtual 92, 3) := by decide +kernel
theorem dX6_greatest_27 : decode cX6_greatest 27 = .ok (.goto 4, 3) := by decide +kernel
theorem dX6_greatest_30 : decode cX6_greatest 30 = .ok (.iconst (-1), 1) := by decide +kernel
theorem dX6_greatest_31 : decode cX6_greatest 31 = .ok (.ireturn, 1) := by decide +kernel
theorem dX6_isImage_0 : decode cX6_isImage 0 = .ok (.iload_n 0, 1) := by decide +kernel
theorem dX6_isImage_1 : decode cX6_isImage 1 = .ok (.iconst 0, 1) := by decide +kernel
theorem dX6_isImage_2 : decode cX6_isImage 2 = .ok (.iconst 2, 1) := by decide +kernel
theorem dX6_isImage_3 : decode cX6_isImage 3 = .ok (.invokestatic 104, 3) := by decide +kernel
theorem dX6_isImage_6 : decode cX6_isImage 6 = .ok (.ireturn, 1) := by decide +kernel
theorem dX6_keep_0 : decode cX6_keep 0 = .ok (.iload_n 1, 1) := by decide +kernel
theorem dX6_keep_1 : decode cX6_keep 1 = .ok (.invokestatic 165, 3) := by decide +kernel
theorem dX6_keep_4 : decode cX6_keep 4 = .ok (.ifCond .ne 5, 3) := by decide +kernel
theorem dX6_keep_7 : decode cX6_keep 7 = .ok (.iconst (-1), 1) := by decide +kernel
theorem dX6_keep_8 : decode cX6_keep 8 = .ok (.ireturn, 1) := by decide +kernel
theorem dX6_keep_9 : decode cX6_keep 9 = .ok (.aload_n 0, 1) := by decide +kernel
theorem dX6_keep_10 : decode cX6_keep 10 = .ok (.getfield 12, 3) := by decide +kernel
theorem dX6_keep_13 : decode cX6_keep 13 = .ok (.invokevirtual 96, 3) := by decide +kernel
theorem dX6_keep_16 : decode cX6_keep 16 = .ok (.ifCond .ne 6, 3) := by decide +kernel
theorem dX6_keep_19 : decode cX6_keep 19 = .ok (.bipush (-3), 2) := by decide +kernel
theorem dX6_keep_21 : decode cX6_keep 21 = .ok (.ireturn, 1) := by decide +kernel
theorem dX6_keep_22 : decode cX6_keep 22 = .ok (.aload_n 0, 1) := by decide +kernel
theorem dX6_keep_23 : decode cX6_keep 23 = .ok (.getfield 21, 3) := by decide +kernel
theorem dX6_keep_26 : decode cX6_keep 26 = .ok (.iload_n 1, 1) := by decide +kernel
theorem dX6_keep_27 : decode cX6_keep 27 = .ok (.aaload, 1) := by decide +kernel
theorem dX6_keep_28 : decode cX6_keep 28 = .ok (.aload_n 0, 1) := by decide +kernel
theorem dX6_keep_29 : decode cX6_keep 29 = .ok (.getfield 12, 3) := by decide +kernel
theorem dX6_keep_32 : decode cX6_keep 32 = .ok (.invokevirtual 151, 3) := by decide +kernel
theorem dX6_keep_35 : decode cX6_keep 35 = .ok (.iconst 1, 1) := by decide +kernel
theorem dX6_keep_36 : decode cX6_keep 36 = .ok (.ireturn, 1) := by decide +kernel
theorem dX6_back_0 : decode cX6_back 0 = .ok (.iload_n 1, 1) := by decide +kernel
theorem dX6_back_1 : decode cX6_back 1 = .ok (.invokestatic 165, 3) := by decide +kernel
theorem dX6_back_4 : decode cX6_back 4 = .ok (.ifCond .ne 5, 3) := by decide +kernel
theorem dX6_back_7 : decode cX6_back 7 = .ok (.iconst (-1), 1) := by decide +kernel
theorem dX6_back_8 : decode cX6_back 8 = .ok (.ireturn, 1) := by decide +kernel
theorem dX6_back_9 : decode cX6_back 9 = .ok (.aload_n 0, 1) := by decide +kernel
theorem dX6_back_10 : decode cX6_back 10 = .ok (.getfield 21, 3) := by decide +kernel
theorem dX6_back_13 : decode cX6_back 13 = .ok (.iload_n 1, 1) := by decide +kernel
theorem dX6_back_14 : decode cX6_back 14 = .ok (.aaload, 1) := by decide +kernel
theorem dX6_back_15 : decode cX6_back 15 = .ok (.invokevirtual 96, 3) := by decide +kernel
theorem dX6_back_18 : decode cX6_back 18 = .ok (.ifCond .ne 6, 3) := by decide +kernel
theorem dX6_back_21 : decode cX6_back 21 = .ok (.bipush (-3), 2) := by decide +kernel
theorem dX6_back_23 : decode cX6_back 23 = .ok (.ireturn, 1) := by decide +kernel
theorem dX6_back_24 : decode cX6_back 24 = .ok (.aload_n 0, 1) := by decide +kernel
theorem dX6_back_25 : decode cX6_back 25 = .ok (.getfield 12, 3) := by decide +kernel
theorem dX6_back_28 : decode cX6_back 28 = .ok (.aload_n 0, 1) := by decide +kernel
theorem dX6_back_29 : decode cX6_back 29 = .ok (.getfield 21, 3) := by decide +kernel
theorem dX6_back_32 : decode cX6_back 32 = .ok (.iload_n 1, 1) := by decide +kernel
theorem dX6_back_33 : decode cX6_back 33 = .ok (.aaload, 1) := by decide +kernel
theorem dX6_back_34 : decode cX6_back 34 = .ok (.invokevirtual 151, 3) := by decide +kernel
theorem dX6_back_37 : decode cX6_back 37 = .ok (.aload_n 0, 1) := by decide +kernel
theorem dX6_back_38 : decode cX6_back 38 = .ok (.getfield 12, 3) := by decide +kernel
theorem dX6_back_41 : decode cX6_back 41 = .ok (.getfield 86, 3) := by decide +kernel
theorem dX6_back_44 : decode cX6_back 44 = .ok (.ireturn, 1) := by decide +kernel
theorem dX6_like_0 : decode cX6_like 0 = .ok (.iload_n 1, 1) := by decide +kernel
theorem dX6_like_1 : decode cX6_like 1 = .ok (.invokestatic 165, 3) := by decide +kernel
theorem dX6_like_4 : decode cX6_like 4 = .ok (.ifCond .ne 5, 3) := by decide +kernel
theorem dX6_like_7 : decode cX6_like 7 = .ok (.iconst (-1), 1) := by decide +kernel
theorem dX6_like_8 : decode cX6_like 8 = .ok (.ireturn, 1) := by decide +kernel
theorem dX6_like_9 : decode cX6_like 9 = .ok (.aload_n 0, 1) := by decide +kernel
theorem dX6_like_10 : decode cX6_like 10 = .ok (.getfield 21, 3) := by decide +kernel
theorem dX6_like_13 : decode cX6_like 13 = .ok (.iload_n 1, 1) := by decide +kernel
theorem dX6_like_14 : decode cX6_like 14 = .ok (.aaload, 1) := by decide +kernel
theorem dX6_like_15 : decode cX6_like 15 = .ok (.invokevirtual 96, 3) := by decide +kernel
theorem dX6_like_18 : decode cX6_like 18 = .ok (.ifCond .eq 13, 3) := by decide +kernel
theorem dX6_like_21 : decode cX6_like 21 = .ok (.aload_n 0, 1) := by decide +kernel
theorem dX6_like_22 : decode cX6_like 22 = .ok (.getfield 12, 3) := by decide +kernel
theorem dX6_like_25 : decode cX6_like 25 = .ok (.invokevirtual 96, 3) := by decide +kernel
theorem dX6_like_28 : decode cX6_like 28 = .ok (.ifCond .ne 6, 3) := by decide +kernel
theorem dX6_like_31 : decode cX6_like 31 = .ok (.bipush (-3), 2) := by decide +kernel
theorem dX6_like_33 : decode cX6_like 33 = .ok (.ireturn, 1) := by decide +kernel
theorem dX6_like_34 : decode cX6_like 34 = .ok (.aload_n 0, 1) := by decide +kernel
theorem dX6_like_35 : decode cX6_like 35 = .ok (.getfield 12, 3) := by decide +kernel
theorem dX6_like_38 : decode cX6_like 38 = .ok (.aload_n 0, 1) := by decide +kernel
theorem dX6_like_39 : decode cX6_like 39 = .ok (.getfield 21, 3) := by decide +kernel
theorem dX6_like_42 : decode cX6_like 42 = .ok (.iload_n 1, 1) := by decide +kernel
theorem dX6_like_43 : decode cX6_like 43 = .ok (.aaload, 1) := by decide +kernel
theorem dX6_like_44 : decode cX6_like 44 = .ok (.invokevirtual 168, 3) := by decide +kernel
theorem dX6_like_47 : decode cX6_like 47 = .ok (.ifCond .eq 7, 3) := by decide +kernel
theorem dX6_like_50 : decode cX6_like 50 = .ok (.iconst 1, 1) := by decide +kernel
theorem dX6_like_51 : decode cX6_like 51 = .ok (.goto 4, 3) := by decide +kernel
theorem dX6_like_54 : decode cX6_like 54 = .ok (.iconst 0, 1) := by decide +kernel
theorem dX6_like_55 : decode cX6_like 55 = .ok (.ireturn, 1) := by decide +kernel
theorem dX6_howMany_0 : decode cX6_howMany 0 = .ok (.iload_n 1, 1) := by decide +kernel
theorem dX6_howMany_1 : decode cX6_howMany 1 = .ok (.iconst 1, 1) := by decide +kernel
theorem dX6_howMany_2 : decode cX6_howMany 2 = .ok (.bipush 8, 2) := by decide +kernel
theorem dX6_howMany_4 : decode cX6_howMany 4 = .ok (.invokestatic 104, 3) := by decide +kernel
theorem dX6_howMany_7 : decode cX6_howMany 7 = .ok (.ifCond .eq 23, 3) := by decide +kernel
theorem dX6_howMany_10 : decode cX6_howMany 10 = .ok (.iload_n 2, 1) := by decide +kernel
theorem dX6_howMany_11 : decode cX6_howMany 11 = .ok (.iconst 0, 1) := by decide +kernel
theorem dX6_howMany_12 : decode cX6_howMany 12 = .ok (.bipush 9, 2) := by decide +kernel
theorem dX6_howMany_14 : decode cX6_howMany 14 = .ok (.invokestatic 104, 3) := by decide +kernel
theorem dX6_howMany_17 : decode cX6_howMany 17 = .ok (.ifCond .eq 13, 3) := by decide +kernel
theorem dX6_howMany_20 : decode cX6_howMany 20 = .ok (.iload_n 3, 1) := by decide +kernel
theorem dX6_howMany_21 : decode cX6_howMany 21 = .ok (.iconst 0, 1) := by decide +kernel
theorem dX6_howMany_22 : decode cX6_howMany 22 = .ok (.bipush 9, 2) := by decide +kernel
theorem dX6_howMany_24 : decode cX6_howMany 24 = .ok (.invokestatic 104, 3) := by decide +kernel
theorem dX6_howMany_27 : decode cX6_howMany 27 = .ok (.ifCond .ne 7, 3) := by decide +kernel
theorem dX6_howMany_30 : decode cX6_howMany 30 = .ok (.ldc2_w 172, 3) := by decide +kernel
theorem dX6_howMany_33 : decode cX6_howMany 33 = .ok (.lreturn, 1) := by decide +kernel
theorem dX6_howMany_34 : decode cX6_howMany 34 = .ok (.iconst 0, 1) := by decide +kernel
theorem dX6_howMany_35 : decode cX6_howMany 35 = .ok (.istore 4, 2) := by decide +kernel
theorem dX6_howMany_37 : decode cX6_howMany 37 = .ok (.iload 4, 2) := by decide +kernel
theorem dX6_howMany_39 : decode cX6_howMany 39 = .ok (.iload_n 1, 1) := by decide +kernel
theorem dX6_howMany_40 : decode cX6_howMany 40 = .ok (.if_icmp .ge 20, 3) := by decide +kernel
theorem dX6_howMany_43 : decode cX6_howMany 43 = .ok (.aload_n 0, 1) := by decide +kernel
theorem dX6_howMany_44 : decode cX6_howMany 44 = .ok (.getfield 55, 3) := by decide +kernel
theorem dX6_howMany_47 : decode cX6_howMany 47 = .ok (.iload 4, 2) := by decide +kernel
theorem dX6_howMany_49 : decode cX6_howMany 49 = .ok (.iconst 0, 1) := by decide +kernel
theorem dX6_howMany_50 : decode cX6_howMany 50 = .ok (.iload_n 3, 1) := by decide +kernel
theorem dX6_howMany_51 : decode cX6_howMany 51 = .ok (.invokevirtual 174, 3) := by decide +kernel
theorem dX6_howMany_54 : decode cX6_howMany 54 = .ok (.iinc 4 1, 3) := by decide +kernel
theorem dX6_howMany_57 : decode cX6_howMany 57 = .ok (.goto (-20), 3) := by decide +kernel
theorem dX6_howMany_60 : decode cX6_howMany 60 = .ok (.aload_n 0, 1) := by decide +kernel
theorem dX6_howMany_61 : decode cX6_howMany 61 = .ok (.getfield 55, 3) := by decide +kernel
theorem dX6_howMany_64 : decode cX6_howMany 64 = .ok (.iload_n 1, 1) := by decide +kernel
theorem dX6_howMany_65 : decode cX6_howMany 65 = .ok (.iload_n 2, 1) := by decide +kernel
theorem dX6_howMany_66 : decode cX6_howMany 66 = .ok (.invokevirtual 178, 3) := by decide +kernel
theorem dX6_howMany_69 : decode cX6_howMany 69 = .ok (.i2l, 1) := by decide +kernel
theorem dX6_howMany_70 : decode cX6_howMany 70 = .ok (.lreturn, 1) := by decide +kernel
theorem dX6_way_0 : decode cX6_way 0 = .ok (.iload_n 1, 1) := by decide +kernel
theorem dX6_way_1 : decode cX6_way 1 = .ok (.iconst 0, 1) := by decide +kernel
theorem dX6_way_2 : decode cX6_way 2 = .ok (.sipush 511, 3) := by decide +kernel
theorem dX6_way_5 : decode cX6_way 5 = .ok (.invokestatic 104, 3) := by decide +kernel
theorem dX6_way_8 : decode cX6_way 8 = .ok (.ifCond .eq 35, 3) := by decide +kernel
theorem dX6_way_11 : decode cX6_way 11 = .ok (.iload_n 2, 1) := by decide +kernel
theorem dX6_way_12 : decode cX6_way 12 = .ok (.iconst 0, 1) := by decide +kernel
theorem dX6_way_13 : decode cX6_way 13 = .ok (.sipush 511, 3) := by decide +kernel
theorem dX6_way_16 : decode cX6_way 16 = .ok (.invokestatic 104, 3) := by decide +kernel
theorem dX6_way_19 : decode cX6_way 19 = .ok (.ifCond .eq 24, 3) := by decide +kernel
theorem dX6_way_22 : decode cX6_way 22 = .ok (.iload_n 1, 1) := by decide +kernel
theorem dX6_way_23 : decode cX6_way 23 = .ok (.invokestatic 142, 3) := by decide +kernel
theorem dX6_way_26 : decode cX6_way 26 = .ok (.iload_n 2, 1) := by decide +kernel
theorem dX6_way_27 : decode cX6_way 27 = .ok (.invokestatic 142, 3) := by decide +kernel
theorem dX6_way_30 : decode cX6_way 30 = .ok (.if_icmp .ne 13, 3) := by decide +kernel
theorem dX6_way_33 : decode cX6_way 33 = .ok (.iload_n 3, 1) := by decide +kernel
theorem dX6_way_34 : decode cX6_way 34 = .ok (.iconst 0, 1) := by decide +kernel
theorem dX6_way_35 : decode cX6_way 35 = .ok (.bipush 9, 2) := by decide +kernel
theorem dX6_way_37 : decode cX6_way 37 = .ok (.invokestatic 104, 3) := by decide +kernel
theorem dX6_way_40 : decode cX6_way 40 = .ok (.ifCond .ne 6, 3) := by decide +kernel
theorem dX6_way_43 : decode cX6_way 43 = .ok (.bipush (-2), 2) := by decide +kernel
theorem dX6_way_45 : decode cX6_way 45 = .ok (.ireturn, 1) := by decide +kernel
theorem dX6_way_46 : decode cX6_way 46 = .ok (.iload 4, 2) := by decide +kernel
theorem dX6_way_48 : decode cX6_way 48 = .ok (.iconst (-1), 1) := by decide +kernel
theorem dX6_way_49 : decode cX6_way 49 = .ok (.if_icmp .ge 5, 3) := by decide +kernel
theorem dX6_way_52 : decode cX6_way 52 = .ok (.iconst (-1), 1) := by decide +kernel
theorem dX6_way_53 : decode cX6_way 53 = .ok (.ireturn, 1) := by decide +kernel
theorem dX6_way_54 : decode cX6_way 54 = .ok (.aload_n 0, 1) := by decide +kernel
theorem dX6_way_55 : decode cX6_way 55 = .ok (.getfield 48, 3) := by decide +kernel
theorem dX6_way_58 : decode cX6_way 58 = .ok (.iload_n 2, 1) := by decide +kernel
theorem dX6_way_59 : decode cX6_way 59 = .ok (.iload_n 3, 1) := by decide +kernel
theorem dX6_way_60 : decode cX6_way 60 = .ok (.invokevirtual 181, 3) := by decide +kernel
theorem dX6_way_63 : decode cX6_way 63 = .ok (.iload 4, 2) := by decide +kernel
theorem dX6_way_65 : decode cX6_way 65 = .ok (.iconst (-1), 1) := by decide +kernel
theorem dX6_way_66 : decode cX6_way 66 = .ok (.if_icmp .ne 14, 3) := by decide +kernel
theorem dX6_way_69 : decode cX6_way 69 = .ok (.aload_n 0, 1) := by decide +kernel
theorem dX6_way_70 : decode cX6_way 70 = .ok (.getfield 48, 3) := by decide +kernel
theorem dX6_way_73 : decode cX6_way 73 = .ok (.iload_n 1, 1) := by decide +kernel
theorem dX6_way_74 : decode cX6_way 74 = .ok (.invokevirtual 184, 3) := by decide +kernel
theorem dX6_way_77 : decode cX6_way 77 = .ok (.goto 14, 3) := by decide +kernel
theorem dX6_way_80 : decode cX6_way 80 = .ok (.aload_n 0, 1) := by decide +kernel
theorem dX6_way_81 : decode cX6_way 81 = .ok (.getfield 48, 3) := by decide +kernel
theorem dX6_way_84 : decode cX6_way 84 = .ok (.iload_n 1, 1) := by decide +kernel
theorem dX6_way_85 : decode cX6_way 85 = .ok (.iload_n 3, 1) := by decide +kernel
theorem dX6_way_86 : decode cX6_way 86 = .ok (.iload 4, 2) := by decide +kernel
theorem dX6_way_88 : decode cX6_way 88 = .ok (.invokevirtual 187, 3) := by decide +kernel
theorem dX6_way_91 : decode cX6_way 91 = .ok (.ireturn, 1) := by decide +kernel
theorem dX6_areOpenOrThrows_0 : decode cX6_areOpenOrThrows 0 = .ok (.iconst 0, 1) := by decide +kernel
theorem dX6_areOpenOrThrows_1 : decode cX6_areOpenOrThrows 1 = .ok (.istore_n 3, 1) := by decide +kernel
theorem dX6_areOpenOrThrows_2 : decode cX6_areOpenOrThrows 2 = .ok (.iload_n 3, 1) := by decide +kernel
theorem dX6_areOpenOrThrows_3 : decode cX6_areOpenOrThrows 3 = .ok (.iload_n 2, 1) := by decide +kernel
theorem dX6_areOpenOrThrows_4 : decode cX6_areOpenOrThrows 4 = .ok (.if_icmp .ge 27, 3) := by decide +kernel
theorem dX6_areOpenOrThrows_7 : decode cX6_areOpenOrThrows 7 = .ok (.aload_n 0, 1) := by decide +kernel
theorem dX6_areOpenOrThrows_8 : decode cX6_areOpenOrThrows 8 = .ok (.iload_n 1, 1) := by decide +kernel
theorem dX6_areOpenOrThrows_9 : decode cX6_areOpenOrThrows 9 = .ok (.iload_n 3, 1) := by decide +kernel
theorem dX6_areOpenOrThrows_10 : decode cX6_areOpenOrThrows 10 = .ok (.iadd, 1) := by decide +kernel
theorem dX6_areOpenOrThrows_11 : decode cX6_areOpenOrThrows 11 = .ok (.invokevirtual 235, 3) := by decide +kernel
theorem dX6_areOpenOrThrows_14 : decode cX6_areOpenOrThrows 14 = .ok (.iconst (-1), 1) := by decide +kernel
theorem dX6_areOpenOrThrows_15 : decode cX6_areOpenOrThrows 15 = .ok (.bipush 9, 2) := by decide +kernel
theorem dX6_areOpenOrThrows_17 : decode cX6_areOpenOrThrows 17 = .ok (.invokestatic 104, 3) := by decide +kernel
theorem dX6_areOpenOrThrows_20 : decode cX6_areOpenOrThrows 20 = .ok (.ifCond .ne 5, 3) := by decide +kernel
theorem dX6_areOpenOrThrows_23 : decode cX6_areOpenOrThrows 23 = .ok (.iconst 0, 1) := by decide +kernel
theorem dX6_areOpenOrThrows_24 : decode cX6_areOpenOrThrows 24 = .ok (.ireturn, 1) := by decide +kernel
theorem dX6_areOpenOrThrows_25 : decode cX6_areOpenOrThrows 25 = .ok (.iinc 3 1, 3) := by decide +kernel
theorem dX6_areOpenOrThrows_28 : decode cX6_areOpenOrThrows 28 = .ok (.goto (-26), 3) := by decide +kernel
theorem dX6_areOpenOrThrows_31 : decode cX6_areOpenOrThrows 31 = .ok (.iconst 1, 1) := by decide +kernel
theorem dX6_areOpenOrThrows_32 : decode cX6_areOpenOrThrows 32 = .ok (.ireturn, 1) := by decide +kernel
theorem dX6_allowCells_0 : decode cX6_allowCells 0 = .ok (.iconst 0, 1) := by decide +kernel
theorem dX6_allowCells_1 : decode cX6_allowCells 1 = .ok (.istore 4, 2) := by decide +kernel
theorem dX6_allowCells_3 : decode cX6_allowCells 3 = .ok (.iload 4, 2) := by decide +kernel
theorem dX6_allowCells_5 : decode cX6_allowCells 5 = .ok (.iload_n 3, 1) := by decide +kernel
theorem dX6_allowCells_6 : decode cX6_allowCells 6 = .ok (.if_icmp .ge 53, 3) := by decide +kernel
theorem dX6_allowCells_9 : decode cX6_allowCells 9 = .ok (.aload_n 1, 1) := by decide +kernel
theorem dX6_allowCells_10 : decode cX6_allowCells 10 = .ok (.iload_n 2, 1) := by decide +kernel
theorem dX6_allowCells_11 : decode cX6_allowCells 11 = .ok (.iload 4, 2) := by decide +kernel
theorem dX6_allowCells_13 : decode cX6_allowCells 13 = .ok (.iadd, 1) := by decide +kernel
theorem dX6_allowCells_14 : decode cX6_allowCells 14 = .ok (.invokevirtual 235, 3) := by decide +kernel
theorem dX6_allowCells_17 : decode cX6_allowCells 17 = .ok (.istore 5, 2) := by decide +kernel
theorem dX6_allowCells_19 : decode cX6_allowCells 19 = .ok (.iload 5, 2) := by decide +kernel
theorem dX6_allowCells_21 : decode cX6_allowCells 21 = .ok (.iconst (-1), 1) := by decide +kernel
theorem dX6_allowCells_22 : decode cX6_allowCells 22 = .ok (.if_icmp .ne 18, 3) := by decide +kernel
theorem dX6_allowCells_25 : decode cX6_allowCells 25 = .ok (.aload_n 0, 1) := by decide +kernel
theorem dX6_allowCells_26 : decode cX6_allowCells 26 = .ok (.getfield 55, 3) := by decide +kernel
theorem dX6_allowCells_29 : decode cX6_allowCells 29 = .ok (.iload 4, 2) := by decide +kernel
theorem dX6_allowCells_31 : decode cX6_allowCells 31 = .ok (.iconst 0, 1) := by decide +kernel
theorem dX6_allowCells_32 : decode cX6_allowCells 32 = .ok (.bipush 9, 2) := by decide +kernel
theorem dX6_allowCells_34 : decode cX6_allowCells 34 = .ok (.invokevirtual 174, 3) := by decide +kernel
theorem dX6_allowCells_37 : decode cX6_allowCells 37 = .ok (.goto 16, 3) := by decide +kernel
theorem dX6_allowCells_40 : decode cX6_allowCells 40 = .ok (.aload_n 0, 1) := by decide +kernel
theorem dX6_allowCells_41 : decode cX6_allowCells 41 = .ok (.getfield 55, 3) := by decide +kernel
theorem dX6_allowCells_44 : decode cX6_allowCells 44 = .ok (.iload 4, 2) := by decide +kernel
theorem dX6_allowCells_46 : decode cX6_allowCells 46 = .ok (.iload 5, 2) := by decide +kernel
theorem dX6_allowCells_48 : decode cX6_allowCells 48 = .ok (.iload 5, 2) := by decide +kernel
theorem dX6_allowCells_50 : decode cX6_allowCells 50 = .ok (.invokevirtual 174, 3) := by decide +kernel
theorem dX6_allowCells_53 : decode cX6_allowCells 53 = .ok (.iinc 4 1, 3) := by decide +kernel
theorem dX6_allowCells_56 : decode cX6_allowCells 56 = .ok (.goto (-53), 3) := by decide +kernel
theorem dX6_allowCells_59 : decode cX6_allowCells 59 = .ok (.return_, 1) := by decide +kernel
theorem dX6_filled_0 : decode cX6_filled 0 = .ok (.aload_n 0, 1) := by decide +kernel
theorem dX6_filled_1 : decode cX6_filled 1 = .ok (.iconst 0, 1) := by decide +kernel
theorem dX6_filled_2 : decode cX6_filled 2 = .ok (.putfield 64, 3) := by decide +kernel
theorem dX6_filled_5 : decode cX6_filled 5 = .ok (.iload_n 1, 1) := by decide +kernel
theorem dX6_filled_6 : decode cX6_filled 6 = .ok (.invokestatic 67, 3) := by decide +kernel
theorem dX6_filled_9 : decode cX6_filled 9 = .ok (.ifCond .eq 21, 3) := by decide +kernel
theorem dX6_filled_12 : decode cX6_filled 12 = .ok (.iload_n 2, 1) := by decide +kernel
theorem dX6_filled_13 : decode cX6_filled 13 = .ok (.invokestatic 71, 3) := by decide +kernel
theorem dX6_filled_16 : decode cX6_filled 16 = .ok (.ifCond .eq 14, 3) := by decide +kernel
theorem dX6_filled_19 : decode cX6_filled 19 = .ok (.iload 5, 2) := by decide +kernel
theorem dX6_filled_21 : decode cX6_filled 21 = .ok (.iconst 0, 1) := by decide +kernel
theorem dX6_filled_22 : decode cX6_filled 22 = .ok (.bipush 9, 2) := by decide +kernel
theorem dX6_filled_24 : decode cX6_filled 24 = .ok (.invokestatic 104, 3) := by decide +kernel
theorem dX6_filled_27 : decode cX6_filled 27 = .ok (.ifCond .ne 7, 3) := by decide +kernel
theorem dX6_filled_30 : decode cX6_filled 30 = .ok (.ldc2_w 172, 3) := by decide +kernel
theorem dX6_filled_33 : decode cX6_filled 33 = .ok (.lreturn, 1) := by decide +kernel
theorem dX6_filled_34 : decode cX6_filled 34 = .ok (.aload_n 0, 1) := by decide +kernel
theorem dX6_filled_35 : decode cX6_filled 35 = .ok (.aload_n 0, 1) := by decide +kernel
theorem dX6_filled_36 : decode cX6_filled 36 = .ok (.getfield 27, 3) := by decide +kernel
theorem dX6_filled_39 : decode cX6_filled 39 = .ok (.iload_n 1, 1) := by decide +kernel
theorem dX6_filled_40 : decode cX6_filled 40 = .ok (.aaload, 1) := by decide +kernel
theorem dX6_filled_41 : decode cX6_filled 41 = .ok (.iload_n 2, 1) := by decide +kernel
theorem dX6_filled_42 : decode cX6_filled 42 = .ok (.iload_n 3, 1) := by decide +kernel
theorem dX6_filled_43 : decode cX6_filled 43 = .ok (.iload 4, 2) := by decide +kernel
theorem dX6_filled_45 : decode cX6_filled 45 = .ok (.invokevirtual 74, 3) := by decide +kernel
theorem dX6_filled_48 : decode cX6_filled 48 = .ok (.putfield 64, 3) := by decide +kernel
theorem dX6_filled_51 : decode cX6_filled 51 = .ok (.aload_n 0, 1) := by decide +kernel
theorem dX6_filled_52 : decode cX6_filled 52 = .ok (.getfield 64, 3) := by decide +kernel
theorem dX6_filled_55 : decode cX6_filled 55 = .ok (.ifCond .ne 42, 3) := by decide +kernel
theorem dX6_filled_58 : decode cX6_filled 58 = .ok (.iload 4, 2) := by decide +kernel
theorem dX6_filled_60 : decode cX6_filled 60 = .ok (.iconst 1, 1) := by decide +kernel
theorem dX6_filled_61 : decode cX6_filled 61 = .ok (.bipush 8, 2) := by decide +kernel
theorem dX6_filled_63 : decode cX6_filled 63 = .ok (.invokestatic 104, 3) := by decide +kernel
theorem dX6_filled_66 : decode cX6_filled 66 = .ok (.ifCond .eq 31, 3) := by decide +kernel
theorem dX6_filled_69 : decode cX6_filled 69 = .ok (.aload_n 0, 1) := by decide +kernel
theorem dX6_filled_70 : decode cX6_filled 70 = .ok (.getfield 27, 3) := by decide +kernel
theorem dX6_filled_73 : decode cX6_filled 73 = .ok (.iload_n 1, 1) := by decide +kernel
theorem dX6_filled_74 : decode cX6_filled 74 = .ok (.aaload, 1) := by decide +kernel
theorem dX6_filled_75 : decode cX6_filled 75 = .ok (.iload_n 3, 1) := by decide +kernel
theorem dX6_filled_76 : decode cX6_filled 76 = .ok (.iload 4, 2) := by decide +kernel
theorem dX6_filled_78 : decode cX6_filled 78 = .ok (.invokestatic 190, 3) := by decide +kernel
theorem dX6_filled_81 : decode cX6_filled 81 = .ok (.ifCond .eq 16, 3) := by decide +kernel
theorem dX6_filled_84 : decode cX6_filled 84 = .ok (.iload 6, 2) := by decide +kernel
theorem dX6_filled_86 : decode cX6_filled 86 = .ok (.iconst (-1), 1) := by decide +kernel
theorem dX6_filled_87 : decode cX6_filled 87 = .ok (.iload 4, 2) := by decide +kernel
theorem dX6_filled_89 : decode cX6_filled 89 = .ok (.iconst 1, 1) := by decide +kernel
theorem dX6_filled_90 : decode cX6_filled 90 = .ok (.isub, 1) := by decide +kernel
theorem dX6_filled_91 : decode cX6_filled 91 = .ok (.invokestatic 104, 3) := by decide +kernel
theorem dX6_filled_94 : decode cX6_filled 94 = .ok (.ifCond .ne 7, 3) := by decide +kernel
theorem dX6_filled_97 : decode cX6_filled 97 = .ok (.ldc2_w 172, 3) := by decide +kernel
theorem dX6_filled_100 : decode cX6_filled 100 = .ok (.lreturn, 1) := by decide +kernel
theorem dX6_filled_101 : decode cX6_filled 101 = .ok (.aload_n 0, 1) := by decide +kernel
theorem dX6_filled_102 : decode cX6_filled 102 = .ok (.aload_n 0, 1) := by decide +kernel
theorem dX6_filled_103 : decode cX6_filled 103 = .ok (.getfield 27, 3) := by decide +kernel
theorem dX6_filled_106 : decode cX6_filled 106 = .ok (.iload_n 1, 1) := by decide +kernel
theorem dX6_filled_107 : decode cX6_filled 107 = .ok (.aaload, 1) := by decide +kernel
theorem dX6_filled_108 : decode cX6_filled 108 = .ok (.iload_n 3, 1) := by decide +kernel
theorem dX6_filled_109 : decode cX6_filled 109 = .ok (.iload 4, 2) := by decide +kernel
theorem dX6_filled_111 : decode cX6_filled 111 = .ok (.invokevirtual 194, 3) := by decide +kernel
theorem dX6_filled_114 : decode cX6_filled 114 = .ok (.aload_n 0, 1) := by decide +kernel
theorem dX6_filled_115 : decode cX6_filled 115 = .ok (.getfield 55, 3) := by decide +kernel
theorem dX6_filled_118 : decode cX6_filled 118 = .ok (.iload 4, 2) := by decide +kernel
theorem dX6_filled_120 : decode cX6_filled 120 = .ok (.iload 5, 2) := by decide +kernel
theorem dX6_filled_122 : decode cX6_filled 122 = .ok (.invokevirtual 178, 3) := by decide +kernel
theorem dX6_filled_125 : decode cX6_filled 125 = .ok (.istore 7, 2) := by decide +kernel
theorem dX6_filled_127 : decode cX6_filled 127 = .ok (.iload 6, 2) := by decide +kernel
theorem dX6_filled_129 : decode cX6_filled 129 = .ok (.iconst (-1), 1) := by decide +kernel
theorem dX6_filled_130 : decode cX6_filled 130 = .ok (.if_icmp .ne 7, 3) := by decide +kernel
theorem dX6_filled_133 : decode cX6_filled 133 = .ok (.iload 7, 2) := by decide +kernel
theorem dX6_filled_135 : decode cX6_filled 135 = .ok (.i2l, 1) := by decide +kernel
theorem dX6_filled_136 : decode cX6_filled 136 = .ok (.lreturn, 1) := by decide +kernel
theorem dX6_filled_137 : decode cX6_filled 137 = .ok (.iload 7, 2) := by decide +kernel
theorem dX6_filled_139 : decode cX6_filled 139 = .ok (.ifCond .ne 9, 3) := by decide +kernel
theorem dX6_filled_142 : decode cX6_filled 142 = .ok (.ldc2_w 172, 3) := by decide +kernel
theorem dX6_filled_145 : decode cX6_filled 145 = .ok (.goto 17, 3) := by decide +kernel
theorem dX6_filled_148 : decode cX6_filled 148 = .ok (.aload_n 0, 1) := by decide +kernel
theorem dX6_filled_149 : decode cX6_filled 149 = .ok (.getfield 55, 3) := by decide +kernel
theorem dX6_filled_152 : decode cX6_filled 152 = .ok (.iload 4, 2) := by decide +kernel
theorem dX6_filled_154 : decode cX6_filled 154 = .ok (.iload 5, 2) := by decide +kernel
theorem dX6_filled_156 : decode cX6_filled 156 = .ok (.iload 6, 2) := by decide +kernel
theorem dX6_filled_158 : decode cX6_filled 158 = .ok (.invokevirtual 197, 3) := by decide +kernel
theorem dX6_filled_161 : decode cX6_filled 161 = .ok (.i2l, 1) := by decide +kernel
theorem dX6_filled_162 : decode cX6_filled 162 = .ok (.lreturn, 1) := by decide +kernel
theorem dX6_isKind_0 : decode cX6_isKind 0 = .ok (.iload_n 0, 1) := by decide +kernel
theorem dX6_isKind_1 : decode cX6_isKind 1 = .ok (.iconst 0, 1) := by decide +kernel
theorem dX6_isKind_2 : decode cX6_isKind 2 = .ok (.iconst 2, 1) := by decide +kernel
theorem dX6_isKind_3 : decode cX6_isKind 3 = .ok (.invokestatic 104, 3) := by decide +kernel
theorem dX6_isKind_6 : decode cX6_isKind 6 = .ok (.ireturn, 1) := by decide +kernel
theorem dX6_kind_0 : decode cX6_kind 0 = .ok (.iload_n 1, 1) := by decide +kernel
theorem dX6_kind_1 : decode cX6_kind 1 = .ok (.invokestatic 200, 3) := by decide +kernel
theorem dX6_kind_4 : decode cX6_kind 4 = .ok (.ifCond .ne 5, 3) := by decide +kernel
theorem dX6_kind_7 : decode cX6_kind 7 = .ok (.iconst (-1), 1) := by decide +kernel
theorem dX6_kind_8 : decode cX6_kind 8 = .ok (.ireturn, 1) := by decide +kernel
theorem dX6_kind_9 : decode cX6_kind 9 = .ok (.iload_n 2, 1) := by decide +kernel
theorem dX6_kind_10 : decode cX6_kind 10 = .ok (.invokestatic 203, 3) := by decide +kernel
theorem dX6_kind_13 : decode cX6_kind 13 = .ok (.ifCond .ne 6, 3) := by decide +kernel
theorem dX6_kind_16 : decode cX6_kind 16 = .ok (.bipush (-2), 2) := by decide +kernel
theorem dX6_kind_18 : decode cX6_kind 18 = .ok (.ireturn, 1) := by decide +kernel
theorem dX6_kind_19 : decode cX6_kind 19 = .ok (.aload_n 0, 1) := by decide +kernel
theorem dX6_kind_20 : decode cX6_kind 20 = .ok (.getfield 41, 3) := by decide +kernel
theorem dX6_kind_23 : decode cX6_kind 23 = .ok (.iload_n 1, 1) := by decide +kernel
theorem dX6_kind_24 : decode cX6_kind 24 = .ok (.invokevirtual 206, 3) := by decide +kernel
theorem dX6_kind_27 : decode cX6_kind 27 = .ok (.istore_n 3, 1) := by decide +kernel
theorem dX6_kind_28 : decode cX6_kind 28 = .ok (.aload_n 0, 1) := by decide +kernel
theorem dX6_kind_29 : decode cX6_kind 29 = .ok (.getfield 41, 3) := by decide +kernel
theorem dX6_kind_32 : decode cX6_kind 32 = .ok (.iload_n 1, 1) := by decide +kernel
theorem dX6_kind_33 : decode cX6_kind 33 = .ok (.iload_n 2, 1) := by decide +kernel
theorem dX6_kind_34 : decode cX6_kind 34 = .ok (.invokevirtual 209, 3) := by decide +kernel
theorem dX6_kind_37 : decode cX6_kind 37 = .ok (.iload_n 3, 1) := by decide +kernel
theorem dX6_kind_38 : decode cX6_kind 38 = .ok (.ireturn, 1) := by decide +kernel
theorem dX6_broken_0 : decode cX6_broken 0 = .ok (.aload_n 0, 1) := by decide +kernel
theorem dX6_broken_1 : decode cX6_broken 1 = .ok (.getfield 12, 3) := by decide +kernel
theorem dX6_broken_4 : decode cX6_broken 4 = .ok (.invokevirtual 108, 3) := by decide +kernel
theorem dX6_broken_7 : decode cX6_broken 7 = .ok (.ifCond .ne 6, 3) := by decide +kernel
theorem dX6_broken_10 : decode cX6_broken 10 = .ok (.bipush (-3), 2) := by decide +kernel
theorem dX6_broken_12 : decode cX6_broken 12 = .ok (.ireturn, 1) := by decide +kernel
theorem dX6_broken_13 : decode cX6_broken 13 = .ok (.aload_n 0, 1) := by decide +kernel
theorem dX6_broken_14 : decode cX6_broken 14 = .ok (.getfield 34, 3) := by decide +kernel
theorem dX6_broken_17 : decode cX6_broken 17 = .ok (.invokevirtual 129, 3) := by decide +kernel
theorem dX6_broken_20 : decode cX6_broken 20 = .ok (.iconst 0, 1) := by decide +kernel
theorem dX6_broken_21 : decode cX6_broken 21 = .ok (.istore_n 1, 1) := by decide +kernel
theorem dX6_broken_22 : decode cX6_broken 22 = .ok (.iconst 0, 1) := by decide +kernel
theorem dX6_broken_23 : decode cX6_broken 23 = .ok (.istore_n 2, 1) := by decide +kernel
theorem dX6_broken_24 : decode cX6_broken 24 = .ok (.iload_n 2, 1) := by decide +kernel
theorem dX6_broken_25 : decode cX6_broken 25 = .ok (.bipush 81, 2) := by decide +kernel
theorem dX6_broken_27 : decode cX6_broken 27 = .ok (.if_icmp .ge 57, 3) := by decide +kernel
theorem dX6_broken_30 : decode cX6_broken 30 = .ok (.aload_n 0, 1) := by decide +kernel
theorem dX6_broken_31 : decode cX6_broken 31 = .ok (.getfield 34, 3) := by decide +kernel
theorem dX6_broken_34 : decode cX6_broken 34 = .ok (.iload_n 2, 1) := by decide +kernel
theorem dX6_broken_35 : decode cX6_broken 35 = .ok (.aload_n 0, 1) := by decide +kernel
theorem dX6_broken_36 : decode cX6_broken 36 = .ok (.getfield 12, 3) := by decide +kernel
theorem dX6_broken_39 : decode cX6_broken 39 = .ok (.iload_n 2, 1) := by decide +kernel
theorem dX6_broken_40 : decode cX6_broken 40 = .ok (.invokevirtual 92, 3) := by decide +kernel
theorem dX6_broken_43 : decode cX6_broken 43 = .ok (.invokevirtual 132, 3) := by decide +kernel
theorem dX6_broken_46 : decode cX6_broken 46 = .ok (.istore_n 3, 1) := by decide +kernel
theorem dX6_broken_47 : decode cX6_broken 47 = .ok (.iload_n 3, 1) := by decide +kernel
theorem dX6_broken_48 : decode cX6_broken 48 = .ok (.bipush (-9), 2) := by decide +kernel
theorem dX6_broken_50 : decode cX6_broken 50 = .ok (.if_icmp .eq 28, 3) := by decide +kernel
theorem dX6_broken_53 : decode cX6_broken 53 = .ok (.aload_n 0, 1) := by decide +kernel
theorem dX6_broken_54 : decode cX6_broken 54 = .ok (.getfield 12, 3) := by decide +kernel
theorem dX6_broken_57 : decode cX6_broken 57 = .ok (.iload_n 2, 1) := by decide +kernel
theorem dX6_broken_58 : decode cX6_broken 58 = .ok (.invokevirtual 92, 3) := by decide +kernel
theorem dX6_broken_61 : decode cX6_broken 61 = .ok (.aload_n 0, 1) := by decide +kernel
theorem dX6_broken_62 : decode cX6_broken 62 = .ok (.getfield 41, 3) := by decide +kernel
theorem dX6_broken_65 : decode cX6_broken 65 = .ok (.iload_n 3, 1) := by decide +kernel
theorem dX6_broken_66 : decode cX6_broken 66 = .ok (.invokevirtual 212, 3) := by decide +kernel
theorem dX6_broken_69 : decode cX6_broken 69 = .ok (.if_icmp .le 9, 3) := by decide +kernel
theorem dX6_broken_72 : decode cX6_broken 72 = .ok (.iload_n 1, 1) := by decide +kernel
theorem dX6_broken_73 : decode cX6_broken 73 = .ok (.iconst 1, 1) := by decide +kernel
theorem dX6_broken_74 : decode cX6_broken 74 = .ok (.iload_n 3, 1) := by decide +kernel
theorem dX6_broken_75 : decode cX6_broken 75 = .ok (.ishl, 1) := by decide +kernel
theorem dX6_broken_76 : decode cX6_broken 76 = .ok (.ior, 1) := by decide +kernel
theorem dX6_broken_77 : decode cX6_broken 77 = .ok (.istore_n 1, 1) := by decide +kernel
theorem dX6_broken_78 : decode cX6_broken 78 = .ok (.iinc 2 1, 3) := by decide +kernel
theorem dX6_broken_81 : decode cX6_broken 81 = .ok (.goto (-57), 3) := by decide +kernel
theorem dX6_broken_84 : decode cX6_broken 84 = .ok (.iload_n 1, 1) := by decide +kernel
theorem dX6_broken_85 : decode cX6_broken 85 = .ok (.ireturn, 1) := by decide +kernel
theorem dX6_drop_0 : decode cX6_drop 0 = .ok (.iload_n 1, 1) := by decide +kernel
theorem dX6_drop_1 : decode cX6_drop 1 = .ok (.iconst 0, 1) := by decide +kernel
theorem dX6_drop_2 : decode cX6_drop 2 = .ok (.sipush 1023, 3) := by decide +kernel
theorem dX6_drop_5 : decode cX6_drop 5 = .ok (.invokestatic 104, 3) := by decide +kernel
theorem dX6_drop_8 : decode cX6_drop 8 = .ok (.ifCond .ne 6, 3) := by decide +kernel
theorem dX6_drop_11 : decode cX6_drop 11 = .ok (.bipush (-2), 2) := by decide +kernel
theorem dX6_drop_13 : decode cX6_drop 13 = .ok (.ireturn, 1) := by decide +kernel
theorem dX6_drop_14 : decode cX6_drop 14 = .ok (.aload_n 0, 1) := by decide +kernel
theorem dX6_drop_15 : decode cX6_drop 15 = .ok (.getfield 12, 3) := by decide +kernel
theorem dX6_drop_18 : decode cX6_drop 18 = .ok (.invokevirtual 96, 3) := by decide +kernel
theorem dX6_drop_21 : decode cX6_drop 21 = .ok (.ifCond .ne 6, 3) := by decide +kernel
theorem dX6_drop_24 : decode cX6_drop 24 = .ok (.bipush (-3), 2) := by decide +kernel
theorem dX6_drop_26 : decode cX6_drop 26 = .ok (.ireturn, 1) := by decide +kernel
theorem dX6_drop_27 : decode cX6_drop 27 = .ok (.aload_n 0, 1) := by decide +kernel
theorem dX6_drop_28 : decode cX6_drop 28 = .ok (.getfield 215, 3) := by decide +kernel
theorem dX6_drop_31 : decode cX6_drop 31 = .ok (.istore_n 2, 1) := by decide +kernel
theorem dX6_drop_32 : decode cX6_drop 32 = .ok (.aload_n 0, 1) := by decide +kernel
theorem dX6_drop_33 : decode cX6_drop 33 = .ok (.iload_n 1, 1) := by decide +kernel
theorem dX6_drop_34 : decode cX6_drop 34 = .ok (.putfield 215, 3) := by decide +kernel
theorem dX6_drop_37 : decode cX6_drop 37 = .ok (.iload_n 2, 1) := by decide +kernel
theorem dX6_drop_38 : decode cX6_drop 38 = .ok (.ireturn, 1) := by decide +kernel
theorem dX6_empty_0 : decode cX6_empty 0 = .ok (.iload_n 1, 1) := by decide +kernel
theorem dX6_empty_1 : decode cX6_empty 1 = .ok (.iconst 0, 1) := by decide +kernel
theorem dX6_empty_2 : decode cX6_empty 2 = .ok (.sipush 999, 3) := by decide +kernel
theorem dX6_empty_5 : decode cX6_empty 5 = .ok (.invokestatic 104, 3) := by decide +kernel
theorem dX6_empty_8 : decode cX6_empty 8 = .ok (.ifCond .ne 6, 3) := by decide +kernel
theorem dX6_empty_11 : decode cX6_empty 11 = .ok (.bipush (-2), 2) := by decide +kernel
theorem dX6_empty_13 : decode cX6_empty 13 = .ok (.ireturn, 1) := by decide +kernel
theorem dX6_empty_14 : decode cX6_empty 14 = .ok (.aload_n 0, 1) := by decide +kernel
theorem dX6_empty_15 : decode cX6_empty 15 = .ok (.getfield 12, 3) := by decide +kernel
theorem dX6_empty_18 : decode cX6_empty 18 = .ok (.invokevirtual 108, 3) := by decide +kernel
theorem dX6_empty_21 : decode cX6_empty 21 = .ok (.ifCond .ne 6, 3) := by decide +kernel
theorem dX6_empty_24 : decode cX6_empty 24 = .ok (.bipush (-3), 2) := by decide +kernel
theorem dX6_empty_26 : decode cX6_empty 26 = .ok (.ireturn, 1) := by decide +kernel
theorem dX6_empty_27 : decode cX6_empty 27 = .ok (.aload_n 0, 1) := by decide +kernel
theorem dX6_empty_28 : decode cX6_empty 28 = .ok (.getfield 34, 3) := by decide +kernel
theorem dX6_empty_31 : decode cX6_empty 31 = .ok (.invokevirtual 129, 3) := by decide +kernel
theorem dX6_empty_34 : decode cX6_empty 34 = .ok (.iconst 0, 1) := by decide +kernel
theorem dX6_empty_35 : decode cX6_empty 35 = .ok (.istore_n 2, 1) := by decide +kernel
theorem dX6_empty_36 : decode cX6_empty 36 = .ok (.iconst 0, 1) := by decide +kernel
theorem dX6_empty_37 : decode cX6_empty 37 = .ok (.istore_n 3, 1) := by decide +kernel
theorem dX6_empty_38 : decode cX6_empty 38 = .ok (.iload_n 3, 1) := by decide +kernel
theorem dX6_empty_39 : decode cX6_empty 39 = .ok (.iload_n 1, 1) := by decide +kernel
theorem dX6_empty_40 : decode cX6_empty 40 = .ok (.if_icmp .gt 50, 3) := by decide +kernel
theorem dX6_empty_43 : decode cX6_empty 43 = .ok (.aload_n 0, 1) := by decide +kernel
theorem dX6_empty_44 : decode cX6_empty 44 = .ok (.getfield 34, 3) := by decide +kernel
theorem dX6_empty_47 : decode cX6_empty 47 = .ok (.iload_n 3, 1) := by decide +kernel
theorem dX6_empty_48 : decode cX6_empty 48 = .ok (.aload_n 0, 1) := by decide +kernel
theorem dX6_empty_49 : decode cX6_empty 49 = .ok (.getfield 12, 3) := by decide +kernel
theorem dX6_empty_52 : decode cX6_empty 52 = .ok (.iload_n 3, 1) := by decide +kernel
theorem dX6_empty_53 : decode cX6_empty 53 = .ok (.invokevirtual 92, 3) := by decide +kernel
theorem dX6_empty_56 : decode cX6_empty 56 = .ok (.invokevirtual 132, 3) := by decide +kernel
theorem dX6_empty_59 : decode cX6_empty 59 = .ok (.istore 4, 2) := by decide +kernel
theorem dX6_empty_61 : decode cX6_empty 61 = .ok (.iload 4, 2) := by decide +kernel
theorem dX6_empty_63 : decode cX6_empty 63 = .ok (.bipush (-9), 2) := by decide +kernel
theorem dX6_empty_65 : decode cX6_empty 65 = .ok (.if_icmp .eq 19, 3) := by decide +kernel
theorem dX6_empty_68 : decode cX6_empty 68 = .ok (.aload_n 0, 1) := by decide +kernel
theorem dX6_empty_69 : decode cX6_empty 69 = .ok (.getfield 215, 3) := by decide +kernel
theorem dX6_empty_72 : decode cX6_empty 72 = .ok (.iload 4, 2) := by decide +kernel
theorem dX6_empty_74 : decode cX6_empty 74 = .ok (.ishr, 1) := by decide +kernel
theorem dX6_empty_75 : decode cX6_empty 75 = .ok (.iconst 1, 1) := by decide +kernel
theorem dX6_empty_76 : decode cX6_empty 76 = .ok (.iand, 1) := by decide +kernel
theorem dX6_empty_77 : decode cX6_empty 77 = .ok (.iconst 1, 1) := by decide +kernel
theorem dX6_empty_78 : decode cX6_empty 78 = .ok (.if_icmp .ne 6, 3) := by decide +kernel
theorem dX6_empty_81 : decode cX6_empty 81 = .ok (.iinc 2 1, 3) := by decide +kernel
theorem dX6_empty_84 : decode cX6_empty 84 = .ok (.iinc 3 1, 3) := by decide +kernel
theorem dX6_empty_87 : decode cX6_empty 87 = .ok (.goto (-49), 3) := by decide +kernel
theorem dX6_empty_90 : decode cX6_empty 90 = .ok (.iload_n 2, 1) := by decide +kernel
theorem dX6_empty_91 : decode cX6_empty 91 = .ok (.ireturn, 1) := by decide +kernel
theorem dX6_faulted_0 : decode cX6_faulted 0 = .ok (.aload_n 0, 1) := by decide +kernel
theorem dX6_faulted_1 : decode cX6_faulted 1 = .ok (.iload_n 1, 1) := by decide +kernel
theorem dX6_faulted_2 : decode cX6_faulted 2 = .ok (.putfield 64, 3) := by decide +kernel
theorem dX6_faulted_5 : decode cX6_faulted 5 = .ok (.bipush (-10), 2) := by decide +kernel
theorem dX6_faulted_7 : decode cX6_faulted 7 = .ok (.iload_n 1, 1) := by decide +kernel
theorem dX6_faulted_8 : decode cX6_faulted 8 = .ok (.isub, 1) := by decide +kernel
theorem dX6_faulted_9 : decode cX6_faulted 9 = .ok (.ireturn, 1) := by decide +kernel
theorem dX6_sheet_0 : decode cX6_sheet 0 = .ok (.aload_n 0, 1) := by decide +kernel
theorem dX6_sheet_1 : decode cX6_sheet 1 = .ok (.iconst 0, 1) := by decide +kernel
theorem dX6_sheet_2 : decode cX6_sheet 2 = .ok (.putfield 64, 3) := by decide +kernel
theorem dX6_sheet_5 : decode cX6_sheet 5 = .ok (.iload_n 1, 1) := by decide +kernel
theorem dX6_sheet_6 : decode cX6_sheet 6 = .ok (.invokestatic 67, 3) := by decide +kernel
theorem dX6_sheet_9 : decode cX6_sheet 9 = .ok (.ifCond .ne 5, 3) := by decide +kernel
theorem dX6_sheet_12 : decode cX6_sheet 12 = .ok (.iconst (-1), 1) := by decide +kernel
theorem dX6_sheet_13 : decode cX6_sheet 13 = .ok (.ireturn, 1) := by decide +kernel
theorem dX6_sheet_14 : decode cX6_sheet 14 = .ok (.iload_n 2, 1) := by decide +kernel
theorem dX6_sheet_15 : decode cX6_sheet 15 = .ok (.invokestatic 71, 3) := by decide +kernel
theorem dX6_sheet_18 : decode cX6_sheet 18 = .ok (.ifCond .eq 9, 3) := by decide +kernel
theorem dX6_sheet_21 : decode cX6_sheet 21 = .ok (.iload_n 3, 1) := by decide +kernel
theorem dX6_sheet_22 : decode cX6_sheet 22 = .ok (.bipush 40, 2) := by decide +kernel
theorem dX6_sheet_24 : decode cX6_sheet 24 = .ok (.if_icmp .le 6, 3) := by decide +kernel
theorem dX6_sheet_27 : decode cX6_sheet 27 = .ok (.bipush (-2), 2) := by decide +kernel
theorem dX6_sheet_29 : decode cX6_sheet 29 = .ok (.ireturn, 1) := by decide +kernel
theorem dX6_sheet_30 : decode cX6_sheet 30 = .ok (.iload_n 3, 1) := by decide +kernel
theorem dX6_sheet_31 : decode cX6_sheet 31 = .ok (.ifCond .ge 9, 3) := by decide +kernel
theorem dX6_sheet_34 : decode cX6_sheet 34 = .ok (.aload_n 0, 1) := by decide +kernel
theorem dX6_sheet_35 : decode cX6_sheet 35 = .ok (.iconst 4, 1) := by decide +kernel
theorem dX6_sheet_36 : decode cX6_sheet 36 = .ok (.invokevirtual 218, 3) := by decide +kernel
theorem dX6_sheet_39 : decode cX6_sheet 39 = .ok (.ireturn, 1) := by decide +kernel
theorem dX6_sheet_40 : decode cX6_sheet 40 = .ok (.aload_n 0, 1) := by decide +kernel
theorem dX6_sheet_41 : decode cX6_sheet 41 = .ok (.getfield 27, 3) := by decide +kernel
theorem dX6_sheet_44 : decode cX6_sheet 44 = .ok (.iload_n 1, 1) := by decide +kernel
theorem dX6_sheet_45 : decode cX6_sheet 45 = .ok (.aaload, 1) := by decide +kernel
theorem dX6_sheet_46 : decode cX6_sheet 46 = .ok (.iload_n 2, 1) := by decide +kernel
theorem dX6_sheet_47 : decode cX6_sheet 47 = .ok (.iload_n 3, 1) := by decide +kernel
theorem dX6_sheet_48 : decode cX6_sheet 48 = .ok (.invokevirtual 221, 3) := by decide +kernel
theorem dX6_sheet_51 : decode cX6_sheet 51 = .ok (.iconst 1, 1) := by decide +kernel
theorem dX6_sheet_52 : decode cX6_sheet 52 = .ok (.ireturn, 1) := by decide +kernel
theorem dX6_lose_0 : decode cX6_lose 0 = .ok (.iload_n 1, 1) := by decide +kernel
theorem dX6_lose_1 : decode cX6_lose 1 = .ok (.invokestatic 67, 3) := by decide +kernel
theorem dX6_lose_4 : decode cX6_lose 4 = .ok (.ifCond .ne 5, 3) := by decide +kernel
theorem dX6_lose_7 : decode cX6_lose 7 = .ok (.iconst (-1), 1) := by decide +kernel
theorem dX6_lose_8 : decode cX6_lose 8 = .ok (.ireturn, 1) := by decide +kernel
theorem dX6_lose_9 : decode cX6_lose 9 = .ok (.aload_n 0, 1) := by decide +kernel
theorem dX6_lose_10 : decode cX6_lose 10 = .ok (.getfield 27, 3) := by decide +kernel
theorem dX6_lose_13 : decode cX6_lose 13 = .ok (.iload_n 1, 1) := by decide +kernel
theorem dX6_lose_14 : decode cX6_lose 14 = .ok (.aaload, 1) := by decide +kernel
theorem dX6_lose_15 : decode cX6_lose 15 = .ok (.invokevirtual 224, 3) := by decide +kernel
theorem dX6_lose_18 : decode cX6_lose 18 = .ok (.ifCond .eq 7, 3) := by decide +kernel
theorem dX6_lose_21 : decode cX6_lose 21 = .ok (.iconst 1, 1) := by decide +kernel
theorem dX6_lose_22 : decode cX6_lose 22 = .ok (.goto 4, 3) := by decide +kernel
theorem dX6_lose_25 : decode cX6_lose 25 = .ok (.iconst 0, 1) := by decide +kernel
theorem dX6_lose_26 : decode cX6_lose 26 = .ok (.ireturn, 1) := by decide +kernel
theorem dX6_put_0 : decode cX6_put 0 = .ok (.aload_n 0, 1) := by decide +kernel
theorem dX6_put_1 : decode cX6_put 1 = .ok (.iconst 0, 1) := by decide +kernel
theorem dX6_put_2 : decode cX6_put 2 = .ok (.putfield 64, 3) := by decide +kernel
theorem dX6_put_5 : decode cX6_put 5 = .ok (.iload_n 1, 1) := by decide +kernel
theorem dX6_put_6 : decode cX6_put 6 = .ok (.invokestatic 67, 3) := by decide +kernel
theorem dX6_put_9 : decode cX6_put 9 = .ok (.ifCond .ne 5, 3) := by decide +kernel
theorem dX6_put_12 : decode cX6_put 12 = .ok (.iconst (-1), 1) := by decide +kernel
theorem dX6_put_13 : decode cX6_put 13 = .ok (.ireturn, 1) := by decide +kernel
theorem dX6_put_14 : decode cX6_put 14 = .ok (.aload_n 0, 1) := by decide +kernel
theorem dX6_put_15 : decode cX6_put 15 = .ok (.getfield 27, 3) := by decide +kernel
theorem dX6_put_18 : decode cX6_put 18 = .ok (.iload_n 1, 1) := by decide +kernel
theorem dX6_put_19 : decode cX6_put 19 = .ok (.aaload, 1) := by decide +kernel
theorem dX6_put_20 : decode cX6_put 20 = .ok (.invokevirtual 227, 3) := by decide +kernel
theorem dX6_put_23 : decode cX6_put 23 = .ok (.ifCond .ne 9, 3) := by decide +kernel
theorem dX6_put_26 : decode cX6_put 26 = .ok (.aload_n 0, 1) := by decide +kernel
theorem dX6_put_27 : decode cX6_put 27 = .ok (.iconst 1, 1) := by decide +kernel
theorem dX6_put_28 : decode cX6_put 28 = .ok (.invokevirtual 218, 3) := by decide +kernel
theorem dX6_put_31 : decode cX6_put 31 = .ok (.ireturn, 1) := by decide +kernel
theorem dX6_put_32 : decode cX6_put 32 = .ok (.aload_n 0, 1) := by decide +kernel
theorem dX6_put_33 : decode cX6_put 33 = .ok (.getfield 27, 3) := by decide +kernel
theorem dX6_put_36 : decode cX6_put 36 = .ok (.iload_n 1, 1) := by decide +kernel
theorem dX6_put_37 : decode cX6_put 37 = .ok (.aaload, 1) := by decide +kernel
theorem dX6_put_38 : decode cX6_put 38 = .ok (.iload_n 2, 1) := by decide +kernel
theorem dX6_put_39 : decode cX6_put 39 = .ok (.iconst 1, 1) := by decide +kernel
theorem dX6_put_40 : decode cX6_put 40 = .ok (.invokevirtual 228, 3) := by decide +kernel
theorem dX6_put_43 : decode cX6_put 43 = .ok (.ifCond .ne 9, 3) := by decide +kernel
theorem dX6_put_46 : decode cX6_put 46 = .ok (.aload_n 0, 1) := by decide +kernel
theorem dX6_put_47 : decode cX6_put 47 = .ok (.iconst 3, 1) := by decide +kernel
theorem dX6_put_48 : decode cX6_put 48 = .ok (.invokevirtual 218, 3) := by decide +kernel
theorem dX6_put_51 : decode cX6_put 51 = .ok (.ireturn, 1) := by decide +kernel
theorem dX6_put_52 : decode cX6_put 52 = .ok (.aload_n 0, 1) := by decide +kernel
theorem dX6_put_53 : decode cX6_put 53 = .ok (.getfield 27, 3) := by decide +kernel
theorem dX6_put_56 : decode cX6_put 56 = .ok (.iload_n 1, 1) := by decide +kernel
theorem dX6_put_57 : decode cX6_put 57 = .ok (.aaload, 1) := by decide +kernel
theorem dX6_put_58 : decode cX6_put 58 = .ok (.iload_n 2, 1) := by decide +kernel
theorem dX6_put_59 : decode cX6_put 59 = .ok (.iload_n 3, 1) := by decide +kernel
theorem dX6_put_60 : decode cX6_put 60 = .ok (.invokevirtual 232, 3) := by decide +kernel
theorem dX6_put_63 : decode cX6_put 63 = .ok (.iconst 1, 1) := by decide +kernel
theorem dX6_put_64 : decode cX6_put 64 = .ok (.ireturn, 1) := by decide +kernel
theorem dX6_cell_0 : decode cX6_cell 0 = .ok (.aload_n 0, 1) := by decide +kernel
theorem dX6_cell_1 : decode cX6_cell 1 = .ok (.iconst 0, 1) := by decide +kernel
theorem dX6_cell_2 : decode cX6_cell 2 = .ok (.putfield 64, 3) := by decide +kernel
theorem dX6_cell_5 : decode cX6_cell 5 = .ok (.iload_n 1, 1) := by decide +kernel
theorem dX6_cell_6 : decode cX6_cell 6 = .ok (.invokestatic 67, 3) := by decide +kernel
theorem dX6_cell_9 : decode cX6_cell 9 = .ok (.ifCond .eq 10, 3) := by decide +kernel
theorem dX6_cell_12 : decode cX6_cell 12 = .ok (.iload_n 3, 1) := by decide +kernel
theorem dX6_cell_13 : decode cX6_cell 13 = .ok (.invokestatic 71, 3) := by decide +kernel
theorem dX6_cell_16 : decode cX6_cell 16 = .ok (.ifCond .ne 7, 3) := by decide +kernel
theorem dX6_cell_19 : decode cX6_cell 19 = .ok (.ldc2_w 172, 3) := by decide +kernel
theorem dX6_cell_22 : decode cX6_cell 22 = .ok (.lreturn, 1) := by decide +kernel
theorem dX6_cell_23 : decode cX6_cell 23 = .ok (.aload_n 0, 1) := by decide +kernel
theorem dX6_cell_24 : decode cX6_cell 24 = .ok (.aload_n 0, 1) := by decide +kernel
theorem dX6_cell_25 : decode cX6_cell 25 = .ok (.getfield 27, 3) := by decide +kernel
theorem dX6_cell_28 : decode cX6_cell 28 = .ok (.iload_n 1, 1) := by decide +kernel
theorem dX6_cell_29 : decode cX6_cell 29 = .ok (.aaload, 1) := by decide +kernel
theorem dX6_cell_30 : decode cX6_cell 30 = .ok (.iload_n 3, 1) := by decide +kernel
theorem dX6_cell_31 : decode cX6_cell 31 = .ok (.iload_n 2, 1) := by decide +kernel
theorem dX6_cell_32 : decode cX6_cell 32 = .ok (.iconst 1, 1) := by decide +kernel
theorem dX6_cell_33 : decode cX6_cell 33 = .ok (.invokevirtual 74, 3) := by decide +kernel
theorem dX6_cell_36 : decode cX6_cell 36 = .ok (.putfield 64, 3) := by decide +kernel
theorem dX6_cell_39 : decode cX6_cell 39 = .ok (.aload_n 0, 1) := by decide +kernel
theorem dX6_cell_40 : decode cX6_cell 40 = .ok (.getfield 64, 3) := by decide +kernel
theorem dX6_cell_43 : decode cX6_cell 43 = .ok (.ifCond .eq 9, 3) := by decide +kernel
theorem dX6_cell_46 : decode cX6_cell 46 = .ok (.ldc2_w 172, 3) := by decide +kernel
theorem dX6_cell_49 : decode cX6_cell 49 = .ok (.goto 14, 3) := by decide +kernel
theorem dX6_cell_52 : decode cX6_cell 52 = .ok (.aload_n 0, 1) := by decide +kernel
theorem dX6_cell_53 : decode cX6_cell 53 = .ok (.getfield 27, 3) := by decide +kernel
theorem dX6_cell_56 : decode cX6_cell 56 = .ok (.iload_n 1, 1) := by decide +kernel
theorem dX6_cell_57 : decode cX6_cell 57 = .ok (.aaload, 1) := by decide +kernel
theorem dX6_cell_58 : decode cX6_cell 58 = .ok (.iload_n 2, 1) := by decide +kernel
theorem dX6_cell_59 : decode cX6_cell 59 = .ok (.invokevirtual 235, 3) := by decide +kernel
theorem dX6_cell_62 : decode cX6_cell 62 = .ok (.i2l, 1) := by decide +kernel
theorem dX6_cell_63 : decode cX6_cell 63 = .ok (.lreturn, 1) := by decide +kernel
theorem dX6_copy_0 : decode cX6_copy 0 = .ok (.aload_n 0, 1) := by decide +kernel
theorem dX6_copy_1 : decode cX6_copy 1 = .ok (.iconst 0, 1) := by decide +kernel
theorem dX6_copy_2 : decode cX6_copy 2 = .ok (.putfield 64, 3) := by decide +kernel
theorem dX6_copy_5 : decode cX6_copy 5 = .ok (.iload_n 1, 1) := by decide +kernel
theorem dX6_copy_6 : decode cX6_copy 6 = .ok (.invokestatic 67, 3) := by decide +kernel
theorem dX6_copy_9 : decode cX6_copy 9 = .ok (.ifCond .eq 10, 3) := by decide +kernel
theorem dX6_copy_12 : decode cX6_copy 12 = .ok (.iload_n 3, 1) := by decide +kernel
theorem dX6_copy_13 : decode cX6_copy 13 = .ok (.invokestatic 67, 3) := by decide +kernel
theorem dX6_copy_16 : decode cX6_copy 16 = .ok (.ifCond .ne 5, 3) := by decide +kernel
theorem dX6_copy_19 : decode cX6_copy 19 = .ok (.iconst (-1), 1) := by decide +kernel
theorem dX6_copy_20 : decode cX6_copy 20 = .ok (.ireturn, 1) := by decide +kernel
theorem dX6_copy_21 : decode cX6_copy 21 = .ok (.aload_n 0, 1) := by decide +kernel
theorem dX6_copy_22 : decode cX6_copy 22 = .ok (.getfield 27, 3) := by decide +kernel
theorem dX6_copy_25 : decode cX6_copy 25 = .ok (.iload_n 1, 1) := by decide +kernel
theorem dX6_copy_26 : decode cX6_copy 26 = .ok (.aaload, 1) := by decide +kernel
theorem dX6_copy_27 : decode cX6_copy 27 = .ok (.astore 6, 2) := by decide +kernel
theorem dX6_copy_29 : decode cX6_copy 29 = .ok (.aload_n 0, 1) := by decide +kernel
theorem dX6_copy_30 : decode cX6_copy 30 = .ok (.getfield 27, 3) := by decide +kernel
theorem dX6_copy_33 : decode cX6_copy 33 = .ok (.iload_n 3, 1) := by decide +kernel
theorem dX6_copy_34 : decode cX6_copy 34 = .ok (.aaload, 1) := by decide +kernel
theorem dX6_copy_35 : decode cX6_copy 35 = .ok (.astore 7, 2) := by decide +kernel
theorem dX6_copy_37 : decode cX6_copy 37 = .ok (.aload 6, 2) := by decide +kernel
theorem dX6_copy_39 : decode cX6_copy 39 = .ok (.invokevirtual 227, 3) := by decide +kernel
theorem dX6_copy_42 : decode cX6_copy 42 = .ok (.ifCond .eq 11, 3) := by decide +kernel
theorem dX6_copy_45 : decode cX6_copy 45 = .ok (.aload 7, 2) := by decide +kernel
theorem dX6_copy_47 : decode cX6_copy 47 = .ok (.invokevirtual 227, 3) := by decide +kernel
theorem dX6_copy_50 : decode cX6_copy 50 = .ok (.ifCond .ne 9, 3) := by decide +kernel
theorem dX6_copy_53 : decode cX6_copy 53 = .ok (.aload_n 0, 1) := by decide +kernel
theorem dX6_copy_54 : decode cX6_copy 54 = .ok (.iconst 1, 1) := by decide +kernel
theorem dX6_copy_55 : decode cX6_copy 55 = .ok (.invokevirtual 218, 3) := by decide +kernel
theorem dX6_copy_58 : decode cX6_copy 58 = .ok (.ireturn, 1) := by decide +kernel
theorem dX6_copy_59 : decode cX6_copy 59 = .ok (.aload 6, 2) := by decide +kernel
theorem dX6_copy_61 : decode cX6_copy 61 = .ok (.getfield 238, 3) := by decide +kernel
theorem dX6_copy_64 : decode cX6_copy 64 = .ok (.aload 7, 2) := by decide +kernel
theorem dX6_copy_66 : decode cX6_copy 66 = .ok (.getfield 238, 3) := by decide +kernel
theorem dX6_copy_69 : decode cX6_copy 69 = .ok (.if_icmp .eq 9, 3) := by decide +kernel
theorem dX6_copy_72 : decode cX6_copy 72 = .ok (.aload_n 0, 1) := by decide +kernel
theorem dX6_copy_73 : decode cX6_copy 73 = .ok (.iconst 2, 1) := by decide +kernel
theorem dX6_copy_74 : decode cX6_copy 74 = .ok (.invokevirtual 218, 3) := by decide +kernel
theorem dX6_copy_77 : decode cX6_copy 77 = .ok (.ireturn, 1) := by decide +kernel
theorem dX6_copy_78 : decode cX6_copy 78 = .ok (.iload 5, 2) := by decide +kernel
theorem dX6_copy_80 : decode cX6_copy 80 = .ok (.ifCond .lt 26, 3) := by decide +kernel
theorem dX6_copy_83 : decode cX6_copy 83 = .ok (.aload 6, 2) := by decide +kernel
theorem dX6_copy_85 : decode cX6_copy 85 = .ok (.iload_n 2, 1) := by decide +kernel
theorem dX6_copy_86 : decode cX6_copy 86 = .ok (.iload 5, 2) := by decide +kernel
theorem dX6_copy_88 : decode cX6_copy 88 = .ok (.invokevirtual 228, 3) := by decide +kernel
theorem dX6_copy_91 : decode cX6_copy 91 = .ok (.ifCond .eq 15, 3) := by decide +kernel
theorem dX6_copy_94 : decode cX6_copy 94 = .ok (.aload 7, 2) := by decide +kernel
theorem dX6_copy_96 : decode cX6_copy 96 = .ok (.iload 4, 2) := by decide +kernel
theorem dX6_copy_98 : decode cX6_copy 98 = .ok (.iload 5, 2) := by decide +kernel
theorem dX6_copy_100 : decode cX6_copy 100 = .ok (.invokevirtual 228, 3) := by decide +kernel
theorem dX6_copy_103 : decode cX6_copy 103 = .ok (.ifCond .ne 9, 3) := by decide +kernel
theorem dX6_copy_106 : decode cX6_copy 106 = .ok (.aload_n 0, 1) := by decide +kernel
theorem dX6_copy_107 : decode cX6_copy 107 = .ok (.iconst 3, 1) := by decide +kernel
theorem dX6_copy_108 : decode cX6_copy 108 = .ok (.invokevirtual 218, 3) := by decide +kernel
theorem dX6_copy_111 : decode cX6_copy 111 = .ok (.ireturn, 1) := by decide +kernel
theorem dX6_copy_112 : decode cX6_copy 112 = .ok (.aload 6, 2) := by decide +kernel
theorem dX6_copy_114 : decode cX6_copy 114 = .ok (.getfield 241, 3) := by decide +kernel
theorem dX6_copy_117 : decode cX6_copy 117 = .ok (.iload_n 2, 1) := by decide +kernel
theorem dX6_copy_118 : decode cX6_copy 118 = .ok (.aload 7, 2) := by decide +kernel
theorem dX6_copy_120 : decode cX6_copy 120 = .ok (.getfield 241, 3) := by decide +kernel
theorem dX6_copy_123 : decode cX6_copy 123 = .ok (.iload 4, 2) := by decide +kernel
theorem dX6_copy_125 : decode cX6_copy 125 = .ok (.iload 5, 2) := by decide +kernel
theorem dX6_copy_127 : decode cX6_copy 127 = .ok (.invokestatic 245, 3) := by decide +kernel
theorem dX6_copy_130 : decode cX6_copy 130 = .ok (.iload 5, 2) := by decide +kernel
theorem dX6_copy_132 : decode cX6_copy 132 = .ok (.ireturn, 1) := by decide +kernel
theorem dX6_tell_0 : decode cX6_tell 0 = .ok (.iload_n 1, 1) := by decide +kernel
theorem dX6_tell_1 : decode cX6_tell 1 = .ok (.invokestatic 200, 3) := by decide +kernel
theorem dX6_tell_4 : decode cX6_tell 4 = .ok (.ifCond .eq 14, 3) := by decide +kernel
theorem dX6_tell_7 : decode cX6_tell 7 = .ok (.aload_n 0, 1) := by decide +kernel
theorem dX6_tell_8 : decode cX6_tell 8 = .ok (.getfield 41, 3) := by decide +kernel
theorem dX6_tell_11 : decode cX6_tell 11 = .ok (.iload_n 1, 1) := by decide +kernel
theorem dX6_tell_12 : decode cX6_tell 12 = .ok (.invokevirtual 251, 3) := by decide +kernel
theorem dX6_tell_15 : decode cX6_tell 15 = .ok (.goto 4, 3) := by decide +kernel
theorem dX6_tell_18 : decode cX6_tell 18 = .ok (.iconst (-1), 1) := by decide +kernel
theorem dX6_tell_19 : decode cX6_tell 19 = .ok (.ireturn, 1) := by decide +kernel
theorem dX6_call_0 : decode cX6_call 0 = .ok (.iload_n 1, 1) := by decide +kernel
theorem dX6_call_1 : decode cX6_call 1 = .ok (.invokestatic 200, 3) := by decide +kernel
theorem dX6_call_4 : decode cX6_call 4 = .ok (.ifCond .eq 14, 3) := by decide +kernel
theorem dX6_call_7 : decode cX6_call 7 = .ok (.aload_n 0, 1) := by decide +kernel
theorem dX6_call_8 : decode cX6_call 8 = .ok (.getfield 41, 3) := by decide +kernel
theorem dX6_call_11 : decode cX6_call 11 = .ok (.iload_n 1, 1) := by decide +kernel
theorem dX6_call_12 : decode cX6_call 12 = .ok (.invokevirtual 254, 3) := by decide +kernel
theorem dX6_call_15 : decode cX6_call 15 = .ok (.goto 4, 3) := by decide +kernel
theorem dX6_call_18 : decode cX6_call 18 = .ok (.iconst (-1), 1) := by decide +kernel
theorem dX6_call_19 : decode cX6_call 19 = .ok (.ireturn, 1) := by decide +kernel
theorem dX6_as_0 : decode cX6_as 0 = .ok (.aload_n 0, 1) := by decide +kernel
theorem dX6_as_1 : decode cX6_as 1 = .ok (.iconst 0, 1) := by decide +kernel
theorem dX6_as_2 : decode cX6_as 2 = .ok (.putfield 64, 3) := by decide +kernel
theorem dX6_as_5 : decode cX6_as 5 = .ok (.iload_n 1, 1) := by decide +kernel
theorem dX6_as_6 : decode cX6_as 6 = .ok (.invokestatic 200, 3) := by decide +kernel
theorem dX6_as_9 : decode cX6_as 9 = .ok (.ifCond .ne 5, 3) := by decide +kernel
theorem dX6_as_12 : decode cX6_as 12 = .ok (.iconst (-1), 1) := by decide +kernel
theorem dX6_as_13 : decode cX6_as 13 = .ok (.ireturn, 1) := by decide +kernel
theorem dX6_as_14 : decode cX6_as 14 = .ok (.iload_n 2, 1) := by decide +kernel
theorem dX6_as_15 : decode cX6_as 15 = .ok (.invokestatic 203, 3) := by decide +kernel
theorem dX6_as_18 : decode cX6_as 18 = .ok (.ifCond .ne 6, 3) := by decide +kernel
theorem dX6_as_21 : decode cX6_as 21 = .ok (.bipush (-2), 2) := by decide +kernel
theorem dX6_as_23 : decode cX6_as 23 = .ok (.ireturn, 1) := by decide +kernel
theorem dX6_as_24 : decode cX6_as 24 = .ok (.aload_n 0, 1) := by decide +kernel
theorem dX6_as_25 : decode cX6_as 25 = .ok (.getfield 41, 3) := by decide +kernel
theorem dX6_as_28 : decode cX6_as 28 = .ok (.iload_n 1, 1) := by decide +kernel
theorem dX6_as_29 : decode cX6_as 29 = .ok (.invokevirtual 206, 3) := by decide +kernel
theorem dX6_as_32 : decode cX6_as 32 = .ok (.iload_n 2, 1) := by decide +kernel
theorem dX6_as_33 : decode cX6_as 33 = .ok (.if_icmp .lt 7, 3) := by decide +kernel
theorem dX6_as_36 : decode cX6_as 36 = .ok (.iconst 1, 1) := by decide +kernel
theorem dX6_as_37 : decode cX6_as 37 = .ok (.goto 8, 3) := by decide +kernel
theorem dX6_as_40 : decode cX6_as 40 = .ok (.aload_n 0, 1) := by decide +kernel
theorem dX6_as_41 : decode cX6_as 41 = .ok (.iconst 2, 1) := by decide +kernel
theorem dX6_as_42 : decode cX6_as 42 = .ok (.invokevirtual 218, 3) := by decide +kernel
theorem dX6_as_45 : decode cX6_as 45 = .ok (.ireturn, 1) := by decide +kernel
theorem dX6_trace_0 : decode cX6_trace 0 = .ok (.aload_n 0, 1) := by decide +kernel
theorem dX6_trace_1 : decode cX6_trace 1 = .ok (.getfield 41, 3) := by decide +kernel
theorem dX6_trace_4 : decode cX6_trace 4 = .ok (.getfield 257, 3) := by decide +kernel
theorem dX6_trace_7 : decode cX6_trace 7 = .ok (.ireturn, 1) := by decide +kernel
theorem dX6_fault_0 : decode cX6_fault 0 = .ok (.aload_n 0, 1) := by decide +kernel
theorem dX6_fault_1 : decode cX6_fault 1 = .ok (.getfield 64, 3) := by decide +kernel
theorem dX6_fault_4 : decode cX6_fault 4 = .ok (.ireturn, 1) := by decide +kernel
theorem dX6_imageCount_0 : decode cX6_imageCount 0 = .ok (.iconst 0, 1) := by decide +kernel
theorem dX6_imageCount_1 : decode cX6_imageCount 1 = .ok (.istore_n 1, 1) := by decide +kernel
theorem dX6_imageCount_2 : decode cX6_imageCount 2 = .ok (.iconst 0, 1) := by decide +kernel
theorem dX6_imageCount_3 : decode cX6_imageCount 3 = .ok (.istore_n 2, 1) := by decide +kernel
theorem dX6_imageCount_4 : decode cX6_imageCount 4 = .ok (.iload_n 2, 1) := by decide +kernel
theorem dX6_imageCount_5 : decode cX6_imageCount 5 = .ok (.iconst 3, 1) := by decide +kernel
theorem dX6_imageCount_6 : decode cX6_imageCount 6 = .ok (.if_icmp .ge 24, 3) := by decide +kernel
theorem dX6_imageCount_9 : decode cX6_imageCount 9 = .ok (.aload_n 0, 1) := by decide +kernel
theorem dX6_imageCount_10 : decode cX6_imageCount 10 = .ok (.getfield 21, 3) := by decide +kernel
theorem dX6_imageCount_13 : decode cX6_imageCount 13 = .ok (.iload_n 2, 1) := by decide +kernel
theorem dX6_imageCount_14 : decode cX6_imageCount 14 = .ok (.aaload, 1) := by decide +kernel
theorem dX6_imageCount_15 : decode cX6_imageCount 15 = .ok (.invokevirtual 96, 3) := by decide +kernel
theorem dX6_imageCount_18 : decode cX6_imageCount 18 = .ok (.ifCond .eq 6, 3) := by decide +kernel
theorem dX6_imageCount_21 : decode cX6_imageCount 21 = .ok (.iinc 1 1, 3) := by decide +kernel
theorem dX6_imageCount_24 : decode cX6_imageCount 24 = .ok (.iinc 2 1, 3) := by decide +kernel
theorem dX6_imageCount_27 : decode cX6_imageCount 27 = .ok (.goto (-23), 3) := by decide +kernel
theorem dX6_imageCount_30 : decode cX6_imageCount 30 = .ok (.iload_n 1, 1) := by decide +kernel
theorem dX6_imageCount_31 : decode cX6_imageCount 31 = .ok (.ireturn, 1) := by decide +kernel
theorem dX6_many_0 : decode cX6_many 0 = .ok (.iload_n 1, 1) := by decide +kernel
theorem dX6_many_1 : decode cX6_many 1 = .ok (.tableswitch 59 0 2 #[27, 35, 54], 27) := by decide +kernel
theorem dX6_many_28 : decode cX6_many 28 = .ok (.aload_n 0, 1) := by decide +kernel
theorem dX6_many_29 : decode cX6_many 29 = .ok (.getfield 12, 3) := by decide +kernel
theorem dX6_many_32 : decode cX6_many 32 = .ok (.getfield 86, 3) := by decide +kernel
theorem dX6_many_35 : decode cX6_many 35 = .ok (.ireturn, 1) := by decide +kernel
theorem dX6_many_36 : decode cX6_many 36 = .ok (.aload_n 0, 1) := by decide +kernel
theorem dX6_many_37 : decode cX6_many 37 = .ok (.getfield 12, 3) := by decide +kernel
theorem dX6_many_40 : decode cX6_many 40 = .ok (.invokevirtual 96, 3) := by decide +kernel
theorem dX6_many_43 : decode cX6_many 43 = .ok (.ifCond .eq 10, 3) := by decide +kernel
theorem dX6_many_46 : decode cX6_many 46 = .ok (.aload_n 0, 1) := by decide +kernel
theorem dX6_many_47 : decode cX6_many 47 = .ok (.getfield 59, 3) := by decide +kernel
theorem dX6_many_50 : decode cX6_many 50 = .ok (.goto 4, 3) := by decide +kernel
theorem dX6_many_53 : decode cX6_many 53 = .ok (.iconst 0, 1) := by decide +kernel
theorem dX6_many_54 : decode cX6_many 54 = .ok (.ireturn, 1) := by decide +kernel
theorem dX6_many_55 : decode cX6_many 55 = .ok (.aload_n 0, 1) := by decide +kernel
theorem dX6_many_56 : decode cX6_many 56 = .ok (.invokevirtual 260, 3) := by decide +kernel
theorem dX6_many_59 : decode cX6_many 59 = .ok (.ireturn, 1) := by decide +kernel
theorem dX6_many_60 : decode cX6_many 60 = .ok (.bipush (-2), 2) := by decide +kernel
theorem dX6_many_62 : decode cX6_many 62 = .ok (.ireturn, 1) := by decide +kernel
