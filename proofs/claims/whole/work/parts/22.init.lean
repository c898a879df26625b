/-! the constructors, every number known -/
theorem dX0_init_0 : decode cX0_init 0 = .ok (.aload_n 0, 1) := by decide +kernel
theorem dX0_init_1 : decode cX0_init 1 = .ok (.invokespecial 3, 3) := by decide +kernel
theorem dX0_init_4 : decode cX0_init 4 = .ok (.aload_n 0, 1) := by decide +kernel
theorem dX0_init_5 : decode cX0_init 5 = .ok (.new 9, 3) := by decide +kernel
theorem dX0_init_8 : decode cX0_init 8 = .ok (.dup, 1) := by decide +kernel
theorem dX0_init_9 : decode cX0_init 9 = .ok (.invokespecial 11, 3) := by decide +kernel
theorem dX0_init_12 : decode cX0_init 12 = .ok (.putfield 12, 3) := by decide +kernel
theorem dX0_init_15 : decode cX0_init 15 = .ok (.aload_n 0, 1) := by decide +kernel
theorem dX0_init_16 : decode cX0_init 16 = .ok (.new 18, 3) := by decide +kernel
theorem dX0_init_19 : decode cX0_init 19 = .ok (.dup, 1) := by decide +kernel
theorem dX0_init_20 : decode cX0_init 20 = .ok (.iconst 0, 1) := by decide +kernel
theorem dX0_init_21 : decode cX0_init 21 = .ok (.invokespecial 20, 3) := by decide +kernel
theorem dX0_init_24 : decode cX0_init 24 = .ok (.putfield 23, 3) := by decide +kernel
theorem dX0_init_27 : decode cX0_init 27 = .ok (.aload_n 0, 1) := by decide +kernel
theorem dX0_init_28 : decode cX0_init 28 = .ok (.iconst 0, 1) := by decide +kernel
theorem dX0_init_29 : decode cX0_init 29 = .ok (.putfield 27, 3) := by decide +kernel
theorem dX0_init_32 : decode cX0_init 32 = .ok (.return_, 1) := by decide +kernel
theorem dX1_init_0 : decode cX1_init 0 = .ok (.aload_n 0, 1) := by decide +kernel
theorem dX1_init_1 : decode cX1_init 1 = .ok (.invokespecial 1, 3) := by decide +kernel
theorem dX1_init_4 : decode cX1_init 4 = .ok (.aload_n 0, 1) := by decide +kernel
theorem dX1_init_5 : decode cX1_init 5 = .ok (.iconst (-1), 1) := by decide +kernel
theorem dX1_init_6 : decode cX1_init 6 = .ok (.putfield 7, 3) := by decide +kernel
theorem dX1_init_9 : decode cX1_init 9 = .ok (.aload_n 0, 1) := by decide +kernel
theorem dX1_init_10 : decode cX1_init 10 = .ok (.iconst 0, 1) := by decide +kernel
theorem dX1_init_11 : decode cX1_init 11 = .ok (.iload_n 1, 1) := by decide +kernel
theorem dX1_init_12 : decode cX1_init 12 = .ok (.invokestatic 13, 3) := by decide +kernel
theorem dX1_init_15 : decode cX1_init 15 = .ok (.newarray .int, 2) := by decide +kernel
theorem dX1_init_17 : decode cX1_init 17 = .ok (.putfield 19, 3) := by decide +kernel
theorem dX1_init_20 : decode cX1_init 20 = .ok (.return_, 1) := by decide +kernel
theorem dX2_init_0 : decode cX2_init 0 = .ok (.aload_n 0, 1) := by decide +kernel
theorem dX2_init_1 : decode cX2_init 1 = .ok (.invokespecial 3, 3) := by decide +kernel
theorem dX2_init_4 : decode cX2_init 4 = .ok (.aload_n 0, 1) := by decide +kernel
theorem dX2_init_5 : decode cX2_init 5 = .ok (.iconst (-1), 1) := by decide +kernel
theorem dX2_init_6 : decode cX2_init 6 = .ok (.putfield 9, 3) := by decide +kernel
theorem dX2_init_9 : decode cX2_init 9 = .ok (.aload_n 0, 1) := by decide +kernel
theorem dX2_init_10 : decode cX2_init 10 = .ok (.iconst 0, 1) := by decide +kernel
theorem dX2_init_11 : decode cX2_init 11 = .ok (.putfield 15, 3) := by decide +kernel
theorem dX2_init_14 : decode cX2_init 14 = .ok (.aload_n 0, 1) := by decide +kernel
theorem dX2_init_15 : decode cX2_init 15 = .ok (.iconst 0, 1) := by decide +kernel
theorem dX2_init_16 : decode cX2_init 16 = .ok (.putfield 18, 3) := by decide +kernel
theorem dX2_init_19 : decode cX2_init 19 = .ok (.aload_n 0, 1) := by decide +kernel
theorem dX2_init_20 : decode cX2_init 20 = .ok (.iconst 0, 1) := by decide +kernel
theorem dX2_init_21 : decode cX2_init 21 = .ok (.putfield 21, 3) := by decide +kernel
theorem dX2_init_24 : decode cX2_init 24 = .ok (.aload_n 0, 1) := by decide +kernel
theorem dX2_init_25 : decode cX2_init 25 = .ok (.iconst 0, 1) := by decide +kernel
theorem dX2_init_26 : decode cX2_init 26 = .ok (.putfield 24, 3) := by decide +kernel
theorem dX2_init_29 : decode cX2_init 29 = .ok (.aload_n 0, 1) := by decide +kernel
theorem dX2_init_30 : decode cX2_init 30 = .ok (.iconst 0, 1) := by decide +kernel
theorem dX2_init_31 : decode cX2_init 31 = .ok (.putfield 27, 3) := by decide +kernel
theorem dX2_init_34 : decode cX2_init 34 = .ok (.aload_n 0, 1) := by decide +kernel
theorem dX2_init_35 : decode cX2_init 35 = .ok (.iconst 0, 1) := by decide +kernel
theorem dX2_init_36 : decode cX2_init 36 = .ok (.putfield 30, 3) := by decide +kernel
theorem dX2_init_39 : decode cX2_init 39 = .ok (.return_, 1) := by decide +kernel
theorem dX3_init_0 : decode cX3_init 0 = .ok (.aload_n 0, 1) := by decide +kernel
theorem dX3_init_1 : decode cX3_init 1 = .ok (.invokespecial 3, 3) := by decide +kernel
theorem dX3_init_4 : decode cX3_init 4 = .ok (.aload_n 0, 1) := by decide +kernel
theorem dX3_init_5 : decode cX3_init 5 = .ok (.iconst 5, 1) := by decide +kernel
theorem dX3_init_6 : decode cX3_init 6 = .ok (.newarray .int, 2) := by decide +kernel
theorem dX3_init_8 : decode cX3_init 8 = .ok (.putfield 9, 3) := by decide +kernel
theorem dX3_init_11 : decode cX3_init 11 = .ok (.aload_n 0, 1) := by decide +kernel
theorem dX3_init_12 : decode cX3_init 12 = .ok (.iconst 5, 1) := by decide +kernel
theorem dX3_init_13 : decode cX3_init 13 = .ok (.newarray .int, 2) := by decide +kernel
theorem dX3_init_15 : decode cX3_init 15 = .ok (.putfield 15, 3) := by decide +kernel
theorem dX3_init_18 : decode cX3_init 18 = .ok (.aload_n 0, 1) := by decide +kernel
theorem dX3_init_19 : decode cX3_init 19 = .ok (.iconst 0, 1) := by decide +kernel
theorem dX3_init_20 : decode cX3_init 20 = .ok (.putfield 18, 3) := by decide +kernel
theorem dX3_init_23 : decode cX3_init 23 = .ok (.aload_n 0, 1) := by decide +kernel
theorem dX3_init_24 : decode cX3_init 24 = .ok (.iconst 0, 1) := by decide +kernel
theorem dX3_init_25 : decode cX3_init 25 = .ok (.putfield 22, 3) := by decide +kernel
theorem dX3_init_28 : decode cX3_init 28 = .ok (.aload_n 0, 1) := by decide +kernel
theorem dX3_init_29 : decode cX3_init 29 = .ok (.bipush (-99), 2) := by decide +kernel
theorem dX3_init_31 : decode cX3_init 31 = .ok (.putfield 25, 3) := by decide +kernel
theorem dX3_init_34 : decode cX3_init 34 = .ok (.aload_n 0, 1) := by decide +kernel
theorem dX3_init_35 : decode cX3_init 35 = .ok (.iconst 0, 1) := by decide +kernel
theorem dX3_init_36 : decode cX3_init 36 = .ok (.putfield 28, 3) := by decide +kernel
theorem dX3_init_39 : decode cX3_init 39 = .ok (.aload_n 0, 1) := by decide +kernel
theorem dX3_init_40 : decode cX3_init 40 = .ok (.iconst 0, 1) := by decide +kernel
theorem dX3_init_41 : decode cX3_init 41 = .ok (.putfield 31, 3) := by decide +kernel
theorem dX3_init_44 : decode cX3_init 44 = .ok (.return_, 1) := by decide +kernel
theorem dX4_init_0 : decode cX4_init 0 = .ok (.aload_n 0, 1) := by decide +kernel
theorem dX4_init_1 : decode cX4_init 1 = .ok (.invokespecial 3, 3) := by decide +kernel
theorem dX4_init_4 : decode cX4_init 4 = .ok (.aload_n 0, 1) := by decide +kernel
theorem dX4_init_5 : decode cX4_init 5 = .ok (.iconst 4, 1) := by decide +kernel
theorem dX4_init_6 : decode cX4_init 6 = .ok (.newarray .boolean, 2) := by decide +kernel
theorem dX4_init_8 : decode cX4_init 8 = .ok (.putfield 9, 3) := by decide +kernel
theorem dX4_init_11 : decode cX4_init 11 = .ok (.aload_n 0, 1) := by decide +kernel
theorem dX4_init_12 : decode cX4_init 12 = .ok (.iconst 4, 1) := by decide +kernel
theorem dX4_init_13 : decode cX4_init 13 = .ok (.newarray .boolean, 2) := by decide +kernel
theorem dX4_init_15 : decode cX4_init 15 = .ok (.putfield 15, 3) := by decide +kernel
theorem dX4_init_18 : decode cX4_init 18 = .ok (.aload_n 0, 1) := by decide +kernel
theorem dX4_init_19 : decode cX4_init 19 = .ok (.iconst 4, 1) := by decide +kernel
theorem dX4_init_20 : decode cX4_init 20 = .ok (.newarray .int, 2) := by decide +kernel
theorem dX4_init_22 : decode cX4_init 22 = .ok (.putfield 18, 3) := by decide +kernel
theorem dX4_init_25 : decode cX4_init 25 = .ok (.aload_n 0, 1) := by decide +kernel
theorem dX4_init_26 : decode cX4_init 26 = .ok (.iconst 4, 1) := by decide +kernel
theorem dX4_init_27 : decode cX4_init 27 = .ok (.newarray .int, 2) := by decide +kernel
theorem dX4_init_29 : decode cX4_init 29 = .ok (.putfield 22, 3) := by decide +kernel
theorem dX4_init_32 : decode cX4_init 32 = .ok (.aload_n 0, 1) := by decide +kernel
theorem dX4_init_33 : decode cX4_init 33 = .ok (.iconst 4, 1) := by decide +kernel
theorem dX4_init_34 : decode cX4_init 34 = .ok (.anewarray 25, 3) := by decide +kernel
theorem dX4_init_37 : decode cX4_init 37 = .ok (.putfield 27, 3) := by decide +kernel
theorem dX4_init_40 : decode cX4_init 40 = .ok (.aload_n 0, 1) := by decide +kernel
theorem dX4_init_41 : decode cX4_init 41 = .ok (.iconst 0, 1) := by decide +kernel
theorem dX4_init_42 : decode cX4_init 42 = .ok (.putfield 31, 3) := by decide +kernel
theorem dX4_init_45 : decode cX4_init 45 = .ok (.aload_n 0, 1) := by decide +kernel
theorem dX4_init_46 : decode cX4_init 46 = .ok (.iconst 0, 1) := by decide +kernel
theorem dX4_init_47 : decode cX4_init 47 = .ok (.putfield 35, 3) := by decide +kernel
theorem dX4_init_50 : decode cX4_init 50 = .ok (.aload_n 0, 1) := by decide +kernel
theorem dX4_init_51 : decode cX4_init 51 = .ok (.iconst 0, 1) := by decide +kernel
theorem dX4_init_52 : decode cX4_init 52 = .ok (.putfield 38, 3) := by decide +kernel
theorem dX4_init_55 : decode cX4_init 55 = .ok (.aload_n 0, 1) := by decide +kernel
theorem dX4_init_56 : decode cX4_init 56 = .ok (.lconst 0, 1) := by decide +kernel
theorem dX4_init_57 : decode cX4_init 57 = .ok (.putfield 41, 3) := by decide +kernel
theorem dX4_init_60 : decode cX4_init 60 = .ok (.aload_n 0, 1) := by decide +kernel
theorem dX4_init_61 : decode cX4_init 61 = .ok (.lconst 1, 1) := by decide +kernel
theorem dX4_init_62 : decode cX4_init 62 = .ok (.putfield 45, 3) := by decide +kernel
theorem dX4_init_65 : decode cX4_init 65 = .ok (.aload_n 0, 1) := by decide +kernel
theorem dX4_init_66 : decode cX4_init 66 = .ok (.iconst 4, 1) := by decide +kernel
theorem dX4_init_67 : decode cX4_init 67 = .ok (.newarray .long, 2) := by decide +kernel
theorem dX4_init_69 : decode cX4_init 69 = .ok (.putfield 48, 3) := by decide +kernel
theorem dX4_init_72 : decode cX4_init 72 = .ok (.aload_n 0, 1) := by decide +kernel
theorem dX4_init_73 : decode cX4_init 73 = .ok (.iconst 4, 1) := by decide +kernel
theorem dX4_init_74 : decode cX4_init 74 = .ok (.newarray .int, 2) := by decide +kernel
theorem dX4_init_76 : decode cX4_init 76 = .ok (.putfield 52, 3) := by decide +kernel
theorem dX4_init_79 : decode cX4_init 79 = .ok (.return_, 1) := by decide +kernel
theorem dX5_init_0 : decode cX5_init 0 = .ok (.aload_n 0, 1) := by decide +kernel
theorem dX5_init_1 : decode cX5_init 1 = .ok (.invokespecial 1, 3) := by decide +kernel
theorem dX5_init_4 : decode cX5_init 4 = .ok (.aload_n 0, 1) := by decide +kernel
theorem dX5_init_5 : decode cX5_init 5 = .ok (.bipush 6, 2) := by decide +kernel
theorem dX5_init_7 : decode cX5_init 7 = .ok (.anewarray 9, 3) := by decide +kernel
theorem dX5_init_10 : decode cX5_init 10 = .ok (.putfield 11, 3) := by decide +kernel
theorem dX5_init_13 : decode cX5_init 13 = .ok (.aload_n 0, 1) := by decide +kernel
theorem dX5_init_14 : decode cX5_init 14 = .ok (.iconst 4, 1) := by decide +kernel
theorem dX5_init_15 : decode cX5_init 15 = .ok (.anewarray 9, 3) := by decide +kernel
theorem dX5_init_18 : decode cX5_init 18 = .ok (.putfield 15, 3) := by decide +kernel
theorem dX5_init_21 : decode cX5_init 21 = .ok (.aload_n 0, 1) := by decide +kernel
theorem dX5_init_22 : decode cX5_init 22 = .ok (.bipush 6, 2) := by decide +kernel
theorem dX5_init_24 : decode cX5_init 24 = .ok (.anewarray 18, 3) := by decide +kernel
theorem dX5_init_27 : decode cX5_init 27 = .ok (.putfield 20, 3) := by decide +kernel
theorem dX5_init_30 : decode cX5_init 30 = .ok (.aload_n 0, 1) := by decide +kernel
theorem dX5_init_31 : decode cX5_init 31 = .ok (.iconst 4, 1) := by decide +kernel
theorem dX5_init_32 : decode cX5_init 32 = .ok (.anewarray 24, 3) := by decide +kernel
theorem dX5_init_35 : decode cX5_init 35 = .ok (.putfield 26, 3) := by decide +kernel
theorem dX5_init_38 : decode cX5_init 38 = .ok (.aload_n 0, 1) := by decide +kernel
theorem dX5_init_39 : decode cX5_init 39 = .ok (.iconst 4, 1) := by decide +kernel
theorem dX5_init_40 : decode cX5_init 40 = .ok (.newarray .int, 2) := by decide +kernel
theorem dX5_init_42 : decode cX5_init 42 = .ok (.putfield 30, 3) := by decide +kernel
theorem dX5_init_45 : decode cX5_init 45 = .ok (.aload_n 0, 1) := by decide +kernel
theorem dX5_init_46 : decode cX5_init 46 = .ok (.getstatic 34, 3) := by decide +kernel
theorem dX5_init_49 : decode cX5_init 49 = .ok (.arraylength, 1) := by decide +kernel
theorem dX5_init_50 : decode cX5_init 50 = .ok (.newarray .int, 2) := by decide +kernel
theorem dX5_init_52 : decode cX5_init 52 = .ok (.putfield 37, 3) := by decide +kernel
theorem dX5_init_55 : decode cX5_init 55 = .ok (.aload_n 0, 1) := by decide +kernel
theorem dX5_init_56 : decode cX5_init 56 = .ok (.new 40, 3) := by decide +kernel
theorem dX5_init_59 : decode cX5_init 59 = .ok (.dup, 1) := by decide +kernel
theorem dX5_init_60 : decode cX5_init 60 = .ok (.invokespecial 42, 3) := by decide +kernel
theorem dX5_init_63 : decode cX5_init 63 = .ok (.putfield 43, 3) := by decide +kernel
theorem dX5_init_66 : decode cX5_init 66 = .ok (.aload_n 0, 1) := by decide +kernel
theorem dX5_init_67 : decode cX5_init 67 = .ok (.new 47, 3) := by decide +kernel
theorem dX5_init_70 : decode cX5_init 70 = .ok (.dup, 1) := by decide +kernel
theorem dX5_init_71 : decode cX5_init 71 = .ok (.invokespecial 49, 3) := by decide +kernel
theorem dX5_init_74 : decode cX5_init 74 = .ok (.putfield 50, 3) := by decide +kernel
theorem dX5_init_77 : decode cX5_init 77 = .ok (.aload_n 0, 1) := by decide +kernel
theorem dX5_init_78 : decode cX5_init 78 = .ok (.bipush 6, 2) := by decide +kernel
theorem dX5_init_80 : decode cX5_init 80 = .ok (.newarray .int, 2) := by decide +kernel
theorem dX5_init_82 : decode cX5_init 82 = .ok (.putfield 54, 3) := by decide +kernel
theorem dX5_init_85 : decode cX5_init 85 = .ok (.aload_n 0, 1) := by decide +kernel
theorem dX5_init_86 : decode cX5_init 86 = .ok (.bipush 6, 2) := by decide +kernel
theorem dX5_init_88 : decode cX5_init 88 = .ok (.newarray .int, 2) := by decide +kernel
theorem dX5_init_90 : decode cX5_init 90 = .ok (.putfield 57, 3) := by decide +kernel
theorem dX5_init_93 : decode cX5_init 93 = .ok (.aload_n 0, 1) := by decide +kernel
theorem dX5_init_94 : decode cX5_init 94 = .ok (.iconst 0, 1) := by decide +kernel
theorem dX5_init_95 : decode cX5_init 95 = .ok (.putfield 60, 3) := by decide +kernel
theorem dX5_init_98 : decode cX5_init 98 = .ok (.aload_n 0, 1) := by decide +kernel
theorem dX5_init_99 : decode cX5_init 99 = .ok (.iconst 0, 1) := by decide +kernel
theorem dX5_init_100 : decode cX5_init 100 = .ok (.putfield 64, 3) := by decide +kernel
theorem dX5_init_103 : decode cX5_init 103 = .ok (.aload_n 0, 1) := by decide +kernel
theorem dX5_init_104 : decode cX5_init 104 = .ok (.lconst 0, 1) := by decide +kernel
theorem dX5_init_105 : decode cX5_init 105 = .ok (.putfield 67, 3) := by decide +kernel
theorem dX5_init_108 : decode cX5_init 108 = .ok (.aload_n 0, 1) := by decide +kernel
theorem dX5_init_109 : decode cX5_init 109 = .ok (.lconst 1, 1) := by decide +kernel
theorem dX5_init_110 : decode cX5_init 110 = .ok (.putfield 71, 3) := by decide +kernel
theorem dX5_init_113 : decode cX5_init 113 = .ok (.iconst 0, 1) := by decide +kernel
theorem dX5_init_114 : decode cX5_init 114 = .ok (.istore_n 1, 1) := by decide +kernel
theorem dX5_init_115 : decode cX5_init 115 = .ok (.iload_n 1, 1) := by decide +kernel
theorem dX5_init_116 : decode cX5_init 116 = .ok (.bipush 6, 2) := by decide +kernel
theorem dX5_init_118 : decode cX5_init 118 = .ok (.if_icmp .ge 24, 3) := by decide +kernel
theorem dX5_init_121 : decode cX5_init 121 = .ok (.aload_n 0, 1) := by decide +kernel
theorem dX5_init_122 : decode cX5_init 122 = .ok (.getfield 11, 3) := by decide +kernel
theorem dX5_init_125 : decode cX5_init 125 = .ok (.iload_n 1, 1) := by decide +kernel
theorem dX5_init_126 : decode cX5_init 126 = .ok (.new 9, 3) := by decide +kernel
theorem dX5_init_129 : decode cX5_init 129 = .ok (.dup, 1) := by decide +kernel
theorem dX5_init_130 : decode cX5_init 130 = .ok (.bipush 40, 2) := by decide +kernel
theorem dX5_init_132 : decode cX5_init 132 = .ok (.invokespecial 74, 3) := by decide +kernel
theorem dX5_init_135 : decode cX5_init 135 = .ok (.aastore, 1) := by decide +kernel
theorem dX5_init_136 : decode cX5_init 136 = .ok (.iinc 1 1, 3) := by decide +kernel
theorem dX5_init_139 : decode cX5_init 139 = .ok (.goto (-24), 3) := by decide +kernel
theorem dX5_init_142 : decode cX5_init 142 = .ok (.iconst 0, 1) := by decide +kernel
theorem dX5_init_143 : decode cX5_init 143 = .ok (.istore_n 1, 1) := by decide +kernel
theorem dX5_init_144 : decode cX5_init 144 = .ok (.iload_n 1, 1) := by decide +kernel
theorem dX5_init_145 : decode cX5_init 145 = .ok (.iconst 4, 1) := by decide +kernel
theorem dX5_init_146 : decode cX5_init 146 = .ok (.if_icmp .ge 24, 3) := by decide +kernel
theorem dX5_init_149 : decode cX5_init 149 = .ok (.aload_n 0, 1) := by decide +kernel
theorem dX5_init_150 : decode cX5_init 150 = .ok (.getfield 15, 3) := by decide +kernel
theorem dX5_init_153 : decode cX5_init 153 = .ok (.iload_n 1, 1) := by decide +kernel
theorem dX5_init_154 : decode cX5_init 154 = .ok (.new 9, 3) := by decide +kernel
theorem dX5_init_157 : decode cX5_init 157 = .ok (.dup, 1) := by decide +kernel
theorem dX5_init_158 : decode cX5_init 158 = .ok (.bipush 60, 2) := by decide +kernel
theorem dX5_init_160 : decode cX5_init 160 = .ok (.invokespecial 74, 3) := by decide +kernel
theorem dX5_init_163 : decode cX5_init 163 = .ok (.aastore, 1) := by decide +kernel
theorem dX5_init_164 : decode cX5_init 164 = .ok (.iinc 1 1, 3) := by decide +kernel
theorem dX5_init_167 : decode cX5_init 167 = .ok (.goto (-23), 3) := by decide +kernel
theorem dX5_init_170 : decode cX5_init 170 = .ok (.iconst 0, 1) := by decide +kernel
theorem dX5_init_171 : decode cX5_init 171 = .ok (.istore_n 1, 1) := by decide +kernel
theorem dX5_init_172 : decode cX5_init 172 = .ok (.iload_n 1, 1) := by decide +kernel
theorem dX5_init_173 : decode cX5_init 173 = .ok (.bipush 6, 2) := by decide +kernel
theorem dX5_init_175 : decode cX5_init 175 = .ok (.if_icmp .ge 22, 3) := by decide +kernel
theorem dX5_init_178 : decode cX5_init 178 = .ok (.aload_n 0, 1) := by decide +kernel
theorem dX5_init_179 : decode cX5_init 179 = .ok (.getfield 20, 3) := by decide +kernel
theorem dX5_init_182 : decode cX5_init 182 = .ok (.iload_n 1, 1) := by decide +kernel
theorem dX5_init_183 : decode cX5_init 183 = .ok (.new 18, 3) := by decide +kernel
theorem dX5_init_186 : decode cX5_init 186 = .ok (.dup, 1) := by decide +kernel
theorem dX5_init_187 : decode cX5_init 187 = .ok (.invokespecial 77, 3) := by decide +kernel
theorem dX5_init_190 : decode cX5_init 190 = .ok (.aastore, 1) := by decide +kernel
theorem dX5_init_191 : decode cX5_init 191 = .ok (.iinc 1 1, 3) := by decide +kernel
theorem dX5_init_194 : decode cX5_init 194 = .ok (.goto (-22), 3) := by decide +kernel
theorem dX5_init_197 : decode cX5_init 197 = .ok (.iconst 0, 1) := by decide +kernel
theorem dX5_init_198 : decode cX5_init 198 = .ok (.istore_n 1, 1) := by decide +kernel
theorem dX5_init_199 : decode cX5_init 199 = .ok (.iload_n 1, 1) := by decide +kernel
theorem dX5_init_200 : decode cX5_init 200 = .ok (.iconst 4, 1) := by decide +kernel
theorem dX5_init_201 : decode cX5_init 201 = .ok (.if_icmp .ge 22, 3) := by decide +kernel
theorem dX5_init_204 : decode cX5_init 204 = .ok (.aload_n 0, 1) := by decide +kernel
theorem dX5_init_205 : decode cX5_init 205 = .ok (.getfield 26, 3) := by decide +kernel
theorem dX5_init_208 : decode cX5_init 208 = .ok (.iload_n 1, 1) := by decide +kernel
theorem dX5_init_209 : decode cX5_init 209 = .ok (.new 24, 3) := by decide +kernel
theorem dX5_init_212 : decode cX5_init 212 = .ok (.dup, 1) := by decide +kernel
theorem dX5_init_213 : decode cX5_init 213 = .ok (.invokespecial 78, 3) := by decide +kernel
theorem dX5_init_216 : decode cX5_init 216 = .ok (.aastore, 1) := by decide +kernel
theorem dX5_init_217 : decode cX5_init 217 = .ok (.iinc 1 1, 3) := by decide +kernel
theorem dX5_init_220 : decode cX5_init 220 = .ok (.goto (-21), 3) := by decide +kernel
theorem dX5_init_223 : decode cX5_init 223 = .ok (.aload_n 0, 1) := by decide +kernel
theorem dX5_init_224 : decode cX5_init 224 = .ok (.getfield 37, 3) := by decide +kernel
theorem dX5_init_227 : decode cX5_init 227 = .ok (.iconst 1, 1) := by decide +kernel
theorem dX5_init_228 : decode cX5_init 228 = .ok (.bipush 20, 2) := by decide +kernel
theorem dX5_init_230 : decode cX5_init 230 = .ok (.iastore, 1) := by decide +kernel
theorem dX5_init_231 : decode cX5_init 231 = .ok (.return_, 1) := by decide +kernel
theorem dX6_init_0 : decode cX6_init 0 = .ok (.aload_n 0, 1) := by decide +kernel
theorem dX6_init_1 : decode cX6_init 1 = .ok (.invokespecial 1, 3) := by decide +kernel
theorem dX6_init_4 : decode cX6_init 4 = .ok (.aload_n 0, 1) := by decide +kernel
theorem dX6_init_5 : decode cX6_init 5 = .ok (.bipush 6, 2) := by decide +kernel
theorem dX6_init_7 : decode cX6_init 7 = .ok (.newarray .int, 2) := by decide +kernel
theorem dX6_init_9 : decode cX6_init 9 = .ok (.putfield 7, 3) := by decide +kernel
theorem dX6_init_12 : decode cX6_init 12 = .ok (.aload_n 0, 1) := by decide +kernel
theorem dX6_init_13 : decode cX6_init 13 = .ok (.bipush 6, 2) := by decide +kernel
theorem dX6_init_15 : decode cX6_init 15 = .ok (.newarray .int, 2) := by decide +kernel
theorem dX6_init_17 : decode cX6_init 17 = .ok (.putfield 13, 3) := by decide +kernel
theorem dX6_init_20 : decode cX6_init 20 = .ok (.aload_n 0, 1) := by decide +kernel
theorem dX6_init_21 : decode cX6_init 21 = .ok (.sipush 240, 3) := by decide +kernel
theorem dX6_init_24 : decode cX6_init 24 = .ok (.newarray .int, 2) := by decide +kernel
theorem dX6_init_26 : decode cX6_init 26 = .ok (.putfield 16, 3) := by decide +kernel
theorem dX6_init_29 : decode cX6_init 29 = .ok (.aload_n 0, 1) := by decide +kernel
theorem dX6_init_30 : decode cX6_init 30 = .ok (.bipush 40, 2) := by decide +kernel
theorem dX6_init_32 : decode cX6_init 32 = .ok (.newarray .int, 2) := by decide +kernel
theorem dX6_init_34 : decode cX6_init 34 = .ok (.putfield 19, 3) := by decide +kernel
theorem dX6_init_37 : decode cX6_init 37 = .ok (.aload_n 0, 1) := by decide +kernel
theorem dX6_init_38 : decode cX6_init 38 = .ok (.iconst 4, 1) := by decide +kernel
theorem dX6_init_39 : decode cX6_init 39 = .ok (.newarray .int, 2) := by decide +kernel
theorem dX6_init_41 : decode cX6_init 41 = .ok (.putfield 22, 3) := by decide +kernel
theorem dX6_init_44 : decode cX6_init 44 = .ok (.aload_n 0, 1) := by decide +kernel
theorem dX6_init_45 : decode cX6_init 45 = .ok (.sipush 240, 3) := by decide +kernel
theorem dX6_init_48 : decode cX6_init 48 = .ok (.newarray .byte, 2) := by decide +kernel
theorem dX6_init_50 : decode cX6_init 50 = .ok (.putfield 25, 3) := by decide +kernel
theorem dX6_init_53 : decode cX6_init 53 = .ok (.aload_n 0, 1) := by decide +kernel
theorem dX6_init_54 : decode cX6_init 54 = .ok (.bipush 6, 2) := by decide +kernel
theorem dX6_init_56 : decode cX6_init 56 = .ok (.newarray .boolean, 2) := by decide +kernel
theorem dX6_init_58 : decode cX6_init 58 = .ok (.putfield 29, 3) := by decide +kernel
theorem dX6_init_61 : decode cX6_init 61 = .ok (.aload_n 0, 1) := by decide +kernel
theorem dX6_init_62 : decode cX6_init 62 = .ok (.bipush 6, 2) := by decide +kernel
theorem dX6_init_64 : decode cX6_init 64 = .ok (.newarray .int, 2) := by decide +kernel
theorem dX6_init_66 : decode cX6_init 66 = .ok (.putfield 33, 3) := by decide +kernel
theorem dX6_init_69 : decode cX6_init 69 = .ok (.aload_n 0, 1) := by decide +kernel
theorem dX6_init_70 : decode cX6_init 70 = .ok (.bipush 30, 2) := by decide +kernel
theorem dX6_init_72 : decode cX6_init 72 = .ok (.newarray .int, 2) := by decide +kernel
theorem dX6_init_74 : decode cX6_init 74 = .ok (.putfield 36, 3) := by decide +kernel
theorem dX6_init_77 : decode cX6_init 77 = .ok (.aload_n 0, 1) := by decide +kernel
theorem dX6_init_78 : decode cX6_init 78 = .ok (.bipush 30, 2) := by decide +kernel
theorem dX6_init_80 : decode cX6_init 80 = .ok (.newarray .int, 2) := by decide +kernel
theorem dX6_init_82 : decode cX6_init 82 = .ok (.putfield 39, 3) := by decide +kernel
theorem dX6_init_85 : decode cX6_init 85 = .ok (.aload_n 0, 1) := by decide +kernel
theorem dX6_init_86 : decode cX6_init 86 = .ok (.bipush 6, 2) := by decide +kernel
theorem dX6_init_88 : decode cX6_init 88 = .ok (.newarray .int, 2) := by decide +kernel
theorem dX6_init_90 : decode cX6_init 90 = .ok (.putfield 42, 3) := by decide +kernel
theorem dX6_init_93 : decode cX6_init 93 = .ok (.aload_n 0, 1) := by decide +kernel
theorem dX6_init_94 : decode cX6_init 94 = .ok (.bipush 6, 2) := by decide +kernel
theorem dX6_init_96 : decode cX6_init 96 = .ok (.newarray .int, 2) := by decide +kernel
theorem dX6_init_98 : decode cX6_init 98 = .ok (.putfield 45, 3) := by decide +kernel
theorem dX6_init_101 : decode cX6_init 101 = .ok (.aload_n 0, 1) := by decide +kernel
theorem dX6_init_102 : decode cX6_init 102 = .ok (.bipush 6, 2) := by decide +kernel
theorem dX6_init_104 : decode cX6_init 104 = .ok (.newarray .int, 2) := by decide +kernel
theorem dX6_init_106 : decode cX6_init 106 = .ok (.putfield 48, 3) := by decide +kernel
theorem dX6_init_109 : decode cX6_init 109 = .ok (.aload_n 0, 1) := by decide +kernel
theorem dX6_init_110 : decode cX6_init 110 = .ok (.bipush 6, 2) := by decide +kernel
theorem dX6_init_112 : decode cX6_init 112 = .ok (.newarray .int, 2) := by decide +kernel
theorem dX6_init_114 : decode cX6_init 114 = .ok (.putfield 51, 3) := by decide +kernel
theorem dX6_init_117 : decode cX6_init 117 = .ok (.aload_n 0, 1) := by decide +kernel
theorem dX6_init_118 : decode cX6_init 118 = .ok (.iconst 5, 1) := by decide +kernel
theorem dX6_init_119 : decode cX6_init 119 = .ok (.newarray .int, 2) := by decide +kernel
theorem dX6_init_121 : decode cX6_init 121 = .ok (.putfield 54, 3) := by decide +kernel
theorem dX6_init_124 : decode cX6_init 124 = .ok (.aload_n 0, 1) := by decide +kernel
theorem dX6_init_125 : decode cX6_init 125 = .ok (.iconst 5, 1) := by decide +kernel
theorem dX6_init_126 : decode cX6_init 126 = .ok (.newarray .int, 2) := by decide +kernel
theorem dX6_init_128 : decode cX6_init 128 = .ok (.putfield 57, 3) := by decide +kernel
theorem dX6_init_131 : decode cX6_init 131 = .ok (.aload_n 0, 1) := by decide +kernel
theorem dX6_init_132 : decode cX6_init 132 = .ok (.iconst 4, 1) := by decide +kernel
theorem dX6_init_133 : decode cX6_init 133 = .ok (.newarray .int, 2) := by decide +kernel
theorem dX6_init_135 : decode cX6_init 135 = .ok (.putfield 60, 3) := by decide +kernel
theorem dX6_init_138 : decode cX6_init 138 = .ok (.aload_n 0, 1) := by decide +kernel
theorem dX6_init_139 : decode cX6_init 139 = .ok (.iconst 4, 1) := by decide +kernel
theorem dX6_init_140 : decode cX6_init 140 = .ok (.newarray .int, 2) := by decide +kernel
theorem dX6_init_142 : decode cX6_init 142 = .ok (.putfield 63, 3) := by decide +kernel
theorem dX6_init_145 : decode cX6_init 145 = .ok (.aload_n 0, 1) := by decide +kernel
theorem dX6_init_146 : decode cX6_init 146 = .ok (.iconst 4, 1) := by decide +kernel
theorem dX6_init_147 : decode cX6_init 147 = .ok (.newarray .int, 2) := by decide +kernel
theorem dX6_init_149 : decode cX6_init 149 = .ok (.putfield 66, 3) := by decide +kernel
theorem dX6_init_152 : decode cX6_init 152 = .ok (.aload_n 0, 1) := by decide +kernel
theorem dX6_init_153 : decode cX6_init 153 = .ok (.iconst 4, 1) := by decide +kernel
theorem dX6_init_154 : decode cX6_init 154 = .ok (.newarray .int, 2) := by decide +kernel
theorem dX6_init_156 : decode cX6_init 156 = .ok (.putfield 69, 3) := by decide +kernel
theorem dX6_init_159 : decode cX6_init 159 = .ok (.aload_n 0, 1) := by decide +kernel
theorem dX6_init_160 : decode cX6_init 160 = .ok (.iconst 4, 1) := by decide +kernel
theorem dX6_init_161 : decode cX6_init 161 = .ok (.newarray .int, 2) := by decide +kernel
theorem dX6_init_163 : decode cX6_init 163 = .ok (.putfield 72, 3) := by decide +kernel
theorem dX6_init_166 : decode cX6_init 166 = .ok (.aload_n 0, 1) := by decide +kernel
theorem dX6_init_167 : decode cX6_init 167 = .ok (.iconst 4, 1) := by decide +kernel
theorem dX6_init_168 : decode cX6_init 168 = .ok (.newarray .int, 2) := by decide +kernel
theorem dX6_init_170 : decode cX6_init 170 = .ok (.putfield 75, 3) := by decide +kernel
theorem dX6_init_173 : decode cX6_init 173 = .ok (.aload_n 0, 1) := by decide +kernel
theorem dX6_init_174 : decode cX6_init 174 = .ok (.iconst 4, 1) := by decide +kernel
theorem dX6_init_175 : decode cX6_init 175 = .ok (.newarray .int, 2) := by decide +kernel
theorem dX6_init_177 : decode cX6_init 177 = .ok (.putfield 78, 3) := by decide +kernel
theorem dX6_init_180 : decode cX6_init 180 = .ok (.aload_n 0, 1) := by decide +kernel
theorem dX6_init_181 : decode cX6_init 181 = .ok (.iconst 4, 1) := by decide +kernel
theorem dX6_init_182 : decode cX6_init 182 = .ok (.newarray .int, 2) := by decide +kernel
theorem dX6_init_184 : decode cX6_init 184 = .ok (.putfield 81, 3) := by decide +kernel
theorem dX6_init_187 : decode cX6_init 187 = .ok (.aload_n 0, 1) := by decide +kernel
theorem dX6_init_188 : decode cX6_init 188 = .ok (.iconst 4, 1) := by decide +kernel
theorem dX6_init_189 : decode cX6_init 189 = .ok (.newarray .int, 2) := by decide +kernel
theorem dX6_init_191 : decode cX6_init 191 = .ok (.putfield 84, 3) := by decide +kernel
theorem dX6_init_194 : decode cX6_init 194 = .ok (.aload_n 0, 1) := by decide +kernel
theorem dX6_init_195 : decode cX6_init 195 = .ok (.iconst 4, 1) := by decide +kernel
theorem dX6_init_196 : decode cX6_init 196 = .ok (.newarray .int, 2) := by decide +kernel
theorem dX6_init_198 : decode cX6_init 198 = .ok (.putfield 87, 3) := by decide +kernel
theorem dX6_init_201 : decode cX6_init 201 = .ok (.aload_n 0, 1) := by decide +kernel
theorem dX6_init_202 : decode cX6_init 202 = .ok (.iconst 4, 1) := by decide +kernel
theorem dX6_init_203 : decode cX6_init 203 = .ok (.newarray .int, 2) := by decide +kernel
theorem dX6_init_205 : decode cX6_init 205 = .ok (.putfield 90, 3) := by decide +kernel
theorem dX6_init_208 : decode cX6_init 208 = .ok (.aload_n 0, 1) := by decide +kernel
theorem dX6_init_209 : decode cX6_init 209 = .ok (.lconst 1, 1) := by decide +kernel
theorem dX6_init_210 : decode cX6_init 210 = .ok (.putfield 93, 3) := by decide +kernel
theorem dX6_init_213 : decode cX6_init 213 = .ok (.iconst 0, 1) := by decide +kernel
theorem dX6_init_214 : decode cX6_init 214 = .ok (.istore_n 1, 1) := by decide +kernel
theorem dX6_init_215 : decode cX6_init 215 = .ok (.iload_n 1, 1) := by decide +kernel
theorem dX6_init_216 : decode cX6_init 216 = .ok (.bipush 6, 2) := by decide +kernel
theorem dX6_init_218 : decode cX6_init 218 = .ok (.if_icmp .ge 16, 3) := by decide +kernel
theorem dX6_init_221 : decode cX6_init 221 = .ok (.aload_n 0, 1) := by decide +kernel
theorem dX6_init_222 : decode cX6_init 222 = .ok (.getfield 13, 3) := by decide +kernel
theorem dX6_init_225 : decode cX6_init 225 = .ok (.iload_n 1, 1) := by decide +kernel
theorem dX6_init_226 : decode cX6_init 226 = .ok (.iconst (-1), 1) := by decide +kernel
theorem dX6_init_227 : decode cX6_init 227 = .ok (.iastore, 1) := by decide +kernel
theorem dX6_init_228 : decode cX6_init 228 = .ok (.iinc 1 1, 3) := by decide +kernel
theorem dX6_init_231 : decode cX6_init 231 = .ok (.goto (-16), 3) := by decide +kernel
theorem dX6_init_234 : decode cX6_init 234 = .ok (.iconst 0, 1) := by decide +kernel
theorem dX6_init_235 : decode cX6_init 235 = .ok (.istore_n 1, 1) := by decide +kernel
theorem dX6_init_236 : decode cX6_init 236 = .ok (.iload_n 1, 1) := by decide +kernel
theorem dX6_init_237 : decode cX6_init 237 = .ok (.iconst 4, 1) := by decide +kernel
theorem dX6_init_238 : decode cX6_init 238 = .ok (.if_icmp .ge 16, 3) := by decide +kernel
theorem dX6_init_241 : decode cX6_init 241 = .ok (.aload_n 0, 1) := by decide +kernel
theorem dX6_init_242 : decode cX6_init 242 = .ok (.getfield 22, 3) := by decide +kernel
theorem dX6_init_245 : decode cX6_init 245 = .ok (.iload_n 1, 1) := by decide +kernel
theorem dX6_init_246 : decode cX6_init 246 = .ok (.iconst (-1), 1) := by decide +kernel
theorem dX6_init_247 : decode cX6_init 247 = .ok (.iastore, 1) := by decide +kernel
theorem dX6_init_248 : decode cX6_init 248 = .ok (.iinc 1 1, 3) := by decide +kernel
theorem dX6_init_251 : decode cX6_init 251 = .ok (.goto (-15), 3) := by decide +kernel
theorem dX6_init_254 : decode cX6_init 254 = .ok (.iconst 0, 1) := by decide +kernel
theorem dX6_init_255 : decode cX6_init 255 = .ok (.istore_n 1, 1) := by decide +kernel
theorem dX6_init_256 : decode cX6_init 256 = .ok (.iload_n 1, 1) := by decide +kernel
theorem dX6_init_257 : decode cX6_init 257 = .ok (.iconst 4, 1) := by decide +kernel
theorem dX6_init_258 : decode cX6_init 258 = .ok (.if_icmp .ge 17, 3) := by decide +kernel
theorem dX6_init_261 : decode cX6_init 261 = .ok (.aload_n 0, 1) := by decide +kernel
theorem dX6_init_262 : decode cX6_init 262 = .ok (.getfield 63, 3) := by decide +kernel
theorem dX6_init_265 : decode cX6_init 265 = .ok (.iload_n 1, 1) := by decide +kernel
theorem dX6_init_266 : decode cX6_init 266 = .ok (.bipush (-9), 2) := by decide +kernel
theorem dX6_init_268 : decode cX6_init 268 = .ok (.iastore, 1) := by decide +kernel
theorem dX6_init_269 : decode cX6_init 269 = .ok (.iinc 1 1, 3) := by decide +kernel
theorem dX6_init_272 : decode cX6_init 272 = .ok (.goto (-16), 3) := by decide +kernel
theorem dX6_init_275 : decode cX6_init 275 = .ok (.aload_n 0, 1) := by decide +kernel
theorem dX6_init_276 : decode cX6_init 276 = .ok (.bipush 20, 2) := by decide +kernel
theorem dX6_init_278 : decode cX6_init 278 = .ok (.putfield 97, 3) := by decide +kernel
theorem dX6_init_281 : decode cX6_init 281 = .ok (.return_, 1) := by decide +kernel
theorem w_87 : Cond.code yX5_init cX5_init 2 none ∈ lw_gd := gdi 87 (by decide +kernel) (by decide +kernel)
theorem w_88 : Cond.methodLink RX5 1 Lib.objectInit ∈ lw_gd := gdi 88 (by decide +kernel) (by decide +kernel)
theorem w_89 : Cond.instanceMethod Lib.objectInit ∈ lw_gd := gdi 89 (by decide +kernel) (by decide +kernel)
theorem w_90 : Cond.code Lib.objectInit ⟨#[0xb1]⟩ 1 none ∈ lw_gd := gdi 90 (by decide +kernel) (by decide +kernel)
theorem w_91 : Cond.classLink RX5 9 RX1 ∈ lw_gd := gdi 91 (by decide +kernel) (by decide +kernel)
theorem w_93 : Cond.classLink RX5 18 RX3 ∈ lw_gd := gdi 93 (by decide +kernel) (by decide +kernel)
theorem w_95 : Cond.classLink RX5 24 RX2 ∈ lw_gd := gdi 95 (by decide +kernel) (by decide +kernel)
theorem w_99 : Cond.classLink RX5 40 RX0 ∈ lw_gd := gdi 99 (by decide +kernel) (by decide +kernel)
theorem w_100 : Cond.instantiable RX0 3 ∈ lw_gd := gdi 100 (by decide +kernel) (by decide +kernel)
theorem w_101 : (RX5, 42, yX0_init, RX5) ∈ lw_nest := nsi 101 (by decide +kernel)
theorem w_102 : Cond.instanceMethod yX0_init ∈ lw_gd := gdi 102 (by decide +kernel) (by decide +kernel)
theorem w_103 : Cond.code yX0_init cX0_init 1 none ∈ lw_gd := gdi 103 (by decide +kernel) (by decide +kernel)
theorem w_104 : Cond.methodLink RX0 3 Lib.objectInit ∈ lw_gd := gdi 104 (by decide +kernel) (by decide +kernel)
theorem w_105 : Cond.classLink RX0 9 RX3 ∈ lw_gd := gdi 105 (by decide +kernel) (by decide +kernel)
theorem w_106 : Cond.instantiable RX3 7 ∈ lw_gd := gdi 106 (by decide +kernel) (by decide +kernel)
theorem w_107 : (RX0, 11, yX3_init, RX5) ∈ lw_nest := nsi 107 (by decide +kernel)
theorem w_108 : Cond.instanceMethod yX3_init ∈ lw_gd := gdi 108 (by decide +kernel) (by decide +kernel)
theorem w_109 : Cond.code yX3_init cX3_init 1 none ∈ lw_gd := gdi 109 (by decide +kernel) (by decide +kernel)
theorem w_110 : Cond.methodLink RX3 3 Lib.objectInit ∈ lw_gd := gdi 110 (by decide +kernel) (by decide +kernel)
theorem w_147 : Cond.arrayClass .int ∈ lw_gd := gdi 147 (by decide +kernel) (by decide +kernel)
theorem w_148 : Cond.classLink RX0 18 RX1 ∈ lw_gd := gdi 148 (by decide +kernel) (by decide +kernel)
theorem w_149 : Cond.instantiable RX1 2 ∈ lw_gd := gdi 149 (by decide +kernel) (by decide +kernel)
theorem w_150 : Cond.methodLink RX0 20 yX1_init ∈ lw_gd := gdi 150 (by decide +kernel) (by decide +kernel)
theorem w_151 : Cond.instanceMethod yX1_init ∈ lw_gd := gdi 151 (by decide +kernel) (by decide +kernel)
theorem w_152 : Cond.code yX1_init cX1_init 2 none ∈ lw_gd := gdi 152 (by decide +kernel) (by decide +kernel)
theorem w_153 : Cond.methodLink RX1 1 Lib.objectInit ∈ lw_gd := gdi 153 (by decide +kernel) (by decide +kernel)
theorem w_154 : Cond.methodLink RX1 13 yJ9_max_7cf53 ∈ lw_gd := gdi 154 (by decide +kernel) (by decide +kernel)
theorem w_181 : Cond.classLink RX5 47 RX4 ∈ lw_gd := gdi 181 (by decide +kernel) (by decide +kernel)
theorem w_182 : Cond.instantiable RX4 12 ∈ lw_gd := gdi 182 (by decide +kernel) (by decide +kernel)
theorem w_183 : (RX5, 49, yX4_init, RX5) ∈ lw_nest := nsi 183 (by decide +kernel)
theorem w_184 : Cond.instanceMethod yX4_init ∈ lw_gd := gdi 184 (by decide +kernel) (by decide +kernel)
theorem w_185 : Cond.code yX4_init cX4_init 1 none ∈ lw_gd := gdi 185 (by decide +kernel) (by decide +kernel)
theorem w_186 : Cond.methodLink RX4 3 Lib.objectInit ∈ lw_gd := gdi 186 (by decide +kernel) (by decide +kernel)
theorem w_187 : Cond.classLink RX4 25 RX3 ∈ lw_gd := gdi 187 (by decide +kernel) (by decide +kernel)
theorem w_234 : Cond.arrayClass .boolean ∈ lw_gd := gdi 234 (by decide +kernel) (by decide +kernel)
theorem w_235 : Cond.arrayClass .long ∈ lw_gd := gdi 235 (by decide +kernel) (by decide +kernel)
theorem w_236 : Cond.methodLink RX5 74 yX1_init ∈ lw_gd := gdi 236 (by decide +kernel) (by decide +kernel)
theorem w_237 : (RX5, 77, yX3_init, RX5) ∈ lw_nest := nsi 237 (by decide +kernel)
theorem w_238 : Cond.instantiable RX2 7 ∈ lw_gd := gdi 238 (by decide +kernel) (by decide +kernel)
theorem w_239 : (RX5, 78, yX2_init, RX5) ∈ lw_nest := nsi 239 (by decide +kernel)
theorem w_240 : Cond.instanceMethod yX2_init ∈ lw_gd := gdi 240 (by decide +kernel) (by decide +kernel)
theorem w_241 : Cond.code yX2_init cX2_init 1 none ∈ lw_gd := gdi 241 (by decide +kernel) (by decide +kernel)
theorem w_242 : Cond.methodLink RX2 3 Lib.objectInit ∈ lw_gd := gdi 242 (by decide +kernel) (by decide +kernel)
theorem w_868 : Cond.code yX6_init cX6_init 2 none ∈ lw_gd := gdi 868 (by decide +kernel) (by decide +kernel)
theorem w_869 : Cond.methodLink RX6 1 Lib.objectInit ∈ lw_gd := gdi 869 (by decide +kernel) (by decide +kernel)
theorem w_1024 : Cond.arrayClass .byte ∈ lw_gd := gdi 1024 (by decide +kernel) (by decide +kernel)
theorem mX0_init : Mth yX0_init cX0_init 1 none 0 := ⟨w_103, w_74, by decide +kernel, by decide +kernel, by decide +kernel⟩
theorem mX1_init : Mth yX1_init cX1_init 2 none 1 := ⟨w_152, w_76, by decide +kernel, by decide +kernel, by decide +kernel⟩
theorem mX2_init : Mth yX2_init cX2_init 1 none 0 := ⟨w_241, w_79, by decide +kernel, by decide +kernel, by decide +kernel⟩
theorem mX3_init : Mth yX3_init cX3_init 1 none 0 := ⟨w_109, w_75, by decide +kernel, by decide +kernel, by decide +kernel⟩
theorem mX4_init : Mth yX4_init cX4_init 1 none 0 := ⟨w_185, w_78, by decide +kernel, by decide +kernel, by decide +kernel⟩
theorem mX5_init : Mth yX5_init cX5_init 2 none 0 := ⟨w_87, w_73, by decide +kernel, by decide +kernel, by decide +kernel⟩
theorem mX6_init : Mth yX6_init cX6_init 2 none 0 := ⟨w_868, w_80, by decide +kernel, by decide +kernel, by decide +kernel⟩
def SKall : List Sh := [.inl (5, [2, 2, 2, 2, 2, 2, 2, 2, 2, 2, 0, 0, 1, 1]), .inr (4, 6, 0, 0), .inr (4, 4, 0, 0), .inr (5, 6, 0, 0), .inr (6, 4, 0, 0), .inr (0, 4, 0, 0), .inr (0, 4, 0, 0), .inl (0, [2, 2, 0]), .inl (3, [2, 2, 0, 0, 0, 0, 0]), .inr (0, 5, 0, 0), .inr (0, 5, 0, 0), .inl (1, [2, 0]), .inr (0, 0, 0, 0), .inl (4, [2, 2, 2, 2, 2, 0, 0, 0, 1, 1, 2, 2]), .inr (3, 4, 0, 0), .inr (3, 4, 0, 0), .inr (0, 4, 0, 0), .inr (0, 4, 0, 0), .inr (5, 4, 0, 0), .inr (1, 4, 0, 0), .inr (0, 4, 0, 0), .inr (0, 6, 0, 0), .inr (0, 6, 0, 0), .inl (1, [2, 0]), .inr (0, 40, 0, 0), .inl (1, [2, 0]), .inr (0, 40, 0, 0), .inl (1, [2, 0]), .inr (0, 40, 0, 0), .inl (1, [2, 0]), .inr (0, 40, 0, 0), .inl (1, [2, 0]), .inr (0, 40, 0, 0), .inl (1, [2, 0]), .inr (0, 40, 0, 0), .inl (1, [2, 0]), .inr (0, 60, 0, 0), .inl (1, [2, 0]), .inr (0, 60, 0, 0), .inl (1, [2, 0]), .inr (0, 60, 0, 0), .inl (1, [2, 0]), .inr (0, 60, 0, 0), .inl (3, [2, 2, 0, 0, 0, 0, 0]), .inr (0, 5, 0, 0), .inr (0, 5, 0, 0), .inl (3, [2, 2, 0, 0, 0, 0, 0]), .inr (0, 5, 0, 0), .inr (0, 5, 0, 0), .inl (3, [2, 2, 0, 0, 0, 0, 0]), .inr (0, 5, 0, 0), .inr (0, 5, 0, 0), .inl (3, [2, 2, 0, 0, 0, 0, 0]), .inr (0, 5, 0, 0), .inr (0, 5, 0, 0), .inl (3, [2, 2, 0, 0, 0, 0, 0]), .inr (0, 5, 0, 0), .inr (0, 5, 0, 0), .inl (3, [2, 2, 0, 0, 0, 0, 0]), .inr (0, 5, 0, 0), .inr (0, 5, 0, 0), .inl (2, [0, 0, 0, 0, 0, 0, 0]), .inl (2, [0, 0, 0, 0, 0, 0, 0]), .inl (2, [0, 0, 0, 0, 0, 0, 0]), .inl (2, [0, 0, 0, 0, 0, 0, 0])]
def SK (n : Nat) : List Sh := SKall.take n
theorem skl_0 : (SK 0).length = 0 := rfl
theorem skl_1 : (SK 1).length = 1 := rfl
theorem skl_2 : (SK 2).length = 2 := rfl
theorem skl_3 : (SK 3).length = 3 := rfl
theorem skl_4 : (SK 4).length = 4 := rfl
theorem skl_5 : (SK 5).length = 5 := rfl
theorem skl_6 : (SK 6).length = 6 := rfl
theorem skl_7 : (SK 7).length = 7 := rfl
theorem skl_8 : (SK 8).length = 8 := rfl
theorem skl_9 : (SK 9).length = 9 := rfl
theorem skl_10 : (SK 10).length = 10 := rfl
theorem skl_11 : (SK 11).length = 11 := rfl
theorem skl_12 : (SK 12).length = 12 := rfl
theorem skl_13 : (SK 13).length = 13 := rfl
theorem skl_14 : (SK 14).length = 14 := rfl
theorem skl_15 : (SK 15).length = 15 := rfl
theorem skl_16 : (SK 16).length = 16 := rfl
theorem skl_17 : (SK 17).length = 17 := rfl
theorem skl_18 : (SK 18).length = 18 := rfl
theorem skl_19 : (SK 19).length = 19 := rfl
theorem skl_20 : (SK 20).length = 20 := rfl
theorem skl_21 : (SK 21).length = 21 := rfl
theorem skl_22 : (SK 22).length = 22 := rfl
theorem skl_23 : (SK 23).length = 23 := rfl
theorem skl_24 : (SK 24).length = 24 := rfl
theorem skl_25 : (SK 25).length = 25 := rfl
theorem skl_26 : (SK 26).length = 26 := rfl
theorem skl_27 : (SK 27).length = 27 := rfl
theorem skl_28 : (SK 28).length = 28 := rfl
theorem skl_29 : (SK 29).length = 29 := rfl
theorem skl_30 : (SK 30).length = 30 := rfl
theorem skl_31 : (SK 31).length = 31 := rfl
theorem skl_32 : (SK 32).length = 32 := rfl
theorem skl_33 : (SK 33).length = 33 := rfl
theorem skl_34 : (SK 34).length = 34 := rfl
theorem skl_35 : (SK 35).length = 35 := rfl
theorem skl_36 : (SK 36).length = 36 := rfl
theorem skl_37 : (SK 37).length = 37 := rfl
theorem skl_38 : (SK 38).length = 38 := rfl
theorem skl_39 : (SK 39).length = 39 := rfl
theorem skl_40 : (SK 40).length = 40 := rfl
theorem skl_41 : (SK 41).length = 41 := rfl
theorem skl_42 : (SK 42).length = 42 := rfl
theorem skl_43 : (SK 43).length = 43 := rfl
theorem skl_44 : (SK 44).length = 44 := rfl
theorem skl_45 : (SK 45).length = 45 := rfl
theorem skl_46 : (SK 46).length = 46 := rfl
theorem skl_47 : (SK 47).length = 47 := rfl
theorem skl_48 : (SK 48).length = 48 := rfl
theorem skl_49 : (SK 49).length = 49 := rfl
theorem skl_50 : (SK 50).length = 50 := rfl
theorem skl_51 : (SK 51).length = 51 := rfl
theorem skl_52 : (SK 52).length = 52 := rfl
theorem skl_53 : (SK 53).length = 53 := rfl
theorem skl_54 : (SK 54).length = 54 := rfl
theorem skl_55 : (SK 55).length = 55 := rfl
theorem skl_56 : (SK 56).length = 56 := rfl
theorem skl_57 : (SK 57).length = 57 := rfl
theorem skl_58 : (SK 58).length = 58 := rfl
theorem skl_59 : (SK 59).length = 59 := rfl
theorem skl_60 : (SK 60).length = 60 := rfl
theorem skl_61 : (SK 61).length = 61 := rfl
theorem skl_62 : (SK 62).length = 62 := rfl
theorem skl_63 : (SK 63).length = 63 := rfl
theorem skl_64 : (SK 64).length = 64 := rfl
theorem skl_65 : (SK 65).length = 65 := rfl
def SC0 : St := fun _ _ => 0
theorem zSC_0 (q : Nat) (h : 0 ≤ q) (j : Nat) : SC0 q j = 0 := rfl
def SC1 : St := put SC0 0 0 (((1 : Nat) : Int) + 1)
theorem zSC_1 (q : Nat) (h : 2 ≤ q) (j : Nat) : SC1 q j = 0 := (congrFun (put_ne (by omega)) j).trans (zSC_0 q (by omega) j)
theorem eSC_1 : put SC0 0 0 (((1 : Nat) : Int) + 1) = SC1 := rfl
def SC2 : St := put SC1 0 1 (((2 : Nat) : Int) + 1)
theorem zSC_2 (q : Nat) (h : 3 ≤ q) (j : Nat) : SC2 q j = 0 := (congrFun (put_ne (by omega)) j).trans (zSC_1 q (by omega) j)
theorem eSC_2 : put SC1 0 1 (((2 : Nat) : Int) + 1) = SC2 := rfl
def SC3 : St := put SC2 0 2 (((3 : Nat) : Int) + 1)
theorem zSC_3 (q : Nat) (h : 4 ≤ q) (j : Nat) : SC3 q j = 0 := (congrFun (put_ne (by omega)) j).trans (zSC_2 q (by omega) j)
theorem eSC_3 : put SC2 0 2 (((3 : Nat) : Int) + 1) = SC3 := rfl
def SC4 : St := put SC3 0 3 (((4 : Nat) : Int) + 1)
theorem zSC_4 (q : Nat) (h : 5 ≤ q) (j : Nat) : SC4 q j = 0 := (congrFun (put_ne (by omega)) j).trans (zSC_3 q (by omega) j)
theorem eSC_4 : put SC3 0 3 (((4 : Nat) : Int) + 1) = SC4 := rfl
def SC5 : St := put SC4 0 4 (((5 : Nat) : Int) + 1)
theorem zSC_5 (q : Nat) (h : 6 ≤ q) (j : Nat) : SC5 q j = 0 := (congrFun (put_ne (by omega)) j).trans (zSC_4 q (by omega) j)
theorem eSC_5 : put SC4 0 4 (((5 : Nat) : Int) + 1) = SC5 := rfl
def SC6 : St := put SC5 0 5 (((6 : Nat) : Int) + 1)
theorem zSC_6 (q : Nat) (h : 7 ≤ q) (j : Nat) : SC6 q j = 0 := (congrFun (put_ne (by omega)) j).trans (zSC_5 q (by omega) j)
theorem eSC_6 : put SC5 0 5 (((6 : Nat) : Int) + 1) = SC6 := rfl
def SC7 : St := put SC6 8 0 (((9 : Nat) : Int) + 1)
theorem zSC_7 (q : Nat) (h : 10 ≤ q) (j : Nat) : SC7 q j = 0 := (congrFun (put_ne (by omega)) j).trans (zSC_6 q (by omega) j)
theorem eSC_7 : put SC6 8 0 (((9 : Nat) : Int) + 1) = SC7 := rfl
def SC8 : St := put SC7 8 1 (((10 : Nat) : Int) + 1)
theorem zSC_8 (q : Nat) (h : 11 ≤ q) (j : Nat) : SC8 q j = 0 := (congrFun (put_ne (by omega)) j).trans (zSC_7 q (by omega) j)
theorem eSC_8 : put SC7 8 1 (((10 : Nat) : Int) + 1) = SC8 := rfl
def SC9 : St := put SC8 8 2 (0)
theorem zSC_9 (q : Nat) (h : 11 ≤ q) (j : Nat) : SC9 q j = 0 := (congrFun (put_ne (by omega)) j).trans (zSC_8 q (by omega) j)
theorem eSC_9 : put SC8 8 2 (0) = SC9 := rfl
def SC10 : St := put SC9 8 3 (0)
theorem zSC_10 (q : Nat) (h : 11 ≤ q) (j : Nat) : SC10 q j = 0 := (congrFun (put_ne (by omega)) j).trans (zSC_9 q (by omega) j)
theorem eSC_10 : put SC9 8 3 (0) = SC10 := rfl
def SC11 : St := put SC10 8 4 (-99)
theorem zSC_11 (q : Nat) (h : 11 ≤ q) (j : Nat) : SC11 q j = 0 := (congrFun (put_ne (by omega)) j).trans (zSC_10 q (by omega) j)
theorem eSC_11 : put SC10 8 4 (-99) = SC11 := rfl
def SC12 : St := put SC11 8 5 (0)
theorem zSC_12 (q : Nat) (h : 11 ≤ q) (j : Nat) : SC12 q j = 0 := (congrFun (put_ne (by omega)) j).trans (zSC_11 q (by omega) j)
theorem eSC_12 : put SC11 8 5 (0) = SC12 := rfl
def SC13 : St := put SC12 8 6 (0)
theorem zSC_13 (q : Nat) (h : 11 ≤ q) (j : Nat) : SC13 q j = 0 := (congrFun (put_ne (by omega)) j).trans (zSC_12 q (by omega) j)
theorem eSC_13 : put SC12 8 6 (0) = SC13 := rfl
def SC14 : St := put SC13 7 0 (((8 : Nat) : Int) + 1)
theorem zSC_14 (q : Nat) (h : 11 ≤ q) (j : Nat) : SC14 q j = 0 := (congrFun (put_ne (by omega)) j).trans (zSC_13 q (by omega) j)
theorem eSC_14 : put SC13 7 0 (((8 : Nat) : Int) + 1) = SC14 := rfl
def SC15 : St := put SC14 11 1 (-1)
theorem zSC_15 (q : Nat) (h : 12 ≤ q) (j : Nat) : SC15 q j = 0 := (congrFun (put_ne (by omega)) j).trans (zSC_14 q (by omega) j)
theorem eSC_15 : put SC14 11 1 (-1) = SC15 := rfl
def SC16 : St := put SC15 11 0 (((12 : Nat) : Int) + 1)
theorem zSC_16 (q : Nat) (h : 13 ≤ q) (j : Nat) : SC16 q j = 0 := (congrFun (put_ne (by omega)) j).trans (zSC_15 q (by omega) j)
theorem eSC_16 : put SC15 11 0 (((12 : Nat) : Int) + 1) = SC16 := rfl
def SC17 : St := put SC16 7 1 (((11 : Nat) : Int) + 1)
theorem zSC_17 (q : Nat) (h : 13 ≤ q) (j : Nat) : SC17 q j = 0 := (congrFun (put_ne (by omega)) j).trans (zSC_16 q (by omega) j)
theorem eSC_17 : put SC16 7 1 (((11 : Nat) : Int) + 1) = SC17 := rfl
def SC18 : St := put SC17 7 2 (0)
theorem zSC_18 (q : Nat) (h : 13 ≤ q) (j : Nat) : SC18 q j = 0 := (congrFun (put_ne (by omega)) j).trans (zSC_17 q (by omega) j)
theorem eSC_18 : put SC17 7 2 (0) = SC18 := rfl
def SC19 : St := put SC18 0 6 (((7 : Nat) : Int) + 1)
theorem zSC_19 (q : Nat) (h : 13 ≤ q) (j : Nat) : SC19 q j = 0 := (congrFun (put_ne (by omega)) j).trans (zSC_18 q (by omega) j)
theorem eSC_19 : put SC18 0 6 (((7 : Nat) : Int) + 1) = SC19 := rfl
def SC20 : St := put SC19 13 0 (((14 : Nat) : Int) + 1)
theorem zSC_20 (q : Nat) (h : 15 ≤ q) (j : Nat) : SC20 q j = 0 := (congrFun (put_ne (by omega)) j).trans (zSC_19 q (by omega) j)
theorem eSC_20 : put SC19 13 0 (((14 : Nat) : Int) + 1) = SC20 := rfl
def SC21 : St := put SC20 13 1 (((15 : Nat) : Int) + 1)
theorem zSC_21 (q : Nat) (h : 16 ≤ q) (j : Nat) : SC21 q j = 0 := (congrFun (put_ne (by omega)) j).trans (zSC_20 q (by omega) j)
theorem eSC_21 : put SC20 13 1 (((15 : Nat) : Int) + 1) = SC21 := rfl
def SC22 : St := put SC21 13 2 (((16 : Nat) : Int) + 1)
theorem zSC_22 (q : Nat) (h : 17 ≤ q) (j : Nat) : SC22 q j = 0 := (congrFun (put_ne (by omega)) j).trans (zSC_21 q (by omega) j)
theorem eSC_22 : put SC21 13 2 (((16 : Nat) : Int) + 1) = SC22 := rfl
def SC23 : St := put SC22 13 3 (((17 : Nat) : Int) + 1)
theorem zSC_23 (q : Nat) (h : 18 ≤ q) (j : Nat) : SC23 q j = 0 := (congrFun (put_ne (by omega)) j).trans (zSC_22 q (by omega) j)
theorem eSC_23 : put SC22 13 3 (((17 : Nat) : Int) + 1) = SC23 := rfl
def SC24 : St := put SC23 13 4 (((18 : Nat) : Int) + 1)
theorem zSC_24 (q : Nat) (h : 19 ≤ q) (j : Nat) : SC24 q j = 0 := (congrFun (put_ne (by omega)) j).trans (zSC_23 q (by omega) j)
theorem eSC_24 : put SC23 13 4 (((18 : Nat) : Int) + 1) = SC24 := rfl
def SC25 : St := put SC24 13 5 (0)
theorem zSC_25 (q : Nat) (h : 19 ≤ q) (j : Nat) : SC25 q j = 0 := (congrFun (put_ne (by omega)) j).trans (zSC_24 q (by omega) j)
theorem eSC_25 : put SC24 13 5 (0) = SC25 := rfl
def SC26 : St := put SC25 13 6 (0)
theorem zSC_26 (q : Nat) (h : 19 ≤ q) (j : Nat) : SC26 q j = 0 := (congrFun (put_ne (by omega)) j).trans (zSC_25 q (by omega) j)
theorem eSC_26 : put SC25 13 6 (0) = SC26 := rfl
def SC27 : St := put SC26 13 7 (0)
theorem zSC_27 (q : Nat) (h : 19 ≤ q) (j : Nat) : SC27 q j = 0 := (congrFun (put_ne (by omega)) j).trans (zSC_26 q (by omega) j)
theorem eSC_27 : put SC26 13 7 (0) = SC27 := rfl
def SC28 : St := put SC27 13 8 (0)
theorem zSC_28 (q : Nat) (h : 19 ≤ q) (j : Nat) : SC28 q j = 0 := (congrFun (put_ne (by omega)) j).trans (zSC_27 q (by omega) j)
theorem eSC_28 : put SC27 13 8 (0) = SC28 := rfl
def SC29 : St := put SC28 13 9 (1)
theorem zSC_29 (q : Nat) (h : 19 ≤ q) (j : Nat) : SC29 q j = 0 := (congrFun (put_ne (by omega)) j).trans (zSC_28 q (by omega) j)
theorem eSC_29 : put SC28 13 9 (1) = SC29 := rfl
def SC30 : St := put SC29 13 10 (((19 : Nat) : Int) + 1)
theorem zSC_30 (q : Nat) (h : 20 ≤ q) (j : Nat) : SC30 q j = 0 := (congrFun (put_ne (by omega)) j).trans (zSC_29 q (by omega) j)
theorem eSC_30 : put SC29 13 10 (((19 : Nat) : Int) + 1) = SC30 := rfl
def SC31 : St := put SC30 13 11 (((20 : Nat) : Int) + 1)
theorem zSC_31 (q : Nat) (h : 21 ≤ q) (j : Nat) : SC31 q j = 0 := (congrFun (put_ne (by omega)) j).trans (zSC_30 q (by omega) j)
theorem eSC_31 : put SC30 13 11 (((20 : Nat) : Int) + 1) = SC31 := rfl
def SC32 : St := put SC31 0 7 (((13 : Nat) : Int) + 1)
theorem zSC_32 (q : Nat) (h : 21 ≤ q) (j : Nat) : SC32 q j = 0 := (congrFun (put_ne (by omega)) j).trans (zSC_31 q (by omega) j)
theorem eSC_32 : put SC31 0 7 (((13 : Nat) : Int) + 1) = SC32 := rfl
def SC33 : St := put SC32 0 8 (((21 : Nat) : Int) + 1)
theorem zSC_33 (q : Nat) (h : 22 ≤ q) (j : Nat) : SC33 q j = 0 := (congrFun (put_ne (by omega)) j).trans (zSC_32 q (by omega) j)
theorem eSC_33 : put SC32 0 8 (((21 : Nat) : Int) + 1) = SC33 := rfl
def SC34 : St := put SC33 0 9 (((22 : Nat) : Int) + 1)
theorem zSC_34 (q : Nat) (h : 23 ≤ q) (j : Nat) : SC34 q j = 0 := (congrFun (put_ne (by omega)) j).trans (zSC_33 q (by omega) j)
theorem eSC_34 : put SC33 0 9 (((22 : Nat) : Int) + 1) = SC34 := rfl
def SC35 : St := put SC34 0 10 (0)
theorem zSC_35 (q : Nat) (h : 23 ≤ q) (j : Nat) : SC35 q j = 0 := (congrFun (put_ne (by omega)) j).trans (zSC_34 q (by omega) j)
theorem eSC_35 : put SC34 0 10 (0) = SC35 := rfl
def SC36 : St := put SC35 0 11 (0)
theorem zSC_36 (q : Nat) (h : 23 ≤ q) (j : Nat) : SC36 q j = 0 := (congrFun (put_ne (by omega)) j).trans (zSC_35 q (by omega) j)
theorem eSC_36 : put SC35 0 11 (0) = SC36 := rfl
def SC37 : St := put SC36 0 12 (0)
theorem zSC_37 (q : Nat) (h : 23 ≤ q) (j : Nat) : SC37 q j = 0 := (congrFun (put_ne (by omega)) j).trans (zSC_36 q (by omega) j)
theorem eSC_37 : put SC36 0 12 (0) = SC37 := rfl
def SC38 : St := put SC37 0 13 (1)
theorem zSC_38 (q : Nat) (h : 23 ≤ q) (j : Nat) : SC38 q j = 0 := (congrFun (put_ne (by omega)) j).trans (zSC_37 q (by omega) j)
theorem eSC_38 : put SC37 0 13 (1) = SC38 := rfl
def SC39 : St := put SC38 23 1 (-1)
theorem zSC_39 (q : Nat) (h : 24 ≤ q) (j : Nat) : SC39 q j = 0 := (congrFun (put_ne (by omega)) j).trans (zSC_38 q (by omega) j)
theorem eSC_39 : put SC38 23 1 (-1) = SC39 := rfl
def SC40 : St := put SC39 23 0 (((24 : Nat) : Int) + 1)
theorem zSC_40 (q : Nat) (h : 25 ≤ q) (j : Nat) : SC40 q j = 0 := (congrFun (put_ne (by omega)) j).trans (zSC_39 q (by omega) j)
theorem eSC_40 : put SC39 23 0 (((24 : Nat) : Int) + 1) = SC40 := rfl
def SC41 : St := put SC40 1 0 (((23 : Nat) : Int) + 1)
theorem zSC_41 (q : Nat) (h : 25 ≤ q) (j : Nat) : SC41 q j = 0 := (congrFun (put_ne (by omega)) j).trans (zSC_40 q (by omega) j)
theorem eSC_41 : put SC40 1 (Int.toNat 0) (((23 : Nat) : Int) + 1) = SC41 := rfl
def SC42 : St := put SC41 25 1 (-1)
theorem zSC_42 (q : Nat) (h : 26 ≤ q) (j : Nat) : SC42 q j = 0 := (congrFun (put_ne (by omega)) j).trans (zSC_41 q (by omega) j)
theorem eSC_42 : put SC41 25 1 (-1) = SC42 := rfl
def SC43 : St := put SC42 25 0 (((26 : Nat) : Int) + 1)
theorem zSC_43 (q : Nat) (h : 27 ≤ q) (j : Nat) : SC43 q j = 0 := (congrFun (put_ne (by omega)) j).trans (zSC_42 q (by omega) j)
theorem eSC_43 : put SC42 25 0 (((26 : Nat) : Int) + 1) = SC43 := rfl
def SC44 : St := put SC43 1 1 (((25 : Nat) : Int) + 1)
theorem zSC_44 (q : Nat) (h : 27 ≤ q) (j : Nat) : SC44 q j = 0 := (congrFun (put_ne (by omega)) j).trans (zSC_43 q (by omega) j)
theorem eSC_44 : put SC43 1 (Int.toNat 1) (((25 : Nat) : Int) + 1) = SC44 := rfl
def SC45 : St := put SC44 27 1 (-1)
theorem zSC_45 (q : Nat) (h : 28 ≤ q) (j : Nat) : SC45 q j = 0 := (congrFun (put_ne (by omega)) j).trans (zSC_44 q (by omega) j)
theorem eSC_45 : put SC44 27 1 (-1) = SC45 := rfl
def SC46 : St := put SC45 27 0 (((28 : Nat) : Int) + 1)
theorem zSC_46 (q : Nat) (h : 29 ≤ q) (j : Nat) : SC46 q j = 0 := (congrFun (put_ne (by omega)) j).trans (zSC_45 q (by omega) j)
theorem eSC_46 : put SC45 27 0 (((28 : Nat) : Int) + 1) = SC46 := rfl
def SC47 : St := put SC46 1 2 (((27 : Nat) : Int) + 1)
theorem zSC_47 (q : Nat) (h : 29 ≤ q) (j : Nat) : SC47 q j = 0 := (congrFun (put_ne (by omega)) j).trans (zSC_46 q (by omega) j)
theorem eSC_47 : put SC46 1 (Int.toNat 2) (((27 : Nat) : Int) + 1) = SC47 := rfl
def SC48 : St := put SC47 29 1 (-1)
theorem zSC_48 (q : Nat) (h : 30 ≤ q) (j : Nat) : SC48 q j = 0 := (congrFun (put_ne (by omega)) j).trans (zSC_47 q (by omega) j)
theorem eSC_48 : put SC47 29 1 (-1) = SC48 := rfl
def SC49 : St := put SC48 29 0 (((30 : Nat) : Int) + 1)
theorem zSC_49 (q : Nat) (h : 31 ≤ q) (j : Nat) : SC49 q j = 0 := (congrFun (put_ne (by omega)) j).trans (zSC_48 q (by omega) j)
theorem eSC_49 : put SC48 29 0 (((30 : Nat) : Int) + 1) = SC49 := rfl
def SC50 : St := put SC49 1 3 (((29 : Nat) : Int) + 1)
theorem zSC_50 (q : Nat) (h : 31 ≤ q) (j : Nat) : SC50 q j = 0 := (congrFun (put_ne (by omega)) j).trans (zSC_49 q (by omega) j)
theorem eSC_50 : put SC49 1 (Int.toNat 3) (((29 : Nat) : Int) + 1) = SC50 := rfl
def SC51 : St := put SC50 31 1 (-1)
theorem zSC_51 (q : Nat) (h : 32 ≤ q) (j : Nat) : SC51 q j = 0 := (congrFun (put_ne (by omega)) j).trans (zSC_50 q (by omega) j)
theorem eSC_51 : put SC50 31 1 (-1) = SC51 := rfl
def SC52 : St := put SC51 31 0 (((32 : Nat) : Int) + 1)
theorem zSC_52 (q : Nat) (h : 33 ≤ q) (j : Nat) : SC52 q j = 0 := (congrFun (put_ne (by omega)) j).trans (zSC_51 q (by omega) j)
theorem eSC_52 : put SC51 31 0 (((32 : Nat) : Int) + 1) = SC52 := rfl
def SC53 : St := put SC52 1 4 (((31 : Nat) : Int) + 1)
theorem zSC_53 (q : Nat) (h : 33 ≤ q) (j : Nat) : SC53 q j = 0 := (congrFun (put_ne (by omega)) j).trans (zSC_52 q (by omega) j)
theorem eSC_53 : put SC52 1 (Int.toNat 4) (((31 : Nat) : Int) + 1) = SC53 := rfl
def SC54 : St := put SC53 33 1 (-1)
theorem zSC_54 (q : Nat) (h : 34 ≤ q) (j : Nat) : SC54 q j = 0 := (congrFun (put_ne (by omega)) j).trans (zSC_53 q (by omega) j)
theorem eSC_54 : put SC53 33 1 (-1) = SC54 := rfl
def SC55 : St := put SC54 33 0 (((34 : Nat) : Int) + 1)
theorem zSC_55 (q : Nat) (h : 35 ≤ q) (j : Nat) : SC55 q j = 0 := (congrFun (put_ne (by omega)) j).trans (zSC_54 q (by omega) j)
theorem eSC_55 : put SC54 33 0 (((34 : Nat) : Int) + 1) = SC55 := rfl
def SC56 : St := put SC55 1 5 (((33 : Nat) : Int) + 1)
theorem zSC_56 (q : Nat) (h : 35 ≤ q) (j : Nat) : SC56 q j = 0 := (congrFun (put_ne (by omega)) j).trans (zSC_55 q (by omega) j)
theorem eSC_56 : put SC55 1 (Int.toNat 5) (((33 : Nat) : Int) + 1) = SC56 := rfl
def SC57 : St := put SC56 35 1 (-1)
theorem zSC_57 (q : Nat) (h : 36 ≤ q) (j : Nat) : SC57 q j = 0 := (congrFun (put_ne (by omega)) j).trans (zSC_56 q (by omega) j)
theorem eSC_57 : put SC56 35 1 (-1) = SC57 := rfl
def SC58 : St := put SC57 35 0 (((36 : Nat) : Int) + 1)
theorem zSC_58 (q : Nat) (h : 37 ≤ q) (j : Nat) : SC58 q j = 0 := (congrFun (put_ne (by omega)) j).trans (zSC_57 q (by omega) j)
theorem eSC_58 : put SC57 35 0 (((36 : Nat) : Int) + 1) = SC58 := rfl
def SC59 : St := put SC58 2 0 (((35 : Nat) : Int) + 1)
theorem zSC_59 (q : Nat) (h : 37 ≤ q) (j : Nat) : SC59 q j = 0 := (congrFun (put_ne (by omega)) j).trans (zSC_58 q (by omega) j)
theorem eSC_59 : put SC58 2 (Int.toNat 0) (((35 : Nat) : Int) + 1) = SC59 := rfl
def SC60 : St := put SC59 37 1 (-1)
theorem zSC_60 (q : Nat) (h : 38 ≤ q) (j : Nat) : SC60 q j = 0 := (congrFun (put_ne (by omega)) j).trans (zSC_59 q (by omega) j)
theorem eSC_60 : put SC59 37 1 (-1) = SC60 := rfl
def SC61 : St := put SC60 37 0 (((38 : Nat) : Int) + 1)
theorem zSC_61 (q : Nat) (h : 39 ≤ q) (j : Nat) : SC61 q j = 0 := (congrFun (put_ne (by omega)) j).trans (zSC_60 q (by omega) j)
theorem eSC_61 : put SC60 37 0 (((38 : Nat) : Int) + 1) = SC61 := rfl
def SC62 : St := put SC61 2 1 (((37 : Nat) : Int) + 1)
theorem zSC_62 (q : Nat) (h : 39 ≤ q) (j : Nat) : SC62 q j = 0 := (congrFun (put_ne (by omega)) j).trans (zSC_61 q (by omega) j)
theorem eSC_62 : put SC61 2 (Int.toNat 1) (((37 : Nat) : Int) + 1) = SC62 := rfl
def SC63 : St := put SC62 39 1 (-1)
theorem zSC_63 (q : Nat) (h : 40 ≤ q) (j : Nat) : SC63 q j = 0 := (congrFun (put_ne (by omega)) j).trans (zSC_62 q (by omega) j)
theorem eSC_63 : put SC62 39 1 (-1) = SC63 := rfl
def SC64 : St := put SC63 39 0 (((40 : Nat) : Int) + 1)
theorem zSC_64 (q : Nat) (h : 41 ≤ q) (j : Nat) : SC64 q j = 0 := (congrFun (put_ne (by omega)) j).trans (zSC_63 q (by omega) j)
theorem eSC_64 : put SC63 39 0 (((40 : Nat) : Int) + 1) = SC64 := rfl
def SC65 : St := put SC64 2 2 (((39 : Nat) : Int) + 1)
theorem zSC_65 (q : Nat) (h : 41 ≤ q) (j : Nat) : SC65 q j = 0 := (congrFun (put_ne (by omega)) j).trans (zSC_64 q (by omega) j)
theorem eSC_65 : put SC64 2 (Int.toNat 2) (((39 : Nat) : Int) + 1) = SC65 := rfl
def SC66 : St := put SC65 41 1 (-1)
theorem zSC_66 (q : Nat) (h : 42 ≤ q) (j : Nat) : SC66 q j = 0 := (congrFun (put_ne (by omega)) j).trans (zSC_65 q (by omega) j)
theorem eSC_66 : put SC65 41 1 (-1) = SC66 := rfl
def SC67 : St := put SC66 41 0 (((42 : Nat) : Int) + 1)
theorem zSC_67 (q : Nat) (h : 43 ≤ q) (j : Nat) : SC67 q j = 0 := (congrFun (put_ne (by omega)) j).trans (zSC_66 q (by omega) j)
theorem eSC_67 : put SC66 41 0 (((42 : Nat) : Int) + 1) = SC67 := rfl
def SC68 : St := put SC67 2 3 (((41 : Nat) : Int) + 1)
theorem zSC_68 (q : Nat) (h : 43 ≤ q) (j : Nat) : SC68 q j = 0 := (congrFun (put_ne (by omega)) j).trans (zSC_67 q (by omega) j)
theorem eSC_68 : put SC67 2 (Int.toNat 3) (((41 : Nat) : Int) + 1) = SC68 := rfl
def SC69 : St := put SC68 43 0 (((44 : Nat) : Int) + 1)
theorem zSC_69 (q : Nat) (h : 45 ≤ q) (j : Nat) : SC69 q j = 0 := (congrFun (put_ne (by omega)) j).trans (zSC_68 q (by omega) j)
theorem eSC_69 : put SC68 43 0 (((44 : Nat) : Int) + 1) = SC69 := rfl
def SC70 : St := put SC69 43 1 (((45 : Nat) : Int) + 1)
theorem zSC_70 (q : Nat) (h : 46 ≤ q) (j : Nat) : SC70 q j = 0 := (congrFun (put_ne (by omega)) j).trans (zSC_69 q (by omega) j)
theorem eSC_70 : put SC69 43 1 (((45 : Nat) : Int) + 1) = SC70 := rfl
def SC71 : St := put SC70 43 2 (0)
theorem zSC_71 (q : Nat) (h : 46 ≤ q) (j : Nat) : SC71 q j = 0 := (congrFun (put_ne (by omega)) j).trans (zSC_70 q (by omega) j)
theorem eSC_71 : put SC70 43 2 (0) = SC71 := rfl
def SC72 : St := put SC71 43 3 (0)
theorem zSC_72 (q : Nat) (h : 46 ≤ q) (j : Nat) : SC72 q j = 0 := (congrFun (put_ne (by omega)) j).trans (zSC_71 q (by omega) j)
theorem eSC_72 : put SC71 43 3 (0) = SC72 := rfl
def SC73 : St := put SC72 43 4 (-99)
theorem zSC_73 (q : Nat) (h : 46 ≤ q) (j : Nat) : SC73 q j = 0 := (congrFun (put_ne (by omega)) j).trans (zSC_72 q (by omega) j)
theorem eSC_73 : put SC72 43 4 (-99) = SC73 := rfl
def SC74 : St := put SC73 43 5 (0)
theorem zSC_74 (q : Nat) (h : 46 ≤ q) (j : Nat) : SC74 q j = 0 := (congrFun (put_ne (by omega)) j).trans (zSC_73 q (by omega) j)
theorem eSC_74 : put SC73 43 5 (0) = SC74 := rfl
def SC75 : St := put SC74 43 6 (0)
theorem zSC_75 (q : Nat) (h : 46 ≤ q) (j : Nat) : SC75 q j = 0 := (congrFun (put_ne (by omega)) j).trans (zSC_74 q (by omega) j)
theorem eSC_75 : put SC74 43 6 (0) = SC75 := rfl
def SC76 : St := put SC75 3 0 (((43 : Nat) : Int) + 1)
theorem zSC_76 (q : Nat) (h : 46 ≤ q) (j : Nat) : SC76 q j = 0 := (congrFun (put_ne (by omega)) j).trans (zSC_75 q (by omega) j)
theorem eSC_76 : put SC75 3 (Int.toNat 0) (((43 : Nat) : Int) + 1) = SC76 := rfl
def SC77 : St := put SC76 46 0 (((47 : Nat) : Int) + 1)
theorem zSC_77 (q : Nat) (h : 48 ≤ q) (j : Nat) : SC77 q j = 0 := (congrFun (put_ne (by omega)) j).trans (zSC_76 q (by omega) j)
theorem eSC_77 : put SC76 46 0 (((47 : Nat) : Int) + 1) = SC77 := rfl
def SC78 : St := put SC77 46 1 (((48 : Nat) : Int) + 1)
theorem zSC_78 (q : Nat) (h : 49 ≤ q) (j : Nat) : SC78 q j = 0 := (congrFun (put_ne (by omega)) j).trans (zSC_77 q (by omega) j)
theorem eSC_78 : put SC77 46 1 (((48 : Nat) : Int) + 1) = SC78 := rfl
def SC79 : St := put SC78 46 2 (0)
theorem zSC_79 (q : Nat) (h : 49 ≤ q) (j : Nat) : SC79 q j = 0 := (congrFun (put_ne (by omega)) j).trans (zSC_78 q (by omega) j)
theorem eSC_79 : put SC78 46 2 (0) = SC79 := rfl
def SC80 : St := put SC79 46 3 (0)
theorem zSC_80 (q : Nat) (h : 49 ≤ q) (j : Nat) : SC80 q j = 0 := (congrFun (put_ne (by omega)) j).trans (zSC_79 q (by omega) j)
theorem eSC_80 : put SC79 46 3 (0) = SC80 := rfl
def SC81 : St := put SC80 46 4 (-99)
theorem zSC_81 (q : Nat) (h : 49 ≤ q) (j : Nat) : SC81 q j = 0 := (congrFun (put_ne (by omega)) j).trans (zSC_80 q (by omega) j)
theorem eSC_81 : put SC80 46 4 (-99) = SC81 := rfl
def SC82 : St := put SC81 46 5 (0)
theorem zSC_82 (q : Nat) (h : 49 ≤ q) (j : Nat) : SC82 q j = 0 := (congrFun (put_ne (by omega)) j).trans (zSC_81 q (by omega) j)
theorem eSC_82 : put SC81 46 5 (0) = SC82 := rfl
def SC83 : St := put SC82 46 6 (0)
theorem zSC_83 (q : Nat) (h : 49 ≤ q) (j : Nat) : SC83 q j = 0 := (congrFun (put_ne (by omega)) j).trans (zSC_82 q (by omega) j)
theorem eSC_83 : put SC82 46 6 (0) = SC83 := rfl
def SC84 : St := put SC83 3 1 (((46 : Nat) : Int) + 1)
theorem zSC_84 (q : Nat) (h : 49 ≤ q) (j : Nat) : SC84 q j = 0 := (congrFun (put_ne (by omega)) j).trans (zSC_83 q (by omega) j)
theorem eSC_84 : put SC83 3 (Int.toNat 1) (((46 : Nat) : Int) + 1) = SC84 := rfl
def SC85 : St := put SC84 49 0 (((50 : Nat) : Int) + 1)
theorem zSC_85 (q : Nat) (h : 51 ≤ q) (j : Nat) : SC85 q j = 0 := (congrFun (put_ne (by omega)) j).trans (zSC_84 q (by omega) j)
theorem eSC_85 : put SC84 49 0 (((50 : Nat) : Int) + 1) = SC85 := rfl
def SC86 : St := put SC85 49 1 (((51 : Nat) : Int) + 1)
theorem zSC_86 (q : Nat) (h : 52 ≤ q) (j : Nat) : SC86 q j = 0 := (congrFun (put_ne (by omega)) j).trans (zSC_85 q (by omega) j)
theorem eSC_86 : put SC85 49 1 (((51 : Nat) : Int) + 1) = SC86 := rfl
def SC87 : St := put SC86 49 2 (0)
theorem zSC_87 (q : Nat) (h : 52 ≤ q) (j : Nat) : SC87 q j = 0 := (congrFun (put_ne (by omega)) j).trans (zSC_86 q (by omega) j)
theorem eSC_87 : put SC86 49 2 (0) = SC87 := rfl
def SC88 : St := put SC87 49 3 (0)
theorem zSC_88 (q : Nat) (h : 52 ≤ q) (j : Nat) : SC88 q j = 0 := (congrFun (put_ne (by omega)) j).trans (zSC_87 q (by omega) j)
theorem eSC_88 : put SC87 49 3 (0) = SC88 := rfl
def SC89 : St := put SC88 49 4 (-99)
theorem zSC_89 (q : Nat) (h : 52 ≤ q) (j : Nat) : SC89 q j = 0 := (congrFun (put_ne (by omega)) j).trans (zSC_88 q (by omega) j)
theorem eSC_89 : put SC88 49 4 (-99) = SC89 := rfl
def SC90 : St := put SC89 49 5 (0)
theorem zSC_90 (q : Nat) (h : 52 ≤ q) (j : Nat) : SC90 q j = 0 := (congrFun (put_ne (by omega)) j).trans (zSC_89 q (by omega) j)
theorem eSC_90 : put SC89 49 5 (0) = SC90 := rfl
def SC91 : St := put SC90 49 6 (0)
theorem zSC_91 (q : Nat) (h : 52 ≤ q) (j : Nat) : SC91 q j = 0 := (congrFun (put_ne (by omega)) j).trans (zSC_90 q (by omega) j)
theorem eSC_91 : put SC90 49 6 (0) = SC91 := rfl
def SC92 : St := put SC91 3 2 (((49 : Nat) : Int) + 1)
theorem zSC_92 (q : Nat) (h : 52 ≤ q) (j : Nat) : SC92 q j = 0 := (congrFun (put_ne (by omega)) j).trans (zSC_91 q (by omega) j)
theorem eSC_92 : put SC91 3 (Int.toNat 2) (((49 : Nat) : Int) + 1) = SC92 := rfl
def SC93 : St := put SC92 52 0 (((53 : Nat) : Int) + 1)
theorem zSC_93 (q : Nat) (h : 54 ≤ q) (j : Nat) : SC93 q j = 0 := (congrFun (put_ne (by omega)) j).trans (zSC_92 q (by omega) j)
theorem eSC_93 : put SC92 52 0 (((53 : Nat) : Int) + 1) = SC93 := rfl
def SC94 : St := put SC93 52 1 (((54 : Nat) : Int) + 1)
theorem zSC_94 (q : Nat) (h : 55 ≤ q) (j : Nat) : SC94 q j = 0 := (congrFun (put_ne (by omega)) j).trans (zSC_93 q (by omega) j)
theorem eSC_94 : put SC93 52 1 (((54 : Nat) : Int) + 1) = SC94 := rfl
def SC95 : St := put SC94 52 2 (0)
theorem zSC_95 (q : Nat) (h : 55 ≤ q) (j : Nat) : SC95 q j = 0 := (congrFun (put_ne (by omega)) j).trans (zSC_94 q (by omega) j)
theorem eSC_95 : put SC94 52 2 (0) = SC95 := rfl
def SC96 : St := put SC95 52 3 (0)
theorem zSC_96 (q : Nat) (h : 55 ≤ q) (j : Nat) : SC96 q j = 0 := (congrFun (put_ne (by omega)) j).trans (zSC_95 q (by omega) j)
theorem eSC_96 : put SC95 52 3 (0) = SC96 := rfl
def SC97 : St := put SC96 52 4 (-99)
theorem zSC_97 (q : Nat) (h : 55 ≤ q) (j : Nat) : SC97 q j = 0 := (congrFun (put_ne (by omega)) j).trans (zSC_96 q (by omega) j)
theorem eSC_97 : put SC96 52 4 (-99) = SC97 := rfl
def SC98 : St := put SC97 52 5 (0)
theorem zSC_98 (q : Nat) (h : 55 ≤ q) (j : Nat) : SC98 q j = 0 := (congrFun (put_ne (by omega)) j).trans (zSC_97 q (by omega) j)
theorem eSC_98 : put SC97 52 5 (0) = SC98 := rfl
def SC99 : St := put SC98 52 6 (0)
theorem zSC_99 (q : Nat) (h : 55 ≤ q) (j : Nat) : SC99 q j = 0 := (congrFun (put_ne (by omega)) j).trans (zSC_98 q (by omega) j)
theorem eSC_99 : put SC98 52 6 (0) = SC99 := rfl
def SC100 : St := put SC99 3 3 (((52 : Nat) : Int) + 1)
theorem zSC_100 (q : Nat) (h : 55 ≤ q) (j : Nat) : SC100 q j = 0 := (congrFun (put_ne (by omega)) j).trans (zSC_99 q (by omega) j)
theorem eSC_100 : put SC99 3 (Int.toNat 3) (((52 : Nat) : Int) + 1) = SC100 := rfl
def SC101 : St := put SC100 55 0 (((56 : Nat) : Int) + 1)
theorem zSC_101 (q : Nat) (h : 57 ≤ q) (j : Nat) : SC101 q j = 0 := (congrFun (put_ne (by omega)) j).trans (zSC_100 q (by omega) j)
theorem eSC_101 : put SC100 55 0 (((56 : Nat) : Int) + 1) = SC101 := rfl
def SC102 : St := put SC101 55 1 (((57 : Nat) : Int) + 1)
theorem zSC_102 (q : Nat) (h : 58 ≤ q) (j : Nat) : SC102 q j = 0 := (congrFun (put_ne (by omega)) j).trans (zSC_101 q (by omega) j)
theorem eSC_102 : put SC101 55 1 (((57 : Nat) : Int) + 1) = SC102 := rfl
def SC103 : St := put SC102 55 2 (0)
theorem zSC_103 (q : Nat) (h : 58 ≤ q) (j : Nat) : SC103 q j = 0 := (congrFun (put_ne (by omega)) j).trans (zSC_102 q (by omega) j)
theorem eSC_103 : put SC102 55 2 (0) = SC103 := rfl
def SC104 : St := put SC103 55 3 (0)
theorem zSC_104 (q : Nat) (h : 58 ≤ q) (j : Nat) : SC104 q j = 0 := (congrFun (put_ne (by omega)) j).trans (zSC_103 q (by omega) j)
theorem eSC_104 : put SC103 55 3 (0) = SC104 := rfl
def SC105 : St := put SC104 55 4 (-99)
theorem zSC_105 (q : Nat) (h : 58 ≤ q) (j : Nat) : SC105 q j = 0 := (congrFun (put_ne (by omega)) j).trans (zSC_104 q (by omega) j)
theorem eSC_105 : put SC104 55 4 (-99) = SC105 := rfl
def SC106 : St := put SC105 55 5 (0)
theorem zSC_106 (q : Nat) (h : 58 ≤ q) (j : Nat) : SC106 q j = 0 := (congrFun (put_ne (by omega)) j).trans (zSC_105 q (by omega) j)
theorem eSC_106 : put SC105 55 5 (0) = SC106 := rfl
def SC107 : St := put SC106 55 6 (0)
theorem zSC_107 (q : Nat) (h : 58 ≤ q) (j : Nat) : SC107 q j = 0 := (congrFun (put_ne (by omega)) j).trans (zSC_106 q (by omega) j)
theorem eSC_107 : put SC106 55 6 (0) = SC107 := rfl
def SC108 : St := put SC107 3 4 (((55 : Nat) : Int) + 1)
theorem zSC_108 (q : Nat) (h : 58 ≤ q) (j : Nat) : SC108 q j = 0 := (congrFun (put_ne (by omega)) j).trans (zSC_107 q (by omega) j)
theorem eSC_108 : put SC107 3 (Int.toNat 4) (((55 : Nat) : Int) + 1) = SC108 := rfl
def SC109 : St := put SC108 58 0 (((59 : Nat) : Int) + 1)
theorem zSC_109 (q : Nat) (h : 60 ≤ q) (j : Nat) : SC109 q j = 0 := (congrFun (put_ne (by omega)) j).trans (zSC_108 q (by omega) j)
theorem eSC_109 : put SC108 58 0 (((59 : Nat) : Int) + 1) = SC109 := rfl
def SC110 : St := put SC109 58 1 (((60 : Nat) : Int) + 1)
theorem zSC_110 (q : Nat) (h : 61 ≤ q) (j : Nat) : SC110 q j = 0 := (congrFun (put_ne (by omega)) j).trans (zSC_109 q (by omega) j)
theorem eSC_110 : put SC109 58 1 (((60 : Nat) : Int) + 1) = SC110 := rfl
def SC111 : St := put SC110 58 2 (0)
theorem zSC_111 (q : Nat) (h : 61 ≤ q) (j : Nat) : SC111 q j = 0 := (congrFun (put_ne (by omega)) j).trans (zSC_110 q (by omega) j)
theorem eSC_111 : put SC110 58 2 (0) = SC111 := rfl
def SC112 : St := put SC111 58 3 (0)
theorem zSC_112 (q : Nat) (h : 61 ≤ q) (j : Nat) : SC112 q j = 0 := (congrFun (put_ne (by omega)) j).trans (zSC_111 q (by omega) j)
theorem eSC_112 : put SC111 58 3 (0) = SC112 := rfl
def SC113 : St := put SC112 58 4 (-99)
theorem zSC_113 (q : Nat) (h : 61 ≤ q) (j : Nat) : SC113 q j = 0 := (congrFun (put_ne (by omega)) j).trans (zSC_112 q (by omega) j)
theorem eSC_113 : put SC112 58 4 (-99) = SC113 := rfl
def SC114 : St := put SC113 58 5 (0)
theorem zSC_114 (q : Nat) (h : 61 ≤ q) (j : Nat) : SC114 q j = 0 := (congrFun (put_ne (by omega)) j).trans (zSC_113 q (by omega) j)
theorem eSC_114 : put SC113 58 5 (0) = SC114 := rfl
def SC115 : St := put SC114 58 6 (0)
theorem zSC_115 (q : Nat) (h : 61 ≤ q) (j : Nat) : SC115 q j = 0 := (congrFun (put_ne (by omega)) j).trans (zSC_114 q (by omega) j)
theorem eSC_115 : put SC114 58 6 (0) = SC115 := rfl
def SC116 : St := put SC115 3 5 (((58 : Nat) : Int) + 1)
theorem zSC_116 (q : Nat) (h : 61 ≤ q) (j : Nat) : SC116 q j = 0 := (congrFun (put_ne (by omega)) j).trans (zSC_115 q (by omega) j)
theorem eSC_116 : put SC115 3 (Int.toNat 5) (((58 : Nat) : Int) + 1) = SC116 := rfl
def SC117 : St := put SC116 61 0 (-1)
theorem zSC_117 (q : Nat) (h : 62 ≤ q) (j : Nat) : SC117 q j = 0 := (congrFun (put_ne (by omega)) j).trans (zSC_116 q (by omega) j)
theorem eSC_117 : put SC116 61 0 (-1) = SC117 := rfl
def SC118 : St := put SC117 61 1 (0)
theorem zSC_118 (q : Nat) (h : 62 ≤ q) (j : Nat) : SC118 q j = 0 := (congrFun (put_ne (by omega)) j).trans (zSC_117 q (by omega) j)
theorem eSC_118 : put SC117 61 1 (0) = SC118 := rfl
def SC119 : St := put SC118 61 2 (0)
theorem zSC_119 (q : Nat) (h : 62 ≤ q) (j : Nat) : SC119 q j = 0 := (congrFun (put_ne (by omega)) j).trans (zSC_118 q (by omega) j)
theorem eSC_119 : put SC118 61 2 (0) = SC119 := rfl
def SC120 : St := put SC119 61 3 (0)
theorem zSC_120 (q : Nat) (h : 62 ≤ q) (j : Nat) : SC120 q j = 0 := (congrFun (put_ne (by omega)) j).trans (zSC_119 q (by omega) j)
theorem eSC_120 : put SC119 61 3 (0) = SC120 := rfl
def SC121 : St := put SC120 61 4 (0)
theorem zSC_121 (q : Nat) (h : 62 ≤ q) (j : Nat) : SC121 q j = 0 := (congrFun (put_ne (by omega)) j).trans (zSC_120 q (by omega) j)
theorem eSC_121 : put SC120 61 4 (0) = SC121 := rfl
def SC122 : St := put SC121 61 5 (0)
theorem zSC_122 (q : Nat) (h : 62 ≤ q) (j : Nat) : SC122 q j = 0 := (congrFun (put_ne (by omega)) j).trans (zSC_121 q (by omega) j)
theorem eSC_122 : put SC121 61 5 (0) = SC122 := rfl
def SC123 : St := put SC122 61 6 (0)
theorem zSC_123 (q : Nat) (h : 62 ≤ q) (j : Nat) : SC123 q j = 0 := (congrFun (put_ne (by omega)) j).trans (zSC_122 q (by omega) j)
theorem eSC_123 : put SC122 61 6 (0) = SC123 := rfl
def SC124 : St := put SC123 4 0 (((61 : Nat) : Int) + 1)
theorem zSC_124 (q : Nat) (h : 62 ≤ q) (j : Nat) : SC124 q j = 0 := (congrFun (put_ne (by omega)) j).trans (zSC_123 q (by omega) j)
theorem eSC_124 : put SC123 4 (Int.toNat 0) (((61 : Nat) : Int) + 1) = SC124 := rfl
def SC125 : St := put SC124 62 0 (-1)
theorem zSC_125 (q : Nat) (h : 63 ≤ q) (j : Nat) : SC125 q j = 0 := (congrFun (put_ne (by omega)) j).trans (zSC_124 q (by omega) j)
theorem eSC_125 : put SC124 62 0 (-1) = SC125 := rfl
def SC126 : St := put SC125 62 1 (0)
theorem zSC_126 (q : Nat) (h : 63 ≤ q) (j : Nat) : SC126 q j = 0 := (congrFun (put_ne (by omega)) j).trans (zSC_125 q (by omega) j)
theorem eSC_126 : put SC125 62 1 (0) = SC126 := rfl
def SC127 : St := put SC126 62 2 (0)
theorem zSC_127 (q : Nat) (h : 63 ≤ q) (j : Nat) : SC127 q j = 0 := (congrFun (put_ne (by omega)) j).trans (zSC_126 q (by omega) j)
theorem eSC_127 : put SC126 62 2 (0) = SC127 := rfl
def SC128 : St := put SC127 62 3 (0)
theorem zSC_128 (q : Nat) (h : 63 ≤ q) (j : Nat) : SC128 q j = 0 := (congrFun (put_ne (by omega)) j).trans (zSC_127 q (by omega) j)
theorem eSC_128 : put SC127 62 3 (0) = SC128 := rfl
def SC129 : St := put SC128 62 4 (0)
theorem zSC_129 (q : Nat) (h : 63 ≤ q) (j : Nat) : SC129 q j = 0 := (congrFun (put_ne (by omega)) j).trans (zSC_128 q (by omega) j)
theorem eSC_129 : put SC128 62 4 (0) = SC129 := rfl
def SC130 : St := put SC129 62 5 (0)
theorem zSC_130 (q : Nat) (h : 63 ≤ q) (j : Nat) : SC130 q j = 0 := (congrFun (put_ne (by omega)) j).trans (zSC_129 q (by omega) j)
theorem eSC_130 : put SC129 62 5 (0) = SC130 := rfl
def SC131 : St := put SC130 62 6 (0)
theorem zSC_131 (q : Nat) (h : 63 ≤ q) (j : Nat) : SC131 q j = 0 := (congrFun (put_ne (by omega)) j).trans (zSC_130 q (by omega) j)
theorem eSC_131 : put SC130 62 6 (0) = SC131 := rfl
def SC132 : St := put SC131 4 1 (((62 : Nat) : Int) + 1)
theorem zSC_132 (q : Nat) (h : 63 ≤ q) (j : Nat) : SC132 q j = 0 := (congrFun (put_ne (by omega)) j).trans (zSC_131 q (by omega) j)
theorem eSC_132 : put SC131 4 (Int.toNat 1) (((62 : Nat) : Int) + 1) = SC132 := rfl
def SC133 : St := put SC132 63 0 (-1)
theorem zSC_133 (q : Nat) (h : 64 ≤ q) (j : Nat) : SC133 q j = 0 := (congrFun (put_ne (by omega)) j).trans (zSC_132 q (by omega) j)
theorem eSC_133 : put SC132 63 0 (-1) = SC133 := rfl
def SC134 : St := put SC133 63 1 (0)
theorem zSC_134 (q : Nat) (h : 64 ≤ q) (j : Nat) : SC134 q j = 0 := (congrFun (put_ne (by omega)) j).trans (zSC_133 q (by omega) j)
theorem eSC_134 : put SC133 63 1 (0) = SC134 := rfl
def SC135 : St := put SC134 63 2 (0)
theorem zSC_135 (q : Nat) (h : 64 ≤ q) (j : Nat) : SC135 q j = 0 := (congrFun (put_ne (by omega)) j).trans (zSC_134 q (by omega) j)
theorem eSC_135 : put SC134 63 2 (0) = SC135 := rfl
def SC136 : St := put SC135 63 3 (0)
theorem zSC_136 (q : Nat) (h : 64 ≤ q) (j : Nat) : SC136 q j = 0 := (congrFun (put_ne (by omega)) j).trans (zSC_135 q (by omega) j)
theorem eSC_136 : put SC135 63 3 (0) = SC136 := rfl
def SC137 : St := put SC136 63 4 (0)
theorem zSC_137 (q : Nat) (h : 64 ≤ q) (j : Nat) : SC137 q j = 0 := (congrFun (put_ne (by omega)) j).trans (zSC_136 q (by omega) j)
theorem eSC_137 : put SC136 63 4 (0) = SC137 := rfl
def SC138 : St := put SC137 63 5 (0)
theorem zSC_138 (q : Nat) (h : 64 ≤ q) (j : Nat) : SC138 q j = 0 := (congrFun (put_ne (by omega)) j).trans (zSC_137 q (by omega) j)
theorem eSC_138 : put SC137 63 5 (0) = SC138 := rfl
def SC139 : St := put SC138 63 6 (0)
theorem zSC_139 (q : Nat) (h : 64 ≤ q) (j : Nat) : SC139 q j = 0 := (congrFun (put_ne (by omega)) j).trans (zSC_138 q (by omega) j)
theorem eSC_139 : put SC138 63 6 (0) = SC139 := rfl
def SC140 : St := put SC139 4 2 (((63 : Nat) : Int) + 1)
theorem zSC_140 (q : Nat) (h : 64 ≤ q) (j : Nat) : SC140 q j = 0 := (congrFun (put_ne (by omega)) j).trans (zSC_139 q (by omega) j)
theorem eSC_140 : put SC139 4 (Int.toNat 2) (((63 : Nat) : Int) + 1) = SC140 := rfl
def SC141 : St := put SC140 64 0 (-1)
theorem zSC_141 (q : Nat) (h : 65 ≤ q) (j : Nat) : SC141 q j = 0 := (congrFun (put_ne (by omega)) j).trans (zSC_140 q (by omega) j)
theorem eSC_141 : put SC140 64 0 (-1) = SC141 := rfl
def SC142 : St := put SC141 64 1 (0)
theorem zSC_142 (q : Nat) (h : 65 ≤ q) (j : Nat) : SC142 q j = 0 := (congrFun (put_ne (by omega)) j).trans (zSC_141 q (by omega) j)
theorem eSC_142 : put SC141 64 1 (0) = SC142 := rfl
def SC143 : St := put SC142 64 2 (0)
theorem zSC_143 (q : Nat) (h : 65 ≤ q) (j : Nat) : SC143 q j = 0 := (congrFun (put_ne (by omega)) j).trans (zSC_142 q (by omega) j)
theorem eSC_143 : put SC142 64 2 (0) = SC143 := rfl
def SC144 : St := put SC143 64 3 (0)
theorem zSC_144 (q : Nat) (h : 65 ≤ q) (j : Nat) : SC144 q j = 0 := (congrFun (put_ne (by omega)) j).trans (zSC_143 q (by omega) j)
theorem eSC_144 : put SC143 64 3 (0) = SC144 := rfl
def SC145 : St := put SC144 64 4 (0)
theorem zSC_145 (q : Nat) (h : 65 ≤ q) (j : Nat) : SC145 q j = 0 := (congrFun (put_ne (by omega)) j).trans (zSC_144 q (by omega) j)
theorem eSC_145 : put SC144 64 4 (0) = SC145 := rfl
def SC146 : St := put SC145 64 5 (0)
theorem zSC_146 (q : Nat) (h : 65 ≤ q) (j : Nat) : SC146 q j = 0 := (congrFun (put_ne (by omega)) j).trans (zSC_145 q (by omega) j)
theorem eSC_146 : put SC145 64 5 (0) = SC146 := rfl
def SC147 : St := put SC146 64 6 (0)
theorem zSC_147 (q : Nat) (h : 65 ≤ q) (j : Nat) : SC147 q j = 0 := (congrFun (put_ne (by omega)) j).trans (zSC_146 q (by omega) j)
theorem eSC_147 : put SC146 64 6 (0) = SC147 := rfl
def SC148 : St := put SC147 4 3 (((64 : Nat) : Int) + 1)
theorem zSC_148 (q : Nat) (h : 65 ≤ q) (j : Nat) : SC148 q j = 0 := (congrFun (put_ne (by omega)) j).trans (zSC_147 q (by omega) j)
theorem eSC_148 : put SC147 4 (Int.toNat 3) (((64 : Nat) : Int) + 1) = SC148 := rfl
def SC149 : St := put SC148 6 1 (20)
theorem zSC_149 (q : Nat) (h : 65 ≤ q) (j : Nat) : SC149 q j = 0 := (congrFun (put_ne (by omega)) j).trans (zSC_148 q (by omega) j)
theorem eSC_149 : put SC148 6 (Int.toNat 1) (20) = SC149 := rfl
def MKall : List Sh := [.inl (6, [0, 2, 0, 1, 1, 2, 2, 2, 2, 2, 2, 2, 2, 2, 2, 2, 2, 2, 0, 2, 2, 2, 0, 0, 1, 1, 2, 2, 2, 2, 2, 2, 2, 2, 0, 0, 0, 0, 1, 1, 0, 0, 1, 1, 1, 2, 0, 1, 1, 2, 1]), .inr (0, 6, 0, 0), .inr (0, 6, 0, 0), .inr (0, 240, 0, 0), .inr (0, 40, 0, 0), .inr (0, 4, 0, 0), .inr (2, 240, 0, 0), .inr (3, 6, 0, 0), .inr (0, 6, 0, 0), .inr (0, 30, 0, 0), .inr (0, 30, 0, 0), .inr (0, 6, 0, 0), .inr (0, 6, 0, 0), .inr (0, 6, 0, 0), .inr (0, 6, 0, 0), .inr (0, 5, 0, 0), .inr (0, 5, 0, 0), .inr (0, 4, 0, 0), .inr (0, 4, 0, 0), .inr (0, 4, 0, 0), .inr (0, 4, 0, 0), .inr (0, 4, 0, 0), .inr (0, 4, 0, 0), .inr (0, 4, 0, 0), .inr (0, 4, 0, 0), .inr (0, 4, 0, 0), .inr (0, 4, 0, 0), .inr (0, 4, 0, 0)]
def MK (n : Nat) : List Sh := MKall.take n
theorem mkl_0 : (MK 0).length = 0 := rfl
theorem mkl_1 : (MK 1).length = 1 := rfl
theorem mkl_2 : (MK 2).length = 2 := rfl
theorem mkl_3 : (MK 3).length = 3 := rfl
theorem mkl_4 : (MK 4).length = 4 := rfl
theorem mkl_5 : (MK 5).length = 5 := rfl
theorem mkl_6 : (MK 6).length = 6 := rfl
theorem mkl_7 : (MK 7).length = 7 := rfl
theorem mkl_8 : (MK 8).length = 8 := rfl
theorem mkl_9 : (MK 9).length = 9 := rfl
theorem mkl_10 : (MK 10).length = 10 := rfl
theorem mkl_11 : (MK 11).length = 11 := rfl
theorem mkl_12 : (MK 12).length = 12 := rfl
theorem mkl_13 : (MK 13).length = 13 := rfl
theorem mkl_14 : (MK 14).length = 14 := rfl
theorem mkl_15 : (MK 15).length = 15 := rfl
theorem mkl_16 : (MK 16).length = 16 := rfl
theorem mkl_17 : (MK 17).length = 17 := rfl
theorem mkl_18 : (MK 18).length = 18 := rfl
theorem mkl_19 : (MK 19).length = 19 := rfl
theorem mkl_20 : (MK 20).length = 20 := rfl
theorem mkl_21 : (MK 21).length = 21 := rfl
theorem mkl_22 : (MK 22).length = 22 := rfl
theorem mkl_23 : (MK 23).length = 23 := rfl
theorem mkl_24 : (MK 24).length = 24 := rfl
theorem mkl_25 : (MK 25).length = 25 := rfl
theorem mkl_26 : (MK 26).length = 26 := rfl
theorem mkl_27 : (MK 27).length = 27 := rfl
theorem mkl_28 : (MK 28).length = 28 := rfl
def SM0 : St := fun _ _ => 0
theorem zSM_0 (q : Nat) (h : 0 ≤ q) (j : Nat) : SM0 q j = 0 := rfl
def SM1 : St := put SM0 0 1 (((1 : Nat) : Int) + 1)
theorem zSM_1 (q : Nat) (h : 2 ≤ q) (j : Nat) : SM1 q j = 0 := (congrFun (put_ne (by omega)) j).trans (zSM_0 q (by omega) j)
theorem eSM_1 : put SM0 0 1 (((1 : Nat) : Int) + 1) = SM1 := rfl
def SM2 : St := put SM1 0 5 (((2 : Nat) : Int) + 1)
theorem zSM_2 (q : Nat) (h : 3 ≤ q) (j : Nat) : SM2 q j = 0 := (congrFun (put_ne (by omega)) j).trans (zSM_1 q (by omega) j)
theorem eSM_2 : put SM1 0 5 (((2 : Nat) : Int) + 1) = SM2 := rfl
def SM3 : St := put SM2 0 6 (((3 : Nat) : Int) + 1)
theorem zSM_3 (q : Nat) (h : 4 ≤ q) (j : Nat) : SM3 q j = 0 := (congrFun (put_ne (by omega)) j).trans (zSM_2 q (by omega) j)
theorem eSM_3 : put SM2 0 6 (((3 : Nat) : Int) + 1) = SM3 := rfl
def SM4 : St := put SM3 0 7 (((4 : Nat) : Int) + 1)
theorem zSM_4 (q : Nat) (h : 5 ≤ q) (j : Nat) : SM4 q j = 0 := (congrFun (put_ne (by omega)) j).trans (zSM_3 q (by omega) j)
theorem eSM_4 : put SM3 0 7 (((4 : Nat) : Int) + 1) = SM4 := rfl
def SM5 : St := put SM4 0 8 (((5 : Nat) : Int) + 1)
theorem zSM_5 (q : Nat) (h : 6 ≤ q) (j : Nat) : SM5 q j = 0 := (congrFun (put_ne (by omega)) j).trans (zSM_4 q (by omega) j)
theorem eSM_5 : put SM4 0 8 (((5 : Nat) : Int) + 1) = SM5 := rfl
def SM6 : St := put SM5 0 9 (((6 : Nat) : Int) + 1)
theorem zSM_6 (q : Nat) (h : 7 ≤ q) (j : Nat) : SM6 q j = 0 := (congrFun (put_ne (by omega)) j).trans (zSM_5 q (by omega) j)
theorem eSM_6 : put SM5 0 9 (((6 : Nat) : Int) + 1) = SM6 := rfl
def SM7 : St := put SM6 0 10 (((7 : Nat) : Int) + 1)
theorem zSM_7 (q : Nat) (h : 8 ≤ q) (j : Nat) : SM7 q j = 0 := (congrFun (put_ne (by omega)) j).trans (zSM_6 q (by omega) j)
theorem eSM_7 : put SM6 0 10 (((7 : Nat) : Int) + 1) = SM7 := rfl
def SM8 : St := put SM7 0 11 (((8 : Nat) : Int) + 1)
theorem zSM_8 (q : Nat) (h : 9 ≤ q) (j : Nat) : SM8 q j = 0 := (congrFun (put_ne (by omega)) j).trans (zSM_7 q (by omega) j)
theorem eSM_8 : put SM7 0 11 (((8 : Nat) : Int) + 1) = SM8 := rfl
def SM9 : St := put SM8 0 12 (((9 : Nat) : Int) + 1)
theorem zSM_9 (q : Nat) (h : 10 ≤ q) (j : Nat) : SM9 q j = 0 := (congrFun (put_ne (by omega)) j).trans (zSM_8 q (by omega) j)
theorem eSM_9 : put SM8 0 12 (((9 : Nat) : Int) + 1) = SM9 := rfl
def SM10 : St := put SM9 0 13 (((10 : Nat) : Int) + 1)
theorem zSM_10 (q : Nat) (h : 11 ≤ q) (j : Nat) : SM10 q j = 0 := (congrFun (put_ne (by omega)) j).trans (zSM_9 q (by omega) j)
theorem eSM_10 : put SM9 0 13 (((10 : Nat) : Int) + 1) = SM10 := rfl
def SM11 : St := put SM10 0 14 (((11 : Nat) : Int) + 1)
theorem zSM_11 (q : Nat) (h : 12 ≤ q) (j : Nat) : SM11 q j = 0 := (congrFun (put_ne (by omega)) j).trans (zSM_10 q (by omega) j)
theorem eSM_11 : put SM10 0 14 (((11 : Nat) : Int) + 1) = SM11 := rfl
def SM12 : St := put SM11 0 15 (((12 : Nat) : Int) + 1)
theorem zSM_12 (q : Nat) (h : 13 ≤ q) (j : Nat) : SM12 q j = 0 := (congrFun (put_ne (by omega)) j).trans (zSM_11 q (by omega) j)
theorem eSM_12 : put SM11 0 15 (((12 : Nat) : Int) + 1) = SM12 := rfl
def SM13 : St := put SM12 0 16 (((13 : Nat) : Int) + 1)
theorem zSM_13 (q : Nat) (h : 14 ≤ q) (j : Nat) : SM13 q j = 0 := (congrFun (put_ne (by omega)) j).trans (zSM_12 q (by omega) j)
theorem eSM_13 : put SM12 0 16 (((13 : Nat) : Int) + 1) = SM13 := rfl
def SM14 : St := put SM13 0 17 (((14 : Nat) : Int) + 1)
theorem zSM_14 (q : Nat) (h : 15 ≤ q) (j : Nat) : SM14 q j = 0 := (congrFun (put_ne (by omega)) j).trans (zSM_13 q (by omega) j)
theorem eSM_14 : put SM13 0 17 (((14 : Nat) : Int) + 1) = SM14 := rfl
def SM15 : St := put SM14 0 19 (((15 : Nat) : Int) + 1)
theorem zSM_15 (q : Nat) (h : 16 ≤ q) (j : Nat) : SM15 q j = 0 := (congrFun (put_ne (by omega)) j).trans (zSM_14 q (by omega) j)
theorem eSM_15 : put SM14 0 19 (((15 : Nat) : Int) + 1) = SM15 := rfl
def SM16 : St := put SM15 0 20 (((16 : Nat) : Int) + 1)
theorem zSM_16 (q : Nat) (h : 17 ≤ q) (j : Nat) : SM16 q j = 0 := (congrFun (put_ne (by omega)) j).trans (zSM_15 q (by omega) j)
theorem eSM_16 : put SM15 0 20 (((16 : Nat) : Int) + 1) = SM16 := rfl
def SM17 : St := put SM16 0 21 (((17 : Nat) : Int) + 1)
theorem zSM_17 (q : Nat) (h : 18 ≤ q) (j : Nat) : SM17 q j = 0 := (congrFun (put_ne (by omega)) j).trans (zSM_16 q (by omega) j)
theorem eSM_17 : put SM16 0 21 (((17 : Nat) : Int) + 1) = SM17 := rfl
def SM18 : St := put SM17 0 26 (((18 : Nat) : Int) + 1)
theorem zSM_18 (q : Nat) (h : 19 ≤ q) (j : Nat) : SM18 q j = 0 := (congrFun (put_ne (by omega)) j).trans (zSM_17 q (by omega) j)
theorem eSM_18 : put SM17 0 26 (((18 : Nat) : Int) + 1) = SM18 := rfl
def SM19 : St := put SM18 0 27 (((19 : Nat) : Int) + 1)
theorem zSM_19 (q : Nat) (h : 20 ≤ q) (j : Nat) : SM19 q j = 0 := (congrFun (put_ne (by omega)) j).trans (zSM_18 q (by omega) j)
theorem eSM_19 : put SM18 0 27 (((19 : Nat) : Int) + 1) = SM19 := rfl
def SM20 : St := put SM19 0 28 (((20 : Nat) : Int) + 1)
theorem zSM_20 (q : Nat) (h : 21 ≤ q) (j : Nat) : SM20 q j = 0 := (congrFun (put_ne (by omega)) j).trans (zSM_19 q (by omega) j)
theorem eSM_20 : put SM19 0 28 (((20 : Nat) : Int) + 1) = SM20 := rfl
def SM21 : St := put SM20 0 29 (((21 : Nat) : Int) + 1)
theorem zSM_21 (q : Nat) (h : 22 ≤ q) (j : Nat) : SM21 q j = 0 := (congrFun (put_ne (by omega)) j).trans (zSM_20 q (by omega) j)
theorem eSM_21 : put SM20 0 29 (((21 : Nat) : Int) + 1) = SM21 := rfl
def SM22 : St := put SM21 0 30 (((22 : Nat) : Int) + 1)
theorem zSM_22 (q : Nat) (h : 23 ≤ q) (j : Nat) : SM22 q j = 0 := (congrFun (put_ne (by omega)) j).trans (zSM_21 q (by omega) j)
theorem eSM_22 : put SM21 0 30 (((22 : Nat) : Int) + 1) = SM22 := rfl
def SM23 : St := put SM22 0 31 (((23 : Nat) : Int) + 1)
theorem zSM_23 (q : Nat) (h : 24 ≤ q) (j : Nat) : SM23 q j = 0 := (congrFun (put_ne (by omega)) j).trans (zSM_22 q (by omega) j)
theorem eSM_23 : put SM22 0 31 (((23 : Nat) : Int) + 1) = SM23 := rfl
def SM24 : St := put SM23 0 32 (((24 : Nat) : Int) + 1)
theorem zSM_24 (q : Nat) (h : 25 ≤ q) (j : Nat) : SM24 q j = 0 := (congrFun (put_ne (by omega)) j).trans (zSM_23 q (by omega) j)
theorem eSM_24 : put SM23 0 32 (((24 : Nat) : Int) + 1) = SM24 := rfl
def SM25 : St := put SM24 0 33 (((25 : Nat) : Int) + 1)
theorem zSM_25 (q : Nat) (h : 26 ≤ q) (j : Nat) : SM25 q j = 0 := (congrFun (put_ne (by omega)) j).trans (zSM_24 q (by omega) j)
theorem eSM_25 : put SM24 0 33 (((25 : Nat) : Int) + 1) = SM25 := rfl
def SM26 : St := put SM25 0 45 (((26 : Nat) : Int) + 1)
theorem zSM_26 (q : Nat) (h : 27 ≤ q) (j : Nat) : SM26 q j = 0 := (congrFun (put_ne (by omega)) j).trans (zSM_25 q (by omega) j)
theorem eSM_26 : put SM25 0 45 (((26 : Nat) : Int) + 1) = SM26 := rfl
def SM27 : St := put SM26 0 49 (((27 : Nat) : Int) + 1)
theorem zSM_27 (q : Nat) (h : 28 ≤ q) (j : Nat) : SM27 q j = 0 := (congrFun (put_ne (by omega)) j).trans (zSM_26 q (by omega) j)
theorem eSM_27 : put SM26 0 49 (((27 : Nat) : Int) + 1) = SM27 := rfl
def SM28 : St := put SM27 0 4 (1)
theorem zSM_28 (q : Nat) (h : 28 ≤ q) (j : Nat) : SM28 q j = 0 := (congrFun (put_ne (by omega)) j).trans (zSM_27 q (by omega) j)
theorem eSM_28 : put SM27 0 4 (1) = SM28 := rfl
def SM29 : St := put SM28 2 0 (-1)
theorem zSM_29 (q : Nat) (h : 28 ≤ q) (j : Nat) : SM29 q j = 0 := (congrFun (put_ne (by omega)) j).trans (zSM_28 q (by omega) j)
theorem eSM_29 : put SM28 2 (Int.toNat 0) (-1) = SM29 := rfl
def SM30 : St := put SM29 2 1 (-1)
theorem zSM_30 (q : Nat) (h : 28 ≤ q) (j : Nat) : SM30 q j = 0 := (congrFun (put_ne (by omega)) j).trans (zSM_29 q (by omega) j)
theorem eSM_30 : put SM29 2 (Int.toNat 1) (-1) = SM30 := rfl
def SM31 : St := put SM30 2 2 (-1)
theorem zSM_31 (q : Nat) (h : 28 ≤ q) (j : Nat) : SM31 q j = 0 := (congrFun (put_ne (by omega)) j).trans (zSM_30 q (by omega) j)
theorem eSM_31 : put SM30 2 (Int.toNat 2) (-1) = SM31 := rfl
def SM32 : St := put SM31 2 3 (-1)
theorem zSM_32 (q : Nat) (h : 28 ≤ q) (j : Nat) : SM32 q j = 0 := (congrFun (put_ne (by omega)) j).trans (zSM_31 q (by omega) j)
theorem eSM_32 : put SM31 2 (Int.toNat 3) (-1) = SM32 := rfl
def SM33 : St := put SM32 2 4 (-1)
theorem zSM_33 (q : Nat) (h : 28 ≤ q) (j : Nat) : SM33 q j = 0 := (congrFun (put_ne (by omega)) j).trans (zSM_32 q (by omega) j)
theorem eSM_33 : put SM32 2 (Int.toNat 4) (-1) = SM33 := rfl
def SM34 : St := put SM33 2 5 (-1)
theorem zSM_34 (q : Nat) (h : 28 ≤ q) (j : Nat) : SM34 q j = 0 := (congrFun (put_ne (by omega)) j).trans (zSM_33 q (by omega) j)
theorem eSM_34 : put SM33 2 (Int.toNat 5) (-1) = SM34 := rfl
def SM35 : St := put SM34 5 0 (-1)
theorem zSM_35 (q : Nat) (h : 28 ≤ q) (j : Nat) : SM35 q j = 0 := (congrFun (put_ne (by omega)) j).trans (zSM_34 q (by omega) j)
theorem eSM_35 : put SM34 5 (Int.toNat 0) (-1) = SM35 := rfl
def SM36 : St := put SM35 5 1 (-1)
theorem zSM_36 (q : Nat) (h : 28 ≤ q) (j : Nat) : SM36 q j = 0 := (congrFun (put_ne (by omega)) j).trans (zSM_35 q (by omega) j)
theorem eSM_36 : put SM35 5 (Int.toNat 1) (-1) = SM36 := rfl
def SM37 : St := put SM36 5 2 (-1)
theorem zSM_37 (q : Nat) (h : 28 ≤ q) (j : Nat) : SM37 q j = 0 := (congrFun (put_ne (by omega)) j).trans (zSM_36 q (by omega) j)
theorem eSM_37 : put SM36 5 (Int.toNat 2) (-1) = SM37 := rfl
def SM38 : St := put SM37 5 3 (-1)
theorem zSM_38 (q : Nat) (h : 28 ≤ q) (j : Nat) : SM38 q j = 0 := (congrFun (put_ne (by omega)) j).trans (zSM_37 q (by omega) j)
theorem eSM_38 : put SM37 5 (Int.toNat 3) (-1) = SM38 := rfl
def SM39 : St := put SM38 18 0 (-9)
theorem zSM_39 (q : Nat) (h : 28 ≤ q) (j : Nat) : SM39 q j = 0 := (congrFun (put_ne (by omega)) j).trans (zSM_38 q (by omega) j)
theorem eSM_39 : put SM38 18 (Int.toNat 0) (-9) = SM39 := rfl
def SM40 : St := put SM39 18 1 (-9)
theorem zSM_40 (q : Nat) (h : 28 ≤ q) (j : Nat) : SM40 q j = 0 := (congrFun (put_ne (by omega)) j).trans (zSM_39 q (by omega) j)
theorem eSM_40 : put SM39 18 (Int.toNat 1) (-9) = SM40 := rfl
def SM41 : St := put SM40 18 2 (-9)
theorem zSM_41 (q : Nat) (h : 28 ≤ q) (j : Nat) : SM41 q j = 0 := (congrFun (put_ne (by omega)) j).trans (zSM_40 q (by omega) j)
theorem eSM_41 : put SM40 18 (Int.toNat 2) (-9) = SM41 := rfl
def SM42 : St := put SM41 18 3 (-9)
theorem zSM_42 (q : Nat) (h : 28 ≤ q) (j : Nat) : SM42 q j = 0 := (congrFun (put_ne (by omega)) j).trans (zSM_41 q (by omega) j)
theorem eSM_42 : put SM41 18 (Int.toNat 3) (-9) = SM42 := rfl
def SM43 : St := put SM42 0 35 (20)
theorem zSM_43 (q : Nat) (h : 28 ≤ q) (j : Nat) : SM43 q j = 0 := (congrFun (put_ne (by omega)) j).trans (zSM_42 q (by omega) j)
theorem eSM_43 : put SM42 0 35 (20) = SM43 := rfl
