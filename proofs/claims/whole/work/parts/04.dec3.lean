theorem dX10_init_0 : decode cX10_init 0 = .ok (.aload_n 0, 1) := by decide +kernel
theorem dX10_init_1 : decode cX10_init 1 = .ok (.invokespecial 1, 3) := by decide +kernel
theorem dX10_init_4 : decode cX10_init 4 = .ok (.aload_n 0, 1) := by decide +kernel
theorem dX10_init_5 : decode cX10_init 5 = .ok (.bipush 16, 2) := by decide +kernel
theorem dX10_init_7 : decode cX10_init 7 = .ok (.newarray .int, 2) := by decide +kernel
theorem dX10_init_9 : decode cX10_init 9 = .ok (.putfield 7, 3) := by decide +kernel
theorem dX10_init_12 : decode cX10_init 12 = .ok (.aload_n 0, 1) := by decide +kernel
theorem dX10_init_13 : decode cX10_init 13 = .ok (.bipush 16, 2) := by decide +kernel
theorem dX10_init_15 : decode cX10_init 15 = .ok (.newarray .int, 2) := by decide +kernel
theorem dX10_init_17 : decode cX10_init 17 = .ok (.putfield 13, 3) := by decide +kernel
theorem dX10_init_20 : decode cX10_init 20 = .ok (.aload_n 0, 1) := by decide +kernel
theorem dX10_init_21 : decode cX10_init 21 = .ok (.bipush 16, 2) := by decide +kernel
theorem dX10_init_23 : decode cX10_init 23 = .ok (.newarray .int, 2) := by decide +kernel
theorem dX10_init_25 : decode cX10_init 25 = .ok (.putfield 16, 3) := by decide +kernel
theorem dX10_init_28 : decode cX10_init 28 = .ok (.aload_n 0, 1) := by decide +kernel
theorem dX10_init_29 : decode cX10_init 29 = .ok (.iconst 2, 1) := by decide +kernel
theorem dX10_init_30 : decode cX10_init 30 = .ok (.newarray .int, 2) := by decide +kernel
theorem dX10_init_32 : decode cX10_init 32 = .ok (.putfield 19, 3) := by decide +kernel
theorem dX10_init_35 : decode cX10_init 35 = .ok (.aload_n 0, 1) := by decide +kernel
theorem dX10_init_36 : decode cX10_init 36 = .ok (.iconst 2, 1) := by decide +kernel
theorem dX10_init_37 : decode cX10_init 37 = .ok (.newarray .int, 2) := by decide +kernel
theorem dX10_init_39 : decode cX10_init 39 = .ok (.putfield 22, 3) := by decide +kernel
theorem dX10_init_42 : decode cX10_init 42 = .ok (.aload_n 0, 1) := by decide +kernel
theorem dX10_init_43 : decode cX10_init 43 = .ok (.bipush 96, 2) := by decide +kernel
theorem dX10_init_45 : decode cX10_init 45 = .ok (.newarray .int, 2) := by decide +kernel
theorem dX10_init_47 : decode cX10_init 47 = .ok (.putfield 25, 3) := by decide +kernel
theorem dX10_init_50 : decode cX10_init 50 = .ok (.aload_n 0, 1) := by decide +kernel
theorem dX10_init_51 : decode cX10_init 51 = .ok (.bipush 96, 2) := by decide +kernel
theorem dX10_init_53 : decode cX10_init 53 = .ok (.newarray .int, 2) := by decide +kernel
theorem dX10_init_55 : decode cX10_init 55 = .ok (.putfield 28, 3) := by decide +kernel
theorem dX10_init_58 : decode cX10_init 58 = .ok (.aload_n 0, 1) := by decide +kernel
theorem dX10_init_59 : decode cX10_init 59 = .ok (.iconst 3, 1) := by decide +kernel
theorem dX10_init_60 : decode cX10_init 60 = .ok (.newarray .int, 2) := by decide +kernel
theorem dX10_init_62 : decode cX10_init 62 = .ok (.putfield 31, 3) := by decide +kernel
theorem dX10_init_65 : decode cX10_init 65 = .ok (.aload_n 0, 1) := by decide +kernel
theorem dX10_init_66 : decode cX10_init 66 = .ok (.iconst 3, 1) := by decide +kernel
theorem dX10_init_67 : decode cX10_init 67 = .ok (.newarray .int, 2) := by decide +kernel
theorem dX10_init_69 : decode cX10_init 69 = .ok (.putfield 34, 3) := by decide +kernel
theorem dX10_init_72 : decode cX10_init 72 = .ok (.aload_n 0, 1) := by decide +kernel
theorem dX10_init_73 : decode cX10_init 73 = .ok (.bipush 60, 2) := by decide +kernel
theorem dX10_init_75 : decode cX10_init 75 = .ok (.newarray .int, 2) := by decide +kernel
theorem dX10_init_77 : decode cX10_init 77 = .ok (.putfield 37, 3) := by decide +kernel
theorem dX10_init_80 : decode cX10_init 80 = .ok (.aload_n 0, 1) := by decide +kernel
theorem dX10_init_81 : decode cX10_init 81 = .ok (.sipush 130, 3) := by decide +kernel
theorem dX10_init_84 : decode cX10_init 84 = .ok (.newarray .int, 2) := by decide +kernel
theorem dX10_init_86 : decode cX10_init 86 = .ok (.putfield 40, 3) := by decide +kernel
theorem dX10_init_89 : decode cX10_init 89 = .ok (.aload_n 0, 1) := by decide +kernel
theorem dX10_init_90 : decode cX10_init 90 = .ok (.sipush 130, 3) := by decide +kernel
theorem dX10_init_93 : decode cX10_init 93 = .ok (.newarray .int, 2) := by decide +kernel
theorem dX10_init_95 : decode cX10_init 95 = .ok (.putfield 43, 3) := by decide +kernel
theorem dX10_init_98 : decode cX10_init 98 = .ok (.aload_n 0, 1) := by decide +kernel
theorem dX10_init_99 : decode cX10_init 99 = .ok (.sipush 130, 3) := by decide +kernel
theorem dX10_init_102 : decode cX10_init 102 = .ok (.newarray .int, 2) := by decide +kernel
theorem dX10_init_104 : decode cX10_init 104 = .ok (.putfield 46, 3) := by decide +kernel
theorem dX10_init_107 : decode cX10_init 107 = .ok (.aload_n 0, 1) := by decide +kernel
theorem dX10_init_108 : decode cX10_init 108 = .ok (.ldc 49, 2) := by decide +kernel
theorem dX10_init_110 : decode cX10_init 110 = .ok (.newarray .int, 2) := by decide +kernel
theorem dX10_init_112 : decode cX10_init 112 = .ok (.putfield 50, 3) := by decide +kernel
theorem dX10_init_115 : decode cX10_init 115 = .ok (.aload_n 0, 1) := by decide +kernel
theorem dX10_init_116 : decode cX10_init 116 = .ok (.iconst 2, 1) := by decide +kernel
theorem dX10_init_117 : decode cX10_init 117 = .ok (.newarray .boolean, 2) := by decide +kernel
theorem dX10_init_119 : decode cX10_init 119 = .ok (.putfield 53, 3) := by decide +kernel
theorem dX10_init_122 : decode cX10_init 122 = .ok (.aload_n 0, 1) := by decide +kernel
theorem dX10_init_123 : decode cX10_init 123 = .ok (.iconst 2, 1) := by decide +kernel
theorem dX10_init_124 : decode cX10_init 124 = .ok (.newarray .int, 2) := by decide +kernel
theorem dX10_init_126 : decode cX10_init 126 = .ok (.putfield 57, 3) := by decide +kernel
theorem dX10_init_129 : decode cX10_init 129 = .ok (.aload_n 0, 1) := by decide +kernel
theorem dX10_init_130 : decode cX10_init 130 = .ok (.bipush 120, 2) := by decide +kernel
theorem dX10_init_132 : decode cX10_init 132 = .ok (.newarray .int, 2) := by decide +kernel
theorem dX10_init_134 : decode cX10_init 134 = .ok (.putfield 60, 3) := by decide +kernel
theorem dX10_init_137 : decode cX10_init 137 = .ok (.aload_n 0, 1) := by decide +kernel
theorem dX10_init_138 : decode cX10_init 138 = .ok (.iconst 2, 1) := by decide +kernel
theorem dX10_init_139 : decode cX10_init 139 = .ok (.newarray .boolean, 2) := by decide +kernel
theorem dX10_init_141 : decode cX10_init 141 = .ok (.putfield 63, 3) := by decide +kernel
theorem dX10_init_144 : decode cX10_init 144 = .ok (.aload_n 0, 1) := by decide +kernel
theorem dX10_init_145 : decode cX10_init 145 = .ok (.getfield 31, 3) := by decide +kernel
theorem dX10_init_148 : decode cX10_init 148 = .ok (.iconst 0, 1) := by decide +kernel
theorem dX10_init_149 : decode cX10_init 149 = .ok (.iconst 1, 1) := by decide +kernel
theorem dX10_init_150 : decode cX10_init 150 = .ok (.iastore, 1) := by decide +kernel
theorem dX10_init_151 : decode cX10_init 151 = .ok (.aload_n 0, 1) := by decide +kernel
theorem dX10_init_152 : decode cX10_init 152 = .ok (.getfield 31, 3) := by decide +kernel
theorem dX10_init_155 : decode cX10_init 155 = .ok (.iconst 1, 1) := by decide +kernel
theorem dX10_init_156 : decode cX10_init 156 = .ok (.iconst 2, 1) := by decide +kernel
theorem dX10_init_157 : decode cX10_init 157 = .ok (.iastore, 1) := by decide +kernel
theorem dX10_init_158 : decode cX10_init 158 = .ok (.aload_n 0, 1) := by decide +kernel
theorem dX10_init_159 : decode cX10_init 159 = .ok (.getfield 31, 3) := by decide +kernel
theorem dX10_init_162 : decode cX10_init 162 = .ok (.iconst 2, 1) := by decide +kernel
theorem dX10_init_163 : decode cX10_init 163 = .ok (.bipush 6, 2) := by decide +kernel
theorem dX10_init_165 : decode cX10_init 165 = .ok (.iastore, 1) := by decide +kernel
theorem dX10_init_166 : decode cX10_init 166 = .ok (.aload_n 0, 1) := by decide +kernel
theorem dX10_init_167 : decode cX10_init 167 = .ok (.getfield 34, 3) := by decide +kernel
theorem dX10_init_170 : decode cX10_init 170 = .ok (.iconst 0, 1) := by decide +kernel
theorem dX10_init_171 : decode cX10_init 171 = .ok (.sipush 200, 3) := by decide +kernel
theorem dX10_init_174 : decode cX10_init 174 = .ok (.iastore, 1) := by decide +kernel
theorem dX10_init_175 : decode cX10_init 175 = .ok (.aload_n 0, 1) := by decide +kernel
theorem dX10_init_176 : decode cX10_init 176 = .ok (.getfield 34, 3) := by decide +kernel
theorem dX10_init_179 : decode cX10_init 179 = .ok (.iconst 1, 1) := by decide +kernel
theorem dX10_init_180 : decode cX10_init 180 = .ok (.sipush 500, 3) := by decide +kernel
theorem dX10_init_183 : decode cX10_init 183 = .ok (.iastore, 1) := by decide +kernel
theorem dX10_init_184 : decode cX10_init 184 = .ok (.aload_n 0, 1) := by decide +kernel
theorem dX10_init_185 : decode cX10_init 185 = .ok (.getfield 34, 3) := by decide +kernel
theorem dX10_init_188 : decode cX10_init 188 = .ok (.iconst 2, 1) := by decide +kernel
theorem dX10_init_189 : decode cX10_init 189 = .ok (.sipush 800, 3) := by decide +kernel
theorem dX10_init_192 : decode cX10_init 192 = .ok (.iastore, 1) := by decide +kernel
theorem dX10_init_193 : decode cX10_init 193 = .ok (.return_, 1) := by decide +kernel
theorem dX10_in_0 : decode cX10_in 0 = .ok (.lload_n 0, 1) := by decide +kernel
theorem dX10_in_1 : decode cX10_in 1 = .ok (.lload_n 2, 1) := by decide +kernel
theorem dX10_in_2 : decode cX10_in 2 = .ok (.lcmp, 1) := by decide +kernel
theorem dX10_in_3 : decode cX10_in 3 = .ok (.ifCond .lt 14, 3) := by decide +kernel
theorem dX10_in_6 : decode cX10_in 6 = .ok (.lload_n 0, 1) := by decide +kernel
theorem dX10_in_7 : decode cX10_in 7 = .ok (.lload 4, 2) := by decide +kernel
theorem dX10_in_9 : decode cX10_in 9 = .ok (.lcmp, 1) := by decide +kernel
theorem dX10_in_10 : decode cX10_in 10 = .ok (.ifCond .gt 7, 3) := by decide +kernel
theorem dX10_in_13 : decode cX10_in 13 = .ok (.iconst 1, 1) := by decide +kernel
theorem dX10_in_14 : decode cX10_in 14 = .ok (.goto 4, 3) := by decide +kernel
theorem dX10_in_17 : decode cX10_in 17 = .ok (.iconst 0, 1) := by decide +kernel
theorem dX10_in_18 : decode cX10_in 18 = .ok (.ireturn, 1) := by decide +kernel
theorem dX10_isWay_0 : decode cX10_isWay 0 = .ok (.iload_n 0, 1) := by decide +kernel
theorem dX10_isWay_1 : decode cX10_isWay 1 = .ok (.i2l, 1) := by decide +kernel
theorem dX10_isWay_2 : decode cX10_isWay 2 = .ok (.lconst 0, 1) := by decide +kernel
theorem dX10_isWay_3 : decode cX10_isWay 3 = .ok (.lconst 1, 1) := by decide +kernel
theorem dX10_isWay_4 : decode cX10_isWay 4 = .ok (.invokestatic 66, 3) := by decide +kernel
theorem dX10_isWay_7 : decode cX10_isWay 7 = .ok (.ireturn, 1) := by decide +kernel
theorem dX10_isOwed_0 : decode cX10_isOwed 0 = .ok (.iload_n 0, 1) := by decide +kernel
theorem dX10_isOwed_1 : decode cX10_isOwed 1 = .ok (.i2l, 1) := by decide +kernel
theorem dX10_isOwed_2 : decode cX10_isOwed 2 = .ok (.lconst 0, 1) := by decide +kernel
theorem dX10_isOwed_3 : decode cX10_isOwed 3 = .ok (.ldc2_w 70, 3) := by decide +kernel
theorem dX10_isOwed_6 : decode cX10_isOwed 6 = .ok (.invokestatic 66, 3) := by decide +kernel
theorem dX10_isOwed_9 : decode cX10_isOwed 9 = .ok (.ireturn, 1) := by decide +kernel
theorem dX10_isBattery_0 : decode cX10_isBattery 0 = .ok (.iload_n 0, 1) := by decide +kernel
theorem dX10_isBattery_1 : decode cX10_isBattery 1 = .ok (.i2l, 1) := by decide +kernel
theorem dX10_isBattery_2 : decode cX10_isBattery 2 = .ok (.lconst 0, 1) := by decide +kernel
theorem dX10_isBattery_3 : decode cX10_isBattery 3 = .ok (.ldc2_w 72, 3) := by decide +kernel
theorem dX10_isBattery_6 : decode cX10_isBattery 6 = .ok (.invokestatic 66, 3) := by decide +kernel
theorem dX10_isBattery_9 : decode cX10_isBattery 9 = .ok (.ireturn, 1) := by decide +kernel
theorem dX10_isEnd_0 : decode cX10_isEnd 0 = .ok (.iload_n 0, 1) := by decide +kernel
theorem dX10_isEnd_1 : decode cX10_isEnd 1 = .ok (.i2l, 1) := by decide +kernel
theorem dX10_isEnd_2 : decode cX10_isEnd 2 = .ok (.lconst 0, 1) := by decide +kernel
theorem dX10_isEnd_3 : decode cX10_isEnd 3 = .ok (.lconst 1, 1) := by decide +kernel
theorem dX10_isEnd_4 : decode cX10_isEnd 4 = .ok (.invokestatic 66, 3) := by decide +kernel
theorem dX10_isEnd_7 : decode cX10_isEnd 7 = .ok (.ireturn, 1) := by decide +kernel
theorem dX10_layHours_0 : decode cX10_layHours 0 = .ok (.iconst 0, 1) := by decide +kernel
theorem dX10_layHours_1 : decode cX10_layHours 1 = .ok (.istore_n 2, 1) := by decide +kernel
theorem dX10_layHours_2 : decode cX10_layHours 2 = .ok (.iconst 0, 1) := by decide +kernel
theorem dX10_layHours_3 : decode cX10_layHours 3 = .ok (.istore_n 3, 1) := by decide +kernel
theorem dX10_layHours_4 : decode cX10_layHours 4 = .ok (.iload_n 3, 1) := by decide +kernel
theorem dX10_layHours_5 : decode cX10_layHours 5 = .ok (.aload_n 0, 1) := by decide +kernel
theorem dX10_layHours_6 : decode cX10_layHours 6 = .ok (.getfield 19, 3) := by decide +kernel
theorem dX10_layHours_9 : decode cX10_layHours 9 = .ok (.iload_n 1, 1) := by decide +kernel
theorem dX10_layHours_10 : decode cX10_layHours 10 = .ok (.iaload, 1) := by decide +kernel
theorem dX10_layHours_11 : decode cX10_layHours 11 = .ok (.if_icmp .ge 81, 3) := by decide +kernel
theorem dX10_layHours_14 : decode cX10_layHours 14 = .ok (.iconst 0, 1) := by decide +kernel
theorem dX10_layHours_15 : decode cX10_layHours 15 = .ok (.istore 4, 2) := by decide +kernel
theorem dX10_layHours_17 : decode cX10_layHours 17 = .ok (.iload 4, 2) := by decide +kernel
theorem dX10_layHours_19 : decode cX10_layHours 19 = .ok (.aload_n 0, 1) := by decide +kernel
theorem dX10_layHours_20 : decode cX10_layHours 20 = .ok (.getfield 7, 3) := by decide +kernel
theorem dX10_layHours_23 : decode cX10_layHours 23 = .ok (.bipush 8, 2) := by decide +kernel
theorem dX10_layHours_25 : decode cX10_layHours 25 = .ok (.iload_n 1, 1) := by decide +kernel
theorem dX10_layHours_26 : decode cX10_layHours 26 = .ok (.imul, 1) := by decide +kernel
theorem dX10_layHours_27 : decode cX10_layHours 27 = .ok (.iload_n 3, 1) := by decide +kernel
theorem dX10_layHours_28 : decode cX10_layHours 28 = .ok (.iadd, 1) := by decide +kernel
theorem dX10_layHours_29 : decode cX10_layHours 29 = .ok (.iaload, 1) := by decide +kernel
theorem dX10_layHours_30 : decode cX10_layHours 30 = .ok (.if_icmp .ge 56, 3) := by decide +kernel
theorem dX10_layHours_33 : decode cX10_layHours 33 = .ok (.aload_n 0, 1) := by decide +kernel
theorem dX10_layHours_34 : decode cX10_layHours 34 = .ok (.getfield 25, 3) := by decide +kernel
theorem dX10_layHours_37 : decode cX10_layHours 37 = .ok (.bipush 48, 2) := by decide +kernel
theorem dX10_layHours_39 : decode cX10_layHours 39 = .ok (.iload_n 1, 1) := by decide +kernel
theorem dX10_layHours_40 : decode cX10_layHours 40 = .ok (.imul, 1) := by decide +kernel
theorem dX10_layHours_41 : decode cX10_layHours 41 = .ok (.iload_n 2, 1) := by decide +kernel
theorem dX10_layHours_42 : decode cX10_layHours 42 = .ok (.iadd, 1) := by decide +kernel
theorem dX10_layHours_43 : decode cX10_layHours 43 = .ok (.aload_n 0, 1) := by decide +kernel
theorem dX10_layHours_44 : decode cX10_layHours 44 = .ok (.getfield 13, 3) := by decide +kernel
theorem dX10_layHours_47 : decode cX10_layHours 47 = .ok (.bipush 8, 2) := by decide +kernel
theorem dX10_layHours_49 : decode cX10_layHours 49 = .ok (.iload_n 1, 1) := by decide +kernel
theorem dX10_layHours_50 : decode cX10_layHours 50 = .ok (.imul, 1) := by decide +kernel
theorem dX10_layHours_51 : decode cX10_layHours 51 = .ok (.iload_n 3, 1) := by decide +kernel
theorem dX10_layHours_52 : decode cX10_layHours 52 = .ok (.iadd, 1) := by decide +kernel
theorem dX10_layHours_53 : decode cX10_layHours 53 = .ok (.iaload, 1) := by decide +kernel
theorem dX10_layHours_54 : decode cX10_layHours 54 = .ok (.iastore, 1) := by decide +kernel
theorem dX10_layHours_55 : decode cX10_layHours 55 = .ok (.aload_n 0, 1) := by decide +kernel
theorem dX10_layHours_56 : decode cX10_layHours 56 = .ok (.getfield 28, 3) := by decide +kernel
theorem dX10_layHours_59 : decode cX10_layHours 59 = .ok (.bipush 48, 2) := by decide +kernel
theorem dX10_layHours_61 : decode cX10_layHours 61 = .ok (.iload_n 1, 1) := by decide +kernel
theorem dX10_layHours_62 : decode cX10_layHours 62 = .ok (.imul, 1) := by decide +kernel
theorem dX10_layHours_63 : decode cX10_layHours 63 = .ok (.iload_n 2, 1) := by decide +kernel
theorem dX10_layHours_64 : decode cX10_layHours 64 = .ok (.iadd, 1) := by decide +kernel
theorem dX10_layHours_65 : decode cX10_layHours 65 = .ok (.aload_n 0, 1) := by decide +kernel
theorem dX10_layHours_66 : decode cX10_layHours 66 = .ok (.getfield 16, 3) := by decide +kernel
theorem dX10_layHours_69 : decode cX10_layHours 69 = .ok (.bipush 8, 2) := by decide +kernel
theorem dX10_layHours_71 : decode cX10_layHours 71 = .ok (.iload_n 1, 1) := by decide +kernel
theorem dX10_layHours_72 : decode cX10_layHours 72 = .ok (.imul, 1) := by decide +kernel
theorem dX10_layHours_73 : decode cX10_layHours 73 = .ok (.iload_n 3, 1) := by decide +kernel
theorem dX10_layHours_74 : decode cX10_layHours 74 = .ok (.iadd, 1) := by decide +kernel
theorem dX10_layHours_75 : decode cX10_layHours 75 = .ok (.iaload, 1) := by decide +kernel
theorem dX10_layHours_76 : decode cX10_layHours 76 = .ok (.iastore, 1) := by decide +kernel
theorem dX10_layHours_77 : decode cX10_layHours 77 = .ok (.iinc 2 1, 3) := by decide +kernel
theorem dX10_layHours_80 : decode cX10_layHours 80 = .ok (.iinc 4 1, 3) := by decide +kernel
theorem dX10_layHours_83 : decode cX10_layHours 83 = .ok (.goto (-66), 3) := by decide +kernel
theorem dX10_layHours_86 : decode cX10_layHours 86 = .ok (.iinc 3 1, 3) := by decide +kernel
theorem dX10_layHours_89 : decode cX10_layHours 89 = .ok (.goto (-85), 3) := by decide +kernel
theorem dX10_layHours_92 : decode cX10_layHours 92 = .ok (.aload_n 0, 1) := by decide +kernel
theorem dX10_layHours_93 : decode cX10_layHours 93 = .ok (.getfield 22, 3) := by decide +kernel
theorem dX10_layHours_96 : decode cX10_layHours 96 = .ok (.iload_n 1, 1) := by decide +kernel
theorem dX10_layHours_97 : decode cX10_layHours 97 = .ok (.iload_n 2, 1) := by decide +kernel
theorem dX10_layHours_98 : decode cX10_layHours 98 = .ok (.iastore, 1) := by decide +kernel
theorem dX10_layHours_99 : decode cX10_layHours 99 = .ok (.aload_n 0, 1) := by decide +kernel
theorem dX10_layHours_100 : decode cX10_layHours 100 = .ok (.getfield 53, 3) := by decide +kernel
theorem dX10_layHours_103 : decode cX10_layHours 103 = .ok (.iload_n 1, 1) := by decide +kernel
theorem dX10_layHours_104 : decode cX10_layHours 104 = .ok (.iconst 0, 1) := by decide +kernel
theorem dX10_layHours_105 : decode cX10_layHours 105 = .ok (.bastore, 1) := by decide +kernel
theorem dX10_layHours_106 : decode cX10_layHours 106 = .ok (.return_, 1) := by decide +kernel
theorem dX10_leg_0 : decode cX10_leg 0 = .ok (.iload_n 1, 1) := by decide +kernel
theorem dX10_leg_1 : decode cX10_leg 1 = .ok (.invokestatic 74, 3) := by decide +kernel
theorem dX10_leg_4 : decode cX10_leg 4 = .ok (.ifCond .ne 5, 3) := by decide +kernel
theorem dX10_leg_7 : decode cX10_leg 7 = .ok (.iconst (-1), 1) := by decide +kernel
theorem dX10_leg_8 : decode cX10_leg 8 = .ok (.ireturn, 1) := by decide +kernel
theorem dX10_leg_9 : decode cX10_leg 9 = .ok (.iload_n 2, 1) := by decide +kernel
theorem dX10_leg_10 : decode cX10_leg 10 = .ok (.i2l, 1) := by decide +kernel
theorem dX10_leg_11 : decode cX10_leg 11 = .ok (.lconst 1, 1) := by decide +kernel
theorem dX10_leg_12 : decode cX10_leg 12 = .ok (.ldc2_w 72, 3) := by decide +kernel
theorem dX10_leg_15 : decode cX10_leg 15 = .ok (.invokestatic 66, 3) := by decide +kernel
theorem dX10_leg_18 : decode cX10_leg 18 = .ok (.ifCond .eq 23, 3) := by decide +kernel
theorem dX10_leg_21 : decode cX10_leg 21 = .ok (.iload_n 3, 1) := by decide +kernel
theorem dX10_leg_22 : decode cX10_leg 22 = .ok (.i2l, 1) := by decide +kernel
theorem dX10_leg_23 : decode cX10_leg 23 = .ok (.lconst 0, 1) := by decide +kernel
theorem dX10_leg_24 : decode cX10_leg 24 = .ok (.ldc2_w 78, 3) := by decide +kernel
theorem dX10_leg_27 : decode cX10_leg 27 = .ok (.invokestatic 66, 3) := by decide +kernel
theorem dX10_leg_30 : decode cX10_leg 30 = .ok (.ifCond .eq 11, 3) := by decide +kernel
theorem dX10_leg_33 : decode cX10_leg 33 = .ok (.iload 4, 2) := by decide +kernel
theorem dX10_leg_35 : decode cX10_leg 35 = .ok (.invokestatic 80, 3) := by decide +kernel
theorem dX10_leg_38 : decode cX10_leg 38 = .ok (.ifCond .ne 6, 3) := by decide +kernel
theorem dX10_leg_41 : decode cX10_leg 41 = .ok (.bipush (-2), 2) := by decide +kernel
theorem dX10_leg_43 : decode cX10_leg 43 = .ok (.ireturn, 1) := by decide +kernel
theorem dX10_leg_44 : decode cX10_leg 44 = .ok (.aload_n 0, 1) := by decide +kernel
theorem dX10_leg_45 : decode cX10_leg 45 = .ok (.getfield 19, 3) := by decide +kernel
theorem dX10_leg_48 : decode cX10_leg 48 = .ok (.iload_n 1, 1) := by decide +kernel
theorem dX10_leg_49 : decode cX10_leg 49 = .ok (.iaload, 1) := by decide +kernel
theorem dX10_leg_50 : decode cX10_leg 50 = .ok (.bipush 8, 2) := by decide +kernel
theorem dX10_leg_52 : decode cX10_leg 52 = .ok (.if_icmp .eq 16, 3) := by decide +kernel
theorem dX10_leg_55 : decode cX10_leg 55 = .ok (.aload_n 0, 1) := by decide +kernel
theorem dX10_leg_56 : decode cX10_leg 56 = .ok (.getfield 22, 3) := by decide +kernel
theorem dX10_leg_59 : decode cX10_leg 59 = .ok (.iload_n 1, 1) := by decide +kernel
theorem dX10_leg_60 : decode cX10_leg 60 = .ok (.iaload, 1) := by decide +kernel
theorem dX10_leg_61 : decode cX10_leg 61 = .ok (.iload_n 2, 1) := by decide +kernel
theorem dX10_leg_62 : decode cX10_leg 62 = .ok (.iadd, 1) := by decide +kernel
theorem dX10_leg_63 : decode cX10_leg 63 = .ok (.bipush 48, 2) := by decide +kernel
theorem dX10_leg_65 : decode cX10_leg 65 = .ok (.if_icmp .le 6, 3) := by decide +kernel
theorem dX10_leg_68 : decode cX10_leg 68 = .ok (.bipush (-4), 2) := by decide +kernel
theorem dX10_leg_70 : decode cX10_leg 70 = .ok (.ireturn, 1) := by decide +kernel
theorem dX10_leg_71 : decode cX10_leg 71 = .ok (.bipush 8, 2) := by decide +kernel
theorem dX10_leg_73 : decode cX10_leg 73 = .ok (.iload_n 1, 1) := by decide +kernel
theorem dX10_leg_74 : decode cX10_leg 74 = .ok (.imul, 1) := by decide +kernel
theorem dX10_leg_75 : decode cX10_leg 75 = .ok (.aload_n 0, 1) := by decide +kernel
theorem dX10_leg_76 : decode cX10_leg 76 = .ok (.getfield 19, 3) := by decide +kernel
theorem dX10_leg_79 : decode cX10_leg 79 = .ok (.iload_n 1, 1) := by decide +kernel
theorem dX10_leg_80 : decode cX10_leg 80 = .ok (.iaload, 1) := by decide +kernel
theorem dX10_leg_81 : decode cX10_leg 81 = .ok (.iadd, 1) := by decide +kernel
theorem dX10_leg_82 : decode cX10_leg 82 = .ok (.istore 5, 2) := by decide +kernel
theorem dX10_leg_84 : decode cX10_leg 84 = .ok (.aload_n 0, 1) := by decide +kernel
theorem dX10_leg_85 : decode cX10_leg 85 = .ok (.getfield 7, 3) := by decide +kernel
theorem dX10_leg_88 : decode cX10_leg 88 = .ok (.iload 5, 2) := by decide +kernel
theorem dX10_leg_90 : decode cX10_leg 90 = .ok (.iload_n 2, 1) := by decide +kernel
theorem dX10_leg_91 : decode cX10_leg 91 = .ok (.iastore, 1) := by decide +kernel
theorem dX10_leg_92 : decode cX10_leg 92 = .ok (.aload_n 0, 1) := by decide +kernel
theorem dX10_leg_93 : decode cX10_leg 93 = .ok (.getfield 13, 3) := by decide +kernel
theorem dX10_leg_96 : decode cX10_leg 96 = .ok (.iload 5, 2) := by decide +kernel
theorem dX10_leg_98 : decode cX10_leg 98 = .ok (.iload_n 3, 1) := by decide +kernel
theorem dX10_leg_99 : decode cX10_leg 99 = .ok (.iastore, 1) := by decide +kernel
theorem dX10_leg_100 : decode cX10_leg 100 = .ok (.aload_n 0, 1) := by decide +kernel
theorem dX10_leg_101 : decode cX10_leg 101 = .ok (.getfield 16, 3) := by decide +kernel
theorem dX10_leg_104 : decode cX10_leg 104 = .ok (.iload 5, 2) := by decide +kernel
theorem dX10_leg_106 : decode cX10_leg 106 = .ok (.iload 4, 2) := by decide +kernel
theorem dX10_leg_108 : decode cX10_leg 108 = .ok (.iastore, 1) := by decide +kernel
theorem dX10_leg_109 : decode cX10_leg 109 = .ok (.aload_n 0, 1) := by decide +kernel
theorem dX10_leg_110 : decode cX10_leg 110 = .ok (.getfield 19, 3) := by decide +kernel
theorem dX10_leg_113 : decode cX10_leg 113 = .ok (.iload_n 1, 1) := by decide +kernel
theorem dX10_leg_114 : decode cX10_leg 114 = .ok (.dup2, 1) := by decide +kernel
theorem dX10_leg_115 : decode cX10_leg 115 = .ok (.iaload, 1) := by decide +kernel
theorem dX10_leg_116 : decode cX10_leg 116 = .ok (.iconst 1, 1) := by decide +kernel
theorem dX10_leg_117 : decode cX10_leg 117 = .ok (.iadd, 1) := by decide +kernel
theorem dX10_leg_118 : decode cX10_leg 118 = .ok (.iastore, 1) := by decide +kernel
theorem dX10_leg_119 : decode cX10_leg 119 = .ok (.aload_n 0, 1) := by decide +kernel
theorem dX10_leg_120 : decode cX10_leg 120 = .ok (.iload_n 1, 1) := by decide +kernel
theorem dX10_leg_121 : decode cX10_leg 121 = .ok (.invokevirtual 83, 3) := by decide +kernel
theorem dX10_leg_124 : decode cX10_leg 124 = .ok (.aload_n 0, 1) := by decide +kernel
theorem dX10_leg_125 : decode cX10_leg 125 = .ok (.getfield 22, 3) := by decide +kernel
theorem dX10_leg_128 : decode cX10_leg 128 = .ok (.iload_n 1, 1) := by decide +kernel
theorem dX10_leg_129 : decode cX10_leg 129 = .ok (.iaload, 1) := by decide +kernel
theorem dX10_leg_130 : decode cX10_leg 130 = .ok (.ireturn, 1) := by decide +kernel
theorem dX10_cut_0 : decode cX10_cut 0 = .ok (.iload_n 1, 1) := by decide +kernel
theorem dX10_cut_1 : decode cX10_cut 1 = .ok (.invokestatic 74, 3) := by decide +kernel
theorem dX10_cut_4 : decode cX10_cut 4 = .ok (.ifCond .ne 5, 3) := by decide +kernel
theorem dX10_cut_7 : decode cX10_cut 7 = .ok (.iconst (-1), 1) := by decide +kernel
theorem dX10_cut_8 : decode cX10_cut 8 = .ok (.ireturn, 1) := by decide +kernel
theorem dX10_cut_9 : decode cX10_cut 9 = .ok (.aload_n 0, 1) := by decide +kernel
theorem dX10_cut_10 : decode cX10_cut 10 = .ok (.getfield 19, 3) := by decide +kernel
theorem dX10_cut_13 : decode cX10_cut 13 = .ok (.iload_n 1, 1) := by decide +kernel
theorem dX10_cut_14 : decode cX10_cut 14 = .ok (.iaload, 1) := by decide +kernel
theorem dX10_cut_15 : decode cX10_cut 15 = .ok (.ifCond .ne 6, 3) := by decide +kernel
theorem dX10_cut_18 : decode cX10_cut 18 = .ok (.bipush (-5), 2) := by decide +kernel
theorem dX10_cut_20 : decode cX10_cut 20 = .ok (.ireturn, 1) := by decide +kernel
theorem dX10_cut_21 : decode cX10_cut 21 = .ok (.aload_n 0, 1) := by decide +kernel
theorem dX10_cut_22 : decode cX10_cut 22 = .ok (.getfield 19, 3) := by decide +kernel
theorem dX10_cut_25 : decode cX10_cut 25 = .ok (.iload_n 1, 1) := by decide +kernel
theorem dX10_cut_26 : decode cX10_cut 26 = .ok (.dup2, 1) := by decide +kernel
theorem dX10_cut_27 : decode cX10_cut 27 = .ok (.iaload, 1) := by decide +kernel
theorem dX10_cut_28 : decode cX10_cut 28 = .ok (.iconst 1, 1) := by decide +kernel
theorem dX10_cut_29 : decode cX10_cut 29 = .ok (.isub, 1) := by decide +kernel
theorem dX10_cut_30 : decode cX10_cut 30 = .ok (.iastore, 1) := by decide +kernel
theorem dX10_cut_31 : decode cX10_cut 31 = .ok (.aload_n 0, 1) := by decide +kernel
theorem dX10_cut_32 : decode cX10_cut 32 = .ok (.iload_n 1, 1) := by decide +kernel
theorem dX10_cut_33 : decode cX10_cut 33 = .ok (.invokevirtual 83, 3) := by decide +kernel
theorem dX10_cut_36 : decode cX10_cut 36 = .ok (.aload_n 0, 1) := by decide +kernel
theorem dX10_cut_37 : decode cX10_cut 37 = .ok (.getfield 19, 3) := by decide +kernel
theorem dX10_cut_40 : decode cX10_cut 40 = .ok (.iload_n 1, 1) := by decide +kernel
theorem dX10_cut_41 : decode cX10_cut 41 = .ok (.iaload, 1) := by decide +kernel
theorem dX10_cut_42 : decode cX10_cut 42 = .ok (.ireturn, 1) := by decide +kernel
theorem dX10_about_0 : decode cX10_about 0 = .ok (.iload_n 1, 1) := by decide +kernel
theorem dX10_about_1 : decode cX10_about 1 = .ok (.invokestatic 74, 3) := by decide +kernel
theorem dX10_about_4 : decode cX10_about 4 = .ok (.ifCond .eq 21, 3) := by decide +kernel
theorem dX10_about_7 : decode cX10_about 7 = .ok (.iload_n 2, 1) := by decide +kernel
theorem dX10_about_8 : decode cX10_about 8 = .ok (.i2l, 1) := by decide +kernel
theorem dX10_about_9 : decode cX10_about 9 = .ok (.lconst 0, 1) := by decide +kernel
theorem dX10_about_10 : decode cX10_about 10 = .ok (.aload_n 0, 1) := by decide +kernel
theorem dX10_about_11 : decode cX10_about 11 = .ok (.getfield 19, 3) := by decide +kernel
theorem dX10_about_14 : decode cX10_about 14 = .ok (.iload_n 1, 1) := by decide +kernel
theorem dX10_about_15 : decode cX10_about 15 = .ok (.iaload, 1) := by decide +kernel
theorem dX10_about_16 : decode cX10_about 16 = .ok (.iconst 1, 1) := by decide +kernel
theorem dX10_about_17 : decode cX10_about 17 = .ok (.isub, 1) := by decide +kernel
theorem dX10_about_18 : decode cX10_about 18 = .ok (.i2l, 1) := by decide +kernel
theorem dX10_about_19 : decode cX10_about 19 = .ok (.invokestatic 66, 3) := by decide +kernel
theorem dX10_about_22 : decode cX10_about 22 = .ok (.ifCond .ne 5, 3) := by decide +kernel
theorem dX10_about_25 : decode cX10_about 25 = .ok (.iconst (-1), 1) := by decide +kernel
theorem dX10_about_26 : decode cX10_about 26 = .ok (.ireturn, 1) := by decide +kernel
theorem dX10_about_27 : decode cX10_about 27 = .ok (.iconst 0, 1) := by decide +kernel
theorem dX10_about_28 : decode cX10_about 28 = .ok (.istore 4, 2) := by decide +kernel
theorem dX10_about_30 : decode cX10_about 30 = .ok (.iconst 0, 1) := by decide +kernel
theorem dX10_about_31 : decode cX10_about 31 = .ok (.istore 5, 2) := by decide +kernel
theorem dX10_about_33 : decode cX10_about 33 = .ok (.iload 5, 2) := by decide +kernel
theorem dX10_about_35 : decode cX10_about 35 = .ok (.iload_n 2, 1) := by decide +kernel
theorem dX10_about_36 : decode cX10_about 36 = .ok (.if_icmp .ge 26, 3) := by decide +kernel
theorem dX10_about_39 : decode cX10_about 39 = .ok (.iload 4, 2) := by decide +kernel
theorem dX10_about_41 : decode cX10_about 41 = .ok (.aload_n 0, 1) := by decide +kernel
theorem dX10_about_42 : decode cX10_about 42 = .ok (.getfield 7, 3) := by decide +kernel
theorem dX10_about_45 : decode cX10_about 45 = .ok (.bipush 8, 2) := by decide +kernel
theorem dX10_about_47 : decode cX10_about 47 = .ok (.iload_n 1, 1) := by decide +kernel
theorem dX10_about_48 : decode cX10_about 48 = .ok (.imul, 1) := by decide +kernel
theorem dX10_about_49 : decode cX10_about 49 = .ok (.iload 5, 2) := by decide +kernel
theorem dX10_about_51 : decode cX10_about 51 = .ok (.iadd, 1) := by decide +kernel
theorem dX10_about_52 : decode cX10_about 52 = .ok (.iaload, 1) := by decide +kernel
theorem dX10_about_53 : decode cX10_about 53 = .ok (.iadd, 1) := by decide +kernel
theorem dX10_about_54 : decode cX10_about 54 = .ok (.istore 4, 2) := by decide +kernel
theorem dX10_about_56 : decode cX10_about 56 = .ok (.iinc 5 1, 3) := by decide +kernel
theorem dX10_about_59 : decode cX10_about 59 = .ok (.goto (-26), 3) := by decide +kernel
theorem dX10_about_62 : decode cX10_about 62 = .ok (.bipush 8, 2) := by decide +kernel
theorem dX10_about_64 : decode cX10_about 64 = .ok (.iload_n 1, 1) := by decide +kernel
theorem dX10_about_65 : decode cX10_about 65 = .ok (.imul, 1) := by decide +kernel
theorem dX10_about_66 : decode cX10_about 66 = .ok (.iload_n 2, 1) := by decide +kernel
theorem dX10_about_67 : decode cX10_about 67 = .ok (.iadd, 1) := by decide +kernel
theorem dX10_about_68 : decode cX10_about 68 = .ok (.istore 5, 2) := by decide +kernel
theorem dX10_about_70 : decode cX10_about 70 = .ok (.iload_n 3, 1) := by decide +kernel
theorem dX10_about_71 : decode cX10_about 71 = .ok (.tableswitch 56 0 3 #[29, 37, 45, 53], 29) := by decide +kernel
theorem dX10_about_100 : decode cX10_about 100 = .ok (.aload_n 0, 1) := by decide +kernel
theorem dX10_about_101 : decode cX10_about 101 = .ok (.getfield 7, 3) := by decide +kernel
theorem dX10_about_104 : decode cX10_about 104 = .ok (.iload 5, 2) := by decide +kernel
theorem dX10_about_106 : decode cX10_about 106 = .ok (.iaload, 1) := by decide +kernel
theorem dX10_about_107 : decode cX10_about 107 = .ok (.ireturn, 1) := by decide +kernel
theorem dX10_about_108 : decode cX10_about 108 = .ok (.aload_n 0, 1) := by decide +kernel
theorem dX10_about_109 : decode cX10_about 109 = .ok (.getfield 13, 3) := by decide +kernel
theorem dX10_about_112 : decode cX10_about 112 = .ok (.iload 5, 2) := by decide +kernel
theorem dX10_about_114 : decode cX10_about 114 = .ok (.iaload, 1) := by decide +kernel
theorem dX10_about_115 : decode cX10_about 115 = .ok (.ireturn, 1) := by decide +kernel
theorem dX10_about_116 : decode cX10_about 116 = .ok (.aload_n 0, 1) := by decide +kernel
theorem dX10_about_117 : decode cX10_about 117 = .ok (.getfield 16, 3) := by decide +kernel
theorem dX10_about_120 : decode cX10_about 120 = .ok (.iload 5, 2) := by decide +kernel
theorem dX10_about_122 : decode cX10_about 122 = .ok (.iaload, 1) := by decide +kernel
theorem dX10_about_123 : decode cX10_about 123 = .ok (.ireturn, 1) := by decide +kernel
theorem dX10_about_124 : decode cX10_about 124 = .ok (.iload 4, 2) := by decide +kernel
theorem dX10_about_126 : decode cX10_about 126 = .ok (.ireturn, 1) := by decide +kernel
theorem dX10_about_127 : decode cX10_about 127 = .ok (.bipush (-2), 2) := by decide +kernel
theorem dX10_about_129 : decode cX10_about 129 = .ok (.ireturn, 1) := by decide +kernel
theorem dX10_nap_0 : decode cX10_nap 0 = .ok (.iload_n 1, 1) := by decide +kernel
theorem dX10_nap_1 : decode cX10_nap 1 = .ok (.i2l, 1) := by decide +kernel
theorem dX10_nap_2 : decode cX10_nap 2 = .ok (.lconst 1, 1) := by decide +kernel
theorem dX10_nap_3 : decode cX10_nap 3 = .ok (.ldc2_w 87, 3) := by decide +kernel
theorem dX10_nap_6 : decode cX10_nap 6 = .ok (.invokestatic 66, 3) := by decide +kernel
theorem dX10_nap_9 : decode cX10_nap 9 = .ok (.ifCond .eq 32, 3) := by decide +kernel
theorem dX10_nap_12 : decode cX10_nap 12 = .ok (.iload_n 2, 1) := by decide +kernel
theorem dX10_nap_13 : decode cX10_nap 13 = .ok (.invokestatic 80, 3) := by decide +kernel
theorem dX10_nap_16 : decode cX10_nap 16 = .ok (.ifCond .eq 25, 3) := by decide +kernel
theorem dX10_nap_19 : decode cX10_nap 19 = .ok (.iload_n 3, 1) := by decide +kernel
theorem dX10_nap_20 : decode cX10_nap 20 = .ok (.i2l, 1) := by decide +kernel
theorem dX10_nap_21 : decode cX10_nap 21 = .ok (.lconst 0, 1) := by decide +kernel
theorem dX10_nap_22 : decode cX10_nap 22 = .ok (.iload_n 2, 1) := by decide +kernel
theorem dX10_nap_23 : decode cX10_nap 23 = .ok (.ifCond .ne 9, 3) := by decide +kernel
theorem dX10_nap_26 : decode cX10_nap 26 = .ok (.ldc2_w 89, 3) := by decide +kernel
theorem dX10_nap_29 : decode cX10_nap 29 = .ok (.goto 6, 3) := by decide +kernel
theorem dX10_nap_32 : decode cX10_nap 32 = .ok (.ldc2_w 91, 3) := by decide +kernel
theorem dX10_nap_35 : decode cX10_nap 35 = .ok (.invokestatic 66, 3) := by decide +kernel
theorem dX10_nap_38 : decode cX10_nap 38 = .ok (.ifCond .ne 6, 3) := by decide +kernel
theorem dX10_nap_41 : decode cX10_nap 41 = .ok (.bipush (-2), 2) := by decide +kernel
theorem dX10_nap_43 : decode cX10_nap 43 = .ok (.ireturn, 1) := by decide +kernel
theorem dX10_nap_44 : decode cX10_nap 44 = .ok (.iload_n 2, 1) := by decide +kernel
theorem dX10_nap_45 : decode cX10_nap 45 = .ok (.ifCond .ne 14, 3) := by decide +kernel
theorem dX10_nap_48 : decode cX10_nap 48 = .ok (.aload_n 0, 1) := by decide +kernel
theorem dX10_nap_49 : decode cX10_nap 49 = .ok (.getfield 31, 3) := by decide +kernel
theorem dX10_nap_52 : decode cX10_nap 52 = .ok (.iload_n 1, 1) := by decide +kernel
theorem dX10_nap_53 : decode cX10_nap 53 = .ok (.iconst 1, 1) := by decide +kernel
theorem dX10_nap_54 : decode cX10_nap 54 = .ok (.isub, 1) := by decide +kernel
theorem dX10_nap_55 : decode cX10_nap 55 = .ok (.iaload, 1) := by decide +kernel
theorem dX10_nap_56 : decode cX10_nap 56 = .ok (.goto 11, 3) := by decide +kernel
theorem dX10_nap_59 : decode cX10_nap 59 = .ok (.aload_n 0, 1) := by decide +kernel
theorem dX10_nap_60 : decode cX10_nap 60 = .ok (.getfield 34, 3) := by decide +kernel
theorem dX10_nap_63 : decode cX10_nap 63 = .ok (.iload_n 1, 1) := by decide +kernel
theorem dX10_nap_64 : decode cX10_nap 64 = .ok (.iconst 1, 1) := by decide +kernel
theorem dX10_nap_65 : decode cX10_nap 65 = .ok (.isub, 1) := by decide +kernel
theorem dX10_nap_66 : decode cX10_nap 66 = .ok (.iaload, 1) := by decide +kernel
theorem dX10_nap_67 : decode cX10_nap 67 = .ok (.istore 4, 2) := by decide +kernel
theorem dX10_nap_69 : decode cX10_nap 69 = .ok (.iload_n 2, 1) := by decide +kernel
theorem dX10_nap_70 : decode cX10_nap 70 = .ok (.ifCond .ne 15, 3) := by decide +kernel
theorem dX10_nap_73 : decode cX10_nap 73 = .ok (.aload_n 0, 1) := by decide +kernel
theorem dX10_nap_74 : decode cX10_nap 74 = .ok (.getfield 31, 3) := by decide +kernel
theorem dX10_nap_77 : decode cX10_nap 77 = .ok (.iload_n 1, 1) := by decide +kernel
theorem dX10_nap_78 : decode cX10_nap 78 = .ok (.iconst 1, 1) := by decide +kernel
theorem dX10_nap_79 : decode cX10_nap 79 = .ok (.isub, 1) := by decide +kernel
theorem dX10_nap_80 : decode cX10_nap 80 = .ok (.iload_n 3, 1) := by decide +kernel
theorem dX10_nap_81 : decode cX10_nap 81 = .ok (.iastore, 1) := by decide +kernel
theorem dX10_nap_82 : decode cX10_nap 82 = .ok (.goto 12, 3) := by decide +kernel
theorem dX10_nap_85 : decode cX10_nap 85 = .ok (.aload_n 0, 1) := by decide +kernel
theorem dX10_nap_86 : decode cX10_nap 86 = .ok (.getfield 34, 3) := by decide +kernel
theorem dX10_nap_89 : decode cX10_nap 89 = .ok (.iload_n 1, 1) := by decide +kernel
theorem dX10_nap_90 : decode cX10_nap 90 = .ok (.iconst 1, 1) := by decide +kernel
theorem dX10_nap_91 : decode cX10_nap 91 = .ok (.isub, 1) := by decide +kernel
theorem dX10_nap_92 : decode cX10_nap 92 = .ok (.iload_n 3, 1) := by decide +kernel
theorem dX10_nap_93 : decode cX10_nap 93 = .ok (.iastore, 1) := by decide +kernel
theorem dX10_nap_94 : decode cX10_nap 94 = .ok (.aload_n 0, 1) := by decide +kernel
theorem dX10_nap_95 : decode cX10_nap 95 = .ok (.getfield 53, 3) := by decide +kernel
theorem dX10_nap_98 : decode cX10_nap 98 = .ok (.iconst 0, 1) := by decide +kernel
theorem dX10_nap_99 : decode cX10_nap 99 = .ok (.iconst 0, 1) := by decide +kernel
theorem dX10_nap_100 : decode cX10_nap 100 = .ok (.bastore, 1) := by decide +kernel
theorem dX10_nap_101 : decode cX10_nap 101 = .ok (.aload_n 0, 1) := by decide +kernel
theorem dX10_nap_102 : decode cX10_nap 102 = .ok (.getfield 53, 3) := by decide +kernel
theorem dX10_nap_105 : decode cX10_nap 105 = .ok (.iconst 1, 1) := by decide +kernel
theorem dX10_nap_106 : decode cX10_nap 106 = .ok (.iconst 0, 1) := by decide +kernel
theorem dX10_nap_107 : decode cX10_nap 107 = .ok (.bastore, 1) := by decide +kernel
theorem dX10_nap_108 : decode cX10_nap 108 = .ok (.iload 4, 2) := by decide +kernel
theorem dX10_nap_110 : decode cX10_nap 110 = .ok (.ireturn, 1) := by decide +kernel
theorem dX10_isSquall_0 : decode cX10_isSquall 0 = .ok (.aload_n 0, 1) := by decide +kernel
theorem dX10_isSquall_1 : decode cX10_isSquall 1 = .ok (.getfield 28, 3) := by decide +kernel
theorem dX10_isSquall_4 : decode cX10_isSquall 4 = .ok (.bipush 48, 2) := by decide +kernel
theorem dX10_isSquall_6 : decode cX10_isSquall 6 = .ok (.iload_n 1, 1) := by decide +kernel
theorem dX10_isSquall_7 : decode cX10_isSquall 7 = .ok (.imul, 1) := by decide +kernel
theorem dX10_isSquall_8 : decode cX10_isSquall 8 = .ok (.iload_n 2, 1) := by decide +kernel
theorem dX10_isSquall_9 : decode cX10_isSquall 9 = .ok (.iadd, 1) := by decide +kernel
theorem dX10_isSquall_10 : decode cX10_isSquall 10 = .ok (.iaload, 1) := by decide +kernel
theorem dX10_isSquall_11 : decode cX10_isSquall 11 = .ok (.iconst 1, 1) := by decide +kernel
theorem dX10_isSquall_12 : decode cX10_isSquall 12 = .ok (.if_icmp .ne 7, 3) := by decide +kernel
theorem dX10_isSquall_15 : decode cX10_isSquall 15 = .ok (.iconst 1, 1) := by decide +kernel
theorem dX10_isSquall_16 : decode cX10_isSquall 16 = .ok (.goto 4, 3) := by decide +kernel
theorem dX10_isSquall_19 : decode cX10_isSquall 19 = .ok (.iconst 0, 1) := by decide +kernel
theorem dX10_isSquall_20 : decode cX10_isSquall 20 = .ok (.ireturn, 1) := by decide +kernel
theorem dX10_canBe_0 : decode cX10_canBe 0 = .ok (.iload_n 2, 1) := by decide +kernel
theorem dX10_canBe_1 : decode cX10_canBe 1 = .ok (.aload_n 0, 1) := by decide +kernel
theorem dX10_canBe_2 : decode cX10_canBe 2 = .ok (.getfield 22, 3) := by decide +kernel
theorem dX10_canBe_5 : decode cX10_canBe 5 = .ok (.iload_n 1, 1) := by decide +kernel
theorem dX10_canBe_6 : decode cX10_canBe 6 = .ok (.iaload, 1) := by decide +kernel
theorem dX10_canBe_7 : decode cX10_canBe 7 = .ok (.if_icmp .ge 16, 3) := by decide +kernel
theorem dX10_canBe_10 : decode cX10_canBe 10 = .ok (.aload_n 0, 1) := by decide +kernel
theorem dX10_canBe_11 : decode cX10_canBe 11 = .ok (.iload_n 1, 1) := by decide +kernel
theorem dX10_canBe_12 : decode cX10_canBe 12 = .ok (.iload_n 2, 1) := by decide +kernel
theorem dX10_canBe_13 : decode cX10_canBe 13 = .ok (.invokevirtual 93, 3) := by decide +kernel
theorem dX10_canBe_16 : decode cX10_canBe 16 = .ok (.ifCond .eq 9, 3) := by decide +kernel
theorem dX10_canBe_19 : decode cX10_canBe 19 = .ok (.iload_n 3, 1) := by decide +kernel
theorem dX10_canBe_20 : decode cX10_canBe 20 = .ok (.ifCond .eq 5, 3) := by decide +kernel
theorem dX10_canBe_23 : decode cX10_canBe 23 = .ok (.iconst 0, 1) := by decide +kernel
theorem dX10_canBe_24 : decode cX10_canBe 24 = .ok (.ireturn, 1) := by decide +kernel
theorem dX10_canBe_25 : decode cX10_canBe 25 = .ok (.iload_n 3, 1) := by decide +kernel
theorem dX10_canBe_26 : decode cX10_canBe 26 = .ok (.iconst 3, 1) := by decide +kernel
theorem dX10_canBe_27 : decode cX10_canBe 27 = .ok (.if_icmp .ne 26, 3) := by decide +kernel
theorem dX10_canBe_30 : decode cX10_canBe 30 = .ok (.iload_n 2, 1) := by decide +kernel
theorem dX10_canBe_31 : decode cX10_canBe 31 = .ok (.iconst 1, 1) := by decide +kernel
theorem dX10_canBe_32 : decode cX10_canBe 32 = .ok (.iadd, 1) := by decide +kernel
theorem dX10_canBe_33 : decode cX10_canBe 33 = .ok (.aload_n 0, 1) := by decide +kernel
theorem dX10_canBe_34 : decode cX10_canBe 34 = .ok (.getfield 22, 3) := by decide +kernel
theorem dX10_canBe_37 : decode cX10_canBe 37 = .ok (.iload_n 1, 1) := by decide +kernel
theorem dX10_canBe_38 : decode cX10_canBe 38 = .ok (.iaload, 1) := by decide +kernel
theorem dX10_canBe_39 : decode cX10_canBe 39 = .ok (.if_icmp .ge 18, 3) := by decide +kernel
theorem dX10_canBe_42 : decode cX10_canBe 42 = .ok (.aload_n 0, 1) := by decide +kernel
theorem dX10_canBe_43 : decode cX10_canBe 43 = .ok (.iload_n 1, 1) := by decide +kernel
theorem dX10_canBe_44 : decode cX10_canBe 44 = .ok (.iload_n 2, 1) := by decide +kernel
theorem dX10_canBe_45 : decode cX10_canBe 45 = .ok (.iconst 1, 1) := by decide +kernel
theorem dX10_canBe_46 : decode cX10_canBe 46 = .ok (.iadd, 1) := by decide +kernel
theorem dX10_canBe_47 : decode cX10_canBe 47 = .ok (.invokevirtual 93, 3) := by decide +kernel
theorem dX10_canBe_50 : decode cX10_canBe 50 = .ok (.ifCond .ne 7, 3) := by decide +kernel
theorem dX10_canBe_53 : decode cX10_canBe 53 = .ok (.iconst 1, 1) := by decide +kernel
theorem dX10_canBe_54 : decode cX10_canBe 54 = .ok (.goto 4, 3) := by decide +kernel
theorem dX10_canBe_57 : decode cX10_canBe 57 = .ok (.iconst 0, 1) := by decide +kernel
theorem dX10_canBe_58 : decode cX10_canBe 58 = .ok (.ireturn, 1) := by decide +kernel
theorem dX10_isNight_0 : decode cX10_isNight 0 = .ok (.iload_n 0, 1) := by decide +kernel
theorem dX10_isNight_1 : decode cX10_isNight 1 = .ok (.bipush 24, 2) := by decide +kernel
theorem dX10_isNight_3 : decode cX10_isNight 3 = .ok (.irem, 1) := by decide +kernel
theorem dX10_isNight_4 : decode cX10_isNight 4 = .ok (.bipush 12, 2) := by decide +kernel
theorem dX10_isNight_6 : decode cX10_isNight 6 = .ok (.if_icmp .lt 7, 3) := by decide +kernel
theorem dX10_isNight_9 : decode cX10_isNight 9 = .ok (.iconst 1, 1) := by decide +kernel
theorem dX10_isNight_10 : decode cX10_isNight 10 = .ok (.goto 4, 3) := by decide +kernel
theorem dX10_isNight_13 : decode cX10_isNight 13 = .ok (.iconst 0, 1) := by decide +kernel
theorem dX10_isNight_14 : decode cX10_isNight 14 = .ok (.ireturn, 1) := by decide +kernel
theorem dX10_owedBehind_0 : decode cX10_owedBehind 0 = .ok (.iload_n 3, 1) := by decide +kernel
theorem dX10_owedBehind_1 : decode cX10_owedBehind 1 = .ok (.istore 5, 2) := by decide +kernel
theorem dX10_owedBehind_3 : decode cX10_owedBehind 3 = .ok (.iload 4, 2) := by decide +kernel
theorem dX10_owedBehind_5 : decode cX10_owedBehind 5 = .ok (.ifCond .ne 25, 3) := by decide +kernel
theorem dX10_owedBehind_8 : decode cX10_owedBehind 8 = .ok (.iload 5, 2) := by decide +kernel
theorem dX10_owedBehind_10 : decode cX10_owedBehind 10 = .ok (.aload_n 0, 1) := by decide +kernel
theorem dX10_owedBehind_11 : decode cX10_owedBehind 11 = .ok (.iload_n 1, 1) := by decide +kernel
theorem dX10_owedBehind_12 : decode cX10_owedBehind 12 = .ok (.iload_n 2, 1) := by decide +kernel
theorem dX10_owedBehind_13 : decode cX10_owedBehind 13 = .ok (.invokevirtual 93, 3) := by decide +kernel
theorem dX10_owedBehind_16 : decode cX10_owedBehind 16 = .ok (.ifCond .eq 7, 3) := by decide +kernel
theorem dX10_owedBehind_19 : decode cX10_owedBehind 19 = .ok (.iconst 2, 1) := by decide +kernel
theorem dX10_owedBehind_20 : decode cX10_owedBehind 20 = .ok (.goto 4, 3) := by decide +kernel
theorem dX10_owedBehind_23 : decode cX10_owedBehind 23 = .ok (.iconst 1, 1) := by decide +kernel
theorem dX10_owedBehind_24 : decode cX10_owedBehind 24 = .ok (.iadd, 1) := by decide +kernel
theorem dX10_owedBehind_25 : decode cX10_owedBehind 25 = .ok (.istore 5, 2) := by decide +kernel
theorem dX10_owedBehind_27 : decode cX10_owedBehind 27 = .ok (.goto 42, 3) := by decide +kernel
theorem dX10_owedBehind_30 : decode cX10_owedBehind 30 = .ok (.iload 4, 2) := by decide +kernel
theorem dX10_owedBehind_32 : decode cX10_owedBehind 32 = .ok (.iconst 4, 1) := by decide +kernel
theorem dX10_owedBehind_33 : decode cX10_owedBehind 33 = .ok (.if_icmp .ne 9, 3) := by decide +kernel
theorem dX10_owedBehind_36 : decode cX10_owedBehind 36 = .ok (.iinc 5 (-1), 3) := by decide +kernel
theorem dX10_owedBehind_39 : decode cX10_owedBehind 39 = .ok (.goto 30, 3) := by decide +kernel
theorem dX10_owedBehind_42 : decode cX10_owedBehind 42 = .ok (.iload 5, 2) := by decide +kernel
theorem dX10_owedBehind_44 : decode cX10_owedBehind 44 = .ok (.aload_n 0, 1) := by decide +kernel
theorem dX10_owedBehind_45 : decode cX10_owedBehind 45 = .ok (.getfield 31, 3) := by decide +kernel
theorem dX10_owedBehind_48 : decode cX10_owedBehind 48 = .ok (.iload 4, 2) := by decide +kernel
theorem dX10_owedBehind_50 : decode cX10_owedBehind 50 = .ok (.iconst 1, 1) := by decide +kernel
theorem dX10_owedBehind_51 : decode cX10_owedBehind 51 = .ok (.isub, 1) := by decide +kernel
theorem dX10_owedBehind_52 : decode cX10_owedBehind 52 = .ok (.iaload, 1) := by decide +kernel
theorem dX10_owedBehind_53 : decode cX10_owedBehind 53 = .ok (.iload_n 2, 1) := by decide +kernel
theorem dX10_owedBehind_54 : decode cX10_owedBehind 54 = .ok (.invokestatic 97, 3) := by decide +kernel
theorem dX10_owedBehind_57 : decode cX10_owedBehind 57 = .ok (.ifCond .eq 7, 3) := by decide +kernel
theorem dX10_owedBehind_60 : decode cX10_owedBehind 60 = .ok (.iconst 1, 1) := by decide +kernel
theorem dX10_owedBehind_61 : decode cX10_owedBehind 61 = .ok (.goto 4, 3) := by decide +kernel
theorem dX10_owedBehind_64 : decode cX10_owedBehind 64 = .ok (.iconst 0, 1) := by decide +kernel
theorem dX10_owedBehind_65 : decode cX10_owedBehind 65 = .ok (.iadd, 1) := by decide +kernel
theorem dX10_owedBehind_66 : decode cX10_owedBehind 66 = .ok (.isub, 1) := by decide +kernel
theorem dX10_owedBehind_67 : decode cX10_owedBehind 67 = .ok (.istore 5, 2) := by decide +kernel
theorem dX10_owedBehind_69 : decode cX10_owedBehind 69 = .ok (.iload 5, 2) := by decide +kernel
theorem dX10_owedBehind_71 : decode cX10_owedBehind 71 = .ok (.ifCond .ge 7, 3) := by decide +kernel
theorem dX10_owedBehind_74 : decode cX10_owedBehind 74 = .ok (.iconst 0, 1) := by decide +kernel
theorem dX10_owedBehind_75 : decode cX10_owedBehind 75 = .ok (.goto 17, 3) := by decide +kernel
theorem dX10_owedBehind_78 : decode cX10_owedBehind 78 = .ok (.iload 5, 2) := by decide +kernel
theorem dX10_owedBehind_80 : decode cX10_owedBehind 80 = .ok (.bipush 20, 2) := by decide +kernel
theorem dX10_owedBehind_82 : decode cX10_owedBehind 82 = .ok (.if_icmp .le 8, 3) := by decide +kernel
theorem dX10_owedBehind_85 : decode cX10_owedBehind 85 = .ok (.bipush 20, 2) := by decide +kernel
theorem dX10_owedBehind_87 : decode cX10_owedBehind 87 = .ok (.goto 5, 3) := by decide +kernel
theorem dX10_owedBehind_90 : decode cX10_owedBehind 90 = .ok (.iload 5, 2) := by decide +kernel
theorem dX10_owedBehind_92 : decode cX10_owedBehind 92 = .ok (.ireturn, 1) := by decide +kernel
theorem dX10_blindOf_0 : decode cX10_blindOf 0 = .ok (.iload_n 1, 1) := by decide +kernel
theorem dX10_blindOf_1 : decode cX10_blindOf 1 = .ok (.bipush 10, 2) := by decide +kernel
theorem dX10_blindOf_3 : decode cX10_blindOf 3 = .ok (.if_icmp .le 10, 3) := by decide +kernel
theorem dX10_blindOf_6 : decode cX10_blindOf 6 = .ok (.iload_n 1, 1) := by decide +kernel
theorem dX10_blindOf_7 : decode cX10_blindOf 7 = .ok (.bipush 10, 2) := by decide +kernel
theorem dX10_blindOf_9 : decode cX10_blindOf 9 = .ok (.isub, 1) := by decide +kernel
theorem dX10_blindOf_10 : decode cX10_blindOf 10 = .ok (.goto 4, 3) := by decide +kernel
theorem dX10_blindOf_13 : decode cX10_blindOf 13 = .ok (.iconst 0, 1) := by decide +kernel
theorem dX10_blindOf_14 : decode cX10_blindOf 14 = .ok (.istore 4, 2) := by decide +kernel
theorem dX10_blindOf_16 : decode cX10_blindOf 16 = .ok (.iload_n 2, 1) := by decide +kernel
theorem dX10_blindOf_17 : decode cX10_blindOf 17 = .ok (.ifCond .ne 14, 3) := by decide +kernel
theorem dX10_blindOf_20 : decode cX10_blindOf 20 = .ok (.bipush 20, 2) := by decide +kernel
theorem dX10_blindOf_22 : decode cX10_blindOf 22 = .ok (.bipush 10, 2) := by decide +kernel
theorem dX10_blindOf_24 : decode cX10_blindOf 24 = .ok (.iload 4, 2) := by decide +kernel
theorem dX10_blindOf_26 : decode cX10_blindOf 26 = .ok (.imul, 1) := by decide +kernel
theorem dX10_blindOf_27 : decode cX10_blindOf 27 = .ok (.iadd, 1) := by decide +kernel
theorem dX10_blindOf_28 : decode cX10_blindOf 28 = .ok (.goto 28, 3) := by decide +kernel
theorem dX10_blindOf_31 : decode cX10_blindOf 31 = .ok (.iload_n 2, 1) := by decide +kernel
theorem dX10_blindOf_32 : decode cX10_blindOf 32 = .ok (.iconst 4, 1) := by decide +kernel
theorem dX10_blindOf_33 : decode cX10_blindOf 33 = .ok (.if_icmp .ne 9, 3) := by decide +kernel
theorem dX10_blindOf_36 : decode cX10_blindOf 36 = .ok (.sipush 300, 3) := by decide +kernel
theorem dX10_blindOf_39 : decode cX10_blindOf 39 = .ok (.goto 17, 3) := by decide +kernel
theorem dX10_blindOf_42 : decode cX10_blindOf 42 = .ok (.aload_n 0, 1) := by decide +kernel
theorem dX10_blindOf_43 : decode cX10_blindOf 43 = .ok (.getfield 34, 3) := by decide +kernel
theorem dX10_blindOf_46 : decode cX10_blindOf 46 = .ok (.iload_n 2, 1) := by decide +kernel
theorem dX10_blindOf_47 : decode cX10_blindOf 47 = .ok (.iconst 1, 1) := by decide +kernel
theorem dX10_blindOf_48 : decode cX10_blindOf 48 = .ok (.isub, 1) := by decide +kernel
theorem dX10_blindOf_49 : decode cX10_blindOf 49 = .ok (.iaload, 1) := by decide +kernel
theorem dX10_blindOf_50 : decode cX10_blindOf 50 = .ok (.bipush 20, 2) := by decide +kernel
theorem dX10_blindOf_52 : decode cX10_blindOf 52 = .ok (.iload 4, 2) := by decide +kernel
theorem dX10_blindOf_54 : decode cX10_blindOf 54 = .ok (.imul, 1) := by decide +kernel
theorem dX10_blindOf_55 : decode cX10_blindOf 55 = .ok (.iadd, 1) := by decide +kernel
theorem dX10_blindOf_56 : decode cX10_blindOf 56 = .ok (.istore 5, 2) := by decide +kernel
theorem dX10_blindOf_58 : decode cX10_blindOf 58 = .ok (.iload 5, 2) := by decide +kernel
theorem dX10_blindOf_60 : decode cX10_blindOf 60 = .ok (.sipush 1000, 3) := by decide +kernel
theorem dX10_blindOf_63 : decode cX10_blindOf 63 = .ok (.if_icmp .le 9, 3) := by decide +kernel
theorem dX10_blindOf_66 : decode cX10_blindOf 66 = .ok (.sipush 1000, 3) := by decide +kernel
theorem dX10_blindOf_69 : decode cX10_blindOf 69 = .ok (.goto 5, 3) := by decide +kernel
theorem dX10_blindOf_72 : decode cX10_blindOf 72 = .ok (.iload 5, 2) := by decide +kernel
theorem dX10_blindOf_74 : decode cX10_blindOf 74 = .ok (.istore 5, 2) := by decide +kernel
theorem dX10_blindOf_76 : decode cX10_blindOf 76 = .ok (.sipush 600, 3) := by decide +kernel
theorem dX10_blindOf_79 : decode cX10_blindOf 79 = .ok (.bipush 40, 2) := by decide +kernel
theorem dX10_blindOf_81 : decode cX10_blindOf 81 = .ok (.iload_n 1, 1) := by decide +kernel
theorem dX10_blindOf_82 : decode cX10_blindOf 82 = .ok (.imul, 1) := by decide +kernel
theorem dX10_blindOf_83 : decode cX10_blindOf 83 = .ok (.isub, 1) := by decide +kernel
theorem dX10_blindOf_84 : decode cX10_blindOf 84 = .ok (.istore 6, 2) := by decide +kernel
theorem dX10_blindOf_86 : decode cX10_blindOf 86 = .ok (.iload_n 3, 1) := by decide +kernel
theorem dX10_blindOf_87 : decode cX10_blindOf 87 = .ok (.ifCond .ne 8, 3) := by decide +kernel
theorem dX10_blindOf_90 : decode cX10_blindOf 90 = .ok (.iload 5, 2) := by decide +kernel
theorem dX10_blindOf_92 : decode cX10_blindOf 92 = .ok (.goto 25, 3) := by decide +kernel
theorem dX10_blindOf_95 : decode cX10_blindOf 95 = .ok (.iload 5, 2) := by decide +kernel
theorem dX10_blindOf_97 : decode cX10_blindOf 97 = .ok (.sipush 1000, 3) := by decide +kernel
theorem dX10_blindOf_100 : decode cX10_blindOf 100 = .ok (.iload 6, 2) := by decide +kernel
theorem dX10_blindOf_102 : decode cX10_blindOf 102 = .ok (.ifCond .ge 7, 3) := by decide +kernel
theorem dX10_blindOf_105 : decode cX10_blindOf 105 = .ok (.iconst 0, 1) := by decide +kernel
theorem dX10_blindOf_106 : decode cX10_blindOf 106 = .ok (.goto 5, 3) := by decide +kernel
theorem dX10_blindOf_109 : decode cX10_blindOf 109 = .ok (.iload 6, 2) := by decide +kernel
theorem dX10_blindOf_111 : decode cX10_blindOf 111 = .ok (.isub, 1) := by decide +kernel
theorem dX10_blindOf_112 : decode cX10_blindOf 112 = .ok (.imul, 1) := by decide +kernel
theorem dX10_blindOf_113 : decode cX10_blindOf 113 = .ok (.sipush 1000, 3) := by decide +kernel
theorem dX10_blindOf_116 : decode cX10_blindOf 116 = .ok (.idiv, 1) := by decide +kernel
theorem dX10_blindOf_117 : decode cX10_blindOf 117 = .ok (.ireturn, 1) := by decide +kernel
theorem dX10_riskOf_0 : decode cX10_riskOf 0 = .ok (.aload_n 0, 1) := by decide +kernel
theorem dX10_riskOf_1 : decode cX10_riskOf 1 = .ok (.getfield 25, 3) := by decide +kernel
theorem dX10_riskOf_4 : decode cX10_riskOf 4 = .ok (.bipush 48, 2) := by decide +kernel
theorem dX10_riskOf_6 : decode cX10_riskOf 6 = .ok (.iload_n 1, 1) := by decide +kernel
theorem dX10_riskOf_7 : decode cX10_riskOf 7 = .ok (.imul, 1) := by decide +kernel
theorem dX10_riskOf_8 : decode cX10_riskOf 8 = .ok (.iload_n 2, 1) := by decide +kernel
theorem dX10_riskOf_9 : decode cX10_riskOf 9 = .ok (.iadd, 1) := by decide +kernel
theorem dX10_riskOf_10 : decode cX10_riskOf 10 = .ok (.iaload, 1) := by decide +kernel
theorem dX10_riskOf_11 : decode cX10_riskOf 11 = .ok (.aload_n 0, 1) := by decide +kernel
theorem dX10_riskOf_12 : decode cX10_riskOf 12 = .ok (.iload_n 3, 1) := by decide +kernel
theorem dX10_riskOf_13 : decode cX10_riskOf 13 = .ok (.iload 4, 2) := by decide +kernel
theorem dX10_riskOf_15 : decode cX10_riskOf 15 = .ok (.iload 5, 2) := by decide +kernel
theorem dX10_riskOf_17 : decode cX10_riskOf 17 = .ok (.invokevirtual 100, 3) := by decide +kernel
theorem dX10_riskOf_20 : decode cX10_riskOf 20 = .ok (.imul, 1) := by decide +kernel
theorem dX10_riskOf_21 : decode cX10_riskOf 21 = .ok (.ireturn, 1) := by decide +kernel
theorem dX10_lessened_0 : decode cX10_lessened 0 = .ok (.iload_n 0, 1) := by decide +kernel
theorem dX10_lessened_1 : decode cX10_lessened 1 = .ok (.i2l, 1) := by decide +kernel
theorem dX10_lessened_2 : decode cX10_lessened 2 = .ok (.ldc 104, 2) := by decide +kernel
theorem dX10_lessened_4 : decode cX10_lessened 4 = .ok (.iload_n 1, 1) := by decide +kernel
theorem dX10_lessened_5 : decode cX10_lessened 5 = .ok (.isub, 1) := by decide +kernel
theorem dX10_lessened_6 : decode cX10_lessened 6 = .ok (.i2l, 1) := by decide +kernel
theorem dX10_lessened_7 : decode cX10_lessened 7 = .ok (.lmul, 1) := by decide +kernel
theorem dX10_lessened_8 : decode cX10_lessened 8 = .ok (.ldc2_w 105, 3) := by decide +kernel
theorem dX10_lessened_11 : decode cX10_lessened 11 = .ok (.ldiv, 1) := by decide +kernel
theorem dX10_lessened_12 : decode cX10_lessened 12 = .ok (.l2i, 1) := by decide +kernel
theorem dX10_lessened_13 : decode cX10_lessened 13 = .ok (.ireturn, 1) := by decide +kernel
theorem dX10_isHour_0 : decode cX10_isHour 0 = .ok (.iload_n 2, 1) := by decide +kernel
theorem dX10_isHour_1 : decode cX10_isHour 1 = .ok (.i2l, 1) := by decide +kernel
theorem dX10_isHour_2 : decode cX10_isHour 2 = .ok (.lconst 0, 1) := by decide +kernel
theorem dX10_isHour_3 : decode cX10_isHour 3 = .ok (.aload_n 0, 1) := by decide +kernel
theorem dX10_isHour_4 : decode cX10_isHour 4 = .ok (.getfield 22, 3) := by decide +kernel
theorem dX10_isHour_7 : decode cX10_isHour 7 = .ok (.iload_n 1, 1) := by decide +kernel
theorem dX10_isHour_8 : decode cX10_isHour 8 = .ok (.iaload, 1) := by decide +kernel
theorem dX10_isHour_9 : decode cX10_isHour 9 = .ok (.iconst 1, 1) := by decide +kernel
theorem dX10_isHour_10 : decode cX10_isHour 10 = .ok (.isub, 1) := by decide +kernel
theorem dX10_isHour_11 : decode cX10_isHour 11 = .ok (.i2l, 1) := by decide +kernel
theorem dX10_isHour_12 : decode cX10_isHour 12 = .ok (.invokestatic 66, 3) := by decide +kernel
theorem dX10_isHour_15 : decode cX10_isHour 15 = .ok (.ireturn, 1) := by decide +kernel
theorem dX10_owed_0 : decode cX10_owed 0 = .ok (.iload_n 1, 1) := by decide +kernel
theorem dX10_owed_1 : decode cX10_owed 1 = .ok (.invokestatic 74, 3) := by decide +kernel
theorem dX10_owed_4 : decode cX10_owed 4 = .ok (.ifCond .ne 5, 3) := by decide +kernel
theorem dX10_owed_7 : decode cX10_owed 7 = .ok (.iconst (-1), 1) := by decide +kernel
theorem dX10_owed_8 : decode cX10_owed 8 = .ok (.ireturn, 1) := by decide +kernel
theorem dX10_owed_9 : decode cX10_owed 9 = .ok (.aload_n 0, 1) := by decide +kernel
theorem dX10_owed_10 : decode cX10_owed 10 = .ok (.iload_n 1, 1) := by decide +kernel
theorem dX10_owed_11 : decode cX10_owed 11 = .ok (.iload_n 2, 1) := by decide +kernel
theorem dX10_owed_12 : decode cX10_owed 12 = .ok (.invokevirtual 107, 3) := by decide +kernel
theorem dX10_owed_15 : decode cX10_owed 15 = .ok (.ifCond .eq 23, 3) := by decide +kernel
theorem dX10_owed_18 : decode cX10_owed 18 = .ok (.iload_n 3, 1) := by decide +kernel
theorem dX10_owed_19 : decode cX10_owed 19 = .ok (.invokestatic 110, 3) := by decide +kernel
theorem dX10_owed_22 : decode cX10_owed 22 = .ok (.ifCond .eq 16, 3) := by decide +kernel
theorem dX10_owed_25 : decode cX10_owed 25 = .ok (.iload 4, 2) := by decide +kernel
theorem dX10_owed_27 : decode cX10_owed 27 = .ok (.i2l, 1) := by decide +kernel
theorem dX10_owed_28 : decode cX10_owed 28 = .ok (.lconst 0, 1) := by decide +kernel
theorem dX10_owed_29 : decode cX10_owed 29 = .ok (.ldc2_w 113, 3) := by decide +kernel
theorem dX10_owed_32 : decode cX10_owed 32 = .ok (.invokestatic 66, 3) := by decide +kernel
theorem dX10_owed_35 : decode cX10_owed 35 = .ok (.ifCond .ne 6, 3) := by decide +kernel
theorem dX10_owed_38 : decode cX10_owed 38 = .ok (.bipush (-2), 2) := by decide +kernel
theorem dX10_owed_40 : decode cX10_owed 40 = .ok (.ireturn, 1) := by decide +kernel
theorem dX10_owed_41 : decode cX10_owed 41 = .ok (.aload_n 0, 1) := by decide +kernel
theorem dX10_owed_42 : decode cX10_owed 42 = .ok (.iload_n 1, 1) := by decide +kernel
theorem dX10_owed_43 : decode cX10_owed 43 = .ok (.iload_n 2, 1) := by decide +kernel
theorem dX10_owed_44 : decode cX10_owed 44 = .ok (.iload 4, 2) := by decide +kernel
theorem dX10_owed_46 : decode cX10_owed 46 = .ok (.invokevirtual 115, 3) := by decide +kernel
theorem dX10_owed_49 : decode cX10_owed 49 = .ok (.ifCond .eq 15, 3) := by decide +kernel
theorem dX10_owed_52 : decode cX10_owed 52 = .ok (.aload_n 0, 1) := by decide +kernel
theorem dX10_owed_53 : decode cX10_owed 53 = .ok (.iload_n 1, 1) := by decide +kernel
theorem dX10_owed_54 : decode cX10_owed 54 = .ok (.iload_n 2, 1) := by decide +kernel
theorem dX10_owed_55 : decode cX10_owed 55 = .ok (.iload_n 3, 1) := by decide +kernel
theorem dX10_owed_56 : decode cX10_owed 56 = .ok (.iload 4, 2) := by decide +kernel
theorem dX10_owed_58 : decode cX10_owed 58 = .ok (.invokevirtual 119, 3) := by decide +kernel
theorem dX10_owed_61 : decode cX10_owed 61 = .ok (.goto 5, 3) := by decide +kernel
theorem dX10_owed_64 : decode cX10_owed 64 = .ok (.bipush (-5), 2) := by decide +kernel
theorem dX10_owed_66 : decode cX10_owed 66 = .ok (.ireturn, 1) := by decide +kernel
theorem dX10_risk_0 : decode cX10_risk 0 = .ok (.iload_n 1, 1) := by decide +kernel
theorem dX10_risk_1 : decode cX10_risk 1 = .ok (.invokestatic 74, 3) := by decide +kernel
theorem dX10_risk_4 : decode cX10_risk 4 = .ok (.ifCond .ne 5, 3) := by decide +kernel
theorem dX10_risk_7 : decode cX10_risk 7 = .ok (.iconst (-1), 1) := by decide +kernel
theorem dX10_risk_8 : decode cX10_risk 8 = .ok (.ireturn, 1) := by decide +kernel
theorem dX10_risk_9 : decode cX10_risk 9 = .ok (.aload_n 0, 1) := by decide +kernel
theorem dX10_risk_10 : decode cX10_risk 10 = .ok (.iload_n 1, 1) := by decide +kernel
theorem dX10_risk_11 : decode cX10_risk 11 = .ok (.iload_n 2, 1) := by decide +kernel
theorem dX10_risk_12 : decode cX10_risk 12 = .ok (.invokevirtual 107, 3) := by decide +kernel
theorem dX10_risk_15 : decode cX10_risk 15 = .ok (.ifCond .eq 31, 3) := by decide +kernel
theorem dX10_risk_18 : decode cX10_risk 18 = .ok (.iload_n 3, 1) := by decide +kernel
theorem dX10_risk_19 : decode cX10_risk 19 = .ok (.invokestatic 110, 3) := by decide +kernel
theorem dX10_risk_22 : decode cX10_risk 22 = .ok (.ifCond .eq 24, 3) := by decide +kernel
theorem dX10_risk_25 : decode cX10_risk 25 = .ok (.iload 4, 2) := by decide +kernel
theorem dX10_risk_27 : decode cX10_risk 27 = .ok (.i2l, 1) := by decide +kernel
theorem dX10_risk_28 : decode cX10_risk 28 = .ok (.lconst 0, 1) := by decide +kernel
theorem dX10_risk_29 : decode cX10_risk 29 = .ok (.ldc2_w 113, 3) := by decide +kernel
theorem dX10_risk_32 : decode cX10_risk 32 = .ok (.invokestatic 66, 3) := by decide +kernel
theorem dX10_risk_35 : decode cX10_risk 35 = .ok (.ifCond .eq 11, 3) := by decide +kernel
theorem dX10_risk_38 : decode cX10_risk 38 = .ok (.iload 5, 2) := by decide +kernel
theorem dX10_risk_40 : decode cX10_risk 40 = .ok (.invokestatic 80, 3) := by decide +kernel
theorem dX10_risk_43 : decode cX10_risk 43 = .ok (.ifCond .ne 6, 3) := by decide +kernel
theorem dX10_risk_46 : decode cX10_risk 46 = .ok (.bipush (-2), 2) := by decide +kernel
theorem dX10_risk_48 : decode cX10_risk 48 = .ok (.ireturn, 1) := by decide +kernel
theorem dX10_risk_49 : decode cX10_risk 49 = .ok (.aload_n 0, 1) := by decide +kernel
theorem dX10_risk_50 : decode cX10_risk 50 = .ok (.iload_n 1, 1) := by decide +kernel
theorem dX10_risk_51 : decode cX10_risk 51 = .ok (.iload_n 2, 1) := by decide +kernel
theorem dX10_risk_52 : decode cX10_risk 52 = .ok (.iload 4, 2) := by decide +kernel
theorem dX10_risk_54 : decode cX10_risk 54 = .ok (.invokevirtual 115, 3) := by decide +kernel
theorem dX10_risk_57 : decode cX10_risk 57 = .ok (.ifCond .eq 17, 3) := by decide +kernel
theorem dX10_risk_60 : decode cX10_risk 60 = .ok (.iload 4, 2) := by decide +kernel
theorem dX10_risk_62 : decode cX10_risk 62 = .ok (.ifCond .ne 8, 3) := by decide +kernel
theorem dX10_risk_65 : decode cX10_risk 65 = .ok (.iload 5, 2) := by decide +kernel
theorem dX10_risk_67 : decode cX10_risk 67 = .ok (.ifCond .ne 7, 3) := by decide +kernel
theorem dX10_risk_70 : decode cX10_risk 70 = .ok (.iconst 1, 1) := by decide +kernel
theorem dX10_risk_71 : decode cX10_risk 71 = .ok (.goto 4, 3) := by decide +kernel
theorem dX10_risk_74 : decode cX10_risk 74 = .ok (.iconst 0, 1) := by decide +kernel
theorem dX10_risk_75 : decode cX10_risk 75 = .ok (.istore 6, 2) := by decide +kernel
theorem dX10_risk_77 : decode cX10_risk 77 = .ok (.iload 6, 2) := by decide +kernel
theorem dX10_risk_79 : decode cX10_risk 79 = .ok (.ifCond .eq 17, 3) := by decide +kernel
theorem dX10_risk_82 : decode cX10_risk 82 = .ok (.aload_n 0, 1) := by decide +kernel
theorem dX10_risk_83 : decode cX10_risk 83 = .ok (.iload_n 1, 1) := by decide +kernel
theorem dX10_risk_84 : decode cX10_risk 84 = .ok (.iload_n 2, 1) := by decide +kernel
theorem dX10_risk_85 : decode cX10_risk 85 = .ok (.iload_n 3, 1) := by decide +kernel
theorem dX10_risk_86 : decode cX10_risk 86 = .ok (.iload 4, 2) := by decide +kernel
theorem dX10_risk_88 : decode cX10_risk 88 = .ok (.iload 5, 2) := by decide +kernel
theorem dX10_risk_90 : decode cX10_risk 90 = .ok (.invokevirtual 123, 3) := by decide +kernel
theorem dX10_risk_93 : decode cX10_risk 93 = .ok (.goto 5, 3) := by decide +kernel
theorem dX10_risk_96 : decode cX10_risk 96 = .ok (.bipush (-5), 2) := by decide +kernel
theorem dX10_risk_98 : decode cX10_risk 98 = .ok (.ireturn, 1) := by decide +kernel
theorem dX10_say_0 : decode cX10_say 0 = .ok (.iload_n 1, 1) := by decide +kernel
theorem dX10_say_1 : decode cX10_say 1 = .ok (.i2l, 1) := by decide +kernel
theorem dX10_say_2 : decode cX10_say 2 = .ok (.ldc2_w 127, 3) := by decide +kernel
theorem dX10_say_5 : decode cX10_say 5 = .ok (.ldc2_w 129, 3) := by decide +kernel
theorem dX10_say_8 : decode cX10_say 8 = .ok (.invokestatic 66, 3) := by decide +kernel
theorem dX10_say_11 : decode cX10_say 11 = .ok (.ifCond .ne 6, 3) := by decide +kernel
theorem dX10_say_14 : decode cX10_say 14 = .ok (.bipush (-2), 2) := by decide +kernel
theorem dX10_say_16 : decode cX10_say 16 = .ok (.ireturn, 1) := by decide +kernel
theorem dX10_say_17 : decode cX10_say 17 = .ok (.aload_n 0, 1) := by decide +kernel
theorem dX10_say_18 : decode cX10_say 18 = .ok (.getfield 131, 3) := by decide +kernel
theorem dX10_say_21 : decode cX10_say 21 = .ok (.bipush 60, 2) := by decide +kernel
theorem dX10_say_23 : decode cX10_say 23 = .ok (.if_icmp .ne 6, 3) := by decide +kernel
theorem dX10_say_26 : decode cX10_say 26 = .ok (.bipush (-4), 2) := by decide +kernel
theorem dX10_say_28 : decode cX10_say 28 = .ok (.ireturn, 1) := by decide +kernel
theorem dX10_say_29 : decode cX10_say 29 = .ok (.aload_n 0, 1) := by decide +kernel
theorem dX10_say_30 : decode cX10_say 30 = .ok (.getfield 37, 3) := by decide +kernel
theorem dX10_say_33 : decode cX10_say 33 = .ok (.aload_n 0, 1) := by decide +kernel
theorem dX10_say_34 : decode cX10_say 34 = .ok (.getfield 131, 3) := by decide +kernel
theorem dX10_say_37 : decode cX10_say 37 = .ok (.iload_n 1, 1) := by decide +kernel
theorem dX10_say_38 : decode cX10_say 38 = .ok (.iastore, 1) := by decide +kernel
theorem dX10_say_39 : decode cX10_say 39 = .ok (.aload_n 0, 1) := by decide +kernel
theorem dX10_say_40 : decode cX10_say 40 = .ok (.dup, 1) := by decide +kernel
theorem dX10_say_41 : decode cX10_say 41 = .ok (.getfield 131, 3) := by decide +kernel
theorem dX10_say_44 : decode cX10_say 44 = .ok (.iconst 1, 1) := by decide +kernel
theorem dX10_say_45 : decode cX10_say 45 = .ok (.iadd, 1) := by decide +kernel
theorem dX10_say_46 : decode cX10_say 46 = .ok (.putfield 131, 3) := by decide +kernel
theorem dX10_say_49 : decode cX10_say 49 = .ok (.aload_n 0, 1) := by decide +kernel
theorem dX10_say_50 : decode cX10_say 50 = .ok (.getfield 131, 3) := by decide +kernel
theorem dX10_say_53 : decode cX10_say 53 = .ok (.ireturn, 1) := by decide +kernel
theorem dX10_wipe_0 : decode cX10_wipe 0 = .ok (.aload_n 0, 1) := by decide +kernel
theorem dX10_wipe_1 : decode cX10_wipe 1 = .ok (.getfield 131, 3) := by decide +kernel
theorem dX10_wipe_4 : decode cX10_wipe 4 = .ok (.istore_n 1, 1) := by decide +kernel
theorem dX10_wipe_5 : decode cX10_wipe 5 = .ok (.aload_n 0, 1) := by decide +kernel
theorem dX10_wipe_6 : decode cX10_wipe 6 = .ok (.iconst 0, 1) := by decide +kernel
theorem dX10_wipe_7 : decode cX10_wipe 7 = .ok (.putfield 131, 3) := by decide +kernel
theorem dX10_wipe_10 : decode cX10_wipe 10 = .ok (.iload_n 1, 1) := by decide +kernel
theorem dX10_wipe_11 : decode cX10_wipe 11 = .ok (.ireturn, 1) := by decide +kernel
theorem dX10_fault_0 : decode cX10_fault 0 = .ok (.iconst 0, 1) := by decide +kernel
theorem dX10_fault_1 : decode cX10_fault 1 = .ok (.istore_n 1, 1) := by decide +kernel
theorem dX10_fault_2 : decode cX10_fault 2 = .ok (.iconst 0, 1) := by decide +kernel
theorem dX10_fault_3 : decode cX10_fault 3 = .ok (.istore_n 2, 1) := by decide +kernel
theorem dX10_fault_4 : decode cX10_fault 4 = .ok (.iload_n 2, 1) := by decide +kernel
theorem dX10_fault_5 : decode cX10_fault 5 = .ok (.aload_n 0, 1) := by decide +kernel
theorem dX10_fault_6 : decode cX10_fault 6 = .ok (.getfield 131, 3) := by decide +kernel
theorem dX10_fault_9 : decode cX10_fault 9 = .ok (.if_icmp .ge 95, 3) := by decide +kernel
theorem dX10_fault_12 : decode cX10_fault 12 = .ok (.aload_n 0, 1) := by decide +kernel
theorem dX10_fault_13 : decode cX10_fault 13 = .ok (.getfield 37, 3) := by decide +kernel
theorem dX10_fault_16 : decode cX10_fault 16 = .ok (.iload_n 2, 1) := by decide +kernel
theorem dX10_fault_17 : decode cX10_fault 17 = .ok (.iaload, 1) := by decide +kernel
theorem dX10_fault_18 : decode cX10_fault 18 = .ok (.istore_n 3, 1) := by decide +kernel
theorem dX10_fault_19 : decode cX10_fault 19 = .ok (.iload_n 1, 1) := by decide +kernel
theorem dX10_fault_20 : decode cX10_fault 20 = .ok (.iconst 2, 1) := by decide +kernel
theorem dX10_fault_21 : decode cX10_fault 21 = .ok (.if_icmp .ne 16, 3) := by decide +kernel
theorem dX10_fault_24 : decode cX10_fault 24 = .ok (.iload_n 3, 1) := by decide +kernel
theorem dX10_fault_25 : decode cX10_fault 25 = .ok (.bipush 46, 2) := by decide +kernel
theorem dX10_fault_27 : decode cX10_fault 27 = .ok (.if_icmp .eq 5, 3) := by decide +kernel
theorem dX10_fault_30 : decode cX10_fault 30 = .ok (.iload_n 2, 1) := by decide +kernel
theorem dX10_fault_31 : decode cX10_fault 31 = .ok (.ireturn, 1) := by decide +kernel
theorem dX10_fault_32 : decode cX10_fault 32 = .ok (.iconst 0, 1) := by decide +kernel
theorem dX10_fault_33 : decode cX10_fault 33 = .ok (.istore_n 1, 1) := by decide +kernel
theorem dX10_fault_34 : decode cX10_fault 34 = .ok (.goto 64, 3) := by decide +kernel
theorem dX10_fault_37 : decode cX10_fault 37 = .ok (.iload_n 3, 1) := by decide +kernel
theorem dX10_fault_38 : decode cX10_fault 38 = .ok (.bipush 33, 2) := by decide +kernel
theorem dX10_fault_40 : decode cX10_fault 40 = .ok (.if_icmp .ne 12, 3) := by decide +kernel
theorem dX10_fault_43 : decode cX10_fault 43 = .ok (.iload_n 1, 1) := by decide +kernel
theorem dX10_fault_44 : decode cX10_fault 44 = .ok (.ifCond .ne 8, 3) := by decide +kernel
theorem dX10_fault_47 : decode cX10_fault 47 = .ok (.iconst 1, 1) := by decide +kernel
theorem dX10_fault_48 : decode cX10_fault 48 = .ok (.istore_n 1, 1) := by decide +kernel
theorem dX10_fault_49 : decode cX10_fault 49 = .ok (.goto 49, 3) := by decide +kernel
theorem dX10_fault_52 : decode cX10_fault 52 = .ok (.iload_n 3, 1) := by decide +kernel
theorem dX10_fault_53 : decode cX10_fault 53 = .ok (.bipush 51, 2) := by decide +kernel
theorem dX10_fault_55 : decode cX10_fault 55 = .ok (.if_icmp .ne 8, 3) := by decide +kernel
theorem dX10_fault_58 : decode cX10_fault 58 = .ok (.iconst 2, 1) := by decide +kernel
theorem dX10_fault_59 : decode cX10_fault 59 = .ok (.istore_n 1, 1) := by decide +kernel
theorem dX10_fault_60 : decode cX10_fault 60 = .ok (.goto 38, 3) := by decide +kernel
theorem dX10_fault_63 : decode cX10_fault 63 = .ok (.iload_n 3, 1) := by decide +kernel
theorem dX10_fault_64 : decode cX10_fault 64 = .ok (.bipush 49, 2) := by decide +kernel
theorem dX10_fault_66 : decode cX10_fault 66 = .ok (.if_icmp .eq 25, 3) := by decide +kernel
theorem dX10_fault_69 : decode cX10_fault 69 = .ok (.iload_n 3, 1) := by decide +kernel
theorem dX10_fault_70 : decode cX10_fault 70 = .ok (.bipush 50, 2) := by decide +kernel
theorem dX10_fault_72 : decode cX10_fault 72 = .ok (.if_icmp .eq 19, 3) := by decide +kernel
theorem dX10_fault_75 : decode cX10_fault 75 = .ok (.iload_n 3, 1) := by decide +kernel
theorem dX10_fault_76 : decode cX10_fault 76 = .ok (.bipush 108, 2) := by decide +kernel
theorem dX10_fault_78 : decode cX10_fault 78 = .ok (.if_icmp .eq 13, 3) := by decide +kernel
theorem dX10_fault_81 : decode cX10_fault 81 = .ok (.iload_n 3, 1) := by decide +kernel
theorem dX10_fault_82 : decode cX10_fault 82 = .ok (.bipush 119, 2) := by decide +kernel
theorem dX10_fault_84 : decode cX10_fault 84 = .ok (.if_icmp .ne 12, 3) := by decide +kernel
theorem dX10_fault_87 : decode cX10_fault 87 = .ok (.iload_n 1, 1) := by decide +kernel
theorem dX10_fault_88 : decode cX10_fault 88 = .ok (.ifCond .ne 8, 3) := by decide +kernel
theorem dX10_fault_91 : decode cX10_fault 91 = .ok (.iconst 0, 1) := by decide +kernel
theorem dX10_fault_92 : decode cX10_fault 92 = .ok (.istore_n 1, 1) := by decide +kernel
theorem dX10_fault_93 : decode cX10_fault 93 = .ok (.goto 5, 3) := by decide +kernel
theorem dX10_fault_96 : decode cX10_fault 96 = .ok (.iload_n 2, 1) := by decide +kernel
theorem dX10_fault_97 : decode cX10_fault 97 = .ok (.ireturn, 1) := by decide +kernel
theorem dX10_fault_98 : decode cX10_fault 98 = .ok (.iinc 2 1, 3) := by decide +kernel
theorem dX10_fault_101 : decode cX10_fault 101 = .ok (.goto (-97), 3) := by decide +kernel
theorem dX10_fault_104 : decode cX10_fault 104 = .ok (.iload_n 1, 1) := by decide +kernel
theorem dX10_fault_105 : decode cX10_fault 105 = .ok (.ifCond .ne 8, 3) := by decide +kernel
theorem dX10_fault_108 : decode cX10_fault 108 = .ok (.bipush (-6), 2) := by decide +kernel
theorem dX10_fault_110 : decode cX10_fault 110 = .ok (.goto 7, 3) := by decide +kernel
theorem dX10_fault_113 : decode cX10_fault 113 = .ok (.aload_n 0, 1) := by decide +kernel
theorem dX10_fault_114 : decode cX10_fault 114 = .ok (.getfield 131, 3) := by decide +kernel
theorem dX10_fault_117 : decode cX10_fault 117 = .ok (.ireturn, 1) := by decide +kernel
theorem dX10_passHour_0 : decode cX10_passHour 0 = .ok (.aload_n 0, 1) := by decide +kernel
theorem dX10_passHour_1 : decode cX10_passHour 1 = .ok (.getfield 43, 3) := by decide +kernel
theorem dX10_passHour_4 : decode cX10_passHour 4 = .ok (.aload_n 0, 1) := by decide +kernel
theorem dX10_passHour_5 : decode cX10_passHour 5 = .ok (.getfield 135, 3) := by decide +kernel
theorem dX10_passHour_8 : decode cX10_passHour 8 = .ok (.aload_n 0, 1) := by decide +kernel
theorem dX10_passHour_9 : decode cX10_passHour 9 = .ok (.getfield 25, 3) := by decide +kernel
theorem dX10_passHour_12 : decode cX10_passHour 12 = .ok (.bipush 48, 2) := by decide +kernel
theorem dX10_passHour_14 : decode cX10_passHour 14 = .ok (.iload_n 1, 1) := by decide +kernel
theorem dX10_passHour_15 : decode cX10_passHour 15 = .ok (.imul, 1) := by decide +kernel
theorem dX10_passHour_16 : decode cX10_passHour 16 = .ok (.iload_n 2, 1) := by decide +kernel
theorem dX10_passHour_17 : decode cX10_passHour 17 = .ok (.iadd, 1) := by decide +kernel
theorem dX10_passHour_18 : decode cX10_passHour 18 = .ok (.iaload, 1) := by decide +kernel
theorem dX10_passHour_19 : decode cX10_passHour 19 = .ok (.iastore, 1) := by decide +kernel
theorem dX10_passHour_20 : decode cX10_passHour 20 = .ok (.aload_n 0, 1) := by decide +kernel
theorem dX10_passHour_21 : decode cX10_passHour 21 = .ok (.getfield 46, 3) := by decide +kernel
theorem dX10_passHour_24 : decode cX10_passHour 24 = .ok (.aload_n 0, 1) := by decide +kernel
theorem dX10_passHour_25 : decode cX10_passHour 25 = .ok (.getfield 135, 3) := by decide +kernel
theorem dX10_passHour_28 : decode cX10_passHour 28 = .ok (.iload_n 3, 1) := by decide +kernel
theorem dX10_passHour_29 : decode cX10_passHour 29 = .ok (.iastore, 1) := by decide +kernel
theorem dX10_passHour_30 : decode cX10_passHour 30 = .ok (.aload_n 0, 1) := by decide +kernel
theorem dX10_passHour_31 : decode cX10_passHour 31 = .ok (.getfield 40, 3) := by decide +kernel
theorem dX10_passHour_34 : decode cX10_passHour 34 = .ok (.aload_n 0, 1) := by decide +kernel
theorem dX10_passHour_35 : decode cX10_passHour 35 = .ok (.getfield 135, 3) := by decide +kernel
theorem dX10_passHour_38 : decode cX10_passHour 38 = .ok (.aload_n 0, 1) := by decide +kernel
theorem dX10_passHour_39 : decode cX10_passHour 39 = .ok (.getfield 43, 3) := by decide +kernel
theorem dX10_passHour_42 : decode cX10_passHour 42 = .ok (.aload_n 0, 1) := by decide +kernel
theorem dX10_passHour_43 : decode cX10_passHour 43 = .ok (.getfield 135, 3) := by decide +kernel
theorem dX10_passHour_46 : decode cX10_passHour 46 = .ok (.iaload, 1) := by decide +kernel
theorem dX10_passHour_47 : decode cX10_passHour 47 = .ok (.iload_n 3, 1) := by decide +kernel
theorem dX10_passHour_48 : decode cX10_passHour 48 = .ok (.imul, 1) := by decide +kernel
theorem dX10_passHour_49 : decode cX10_passHour 49 = .ok (.iastore, 1) := by decide +kernel
theorem dX10_passHour_50 : decode cX10_passHour 50 = .ok (.aload_n 0, 1) := by decide +kernel
theorem dX10_passHour_51 : decode cX10_passHour 51 = .ok (.dup, 1) := by decide +kernel
theorem dX10_passHour_52 : decode cX10_passHour 52 = .ok (.getfield 135, 3) := by decide +kernel
theorem dX10_passHour_55 : decode cX10_passHour 55 = .ok (.iconst 1, 1) := by decide +kernel
theorem dX10_passHour_56 : decode cX10_passHour 56 = .ok (.iadd, 1) := by decide +kernel
theorem dX10_passHour_57 : decode cX10_passHour 57 = .ok (.putfield 135, 3) := by decide +kernel
theorem dX10_passHour_60 : decode cX10_passHour 60 = .ok (.return_, 1) := by decide +kernel
theorem dX10_doThing_0 : decode cX10_doThing 0 = .ok (.iload_n 3, 1) := by decide +kernel
theorem dX10_doThing_1 : decode cX10_doThing 1 = .ok (.ifCond .ne 7, 3) := by decide +kernel
theorem dX10_doThing_4 : decode cX10_doThing 4 = .ok (.iconst 0, 1) := by decide +kernel
theorem dX10_doThing_5 : decode cX10_doThing 5 = .ok (.goto 13, 3) := by decide +kernel
theorem dX10_doThing_8 : decode cX10_doThing 8 = .ok (.iload_n 2, 1) := by decide +kernel
theorem dX10_doThing_9 : decode cX10_doThing 9 = .ok (.iconst 3, 1) := by decide +kernel
theorem dX10_doThing_10 : decode cX10_doThing 10 = .ok (.if_icmp .ne 7, 3) := by decide +kernel
theorem dX10_doThing_13 : decode cX10_doThing 13 = .ok (.iconst 2, 1) := by decide +kernel
theorem dX10_doThing_14 : decode cX10_doThing 14 = .ok (.goto 4, 3) := by decide +kernel
theorem dX10_doThing_17 : decode cX10_doThing 17 = .ok (.iconst 1, 1) := by decide +kernel
theorem dX10_doThing_18 : decode cX10_doThing 18 = .ok (.istore 4, 2) := by decide +kernel
theorem dX10_doThing_20 : decode cX10_doThing 20 = .ok (.aload_n 0, 1) := by decide +kernel
theorem dX10_doThing_21 : decode cX10_doThing 21 = .ok (.iload_n 1, 1) := by decide +kernel
theorem dX10_doThing_22 : decode cX10_doThing 22 = .ok (.aload_n 0, 1) := by decide +kernel
theorem dX10_doThing_23 : decode cX10_doThing 23 = .ok (.getfield 138, 3) := by decide +kernel
theorem dX10_doThing_26 : decode cX10_doThing 26 = .ok (.iload_n 2, 1) := by decide +kernel
theorem dX10_doThing_27 : decode cX10_doThing 27 = .ok (.invokevirtual 115, 3) := by decide +kernel
theorem dX10_doThing_30 : decode cX10_doThing 30 = .ok (.ifCond .eq 12, 3) := by decide +kernel
theorem dX10_doThing_33 : decode cX10_doThing 33 = .ok (.iload 4, 2) := by decide +kernel
theorem dX10_doThing_35 : decode cX10_doThing 35 = .ok (.aload_n 0, 1) := by decide +kernel
theorem dX10_doThing_36 : decode cX10_doThing 36 = .ok (.getfield 141, 3) := by decide +kernel
theorem dX10_doThing_39 : decode cX10_doThing 39 = .ok (.if_icmp .le 5, 3) := by decide +kernel
theorem dX10_doThing_42 : decode cX10_doThing 42 = .ok (.iconst 0, 1) := by decide +kernel
theorem dX10_doThing_43 : decode cX10_doThing 43 = .ok (.ireturn, 1) := by decide +kernel
theorem dX10_doThing_44 : decode cX10_doThing 44 = .ok (.aload_n 0, 1) := by decide +kernel
theorem dX10_doThing_45 : decode cX10_doThing 45 = .ok (.aload_n 0, 1) := by decide +kernel
theorem dX10_doThing_46 : decode cX10_doThing 46 = .ok (.getfield 144, 3) := by decide +kernel
theorem dX10_doThing_49 : decode cX10_doThing 49 = .ok (.iload_n 2, 1) := by decide +kernel
theorem dX10_doThing_50 : decode cX10_doThing 50 = .ok (.iload_n 3, 1) := by decide +kernel
theorem dX10_doThing_51 : decode cX10_doThing 51 = .ok (.invokevirtual 100, 3) := by decide +kernel
theorem dX10_doThing_54 : decode cX10_doThing 54 = .ok (.istore 5, 2) := by decide +kernel
theorem dX10_doThing_56 : decode cX10_doThing 56 = .ok (.aload_n 0, 1) := by decide +kernel
theorem dX10_doThing_57 : decode cX10_doThing 57 = .ok (.iload_n 1, 1) := by decide +kernel
theorem dX10_doThing_58 : decode cX10_doThing 58 = .ok (.aload_n 0, 1) := by decide +kernel
theorem dX10_doThing_59 : decode cX10_doThing 59 = .ok (.getfield 138, 3) := by decide +kernel
theorem dX10_doThing_62 : decode cX10_doThing 62 = .ok (.iload 5, 2) := by decide +kernel
theorem dX10_doThing_64 : decode cX10_doThing 64 = .ok (.invokevirtual 147, 3) := by decide +kernel
theorem dX10_doThing_67 : decode cX10_doThing 67 = .ok (.aload_n 0, 1) := by decide +kernel
theorem dX10_doThing_68 : decode cX10_doThing 68 = .ok (.aload_n 0, 1) := by decide +kernel
theorem dX10_doThing_69 : decode cX10_doThing 69 = .ok (.iload_n 1, 1) := by decide +kernel
theorem dX10_doThing_70 : decode cX10_doThing 70 = .ok (.aload_n 0, 1) := by decide +kernel
theorem dX10_doThing_71 : decode cX10_doThing 71 = .ok (.getfield 138, 3) := by decide +kernel
theorem dX10_doThing_74 : decode cX10_doThing 74 = .ok (.aload_n 0, 1) := by decide +kernel
theorem dX10_doThing_75 : decode cX10_doThing 75 = .ok (.getfield 144, 3) := by decide +kernel
theorem dX10_doThing_78 : decode cX10_doThing 78 = .ok (.iload_n 2, 1) := by decide +kernel
theorem dX10_doThing_79 : decode cX10_doThing 79 = .ok (.invokevirtual 119, 3) := by decide +kernel
theorem dX10_doThing_82 : decode cX10_doThing 82 = .ok (.putfield 144, 3) := by decide +kernel
theorem dX10_doThing_85 : decode cX10_doThing 85 = .ok (.aload_n 0, 1) := by decide +kernel
theorem dX10_doThing_86 : decode cX10_doThing 86 = .ok (.dup, 1) := by decide +kernel
theorem dX10_doThing_87 : decode cX10_doThing 87 = .ok (.getfield 141, 3) := by decide +kernel
theorem dX10_doThing_90 : decode cX10_doThing 90 = .ok (.iload 4, 2) := by decide +kernel
theorem dX10_doThing_92 : decode cX10_doThing 92 = .ok (.isub, 1) := by decide +kernel
theorem dX10_doThing_93 : decode cX10_doThing 93 = .ok (.putfield 141, 3) := by decide +kernel
theorem dX10_doThing_96 : decode cX10_doThing 96 = .ok (.aload_n 0, 1) := by decide +kernel
theorem dX10_doThing_97 : decode cX10_doThing 97 = .ok (.dup, 1) := by decide +kernel
theorem dX10_doThing_98 : decode cX10_doThing 98 = .ok (.getfield 138, 3) := by decide +kernel
theorem dX10_doThing_101 : decode cX10_doThing 101 = .ok (.iload_n 2, 1) := by decide +kernel
theorem dX10_doThing_102 : decode cX10_doThing 102 = .ok (.iconst 4, 1) := by decide +kernel
theorem dX10_doThing_103 : decode cX10_doThing 103 = .ok (.if_icmp .ne 7, 3) := by decide +kernel
theorem dX10_doThing_106 : decode cX10_doThing 106 = .ok (.iconst 0, 1) := by decide +kernel
theorem dX10_doThing_107 : decode cX10_doThing 107 = .ok (.goto 4, 3) := by decide +kernel
theorem dX10_doThing_110 : decode cX10_doThing 110 = .ok (.iconst 1, 1) := by decide +kernel
theorem dX10_doThing_111 : decode cX10_doThing 111 = .ok (.iadd, 1) := by decide +kernel
theorem dX10_doThing_112 : decode cX10_doThing 112 = .ok (.putfield 138, 3) := by decide +kernel
theorem dX10_doThing_115 : decode cX10_doThing 115 = .ok (.iload_n 2, 1) := by decide +kernel
theorem dX10_doThing_116 : decode cX10_doThing 116 = .ok (.iconst 3, 1) := by decide +kernel
theorem dX10_doThing_117 : decode cX10_doThing 117 = .ok (.if_icmp .ne 24, 3) := by decide +kernel
theorem dX10_doThing_120 : decode cX10_doThing 120 = .ok (.aload_n 0, 1) := by decide +kernel
theorem dX10_doThing_121 : decode cX10_doThing 121 = .ok (.iload_n 1, 1) := by decide +kernel
theorem dX10_doThing_122 : decode cX10_doThing 122 = .ok (.aload_n 0, 1) := by decide +kernel
theorem dX10_doThing_123 : decode cX10_doThing 123 = .ok (.getfield 138, 3) := by decide +kernel
theorem dX10_doThing_126 : decode cX10_doThing 126 = .ok (.iload 5, 2) := by decide +kernel
theorem dX10_doThing_128 : decode cX10_doThing 128 = .ok (.invokevirtual 147, 3) := by decide +kernel
theorem dX10_doThing_131 : decode cX10_doThing 131 = .ok (.aload_n 0, 1) := by decide +kernel
theorem dX10_doThing_132 : decode cX10_doThing 132 = .ok (.dup, 1) := by decide +kernel
theorem dX10_doThing_133 : decode cX10_doThing 133 = .ok (.getfield 138, 3) := by decide +kernel
theorem dX10_doThing_136 : decode cX10_doThing 136 = .ok (.iconst 1, 1) := by decide +kernel
theorem dX10_doThing_137 : decode cX10_doThing 137 = .ok (.iadd, 1) := by decide +kernel
theorem dX10_doThing_138 : decode cX10_doThing 138 = .ok (.putfield 138, 3) := by decide +kernel
theorem dX10_doThing_141 : decode cX10_doThing 141 = .ok (.iconst 1, 1) := by decide +kernel
theorem dX10_doThing_142 : decode cX10_doThing 142 = .ok (.ireturn, 1) := by decide +kernel
theorem dX10_judgeAll_0 : decode cX10_judgeAll 0 = .ok (.aload_n 0, 1) := by decide +kernel
theorem dX10_judgeAll_1 : decode cX10_judgeAll 1 = .ok (.iconst 0, 1) := by decide +kernel
theorem dX10_judgeAll_2 : decode cX10_judgeAll 2 = .ok (.putfield 135, 3) := by decide +kernel
theorem dX10_judgeAll_5 : decode cX10_judgeAll 5 = .ok (.aload_n 0, 1) := by decide +kernel
theorem dX10_judgeAll_6 : decode cX10_judgeAll 6 = .ok (.bipush (-6), 2) := by decide +kernel
theorem dX10_judgeAll_8 : decode cX10_judgeAll 8 = .ok (.putfield 151, 3) := by decide +kernel
theorem dX10_judgeAll_11 : decode cX10_judgeAll 11 = .ok (.aload_n 0, 1) := by decide +kernel
theorem dX10_judgeAll_12 : decode cX10_judgeAll 12 = .ok (.iload_n 2, 1) := by decide +kernel
theorem dX10_judgeAll_13 : decode cX10_judgeAll 13 = .ok (.putfield 144, 3) := by decide +kernel
theorem dX10_judgeAll_16 : decode cX10_judgeAll 16 = .ok (.aload_n 0, 1) := by decide +kernel
theorem dX10_judgeAll_17 : decode cX10_judgeAll 17 = .ok (.iconst 0, 1) := by decide +kernel
theorem dX10_judgeAll_18 : decode cX10_judgeAll 18 = .ok (.putfield 138, 3) := by decide +kernel
theorem dX10_judgeAll_21 : decode cX10_judgeAll 21 = .ok (.aload_n 0, 1) := by decide +kernel
theorem dX10_judgeAll_22 : decode cX10_judgeAll 22 = .ok (.iload_n 3, 1) := by decide +kernel
theorem dX10_judgeAll_23 : decode cX10_judgeAll 23 = .ok (.putfield 141, 3) := by decide +kernel
theorem dX10_judgeAll_26 : decode cX10_judgeAll 26 = .ok (.iconst 0, 1) := by decide +kernel
theorem dX10_judgeAll_27 : decode cX10_judgeAll 27 = .ok (.istore 4, 2) := by decide +kernel
theorem dX10_judgeAll_29 : decode cX10_judgeAll 29 = .ok (.iconst 0, 1) := by decide +kernel
theorem dX10_judgeAll_30 : decode cX10_judgeAll 30 = .ok (.istore 5, 2) := by decide +kernel
theorem dX10_judgeAll_32 : decode cX10_judgeAll 32 = .ok (.iconst 0, 1) := by decide +kernel
theorem dX10_judgeAll_33 : decode cX10_judgeAll 33 = .ok (.istore 6, 2) := by decide +kernel
theorem dX10_judgeAll_35 : decode cX10_judgeAll 35 = .ok (.iload 6, 2) := by decide +kernel
theorem dX10_judgeAll_37 : decode cX10_judgeAll 37 = .ok (.aload_n 0, 1) := by decide +kernel
theorem dX10_judgeAll_38 : decode cX10_judgeAll 38 = .ok (.getfield 131, 3) := by decide +kernel
theorem dX10_judgeAll_41 : decode cX10_judgeAll 41 = .ok (.if_icmp .ge 98, 3) := by decide +kernel
theorem dX10_judgeAll_44 : decode cX10_judgeAll 44 = .ok (.aload_n 0, 1) := by decide +kernel
theorem dX10_judgeAll_45 : decode cX10_judgeAll 45 = .ok (.getfield 151, 3) := by decide +kernel
theorem dX10_judgeAll_48 : decode cX10_judgeAll 48 = .ok (.ifCond .ge 91, 3) := by decide +kernel
theorem dX10_judgeAll_51 : decode cX10_judgeAll 51 = .ok (.aload_n 0, 1) := by decide +kernel
theorem dX10_judgeAll_52 : decode cX10_judgeAll 52 = .ok (.getfield 37, 3) := by decide +kernel
theorem dX10_judgeAll_55 : decode cX10_judgeAll 55 = .ok (.iload 6, 2) := by decide +kernel
theorem dX10_judgeAll_57 : decode cX10_judgeAll 57 = .ok (.iaload, 1) := by decide +kernel
theorem dX10_judgeAll_58 : decode cX10_judgeAll 58 = .ok (.istore 7, 2) := by decide +kernel
theorem dX10_judgeAll_60 : decode cX10_judgeAll 60 = .ok (.iload 7, 2) := by decide +kernel
theorem dX10_judgeAll_62 : decode cX10_judgeAll 62 = .ok (.bipush 33, 2) := by decide +kernel
theorem dX10_judgeAll_64 : decode cX10_judgeAll 64 = .ok (.if_icmp .ne 9, 3) := by decide +kernel
theorem dX10_judgeAll_67 : decode cX10_judgeAll 67 = .ok (.iconst 1, 1) := by decide +kernel
theorem dX10_judgeAll_68 : decode cX10_judgeAll 68 = .ok (.istore 5, 2) := by decide +kernel
theorem dX10_judgeAll_70 : decode cX10_judgeAll 70 = .ok (.goto 63, 3) := by decide +kernel
theorem dX10_judgeAll_73 : decode cX10_judgeAll 73 = .ok (.iload 7, 2) := by decide +kernel
theorem dX10_judgeAll_75 : decode cX10_judgeAll 75 = .ok (.bipush 46, 2) := by decide +kernel
theorem dX10_judgeAll_77 : decode cX10_judgeAll 77 = .ok (.if_icmp .eq 56, 3) := by decide +kernel
theorem dX10_judgeAll_80 : decode cX10_judgeAll 80 = .ok (.iload 7, 2) := by decide +kernel
theorem dX10_judgeAll_82 : decode cX10_judgeAll 82 = .ok (.bipush 119, 2) := by decide +kernel
theorem dX10_judgeAll_84 : decode cX10_judgeAll 84 = .ok (.if_icmp .ne 7, 3) := by decide +kernel
theorem dX10_judgeAll_87 : decode cX10_judgeAll 87 = .ok (.iconst 0, 1) := by decide +kernel
theorem dX10_judgeAll_88 : decode cX10_judgeAll 88 = .ok (.goto 19, 3) := by decide +kernel
theorem dX10_judgeAll_91 : decode cX10_judgeAll 91 = .ok (.iload 7, 2) := by decide +kernel
theorem dX10_judgeAll_93 : decode cX10_judgeAll 93 = .ok (.bipush 108, 2) := by decide +kernel
theorem dX10_judgeAll_95 : decode cX10_judgeAll 95 = .ok (.if_icmp .ne 7, 3) := by decide +kernel
theorem dX10_judgeAll_98 : decode cX10_judgeAll 98 = .ok (.iconst 4, 1) := by decide +kernel
theorem dX10_judgeAll_99 : decode cX10_judgeAll 99 = .ok (.goto 8, 3) := by decide +kernel
theorem dX10_judgeAll_102 : decode cX10_judgeAll 102 = .ok (.iload 7, 2) := by decide +kernel
theorem dX10_judgeAll_104 : decode cX10_judgeAll 104 = .ok (.bipush 48, 2) := by decide +kernel
theorem dX10_judgeAll_106 : decode cX10_judgeAll 106 = .ok (.isub, 1) := by decide +kernel
theorem dX10_judgeAll_107 : decode cX10_judgeAll 107 = .ok (.istore 8, 2) := by decide +kernel
theorem dX10_judgeAll_109 : decode cX10_judgeAll 109 = .ok (.aload_n 0, 1) := by decide +kernel
theorem dX10_judgeAll_110 : decode cX10_judgeAll 110 = .ok (.iload_n 1, 1) := by decide +kernel
theorem dX10_judgeAll_111 : decode cX10_judgeAll 111 = .ok (.iload 8, 2) := by decide +kernel
theorem dX10_judgeAll_113 : decode cX10_judgeAll 113 = .ok (.iload 5, 2) := by decide +kernel
theorem dX10_judgeAll_115 : decode cX10_judgeAll 115 = .ok (.invokevirtual 154, 3) := by decide +kernel
theorem dX10_judgeAll_118 : decode cX10_judgeAll 118 = .ok (.ifCond .ne 9, 3) := by decide +kernel
theorem dX10_judgeAll_121 : decode cX10_judgeAll 121 = .ok (.aload_n 0, 1) := by decide +kernel
theorem dX10_judgeAll_122 : decode cX10_judgeAll 122 = .ok (.iload 4, 2) := by decide +kernel
theorem dX10_judgeAll_124 : decode cX10_judgeAll 124 = .ok (.putfield 151, 3) := by decide +kernel
theorem dX10_judgeAll_127 : decode cX10_judgeAll 127 = .ok (.iinc 4 1, 3) := by decide +kernel
theorem dX10_judgeAll_130 : decode cX10_judgeAll 130 = .ok (.iconst 0, 1) := by decide +kernel
theorem dX10_judgeAll_131 : decode cX10_judgeAll 131 = .ok (.istore 5, 2) := by decide +kernel
theorem dX10_judgeAll_133 : decode cX10_judgeAll 133 = .ok (.iinc 6 1, 3) := by decide +kernel
theorem dX10_judgeAll_136 : decode cX10_judgeAll 136 = .ok (.goto (-101), 3) := by decide +kernel
theorem dX10_judgeAll_139 : decode cX10_judgeAll 139 = .ok (.return_, 1) := by decide +kernel
theorem dX10_safeOfTimes_0 : decode cX10_safeOfTimes 0 = .ok (.ldc 104, 2) := by decide +kernel
theorem dX10_safeOfTimes_2 : decode cX10_safeOfTimes 2 = .ok (.istore_n 1, 1) := by decide +kernel
theorem dX10_safeOfTimes_3 : decode cX10_safeOfTimes 3 = .ok (.aload_n 0, 1) := by decide +kernel
theorem dX10_safeOfTimes_4 : decode cX10_safeOfTimes 4 = .ok (.getfield 135, 3) := by decide +kernel
theorem dX10_safeOfTimes_7 : decode cX10_safeOfTimes 7 = .ok (.iconst 1, 1) := by decide +kernel
theorem dX10_safeOfTimes_8 : decode cX10_safeOfTimes 8 = .ok (.isub, 1) := by decide +kernel
theorem dX10_safeOfTimes_9 : decode cX10_safeOfTimes 9 = .ok (.istore_n 2, 1) := by decide +kernel
theorem dX10_safeOfTimes_10 : decode cX10_safeOfTimes 10 = .ok (.iload_n 2, 1) := by decide +kernel
theorem dX10_safeOfTimes_11 : decode cX10_safeOfTimes 11 = .ok (.ifCond .lt 20, 3) := by decide +kernel
theorem dX10_safeOfTimes_14 : decode cX10_safeOfTimes 14 = .ok (.iload_n 1, 1) := by decide +kernel
theorem dX10_safeOfTimes_15 : decode cX10_safeOfTimes 15 = .ok (.aload_n 0, 1) := by decide +kernel
theorem dX10_safeOfTimes_16 : decode cX10_safeOfTimes 16 = .ok (.getfield 40, 3) := by decide +kernel
theorem dX10_safeOfTimes_19 : decode cX10_safeOfTimes 19 = .ok (.iload_n 2, 1) := by decide +kernel
theorem dX10_safeOfTimes_20 : decode cX10_safeOfTimes 20 = .ok (.iaload, 1) := by decide +kernel
theorem dX10_safeOfTimes_21 : decode cX10_safeOfTimes 21 = .ok (.invokestatic 157, 3) := by decide +kernel
theorem dX10_safeOfTimes_24 : decode cX10_safeOfTimes 24 = .ok (.istore_n 1, 1) := by decide +kernel
theorem dX10_safeOfTimes_25 : decode cX10_safeOfTimes 25 = .ok (.iinc 2 (-1), 3) := by decide +kernel
theorem dX10_safeOfTimes_28 : decode cX10_safeOfTimes 28 = .ok (.goto (-18), 3) := by decide +kernel
theorem dX10_safeOfTimes_31 : decode cX10_safeOfTimes 31 = .ok (.iload_n 1, 1) := by decide +kernel
theorem dX10_safeOfTimes_32 : decode cX10_safeOfTimes 32 = .ok (.ireturn, 1) := by decide +kernel
theorem dX10_mostRisk_0 : decode cX10_mostRisk 0 = .ok (.bipush (-6), 2) := by decide +kernel
theorem dX10_mostRisk_2 : decode cX10_mostRisk 2 = .ok (.istore_n 1, 1) := by decide +kernel
theorem dX10_mostRisk_3 : decode cX10_mostRisk 3 = .ok (.iconst 0, 1) := by decide +kernel
theorem dX10_mostRisk_4 : decode cX10_mostRisk 4 = .ok (.istore_n 2, 1) := by decide +kernel
theorem dX10_mostRisk_5 : decode cX10_mostRisk 5 = .ok (.iload_n 2, 1) := by decide +kernel
theorem dX10_mostRisk_6 : decode cX10_mostRisk 6 = .ok (.aload_n 0, 1) := by decide +kernel
theorem dX10_mostRisk_7 : decode cX10_mostRisk 7 = .ok (.getfield 135, 3) := by decide +kernel
theorem dX10_mostRisk_10 : decode cX10_mostRisk 10 = .ok (.if_icmp .ge 34, 3) := by decide +kernel
theorem dX10_mostRisk_13 : decode cX10_mostRisk 13 = .ok (.iload_n 1, 1) := by decide +kernel
theorem dX10_mostRisk_14 : decode cX10_mostRisk 14 = .ok (.ifCond .lt 18, 3) := by decide +kernel
theorem dX10_mostRisk_17 : decode cX10_mostRisk 17 = .ok (.aload_n 0, 1) := by decide +kernel
theorem dX10_mostRisk_18 : decode cX10_mostRisk 18 = .ok (.getfield 40, 3) := by decide +kernel
theorem dX10_mostRisk_21 : decode cX10_mostRisk 21 = .ok (.iload_n 2, 1) := by decide +kernel
theorem dX10_mostRisk_22 : decode cX10_mostRisk 22 = .ok (.iaload, 1) := by decide +kernel
theorem dX10_mostRisk_23 : decode cX10_mostRisk 23 = .ok (.aload_n 0, 1) := by decide +kernel
theorem dX10_mostRisk_24 : decode cX10_mostRisk 24 = .ok (.getfield 40, 3) := by decide +kernel
theorem dX10_mostRisk_27 : decode cX10_mostRisk 27 = .ok (.iload_n 1, 1) := by decide +kernel
theorem dX10_mostRisk_28 : decode cX10_mostRisk 28 = .ok (.iaload, 1) := by decide +kernel
theorem dX10_mostRisk_29 : decode cX10_mostRisk 29 = .ok (.if_icmp .le 7, 3) := by decide +kernel
theorem dX10_mostRisk_32 : decode cX10_mostRisk 32 = .ok (.iload_n 2, 1) := by decide +kernel
theorem dX10_mostRisk_33 : decode cX10_mostRisk 33 = .ok (.goto 4, 3) := by decide +kernel
theorem dX10_mostRisk_36 : decode cX10_mostRisk 36 = .ok (.iload_n 1, 1) := by decide +kernel
theorem dX10_mostRisk_37 : decode cX10_mostRisk 37 = .ok (.istore_n 1, 1) := by decide +kernel
theorem dX10_mostRisk_38 : decode cX10_mostRisk 38 = .ok (.iinc 2 1, 3) := by decide +kernel
theorem dX10_mostRisk_41 : decode cX10_mostRisk 41 = .ok (.goto (-36), 3) := by decide +kernel
theorem dX10_mostRisk_44 : decode cX10_mostRisk 44 = .ok (.iload_n 1, 1) := by decide +kernel
theorem dX10_mostRisk_45 : decode cX10_mostRisk 45 = .ok (.ireturn, 1) := by decide +kernel
theorem dX10_judge_0 : decode cX10_judge 0 = .ok (.iload_n 1, 1) := by decide +kernel
theorem dX10_judge_1 : decode cX10_judge 1 = .ok (.invokestatic 74, 3) := by decide +kernel
theorem dX10_judge_4 : decode cX10_judge 4 = .ok (.ifCond .ne 5, 3) := by decide +kernel
theorem dX10_judge_7 : decode cX10_judge 7 = .ok (.iconst (-1), 1) := by decide +kernel
theorem dX10_judge_8 : decode cX10_judge 8 = .ok (.ireturn, 1) := by decide +kernel
theorem dX10_judge_9 : decode cX10_judge 9 = .ok (.iload_n 2, 1) := by decide +kernel
theorem dX10_judge_10 : decode cX10_judge 10 = .ok (.invokestatic 110, 3) := by decide +kernel
theorem dX10_judge_13 : decode cX10_judge 13 = .ok (.ifCond .eq 23, 3) := by decide +kernel
theorem dX10_judge_16 : decode cX10_judge 16 = .ok (.iload_n 3, 1) := by decide +kernel
theorem dX10_judge_17 : decode cX10_judge 17 = .ok (.invokestatic 161, 3) := by decide +kernel
theorem dX10_judge_20 : decode cX10_judge 20 = .ok (.ifCond .eq 16, 3) := by decide +kernel
theorem dX10_judge_23 : decode cX10_judge 23 = .ok (.iload 4, 2) := by decide +kernel
theorem dX10_judge_25 : decode cX10_judge 25 = .ok (.i2l, 1) := by decide +kernel
theorem dX10_judge_26 : decode cX10_judge 26 = .ok (.lconst 0, 1) := by decide +kernel
theorem dX10_judge_27 : decode cX10_judge 27 = .ok (.ldc2_w 164, 3) := by decide +kernel
theorem dX10_judge_30 : decode cX10_judge 30 = .ok (.invokestatic 66, 3) := by decide +kernel
theorem dX10_judge_33 : decode cX10_judge 33 = .ok (.ifCond .ne 6, 3) := by decide +kernel
theorem dX10_judge_36 : decode cX10_judge 36 = .ok (.bipush (-2), 2) := by decide +kernel
theorem dX10_judge_38 : decode cX10_judge 38 = .ok (.ireturn, 1) := by decide +kernel
theorem dX10_judge_39 : decode cX10_judge 39 = .ok (.aload_n 0, 1) := by decide +kernel
theorem dX10_judge_40 : decode cX10_judge 40 = .ok (.invokevirtual 166, 3) := by decide +kernel
theorem dX10_judge_43 : decode cX10_judge 43 = .ok (.ifCond .lt 6, 3) := by decide +kernel
theorem dX10_judge_46 : decode cX10_judge 46 = .ok (.bipush (-5), 2) := by decide +kernel
theorem dX10_judge_48 : decode cX10_judge 48 = .ok (.ireturn, 1) := by decide +kernel
theorem dX10_judge_49 : decode cX10_judge 49 = .ok (.aload_n 0, 1) := by decide +kernel
theorem dX10_judge_50 : decode cX10_judge 50 = .ok (.iload_n 1, 1) := by decide +kernel
theorem dX10_judge_51 : decode cX10_judge 51 = .ok (.iload_n 2, 1) := by decide +kernel
theorem dX10_judge_52 : decode cX10_judge 52 = .ok (.iload_n 3, 1) := by decide +kernel
theorem dX10_judge_53 : decode cX10_judge 53 = .ok (.invokevirtual 170, 3) := by decide +kernel
theorem dX10_judge_56 : decode cX10_judge 56 = .ok (.iload 4, 2) := by decide +kernel
theorem dX10_judge_58 : decode cX10_judge 58 = .ok (.tableswitch 68 0 5 #[38, 43, 48, 53, 58, 63], 38) := by decide +kernel
theorem dX10_judge_96 : decode cX10_judge 96 = .ok (.aload_n 0, 1) := by decide +kernel
theorem dX10_judge_97 : decode cX10_judge 97 = .ok (.getfield 151, 3) := by decide +kernel
theorem dX10_judge_100 : decode cX10_judge 100 = .ok (.ireturn, 1) := by decide +kernel
theorem dX10_judge_101 : decode cX10_judge 101 = .ok (.aload_n 0, 1) := by decide +kernel
theorem dX10_judge_102 : decode cX10_judge 102 = .ok (.getfield 135, 3) := by decide +kernel
theorem dX10_judge_105 : decode cX10_judge 105 = .ok (.ireturn, 1) := by decide +kernel
theorem dX10_judge_106 : decode cX10_judge 106 = .ok (.aload_n 0, 1) := by decide +kernel
theorem dX10_judge_107 : decode cX10_judge 107 = .ok (.getfield 144, 3) := by decide +kernel
theorem dX10_judge_110 : decode cX10_judge 110 = .ok (.ireturn, 1) := by decide +kernel
theorem dX10_judge_111 : decode cX10_judge 111 = .ok (.aload_n 0, 1) := by decide +kernel
theorem dX10_judge_112 : decode cX10_judge 112 = .ok (.invokevirtual 173, 3) := by decide +kernel
theorem dX10_judge_115 : decode cX10_judge 115 = .ok (.ireturn, 1) := by decide +kernel
theorem dX10_judge_116 : decode cX10_judge 116 = .ok (.aload_n 0, 1) := by decide +kernel
theorem dX10_judge_117 : decode cX10_judge 117 = .ok (.invokevirtual 176, 3) := by decide +kernel
theorem dX10_judge_120 : decode cX10_judge 120 = .ok (.ireturn, 1) := by decide +kernel
theorem dX10_judge_121 : decode cX10_judge 121 = .ok (.aload_n 0, 1) := by decide +kernel
theorem dX10_judge_122 : decode cX10_judge 122 = .ok (.getfield 138, 3) := by decide +kernel
theorem dX10_judge_125 : decode cX10_judge 125 = .ok (.ireturn, 1) := by decide +kernel
theorem dX10_judge_126 : decode cX10_judge 126 = .ok (.aload_n 0, 1) := by decide +kernel
theorem dX10_judge_127 : decode cX10_judge 127 = .ok (.getfield 141, 3) := by decide +kernel
theorem dX10_judge_130 : decode cX10_judge 130 = .ok (.ireturn, 1) := by decide +kernel
theorem dX10_at_0 : decode cX10_at 0 = .ok (.iload_n 0, 1) := by decide +kernel
theorem dX10_at_1 : decode cX10_at 1 = .ok (.bipush 49, 2) := by decide +kernel
theorem dX10_at_3 : decode cX10_at 3 = .ok (.imul, 1) := by decide +kernel
theorem dX10_at_4 : decode cX10_at 4 = .ok (.iload_n 1, 1) := by decide +kernel
theorem dX10_at_5 : decode cX10_at 5 = .ok (.iadd, 1) := by decide +kernel
theorem dX10_at_6 : decode cX10_at 6 = .ok (.bipush 21, 2) := by decide +kernel
theorem dX10_at_8 : decode cX10_at 8 = .ok (.imul, 1) := by decide +kernel
theorem dX10_at_9 : decode cX10_at 9 = .ok (.iload_n 2, 1) := by decide +kernel
theorem dX10_at_10 : decode cX10_at 10 = .ok (.iadd, 1) := by decide +kernel
theorem dX10_at_11 : decode cX10_at 11 = .ok (.bipush 25, 2) := by decide +kernel
theorem dX10_at_13 : decode cX10_at 13 = .ok (.imul, 1) := by decide +kernel
theorem dX10_at_14 : decode cX10_at 14 = .ok (.iload_n 3, 1) := by decide +kernel
theorem dX10_at_15 : decode cX10_at 15 = .ok (.iadd, 1) := by decide +kernel
theorem dX10_at_16 : decode cX10_at 16 = .ok (.iconst 5, 1) := by decide +kernel
theorem dX10_at_17 : decode cX10_at 17 = .ok (.imul, 1) := by decide +kernel
theorem dX10_at_18 : decode cX10_at 18 = .ok (.iload 4, 2) := by decide +kernel
theorem dX10_at_20 : decode cX10_at 20 = .ok (.iadd, 1) := by decide +kernel
theorem dX10_at_21 : decode cX10_at 21 = .ok (.ireturn, 1) := by decide +kernel
theorem dX10_valueOf_0 : decode cX10_valueOf 0 = .ok (.iload 7, 2) := by decide +kernel
theorem dX10_valueOf_2 : decode cX10_valueOf 2 = .ok (.ifCond .ne 7, 3) := by decide +kernel
theorem dX10_valueOf_5 : decode cX10_valueOf 5 = .ok (.iconst 0, 1) := by decide +kernel
theorem dX10_valueOf_6 : decode cX10_valueOf 6 = .ok (.goto 14, 3) := by decide +kernel
theorem dX10_valueOf_9 : decode cX10_valueOf 9 = .ok (.iload 6, 2) := by decide +kernel
theorem dX10_valueOf_11 : decode cX10_valueOf 11 = .ok (.iconst 3, 1) := by decide +kernel
theorem dX10_valueOf_12 : decode cX10_valueOf 12 = .ok (.if_icmp .ne 7, 3) := by decide +kernel
theorem dX10_valueOf_15 : decode cX10_valueOf 15 = .ok (.iconst 2, 1) := by decide +kernel
theorem dX10_valueOf_16 : decode cX10_valueOf 16 = .ok (.goto 4, 3) := by decide +kernel
theorem dX10_valueOf_19 : decode cX10_valueOf 19 = .ok (.iconst 1, 1) := by decide +kernel
theorem dX10_valueOf_20 : decode cX10_valueOf 20 = .ok (.istore 8, 2) := by decide +kernel
theorem dX10_valueOf_22 : decode cX10_valueOf 22 = .ok (.aload_n 0, 1) := by decide +kernel
theorem dX10_valueOf_23 : decode cX10_valueOf 23 = .ok (.iload_n 1, 1) := by decide +kernel
theorem dX10_valueOf_24 : decode cX10_valueOf 24 = .ok (.iload_n 2, 1) := by decide +kernel
theorem dX10_valueOf_25 : decode cX10_valueOf 25 = .ok (.iload 6, 2) := by decide +kernel
theorem dX10_valueOf_27 : decode cX10_valueOf 27 = .ok (.invokevirtual 115, 3) := by decide +kernel
theorem dX10_valueOf_30 : decode cX10_valueOf 30 = .ok (.ifCond .eq 21, 3) := by decide +kernel
theorem dX10_valueOf_33 : decode cX10_valueOf 33 = .ok (.iload 8, 2) := by decide +kernel
theorem dX10_valueOf_35 : decode cX10_valueOf 35 = .ok (.iload 4, 2) := by decide +kernel
theorem dX10_valueOf_37 : decode cX10_valueOf 37 = .ok (.if_icmp .gt 14, 3) := by decide +kernel
theorem dX10_valueOf_40 : decode cX10_valueOf 40 = .ok (.iload 6, 2) := by decide +kernel
theorem dX10_valueOf_42 : decode cX10_valueOf 42 = .ok (.iconst 4, 1) := by decide +kernel
theorem dX10_valueOf_43 : decode cX10_valueOf 43 = .ok (.if_icmp .ne 11, 3) := by decide +kernel
theorem dX10_valueOf_46 : decode cX10_valueOf 46 = .ok (.iload 5, 2) := by decide +kernel
theorem dX10_valueOf_48 : decode cX10_valueOf 48 = .ok (.ifCond .ne 6, 3) := by decide +kernel
theorem dX10_valueOf_51 : decode cX10_valueOf 51 = .ok (.bipush (-6), 2) := by decide +kernel
theorem dX10_valueOf_53 : decode cX10_valueOf 53 = .ok (.ireturn, 1) := by decide +kernel
theorem dX10_valueOf_54 : decode cX10_valueOf 54 = .ok (.aload_n 0, 1) := by decide +kernel
theorem dX10_valueOf_55 : decode cX10_valueOf 55 = .ok (.iload_n 1, 1) := by decide +kernel
theorem dX10_valueOf_56 : decode cX10_valueOf 56 = .ok (.iload_n 2, 1) := by decide +kernel
theorem dX10_valueOf_57 : decode cX10_valueOf 57 = .ok (.iload_n 3, 1) := by decide +kernel
theorem dX10_valueOf_58 : decode cX10_valueOf 58 = .ok (.iload 6, 2) := by decide +kernel
theorem dX10_valueOf_60 : decode cX10_valueOf 60 = .ok (.invokevirtual 119, 3) := by decide +kernel
theorem dX10_valueOf_63 : decode cX10_valueOf 63 = .ok (.istore 9, 2) := by decide +kernel
theorem dX10_valueOf_65 : decode cX10_valueOf 65 = .ok (.iload 4, 2) := by decide +kernel
theorem dX10_valueOf_67 : decode cX10_valueOf 67 = .ok (.iload 8, 2) := by decide +kernel
theorem dX10_valueOf_69 : decode cX10_valueOf 69 = .ok (.isub, 1) := by decide +kernel
theorem dX10_valueOf_70 : decode cX10_valueOf 70 = .ok (.istore 10, 2) := by decide +kernel
theorem dX10_valueOf_72 : decode cX10_valueOf 72 = .ok (.aload_n 0, 1) := by decide +kernel
theorem dX10_valueOf_73 : decode cX10_valueOf 73 = .ok (.iload_n 1, 1) := by decide +kernel
theorem dX10_valueOf_74 : decode cX10_valueOf 74 = .ok (.iload_n 2, 1) := by decide +kernel
theorem dX10_valueOf_75 : decode cX10_valueOf 75 = .ok (.iload_n 3, 1) := by decide +kernel
theorem dX10_valueOf_76 : decode cX10_valueOf 76 = .ok (.iload 6, 2) := by decide +kernel
theorem dX10_valueOf_78 : decode cX10_valueOf 78 = .ok (.iload 7, 2) := by decide +kernel
theorem dX10_valueOf_80 : decode cX10_valueOf 80 = .ok (.invokevirtual 123, 3) := by decide +kernel
theorem dX10_valueOf_83 : decode cX10_valueOf 83 = .ok (.istore 11, 2) := by decide +kernel
theorem dX10_valueOf_85 : decode cX10_valueOf 85 = .ok (.iload 6, 2) := by decide +kernel
theorem dX10_valueOf_87 : decode cX10_valueOf 87 = .ok (.iconst 4, 1) := by decide +kernel
theorem dX10_valueOf_88 : decode cX10_valueOf 88 = .ok (.if_icmp .ne 27, 3) := by decide +kernel
