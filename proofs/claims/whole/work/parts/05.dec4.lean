theorem dX10_valueOf_91 : decode cX10_valueOf 91 = .ok (.aload_n 0, 1) := by decide +kernel
theorem dX10_valueOf_92 : decode cX10_valueOf 92 = .ok (.getfield 50, 3) := by decide +kernel
theorem dX10_valueOf_95 : decode cX10_valueOf 95 = .ok (.iload_n 1, 1) := by decide +kernel
theorem dX10_valueOf_96 : decode cX10_valueOf 96 = .ok (.iload_n 2, 1) := by decide +kernel
theorem dX10_valueOf_97 : decode cX10_valueOf 97 = .ok (.iload 9, 2) := by decide +kernel
theorem dX10_valueOf_99 : decode cX10_valueOf 99 = .ok (.iload 10, 2) := by decide +kernel
theorem dX10_valueOf_101 : decode cX10_valueOf 101 = .ok (.iload 5, 2) := by decide +kernel
theorem dX10_valueOf_103 : decode cX10_valueOf 103 = .ok (.iconst 1, 1) := by decide +kernel
theorem dX10_valueOf_104 : decode cX10_valueOf 104 = .ok (.isub, 1) := by decide +kernel
theorem dX10_valueOf_105 : decode cX10_valueOf 105 = .ok (.invokestatic 179, 3) := by decide +kernel
theorem dX10_valueOf_108 : decode cX10_valueOf 108 = .ok (.iaload, 1) := by decide +kernel
theorem dX10_valueOf_109 : decode cX10_valueOf 109 = .ok (.iload 11, 2) := by decide +kernel
theorem dX10_valueOf_111 : decode cX10_valueOf 111 = .ok (.invokestatic 157, 3) := by decide +kernel
theorem dX10_valueOf_114 : decode cX10_valueOf 114 = .ok (.ireturn, 1) := by decide +kernel
theorem dX10_valueOf_115 : decode cX10_valueOf 115 = .ok (.iload 6, 2) := by decide +kernel
theorem dX10_valueOf_117 : decode cX10_valueOf 117 = .ok (.iconst 3, 1) := by decide +kernel
theorem dX10_valueOf_118 : decode cX10_valueOf 118 = .ok (.if_icmp .eq 27, 3) := by decide +kernel
theorem dX10_valueOf_121 : decode cX10_valueOf 121 = .ok (.aload_n 0, 1) := by decide +kernel
theorem dX10_valueOf_122 : decode cX10_valueOf 122 = .ok (.getfield 50, 3) := by decide +kernel
theorem dX10_valueOf_125 : decode cX10_valueOf 125 = .ok (.iload_n 1, 1) := by decide +kernel
theorem dX10_valueOf_126 : decode cX10_valueOf 126 = .ok (.iload_n 2, 1) := by decide +kernel
theorem dX10_valueOf_127 : decode cX10_valueOf 127 = .ok (.iconst 1, 1) := by decide +kernel
theorem dX10_valueOf_128 : decode cX10_valueOf 128 = .ok (.iadd, 1) := by decide +kernel
theorem dX10_valueOf_129 : decode cX10_valueOf 129 = .ok (.iload 9, 2) := by decide +kernel
theorem dX10_valueOf_131 : decode cX10_valueOf 131 = .ok (.iload 10, 2) := by decide +kernel
theorem dX10_valueOf_133 : decode cX10_valueOf 133 = .ok (.iload 5, 2) := by decide +kernel
theorem dX10_valueOf_135 : decode cX10_valueOf 135 = .ok (.invokestatic 179, 3) := by decide +kernel
theorem dX10_valueOf_138 : decode cX10_valueOf 138 = .ok (.iaload, 1) := by decide +kernel
theorem dX10_valueOf_139 : decode cX10_valueOf 139 = .ok (.iload 11, 2) := by decide +kernel
theorem dX10_valueOf_141 : decode cX10_valueOf 141 = .ok (.invokestatic 157, 3) := by decide +kernel
theorem dX10_valueOf_144 : decode cX10_valueOf 144 = .ok (.ireturn, 1) := by decide +kernel
theorem dX10_valueOf_145 : decode cX10_valueOf 145 = .ok (.aload_n 0, 1) := by decide +kernel
theorem dX10_valueOf_146 : decode cX10_valueOf 146 = .ok (.getfield 50, 3) := by decide +kernel
theorem dX10_valueOf_149 : decode cX10_valueOf 149 = .ok (.iload_n 1, 1) := by decide +kernel
theorem dX10_valueOf_150 : decode cX10_valueOf 150 = .ok (.iload_n 2, 1) := by decide +kernel
theorem dX10_valueOf_151 : decode cX10_valueOf 151 = .ok (.iconst 2, 1) := by decide +kernel
theorem dX10_valueOf_152 : decode cX10_valueOf 152 = .ok (.iadd, 1) := by decide +kernel
theorem dX10_valueOf_153 : decode cX10_valueOf 153 = .ok (.iload 9, 2) := by decide +kernel
theorem dX10_valueOf_155 : decode cX10_valueOf 155 = .ok (.iload 10, 2) := by decide +kernel
theorem dX10_valueOf_157 : decode cX10_valueOf 157 = .ok (.iload 5, 2) := by decide +kernel
theorem dX10_valueOf_159 : decode cX10_valueOf 159 = .ok (.invokestatic 179, 3) := by decide +kernel
theorem dX10_valueOf_162 : decode cX10_valueOf 162 = .ok (.iaload, 1) := by decide +kernel
theorem dX10_valueOf_163 : decode cX10_valueOf 163 = .ok (.aload_n 0, 1) := by decide +kernel
theorem dX10_valueOf_164 : decode cX10_valueOf 164 = .ok (.iload_n 1, 1) := by decide +kernel
theorem dX10_valueOf_165 : decode cX10_valueOf 165 = .ok (.iload_n 2, 1) := by decide +kernel
theorem dX10_valueOf_166 : decode cX10_valueOf 166 = .ok (.iconst 1, 1) := by decide +kernel
theorem dX10_valueOf_167 : decode cX10_valueOf 167 = .ok (.iadd, 1) := by decide +kernel
theorem dX10_valueOf_168 : decode cX10_valueOf 168 = .ok (.iload_n 3, 1) := by decide +kernel
theorem dX10_valueOf_169 : decode cX10_valueOf 169 = .ok (.iload 6, 2) := by decide +kernel
theorem dX10_valueOf_171 : decode cX10_valueOf 171 = .ok (.iload 7, 2) := by decide +kernel
theorem dX10_valueOf_173 : decode cX10_valueOf 173 = .ok (.invokevirtual 123, 3) := by decide +kernel
theorem dX10_valueOf_176 : decode cX10_valueOf 176 = .ok (.invokestatic 157, 3) := by decide +kernel
theorem dX10_valueOf_179 : decode cX10_valueOf 179 = .ok (.istore 12, 2) := by decide +kernel
theorem dX10_valueOf_181 : decode cX10_valueOf 181 = .ok (.iload 12, 2) := by decide +kernel
theorem dX10_valueOf_183 : decode cX10_valueOf 183 = .ok (.iload 11, 2) := by decide +kernel
theorem dX10_valueOf_185 : decode cX10_valueOf 185 = .ok (.invokestatic 157, 3) := by decide +kernel
theorem dX10_valueOf_188 : decode cX10_valueOf 188 = .ok (.ireturn, 1) := by decide +kernel
theorem dX10_triedAt_0 : decode cX10_triedAt 0 = .ok (.iload_n 0, 1) := by decide +kernel
theorem dX10_triedAt_1 : decode cX10_triedAt 1 = .ok (.ifCond .ne 7, 3) := by decide +kernel
theorem dX10_triedAt_4 : decode cX10_triedAt 4 = .ok (.iconst 0, 1) := by decide +kernel
theorem dX10_triedAt_5 : decode cX10_triedAt 5 = .ok (.goto 21, 3) := by decide +kernel
theorem dX10_triedAt_8 : decode cX10_triedAt 8 = .ok (.iload_n 0, 1) := by decide +kernel
theorem dX10_triedAt_9 : decode cX10_triedAt 9 = .ok (.iconst 1, 1) := by decide +kernel
theorem dX10_triedAt_10 : decode cX10_triedAt 10 = .ok (.iadd, 1) := by decide +kernel
theorem dX10_triedAt_11 : decode cX10_triedAt 11 = .ok (.iconst 2, 1) := by decide +kernel
theorem dX10_triedAt_12 : decode cX10_triedAt 12 = .ok (.idiv, 1) := by decide +kernel
theorem dX10_triedAt_13 : decode cX10_triedAt 13 = .ok (.iload_n 0, 1) := by decide +kernel
theorem dX10_triedAt_14 : decode cX10_triedAt 14 = .ok (.iconst 2, 1) := by decide +kernel
theorem dX10_triedAt_15 : decode cX10_triedAt 15 = .ok (.irem, 1) := by decide +kernel
theorem dX10_triedAt_16 : decode cX10_triedAt 16 = .ok (.ifCond .ne 8, 3) := by decide +kernel
theorem dX10_triedAt_19 : decode cX10_triedAt 19 = .ok (.bipush 10, 2) := by decide +kernel
theorem dX10_triedAt_21 : decode cX10_triedAt 21 = .ok (.goto 4, 3) := by decide +kernel
theorem dX10_triedAt_24 : decode cX10_triedAt 24 = .ok (.iconst 0, 1) := by decide +kernel
theorem dX10_triedAt_25 : decode cX10_triedAt 25 = .ok (.iadd, 1) := by decide +kernel
theorem dX10_triedAt_26 : decode cX10_triedAt 26 = .ok (.ireturn, 1) := by decide +kernel
theorem dX10_lay_0 : decode cX10_lay 0 = .ok (.aload_n 0, 1) := by decide +kernel
theorem dX10_lay_1 : decode cX10_lay 1 = .ok (.getfield 53, 3) := by decide +kernel
theorem dX10_lay_4 : decode cX10_lay 4 = .ok (.iload_n 1, 1) := by decide +kernel
theorem dX10_lay_5 : decode cX10_lay 5 = .ok (.baload, 1) := by decide +kernel
theorem dX10_lay_6 : decode cX10_lay 6 = .ok (.ifCond .eq 4, 3) := by decide +kernel
theorem dX10_lay_9 : decode cX10_lay 9 = .ok (.return_, 1) := by decide +kernel
theorem dX10_lay_10 : decode cX10_lay 10 = .ok (.aload_n 0, 1) := by decide +kernel
theorem dX10_lay_11 : decode cX10_lay 11 = .ok (.getfield 53, 3) := by decide +kernel
theorem dX10_lay_14 : decode cX10_lay 14 = .ok (.iload_n 1, 1) := by decide +kernel
theorem dX10_lay_15 : decode cX10_lay 15 = .ok (.iconst 1, 1) := by decide +kernel
theorem dX10_lay_16 : decode cX10_lay 16 = .ok (.bastore, 1) := by decide +kernel
theorem dX10_lay_17 : decode cX10_lay 17 = .ok (.aload_n 0, 1) := by decide +kernel
theorem dX10_lay_18 : decode cX10_lay 18 = .ok (.getfield 22, 3) := by decide +kernel
theorem dX10_lay_21 : decode cX10_lay 21 = .ok (.iload_n 1, 1) := by decide +kernel
theorem dX10_lay_22 : decode cX10_lay 22 = .ok (.iaload, 1) := by decide +kernel
theorem dX10_lay_23 : decode cX10_lay 23 = .ok (.istore_n 2, 1) := by decide +kernel
theorem dX10_lay_24 : decode cX10_lay 24 = .ok (.iload_n 2, 1) := by decide +kernel
theorem dX10_lay_25 : decode cX10_lay 25 = .ok (.ifCond .lt 161, 3) := by decide +kernel
theorem dX10_lay_28 : decode cX10_lay 28 = .ok (.iconst 0, 1) := by decide +kernel
theorem dX10_lay_29 : decode cX10_lay 29 = .ok (.istore_n 3, 1) := by decide +kernel
theorem dX10_lay_30 : decode cX10_lay 30 = .ok (.iload_n 3, 1) := by decide +kernel
theorem dX10_lay_31 : decode cX10_lay 31 = .ok (.iconst 4, 1) := by decide +kernel
theorem dX10_lay_32 : decode cX10_lay 32 = .ok (.if_icmp .gt 148, 3) := by decide +kernel
theorem dX10_lay_35 : decode cX10_lay 35 = .ok (.iconst 0, 1) := by decide +kernel
theorem dX10_lay_36 : decode cX10_lay 36 = .ok (.istore 4, 2) := by decide +kernel
theorem dX10_lay_38 : decode cX10_lay 38 = .ok (.iload 4, 2) := by decide +kernel
theorem dX10_lay_40 : decode cX10_lay 40 = .ok (.bipush 20, 2) := by decide +kernel
theorem dX10_lay_42 : decode cX10_lay 42 = .ok (.if_icmp .gt 132, 3) := by decide +kernel
theorem dX10_lay_45 : decode cX10_lay 45 = .ok (.iconst 0, 1) := by decide +kernel
theorem dX10_lay_46 : decode cX10_lay 46 = .ok (.istore 5, 2) := by decide +kernel
theorem dX10_lay_48 : decode cX10_lay 48 = .ok (.iload 5, 2) := by decide +kernel
theorem dX10_lay_50 : decode cX10_lay 50 = .ok (.bipush 24, 2) := by decide +kernel
theorem dX10_lay_52 : decode cX10_lay 52 = .ok (.if_icmp .gt 116, 3) := by decide +kernel
theorem dX10_lay_55 : decode cX10_lay 55 = .ok (.iload_n 2, 1) := by decide +kernel
theorem dX10_lay_56 : decode cX10_lay 56 = .ok (.aload_n 0, 1) := by decide +kernel
theorem dX10_lay_57 : decode cX10_lay 57 = .ok (.getfield 22, 3) := by decide +kernel
theorem dX10_lay_60 : decode cX10_lay 60 = .ok (.iload_n 1, 1) := by decide +kernel
theorem dX10_lay_61 : decode cX10_lay 61 = .ok (.iaload, 1) := by decide +kernel
theorem dX10_lay_62 : decode cX10_lay 62 = .ok (.if_icmp .ne 8, 3) := by decide +kernel
theorem dX10_lay_65 : decode cX10_lay 65 = .ok (.ldc 104, 2) := by decide +kernel
theorem dX10_lay_67 : decode cX10_lay 67 = .ok (.goto 4, 3) := by decide +kernel
theorem dX10_lay_70 : decode cX10_lay 70 = .ok (.iconst 0, 1) := by decide +kernel
theorem dX10_lay_71 : decode cX10_lay 71 = .ok (.istore 6, 2) := by decide +kernel
theorem dX10_lay_73 : decode cX10_lay 73 = .ok (.iconst 0, 1) := by decide +kernel
theorem dX10_lay_74 : decode cX10_lay 74 = .ok (.istore 7, 2) := by decide +kernel
theorem dX10_lay_76 : decode cX10_lay 76 = .ok (.iload 7, 2) := by decide +kernel
theorem dX10_lay_78 : decode cX10_lay 78 = .ok (.bipush 9, 2) := by decide +kernel
theorem dX10_lay_80 : decode cX10_lay 80 = .ok (.if_icmp .ge 65, 3) := by decide +kernel
theorem dX10_lay_83 : decode cX10_lay 83 = .ok (.iload_n 2, 1) := by decide +kernel
theorem dX10_lay_84 : decode cX10_lay 84 = .ok (.aload_n 0, 1) := by decide +kernel
theorem dX10_lay_85 : decode cX10_lay 85 = .ok (.getfield 22, 3) := by decide +kernel
theorem dX10_lay_88 : decode cX10_lay 88 = .ok (.iload_n 1, 1) := by decide +kernel
theorem dX10_lay_89 : decode cX10_lay 89 = .ok (.iaload, 1) := by decide +kernel
theorem dX10_lay_90 : decode cX10_lay 90 = .ok (.if_icmp .ge 55, 3) := by decide +kernel
theorem dX10_lay_93 : decode cX10_lay 93 = .ok (.iload 7, 2) := by decide +kernel
theorem dX10_lay_95 : decode cX10_lay 95 = .ok (.invokestatic 182, 3) := by decide +kernel
theorem dX10_lay_98 : decode cX10_lay 98 = .ok (.istore 8, 2) := by decide +kernel
theorem dX10_lay_100 : decode cX10_lay 100 = .ok (.aload_n 0, 1) := by decide +kernel
theorem dX10_lay_101 : decode cX10_lay 101 = .ok (.iload_n 1, 1) := by decide +kernel
theorem dX10_lay_102 : decode cX10_lay 102 = .ok (.iload_n 2, 1) := by decide +kernel
theorem dX10_lay_103 : decode cX10_lay 103 = .ok (.iload 4, 2) := by decide +kernel
theorem dX10_lay_105 : decode cX10_lay 105 = .ok (.iload 5, 2) := by decide +kernel
theorem dX10_lay_107 : decode cX10_lay 107 = .ok (.iload_n 3, 1) := by decide +kernel
theorem dX10_lay_108 : decode cX10_lay 108 = .ok (.iload 8, 2) := by decide +kernel
theorem dX10_lay_110 : decode cX10_lay 110 = .ok (.bipush 10, 2) := by decide +kernel
theorem dX10_lay_112 : decode cX10_lay 112 = .ok (.irem, 1) := by decide +kernel
theorem dX10_lay_113 : decode cX10_lay 113 = .ok (.iload 8, 2) := by decide +kernel
theorem dX10_lay_115 : decode cX10_lay 115 = .ok (.bipush 10, 2) := by decide +kernel
theorem dX10_lay_117 : decode cX10_lay 117 = .ok (.idiv, 1) := by decide +kernel
theorem dX10_lay_118 : decode cX10_lay 118 = .ok (.invokevirtual 186, 3) := by decide +kernel
theorem dX10_lay_121 : decode cX10_lay 121 = .ok (.istore 9, 2) := by decide +kernel
theorem dX10_lay_123 : decode cX10_lay 123 = .ok (.iload 9, 2) := by decide +kernel
theorem dX10_lay_125 : decode cX10_lay 125 = .ok (.iload 6, 2) := by decide +kernel
theorem dX10_lay_127 : decode cX10_lay 127 = .ok (.if_icmp .le 8, 3) := by decide +kernel
theorem dX10_lay_130 : decode cX10_lay 130 = .ok (.iload 9, 2) := by decide +kernel
theorem dX10_lay_132 : decode cX10_lay 132 = .ok (.goto 5, 3) := by decide +kernel
theorem dX10_lay_135 : decode cX10_lay 135 = .ok (.iload 6, 2) := by decide +kernel
theorem dX10_lay_137 : decode cX10_lay 137 = .ok (.istore 6, 2) := by decide +kernel
theorem dX10_lay_139 : decode cX10_lay 139 = .ok (.iinc 7 1, 3) := by decide +kernel
theorem dX10_lay_142 : decode cX10_lay 142 = .ok (.goto (-66), 3) := by decide +kernel
theorem dX10_lay_145 : decode cX10_lay 145 = .ok (.aload_n 0, 1) := by decide +kernel
theorem dX10_lay_146 : decode cX10_lay 146 = .ok (.getfield 50, 3) := by decide +kernel
theorem dX10_lay_149 : decode cX10_lay 149 = .ok (.iload_n 1, 1) := by decide +kernel
theorem dX10_lay_150 : decode cX10_lay 150 = .ok (.iload_n 2, 1) := by decide +kernel
theorem dX10_lay_151 : decode cX10_lay 151 = .ok (.iload 4, 2) := by decide +kernel
theorem dX10_lay_153 : decode cX10_lay 153 = .ok (.iload 5, 2) := by decide +kernel
theorem dX10_lay_155 : decode cX10_lay 155 = .ok (.iload_n 3, 1) := by decide +kernel
theorem dX10_lay_156 : decode cX10_lay 156 = .ok (.invokestatic 179, 3) := by decide +kernel
theorem dX10_lay_159 : decode cX10_lay 159 = .ok (.iload 6, 2) := by decide +kernel
theorem dX10_lay_161 : decode cX10_lay 161 = .ok (.iastore, 1) := by decide +kernel
theorem dX10_lay_162 : decode cX10_lay 162 = .ok (.iinc 5 1, 3) := by decide +kernel
theorem dX10_lay_165 : decode cX10_lay 165 = .ok (.goto (-117), 3) := by decide +kernel
theorem dX10_lay_168 : decode cX10_lay 168 = .ok (.iinc 4 1, 3) := by decide +kernel
theorem dX10_lay_171 : decode cX10_lay 171 = .ok (.goto (-133), 3) := by decide +kernel
theorem dX10_lay_174 : decode cX10_lay 174 = .ok (.iinc 3 1, 3) := by decide +kernel
theorem dX10_lay_177 : decode cX10_lay 177 = .ok (.goto (-147), 3) := by decide +kernel
theorem dX10_lay_180 : decode cX10_lay 180 = .ok (.iinc 2 (-1), 3) := by decide +kernel
theorem dX10_lay_183 : decode cX10_lay 183 = .ok (.goto (-159), 3) := by decide +kernel
theorem dX10_lay_186 : decode cX10_lay 186 = .ok (.return_, 1) := by decide +kernel
theorem dX10_bestOf_0 : decode cX10_bestOf 0 = .ok (.aload_n 0, 1) := by decide +kernel
theorem dX10_bestOf_1 : decode cX10_bestOf 1 = .ok (.iload_n 1, 1) := by decide +kernel
theorem dX10_bestOf_2 : decode cX10_bestOf 2 = .ok (.invokevirtual 190, 3) := by decide +kernel
theorem dX10_bestOf_5 : decode cX10_bestOf 5 = .ok (.aload_n 0, 1) := by decide +kernel
theorem dX10_bestOf_6 : decode cX10_bestOf 6 = .ok (.getfield 50, 3) := by decide +kernel
theorem dX10_bestOf_9 : decode cX10_bestOf 9 = .ok (.iload_n 1, 1) := by decide +kernel
theorem dX10_bestOf_10 : decode cX10_bestOf 10 = .ok (.iload_n 2, 1) := by decide +kernel
theorem dX10_bestOf_11 : decode cX10_bestOf 11 = .ok (.iload_n 3, 1) := by decide +kernel
theorem dX10_bestOf_12 : decode cX10_bestOf 12 = .ok (.iload 4, 2) := by decide +kernel
theorem dX10_bestOf_14 : decode cX10_bestOf 14 = .ok (.iload 5, 2) := by decide +kernel
theorem dX10_bestOf_16 : decode cX10_bestOf 16 = .ok (.invokestatic 179, 3) := by decide +kernel
theorem dX10_bestOf_19 : decode cX10_bestOf 19 = .ok (.iaload, 1) := by decide +kernel
theorem dX10_bestOf_20 : decode cX10_bestOf 20 = .ok (.ireturn, 1) := by decide +kernel
theorem dX10_doesOf_0 : decode cX10_doesOf 0 = .ok (.aload_n 0, 1) := by decide +kernel
theorem dX10_doesOf_1 : decode cX10_doesOf 1 = .ok (.iload_n 1, 1) := by decide +kernel
theorem dX10_doesOf_2 : decode cX10_doesOf 2 = .ok (.iload_n 2, 1) := by decide +kernel
theorem dX10_doesOf_3 : decode cX10_doesOf 3 = .ok (.iload_n 3, 1) := by decide +kernel
theorem dX10_doesOf_4 : decode cX10_doesOf 4 = .ok (.iload 4, 2) := by decide +kernel
theorem dX10_doesOf_6 : decode cX10_doesOf 6 = .ok (.iload 5, 2) := by decide +kernel
theorem dX10_doesOf_8 : decode cX10_doesOf 8 = .ok (.invokevirtual 193, 3) := by decide +kernel
theorem dX10_doesOf_11 : decode cX10_doesOf 11 = .ok (.istore 6, 2) := by decide +kernel
theorem dX10_doesOf_13 : decode cX10_doesOf 13 = .ok (.iconst 0, 1) := by decide +kernel
theorem dX10_doesOf_14 : decode cX10_doesOf 14 = .ok (.istore 7, 2) := by decide +kernel
theorem dX10_doesOf_16 : decode cX10_doesOf 16 = .ok (.iload 7, 2) := by decide +kernel
theorem dX10_doesOf_18 : decode cX10_doesOf 18 = .ok (.bipush 9, 2) := by decide +kernel
theorem dX10_doesOf_20 : decode cX10_doesOf 20 = .ok (.if_icmp .ge 45, 3) := by decide +kernel
theorem dX10_doesOf_23 : decode cX10_doesOf 23 = .ok (.iload 7, 2) := by decide +kernel
theorem dX10_doesOf_25 : decode cX10_doesOf 25 = .ok (.invokestatic 182, 3) := by decide +kernel
theorem dX10_doesOf_28 : decode cX10_doesOf 28 = .ok (.istore 8, 2) := by decide +kernel
theorem dX10_doesOf_30 : decode cX10_doesOf 30 = .ok (.aload_n 0, 1) := by decide +kernel
theorem dX10_doesOf_31 : decode cX10_doesOf 31 = .ok (.iload_n 1, 1) := by decide +kernel
theorem dX10_doesOf_32 : decode cX10_doesOf 32 = .ok (.iload_n 2, 1) := by decide +kernel
theorem dX10_doesOf_33 : decode cX10_doesOf 33 = .ok (.iload_n 3, 1) := by decide +kernel
theorem dX10_doesOf_34 : decode cX10_doesOf 34 = .ok (.iload 4, 2) := by decide +kernel
theorem dX10_doesOf_36 : decode cX10_doesOf 36 = .ok (.iload 5, 2) := by decide +kernel
theorem dX10_doesOf_38 : decode cX10_doesOf 38 = .ok (.iload 8, 2) := by decide +kernel
theorem dX10_doesOf_40 : decode cX10_doesOf 40 = .ok (.bipush 10, 2) := by decide +kernel
theorem dX10_doesOf_42 : decode cX10_doesOf 42 = .ok (.irem, 1) := by decide +kernel
theorem dX10_doesOf_43 : decode cX10_doesOf 43 = .ok (.iload 8, 2) := by decide +kernel
theorem dX10_doesOf_45 : decode cX10_doesOf 45 = .ok (.bipush 10, 2) := by decide +kernel
theorem dX10_doesOf_47 : decode cX10_doesOf 47 = .ok (.idiv, 1) := by decide +kernel
theorem dX10_doesOf_48 : decode cX10_doesOf 48 = .ok (.invokevirtual 186, 3) := by decide +kernel
theorem dX10_doesOf_51 : decode cX10_doesOf 51 = .ok (.iload 6, 2) := by decide +kernel
theorem dX10_doesOf_53 : decode cX10_doesOf 53 = .ok (.if_icmp .ne 6, 3) := by decide +kernel
theorem dX10_doesOf_56 : decode cX10_doesOf 56 = .ok (.iload 8, 2) := by decide +kernel
theorem dX10_doesOf_58 : decode cX10_doesOf 58 = .ok (.ireturn, 1) := by decide +kernel
theorem dX10_doesOf_59 : decode cX10_doesOf 59 = .ok (.iinc 7 1, 3) := by decide +kernel
theorem dX10_doesOf_62 : decode cX10_doesOf 62 = .ok (.goto (-46), 3) := by decide +kernel
theorem dX10_doesOf_65 : decode cX10_doesOf 65 = .ok (.bipush (-6), 2) := by decide +kernel
theorem dX10_doesOf_67 : decode cX10_doesOf 67 = .ok (.ireturn, 1) := by decide +kernel
theorem dX10_isPlace_0 : decode cX10_isPlace 0 = .ok (.iload_n 2, 1) := by decide +kernel
theorem dX10_isPlace_1 : decode cX10_isPlace 1 = .ok (.i2l, 1) := by decide +kernel
theorem dX10_isPlace_2 : decode cX10_isPlace 2 = .ok (.lconst 0, 1) := by decide +kernel
theorem dX10_isPlace_3 : decode cX10_isPlace 3 = .ok (.aload_n 0, 1) := by decide +kernel
theorem dX10_isPlace_4 : decode cX10_isPlace 4 = .ok (.getfield 22, 3) := by decide +kernel
theorem dX10_isPlace_7 : decode cX10_isPlace 7 = .ok (.iload_n 1, 1) := by decide +kernel
theorem dX10_isPlace_8 : decode cX10_isPlace 8 = .ok (.iaload, 1) := by decide +kernel
theorem dX10_isPlace_9 : decode cX10_isPlace 9 = .ok (.i2l, 1) := by decide +kernel
theorem dX10_isPlace_10 : decode cX10_isPlace 10 = .ok (.invokestatic 66, 3) := by decide +kernel
theorem dX10_isPlace_13 : decode cX10_isPlace 13 = .ok (.ifCond .eq 35, 3) := by decide +kernel
theorem dX10_isPlace_16 : decode cX10_isPlace 16 = .ok (.iload_n 3, 1) := by decide +kernel
theorem dX10_isPlace_17 : decode cX10_isPlace 17 = .ok (.invokestatic 110, 3) := by decide +kernel
theorem dX10_isPlace_20 : decode cX10_isPlace 20 = .ok (.ifCond .eq 28, 3) := by decide +kernel
theorem dX10_isPlace_23 : decode cX10_isPlace 23 = .ok (.iload 4, 2) := by decide +kernel
theorem dX10_isPlace_25 : decode cX10_isPlace 25 = .ok (.invokestatic 161, 3) := by decide +kernel
theorem dX10_isPlace_28 : decode cX10_isPlace 28 = .ok (.ifCond .eq 20, 3) := by decide +kernel
theorem dX10_isPlace_31 : decode cX10_isPlace 31 = .ok (.iload 5, 2) := by decide +kernel
theorem dX10_isPlace_33 : decode cX10_isPlace 33 = .ok (.i2l, 1) := by decide +kernel
theorem dX10_isPlace_34 : decode cX10_isPlace 34 = .ok (.lconst 0, 1) := by decide +kernel
theorem dX10_isPlace_35 : decode cX10_isPlace 35 = .ok (.ldc2_w 113, 3) := by decide +kernel
theorem dX10_isPlace_38 : decode cX10_isPlace 38 = .ok (.invokestatic 66, 3) := by decide +kernel
theorem dX10_isPlace_41 : decode cX10_isPlace 41 = .ok (.ifCond .eq 7, 3) := by decide +kernel
theorem dX10_isPlace_44 : decode cX10_isPlace 44 = .ok (.iconst 1, 1) := by decide +kernel
theorem dX10_isPlace_45 : decode cX10_isPlace 45 = .ok (.goto 4, 3) := by decide +kernel
theorem dX10_isPlace_48 : decode cX10_isPlace 48 = .ok (.iconst 0, 1) := by decide +kernel
theorem dX10_isPlace_49 : decode cX10_isPlace 49 = .ok (.ireturn, 1) := by decide +kernel
theorem dX10_best_0 : decode cX10_best 0 = .ok (.iload_n 1, 1) := by decide +kernel
theorem dX10_best_1 : decode cX10_best 1 = .ok (.invokestatic 74, 3) := by decide +kernel
theorem dX10_best_4 : decode cX10_best 4 = .ok (.ifCond .ne 5, 3) := by decide +kernel
theorem dX10_best_7 : decode cX10_best 7 = .ok (.iconst (-1), 1) := by decide +kernel
theorem dX10_best_8 : decode cX10_best 8 = .ok (.ireturn, 1) := by decide +kernel
theorem dX10_best_9 : decode cX10_best 9 = .ok (.aload_n 0, 1) := by decide +kernel
theorem dX10_best_10 : decode cX10_best 10 = .ok (.iload_n 1, 1) := by decide +kernel
theorem dX10_best_11 : decode cX10_best 11 = .ok (.iload_n 2, 1) := by decide +kernel
theorem dX10_best_12 : decode cX10_best 12 = .ok (.iload_n 3, 1) := by decide +kernel
theorem dX10_best_13 : decode cX10_best 13 = .ok (.iload 4, 2) := by decide +kernel
theorem dX10_best_15 : decode cX10_best 15 = .ok (.iload 5, 2) := by decide +kernel
theorem dX10_best_17 : decode cX10_best 17 = .ok (.invokevirtual 196, 3) := by decide +kernel
theorem dX10_best_20 : decode cX10_best 20 = .ok (.ifCond .eq 17, 3) := by decide +kernel
theorem dX10_best_23 : decode cX10_best 23 = .ok (.aload_n 0, 1) := by decide +kernel
theorem dX10_best_24 : decode cX10_best 24 = .ok (.iload_n 1, 1) := by decide +kernel
theorem dX10_best_25 : decode cX10_best 25 = .ok (.iload_n 2, 1) := by decide +kernel
theorem dX10_best_26 : decode cX10_best 26 = .ok (.iload_n 3, 1) := by decide +kernel
theorem dX10_best_27 : decode cX10_best 27 = .ok (.iload 4, 2) := by decide +kernel
theorem dX10_best_29 : decode cX10_best 29 = .ok (.iload 5, 2) := by decide +kernel
theorem dX10_best_31 : decode cX10_best 31 = .ok (.invokevirtual 193, 3) := by decide +kernel
theorem dX10_best_34 : decode cX10_best 34 = .ok (.goto 5, 3) := by decide +kernel
theorem dX10_best_37 : decode cX10_best 37 = .ok (.bipush (-2), 2) := by decide +kernel
theorem dX10_best_39 : decode cX10_best 39 = .ok (.ireturn, 1) := by decide +kernel
theorem dX10_does_0 : decode cX10_does 0 = .ok (.iload_n 1, 1) := by decide +kernel
theorem dX10_does_1 : decode cX10_does 1 = .ok (.invokestatic 74, 3) := by decide +kernel
theorem dX10_does_4 : decode cX10_does 4 = .ok (.ifCond .ne 5, 3) := by decide +kernel
theorem dX10_does_7 : decode cX10_does 7 = .ok (.iconst (-1), 1) := by decide +kernel
theorem dX10_does_8 : decode cX10_does 8 = .ok (.ireturn, 1) := by decide +kernel
theorem dX10_does_9 : decode cX10_does 9 = .ok (.aload_n 0, 1) := by decide +kernel
theorem dX10_does_10 : decode cX10_does 10 = .ok (.iload_n 1, 1) := by decide +kernel
theorem dX10_does_11 : decode cX10_does 11 = .ok (.iload_n 2, 1) := by decide +kernel
theorem dX10_does_12 : decode cX10_does 12 = .ok (.iload_n 3, 1) := by decide +kernel
theorem dX10_does_13 : decode cX10_does 13 = .ok (.iload 4, 2) := by decide +kernel
theorem dX10_does_15 : decode cX10_does 15 = .ok (.iload 5, 2) := by decide +kernel
theorem dX10_does_17 : decode cX10_does 17 = .ok (.invokevirtual 196, 3) := by decide +kernel
theorem dX10_does_20 : decode cX10_does 20 = .ok (.ifCond .ne 6, 3) := by decide +kernel
theorem dX10_does_23 : decode cX10_does 23 = .ok (.bipush (-2), 2) := by decide +kernel
theorem dX10_does_25 : decode cX10_does 25 = .ok (.ireturn, 1) := by decide +kernel
theorem dX10_does_26 : decode cX10_does 26 = .ok (.iload_n 2, 1) := by decide +kernel
theorem dX10_does_27 : decode cX10_does 27 = .ok (.aload_n 0, 1) := by decide +kernel
theorem dX10_does_28 : decode cX10_does 28 = .ok (.getfield 22, 3) := by decide +kernel
theorem dX10_does_31 : decode cX10_does 31 = .ok (.iload_n 1, 1) := by decide +kernel
theorem dX10_does_32 : decode cX10_does 32 = .ok (.iaload, 1) := by decide +kernel
theorem dX10_does_33 : decode cX10_does 33 = .ok (.if_icmp .ne 8, 3) := by decide +kernel
theorem dX10_does_36 : decode cX10_does 36 = .ok (.bipush (-6), 2) := by decide +kernel
theorem dX10_does_38 : decode cX10_does 38 = .ok (.goto 14, 3) := by decide +kernel
theorem dX10_does_41 : decode cX10_does 41 = .ok (.aload_n 0, 1) := by decide +kernel
theorem dX10_does_42 : decode cX10_does 42 = .ok (.iload_n 1, 1) := by decide +kernel
theorem dX10_does_43 : decode cX10_does 43 = .ok (.iload_n 2, 1) := by decide +kernel
theorem dX10_does_44 : decode cX10_does 44 = .ok (.iload_n 3, 1) := by decide +kernel
theorem dX10_does_45 : decode cX10_does 45 = .ok (.iload 4, 2) := by decide +kernel
theorem dX10_does_47 : decode cX10_does 47 = .ok (.iload 5, 2) := by decide +kernel
theorem dX10_does_49 : decode cX10_does 49 = .ok (.invokevirtual 200, 3) := by decide +kernel
theorem dX10_does_52 : decode cX10_does 52 = .ok (.ireturn, 1) := by decide +kernel
theorem dX10_logged_0 : decode cX10_logged 0 = .ok (.iload_n 1, 1) := by decide +kernel
theorem dX10_logged_1 : decode cX10_logged 1 = .ok (.invokestatic 74, 3) := by decide +kernel
theorem dX10_logged_4 : decode cX10_logged 4 = .ok (.ifCond .ne 5, 3) := by decide +kernel
theorem dX10_logged_7 : decode cX10_logged 7 = .ok (.iconst (-1), 1) := by decide +kernel
theorem dX10_logged_8 : decode cX10_logged 8 = .ok (.ireturn, 1) := by decide +kernel
theorem dX10_logged_9 : decode cX10_logged 9 = .ok (.iload_n 2, 1) := by decide +kernel
theorem dX10_logged_10 : decode cX10_logged 10 = .ok (.invokestatic 110, 3) := by decide +kernel
theorem dX10_logged_13 : decode cX10_logged 13 = .ok (.ifCond .eq 10, 3) := by decide +kernel
theorem dX10_logged_16 : decode cX10_logged 16 = .ok (.iload_n 3, 1) := by decide +kernel
theorem dX10_logged_17 : decode cX10_logged 17 = .ok (.invokestatic 161, 3) := by decide +kernel
theorem dX10_logged_20 : decode cX10_logged 20 = .ok (.ifCond .ne 6, 3) := by decide +kernel
theorem dX10_logged_23 : decode cX10_logged 23 = .ok (.bipush (-2), 2) := by decide +kernel
theorem dX10_logged_25 : decode cX10_logged 25 = .ok (.ireturn, 1) := by decide +kernel
theorem dX10_logged_26 : decode cX10_logged 26 = .ok (.iconst 0, 1) := by decide +kernel
theorem dX10_logged_27 : decode cX10_logged 27 = .ok (.istore 5, 2) := by decide +kernel
theorem dX10_logged_29 : decode cX10_logged 29 = .ok (.iload_n 2, 1) := by decide +kernel
theorem dX10_logged_30 : decode cX10_logged 30 = .ok (.istore 6, 2) := by decide +kernel
theorem dX10_logged_32 : decode cX10_logged 32 = .ok (.iload_n 3, 1) := by decide +kernel
theorem dX10_logged_33 : decode cX10_logged 33 = .ok (.istore 7, 2) := by decide +kernel
theorem dX10_logged_35 : decode cX10_logged 35 = .ok (.iconst 4, 1) := by decide +kernel
theorem dX10_logged_36 : decode cX10_logged 36 = .ok (.istore 8, 2) := by decide +kernel
theorem dX10_logged_38 : decode cX10_logged 38 = .ok (.iconst 0, 1) := by decide +kernel
theorem dX10_logged_39 : decode cX10_logged 39 = .ok (.istore 9, 2) := by decide +kernel
theorem dX10_logged_41 : decode cX10_logged 41 = .ok (.iload 5, 2) := by decide +kernel
theorem dX10_logged_43 : decode cX10_logged 43 = .ok (.aload_n 0, 1) := by decide +kernel
theorem dX10_logged_44 : decode cX10_logged 44 = .ok (.getfield 22, 3) := by decide +kernel
theorem dX10_logged_47 : decode cX10_logged 47 = .ok (.iload_n 1, 1) := by decide +kernel
theorem dX10_logged_48 : decode cX10_logged 48 = .ok (.iaload, 1) := by decide +kernel
theorem dX10_logged_49 : decode cX10_logged 49 = .ok (.if_icmp .ge 123, 3) := by decide +kernel
theorem dX10_logged_52 : decode cX10_logged 52 = .ok (.aload_n 0, 1) := by decide +kernel
theorem dX10_logged_53 : decode cX10_logged 53 = .ok (.iload_n 1, 1) := by decide +kernel
theorem dX10_logged_54 : decode cX10_logged 54 = .ok (.iload 5, 2) := by decide +kernel
theorem dX10_logged_56 : decode cX10_logged 56 = .ok (.iload 6, 2) := by decide +kernel
theorem dX10_logged_58 : decode cX10_logged 58 = .ok (.iload 7, 2) := by decide +kernel
theorem dX10_logged_60 : decode cX10_logged 60 = .ok (.iload 8, 2) := by decide +kernel
theorem dX10_logged_62 : decode cX10_logged 62 = .ok (.invokevirtual 200, 3) := by decide +kernel
theorem dX10_logged_65 : decode cX10_logged 65 = .ok (.istore 10, 2) := by decide +kernel
theorem dX10_logged_67 : decode cX10_logged 67 = .ok (.iload 9, 2) := by decide +kernel
theorem dX10_logged_69 : decode cX10_logged 69 = .ok (.iload 4, 2) := by decide +kernel
theorem dX10_logged_71 : decode cX10_logged 71 = .ok (.if_icmp .ne 6, 3) := by decide +kernel
theorem dX10_logged_74 : decode cX10_logged 74 = .ok (.iload 10, 2) := by decide +kernel
theorem dX10_logged_76 : decode cX10_logged 76 = .ok (.ireturn, 1) := by decide +kernel
theorem dX10_logged_77 : decode cX10_logged 77 = .ok (.iinc 9 1, 3) := by decide +kernel
theorem dX10_logged_80 : decode cX10_logged 80 = .ok (.iload 10, 2) := by decide +kernel
theorem dX10_logged_82 : decode cX10_logged 82 = .ok (.bipush 10, 2) := by decide +kernel
theorem dX10_logged_84 : decode cX10_logged 84 = .ok (.irem, 1) := by decide +kernel
theorem dX10_logged_85 : decode cX10_logged 85 = .ok (.istore 11, 2) := by decide +kernel
theorem dX10_logged_87 : decode cX10_logged 87 = .ok (.iload 7, 2) := by decide +kernel
theorem dX10_logged_89 : decode cX10_logged 89 = .ok (.iload 10, 2) := by decide +kernel
theorem dX10_logged_91 : decode cX10_logged 91 = .ok (.bipush 10, 2) := by decide +kernel
theorem dX10_logged_93 : decode cX10_logged 93 = .ok (.if_icmp .ge 7, 3) := by decide +kernel
theorem dX10_logged_96 : decode cX10_logged 96 = .ok (.iconst 0, 1) := by decide +kernel
theorem dX10_logged_97 : decode cX10_logged 97 = .ok (.goto 14, 3) := by decide +kernel
theorem dX10_logged_100 : decode cX10_logged 100 = .ok (.iload 11, 2) := by decide +kernel
theorem dX10_logged_102 : decode cX10_logged 102 = .ok (.iconst 3, 1) := by decide +kernel
theorem dX10_logged_103 : decode cX10_logged 103 = .ok (.if_icmp .ne 7, 3) := by decide +kernel
theorem dX10_logged_106 : decode cX10_logged 106 = .ok (.iconst 2, 1) := by decide +kernel
theorem dX10_logged_107 : decode cX10_logged 107 = .ok (.goto 4, 3) := by decide +kernel
theorem dX10_logged_110 : decode cX10_logged 110 = .ok (.iconst 1, 1) := by decide +kernel
theorem dX10_logged_111 : decode cX10_logged 111 = .ok (.isub, 1) := by decide +kernel
theorem dX10_logged_112 : decode cX10_logged 112 = .ok (.istore 7, 2) := by decide +kernel
theorem dX10_logged_114 : decode cX10_logged 114 = .ok (.aload_n 0, 1) := by decide +kernel
theorem dX10_logged_115 : decode cX10_logged 115 = .ok (.iload_n 1, 1) := by decide +kernel
theorem dX10_logged_116 : decode cX10_logged 116 = .ok (.iload 5, 2) := by decide +kernel
theorem dX10_logged_118 : decode cX10_logged 118 = .ok (.iload 6, 2) := by decide +kernel
theorem dX10_logged_120 : decode cX10_logged 120 = .ok (.iload 11, 2) := by decide +kernel
theorem dX10_logged_122 : decode cX10_logged 122 = .ok (.invokevirtual 119, 3) := by decide +kernel
theorem dX10_logged_125 : decode cX10_logged 125 = .ok (.istore 6, 2) := by decide +kernel
theorem dX10_logged_127 : decode cX10_logged 127 = .ok (.iload 8, 2) := by decide +kernel
theorem dX10_logged_129 : decode cX10_logged 129 = .ok (.iload 11, 2) := by decide +kernel
theorem dX10_logged_131 : decode cX10_logged 131 = .ok (.iconst 4, 1) := by decide +kernel
theorem dX10_logged_132 : decode cX10_logged 132 = .ok (.if_icmp .ne 7, 3) := by decide +kernel
theorem dX10_logged_135 : decode cX10_logged 135 = .ok (.iconst 1, 1) := by decide +kernel
theorem dX10_logged_136 : decode cX10_logged 136 = .ok (.goto 4, 3) := by decide +kernel
theorem dX10_logged_139 : decode cX10_logged 139 = .ok (.iconst 0, 1) := by decide +kernel
theorem dX10_logged_140 : decode cX10_logged 140 = .ok (.isub, 1) := by decide +kernel
theorem dX10_logged_141 : decode cX10_logged 141 = .ok (.istore 8, 2) := by decide +kernel
theorem dX10_logged_143 : decode cX10_logged 143 = .ok (.iload 5, 2) := by decide +kernel
theorem dX10_logged_145 : decode cX10_logged 145 = .ok (.iload 11, 2) := by decide +kernel
theorem dX10_logged_147 : decode cX10_logged 147 = .ok (.iconst 4, 1) := by decide +kernel
theorem dX10_logged_148 : decode cX10_logged 148 = .ok (.if_icmp .ne 7, 3) := by decide +kernel
theorem dX10_logged_151 : decode cX10_logged 151 = .ok (.iconst 0, 1) := by decide +kernel
theorem dX10_logged_152 : decode cX10_logged 152 = .ok (.goto 14, 3) := by decide +kernel
theorem dX10_logged_155 : decode cX10_logged 155 = .ok (.iload 11, 2) := by decide +kernel
theorem dX10_logged_157 : decode cX10_logged 157 = .ok (.iconst 3, 1) := by decide +kernel
theorem dX10_logged_158 : decode cX10_logged 158 = .ok (.if_icmp .ne 7, 3) := by decide +kernel
theorem dX10_logged_161 : decode cX10_logged 161 = .ok (.iconst 2, 1) := by decide +kernel
theorem dX10_logged_162 : decode cX10_logged 162 = .ok (.goto 4, 3) := by decide +kernel
theorem dX10_logged_165 : decode cX10_logged 165 = .ok (.iconst 1, 1) := by decide +kernel
theorem dX10_logged_166 : decode cX10_logged 166 = .ok (.iadd, 1) := by decide +kernel
theorem dX10_logged_167 : decode cX10_logged 167 = .ok (.istore 5, 2) := by decide +kernel
theorem dX10_logged_169 : decode cX10_logged 169 = .ok (.goto (-128), 3) := by decide +kernel
theorem dX10_logged_172 : decode cX10_logged 172 = .ok (.iload 4, 2) := by decide +kernel
theorem dX10_logged_174 : decode cX10_logged 174 = .ok (.iconst (-1), 1) := by decide +kernel
theorem dX10_logged_175 : decode cX10_logged 175 = .ok (.if_icmp .ne 8, 3) := by decide +kernel
theorem dX10_logged_178 : decode cX10_logged 178 = .ok (.iload 9, 2) := by decide +kernel
theorem dX10_logged_180 : decode cX10_logged 180 = .ok (.goto 5, 3) := by decide +kernel
theorem dX10_logged_183 : decode cX10_logged 183 = .ok (.bipush (-6), 2) := by decide +kernel
theorem dX10_logged_185 : decode cX10_logged 185 = .ok (.ireturn, 1) := by decide +kernel
theorem dX10_thumbDoes_0 : decode cX10_thumbDoes 0 = .ok (.iload_n 2, 1) := by decide +kernel
theorem dX10_thumbDoes_1 : decode cX10_thumbDoes 1 = .ok (.ifCond .ne 26, 3) := by decide +kernel
theorem dX10_thumbDoes_4 : decode cX10_thumbDoes 4 = .ok (.iload_n 3, 1) := by decide +kernel
theorem dX10_thumbDoes_5 : decode cX10_thumbDoes 5 = .ok (.iconst 2, 1) := by decide +kernel
theorem dX10_thumbDoes_6 : decode cX10_thumbDoes 6 = .ok (.irem, 1) := by decide +kernel
theorem dX10_thumbDoes_7 : decode cX10_thumbDoes 7 = .ok (.iconst 1, 1) := by decide +kernel
theorem dX10_thumbDoes_8 : decode cX10_thumbDoes 8 = .ok (.if_icmp .ne 17, 3) := by decide +kernel
theorem dX10_thumbDoes_11 : decode cX10_thumbDoes 11 = .ok (.aload_n 0, 1) := by decide +kernel
theorem dX10_thumbDoes_12 : decode cX10_thumbDoes 12 = .ok (.iload_n 1, 1) := by decide +kernel
theorem dX10_thumbDoes_13 : decode cX10_thumbDoes 13 = .ok (.iload_n 3, 1) := by decide +kernel
theorem dX10_thumbDoes_14 : decode cX10_thumbDoes 14 = .ok (.iconst 1, 1) := by decide +kernel
theorem dX10_thumbDoes_15 : decode cX10_thumbDoes 15 = .ok (.invokevirtual 115, 3) := by decide +kernel
theorem dX10_thumbDoes_18 : decode cX10_thumbDoes 18 = .ok (.ifCond .eq 7, 3) := by decide +kernel
theorem dX10_thumbDoes_21 : decode cX10_thumbDoes 21 = .ok (.iconst 1, 1) := by decide +kernel
theorem dX10_thumbDoes_22 : decode cX10_thumbDoes 22 = .ok (.goto 4, 3) := by decide +kernel
theorem dX10_thumbDoes_25 : decode cX10_thumbDoes 25 = .ok (.iconst 0, 1) := by decide +kernel
theorem dX10_thumbDoes_26 : decode cX10_thumbDoes 26 = .ok (.ireturn, 1) := by decide +kernel
theorem dX10_thumbDoes_27 : decode cX10_thumbDoes 27 = .ok (.iload_n 2, 1) := by decide +kernel
theorem dX10_thumbDoes_28 : decode cX10_thumbDoes 28 = .ok (.iconst 1, 1) := by decide +kernel
theorem dX10_thumbDoes_29 : decode cX10_thumbDoes 29 = .ok (.if_icmp .ne 18, 3) := by decide +kernel
theorem dX10_thumbDoes_32 : decode cX10_thumbDoes 32 = .ok (.iload 4, 2) := by decide +kernel
theorem dX10_thumbDoes_34 : decode cX10_thumbDoes 34 = .ok (.bipush 8, 2) := by decide +kernel
theorem dX10_thumbDoes_36 : decode cX10_thumbDoes 36 = .ok (.if_icmp .lt 7, 3) := by decide +kernel
theorem dX10_thumbDoes_39 : decode cX10_thumbDoes 39 = .ok (.iconst 1, 1) := by decide +kernel
theorem dX10_thumbDoes_40 : decode cX10_thumbDoes 40 = .ok (.goto 60, 3) := by decide +kernel
theorem dX10_thumbDoes_43 : decode cX10_thumbDoes 43 = .ok (.iconst 0, 1) := by decide +kernel
theorem dX10_thumbDoes_44 : decode cX10_thumbDoes 44 = .ok (.goto 56, 3) := by decide +kernel
theorem dX10_thumbDoes_47 : decode cX10_thumbDoes 47 = .ok (.iload_n 2, 1) := by decide +kernel
theorem dX10_thumbDoes_48 : decode cX10_thumbDoes 48 = .ok (.iconst 2, 1) := by decide +kernel
theorem dX10_thumbDoes_49 : decode cX10_thumbDoes 49 = .ok (.if_icmp .ne 33, 3) := by decide +kernel
theorem dX10_thumbDoes_52 : decode cX10_thumbDoes 52 = .ok (.iload 4, 2) := by decide +kernel
theorem dX10_thumbDoes_54 : decode cX10_thumbDoes 54 = .ok (.iconst 4, 1) := by decide +kernel
theorem dX10_thumbDoes_55 : decode cX10_thumbDoes 55 = .ok (.if_icmp .lt 23, 3) := by decide +kernel
theorem dX10_thumbDoes_58 : decode cX10_thumbDoes 58 = .ok (.aload_n 0, 1) := by decide +kernel
theorem dX10_thumbDoes_59 : decode cX10_thumbDoes 59 = .ok (.getfield 25, 3) := by decide +kernel
theorem dX10_thumbDoes_62 : decode cX10_thumbDoes 62 = .ok (.bipush 48, 2) := by decide +kernel
theorem dX10_thumbDoes_64 : decode cX10_thumbDoes 64 = .ok (.iload_n 1, 1) := by decide +kernel
theorem dX10_thumbDoes_65 : decode cX10_thumbDoes 65 = .ok (.imul, 1) := by decide +kernel
theorem dX10_thumbDoes_66 : decode cX10_thumbDoes 66 = .ok (.iload_n 3, 1) := by decide +kernel
theorem dX10_thumbDoes_67 : decode cX10_thumbDoes 67 = .ok (.iadd, 1) := by decide +kernel
theorem dX10_thumbDoes_68 : decode cX10_thumbDoes 68 = .ok (.iaload, 1) := by decide +kernel
theorem dX10_thumbDoes_69 : decode cX10_thumbDoes 69 = .ok (.bipush 50, 2) := by decide +kernel
theorem dX10_thumbDoes_71 : decode cX10_thumbDoes 71 = .ok (.if_icmp .ge 7, 3) := by decide +kernel
theorem dX10_thumbDoes_74 : decode cX10_thumbDoes 74 = .ok (.iconst 1, 1) := by decide +kernel
theorem dX10_thumbDoes_75 : decode cX10_thumbDoes 75 = .ok (.goto 25, 3) := by decide +kernel
theorem dX10_thumbDoes_78 : decode cX10_thumbDoes 78 = .ok (.iconst 0, 1) := by decide +kernel
theorem dX10_thumbDoes_79 : decode cX10_thumbDoes 79 = .ok (.goto 21, 3) := by decide +kernel
theorem dX10_thumbDoes_82 : decode cX10_thumbDoes 82 = .ok (.iload 4, 2) := by decide +kernel
theorem dX10_thumbDoes_84 : decode cX10_thumbDoes 84 = .ok (.iconst 1, 1) := by decide +kernel
theorem dX10_thumbDoes_85 : decode cX10_thumbDoes 85 = .ok (.if_icmp .lt 14, 3) := by decide +kernel
theorem dX10_thumbDoes_88 : decode cX10_thumbDoes 88 = .ok (.iload_n 3, 1) := by decide +kernel
theorem dX10_thumbDoes_89 : decode cX10_thumbDoes 89 = .ok (.invokestatic 97, 3) := by decide +kernel
theorem dX10_thumbDoes_92 : decode cX10_thumbDoes 92 = .ok (.ifCond .eq 7, 3) := by decide +kernel
theorem dX10_thumbDoes_95 : decode cX10_thumbDoes 95 = .ok (.iconst 1, 1) := by decide +kernel
theorem dX10_thumbDoes_96 : decode cX10_thumbDoes 96 = .ok (.goto 4, 3) := by decide +kernel
theorem dX10_thumbDoes_99 : decode cX10_thumbDoes 99 = .ok (.iconst 0, 1) := by decide +kernel
theorem dX10_thumbDoes_100 : decode cX10_thumbDoes 100 = .ok (.istore 5, 2) := by decide +kernel
theorem dX10_thumbDoes_102 : decode cX10_thumbDoes 102 = .ok (.iload 5, 2) := by decide +kernel
theorem dX10_thumbDoes_104 : decode cX10_thumbDoes 104 = .ok (.ifCond .ne 7, 3) := by decide +kernel
theorem dX10_thumbDoes_107 : decode cX10_thumbDoes 107 = .ok (.iconst 0, 1) := by decide +kernel
theorem dX10_thumbDoes_108 : decode cX10_thumbDoes 108 = .ok (.goto 32, 3) := by decide +kernel
theorem dX10_thumbDoes_111 : decode cX10_thumbDoes 111 = .ok (.aload_n 0, 1) := by decide +kernel
theorem dX10_thumbDoes_112 : decode cX10_thumbDoes 112 = .ok (.iload_n 1, 1) := by decide +kernel
theorem dX10_thumbDoes_113 : decode cX10_thumbDoes 113 = .ok (.iload_n 3, 1) := by decide +kernel
theorem dX10_thumbDoes_114 : decode cX10_thumbDoes 114 = .ok (.iconst 3, 1) := by decide +kernel
theorem dX10_thumbDoes_115 : decode cX10_thumbDoes 115 = .ok (.invokevirtual 115, 3) := by decide +kernel
theorem dX10_thumbDoes_118 : decode cX10_thumbDoes 118 = .ok (.ifCond .eq 7, 3) := by decide +kernel
theorem dX10_thumbDoes_121 : decode cX10_thumbDoes 121 = .ok (.iconst 3, 1) := by decide +kernel
theorem dX10_thumbDoes_122 : decode cX10_thumbDoes 122 = .ok (.goto 18, 3) := by decide +kernel
theorem dX10_thumbDoes_125 : decode cX10_thumbDoes 125 = .ok (.aload_n 0, 1) := by decide +kernel
theorem dX10_thumbDoes_126 : decode cX10_thumbDoes 126 = .ok (.iload_n 1, 1) := by decide +kernel
theorem dX10_thumbDoes_127 : decode cX10_thumbDoes 127 = .ok (.iload_n 3, 1) := by decide +kernel
theorem dX10_thumbDoes_128 : decode cX10_thumbDoes 128 = .ok (.iconst 2, 1) := by decide +kernel
theorem dX10_thumbDoes_129 : decode cX10_thumbDoes 129 = .ok (.invokevirtual 115, 3) := by decide +kernel
theorem dX10_thumbDoes_132 : decode cX10_thumbDoes 132 = .ok (.ifCond .eq 7, 3) := by decide +kernel
theorem dX10_thumbDoes_135 : decode cX10_thumbDoes 135 = .ok (.iconst 2, 1) := by decide +kernel
theorem dX10_thumbDoes_136 : decode cX10_thumbDoes 136 = .ok (.goto 4, 3) := by decide +kernel
theorem dX10_thumbDoes_139 : decode cX10_thumbDoes 139 = .ok (.iconst 0, 1) := by decide +kernel
theorem dX10_thumbDoes_140 : decode cX10_thumbDoes 140 = .ok (.ireturn, 1) := by decide +kernel
theorem dX10_thumbAll_0 : decode cX10_thumbAll 0 = .ok (.aload_n 0, 1) := by decide +kernel
theorem dX10_thumbAll_1 : decode cX10_thumbAll 1 = .ok (.iconst 0, 1) := by decide +kernel
theorem dX10_thumbAll_2 : decode cX10_thumbAll 2 = .ok (.putfield 135, 3) := by decide +kernel
theorem dX10_thumbAll_5 : decode cX10_thumbAll 5 = .ok (.aload_n 0, 1) := by decide +kernel
theorem dX10_thumbAll_6 : decode cX10_thumbAll 6 = .ok (.iload_n 3, 1) := by decide +kernel
theorem dX10_thumbAll_7 : decode cX10_thumbAll 7 = .ok (.putfield 144, 3) := by decide +kernel
theorem dX10_thumbAll_10 : decode cX10_thumbAll 10 = .ok (.aload_n 0, 1) := by decide +kernel
theorem dX10_thumbAll_11 : decode cX10_thumbAll 11 = .ok (.iconst 0, 1) := by decide +kernel
theorem dX10_thumbAll_12 : decode cX10_thumbAll 12 = .ok (.putfield 138, 3) := by decide +kernel
theorem dX10_thumbAll_15 : decode cX10_thumbAll 15 = .ok (.aload_n 0, 1) := by decide +kernel
theorem dX10_thumbAll_16 : decode cX10_thumbAll 16 = .ok (.iconst 0, 1) := by decide +kernel
theorem dX10_thumbAll_17 : decode cX10_thumbAll 17 = .ok (.putfield 141, 3) := by decide +kernel
theorem dX10_thumbAll_20 : decode cX10_thumbAll 20 = .ok (.aload_n 0, 1) := by decide +kernel
theorem dX10_thumbAll_21 : decode cX10_thumbAll 21 = .ok (.getfield 138, 3) := by decide +kernel
theorem dX10_thumbAll_24 : decode cX10_thumbAll 24 = .ok (.aload_n 0, 1) := by decide +kernel
theorem dX10_thumbAll_25 : decode cX10_thumbAll 25 = .ok (.getfield 22, 3) := by decide +kernel
theorem dX10_thumbAll_28 : decode cX10_thumbAll 28 = .ok (.iload_n 1, 1) := by decide +kernel
theorem dX10_thumbAll_29 : decode cX10_thumbAll 29 = .ok (.iaload, 1) := by decide +kernel
theorem dX10_thumbAll_30 : decode cX10_thumbAll 30 = .ok (.if_icmp .ge 27, 3) := by decide +kernel
theorem dX10_thumbAll_33 : decode cX10_thumbAll 33 = .ok (.aload_n 0, 1) := by decide +kernel
theorem dX10_thumbAll_34 : decode cX10_thumbAll 34 = .ok (.iload_n 1, 1) := by decide +kernel
theorem dX10_thumbAll_35 : decode cX10_thumbAll 35 = .ok (.aload_n 0, 1) := by decide +kernel
theorem dX10_thumbAll_36 : decode cX10_thumbAll 36 = .ok (.iload_n 1, 1) := by decide +kernel
theorem dX10_thumbAll_37 : decode cX10_thumbAll 37 = .ok (.iload_n 2, 1) := by decide +kernel
theorem dX10_thumbAll_38 : decode cX10_thumbAll 38 = .ok (.aload_n 0, 1) := by decide +kernel
theorem dX10_thumbAll_39 : decode cX10_thumbAll 39 = .ok (.getfield 138, 3) := by decide +kernel
theorem dX10_thumbAll_42 : decode cX10_thumbAll 42 = .ok (.aload_n 0, 1) := by decide +kernel
theorem dX10_thumbAll_43 : decode cX10_thumbAll 43 = .ok (.getfield 144, 3) := by decide +kernel
theorem dX10_thumbAll_46 : decode cX10_thumbAll 46 = .ok (.invokevirtual 203, 3) := by decide +kernel
theorem dX10_thumbAll_49 : decode cX10_thumbAll 49 = .ok (.iconst 0, 1) := by decide +kernel
theorem dX10_thumbAll_50 : decode cX10_thumbAll 50 = .ok (.invokevirtual 154, 3) := by decide +kernel
theorem dX10_thumbAll_53 : decode cX10_thumbAll 53 = .ok (.pop, 1) := by decide +kernel
theorem dX10_thumbAll_54 : decode cX10_thumbAll 54 = .ok (.goto (-34), 3) := by decide +kernel
theorem dX10_thumbAll_57 : decode cX10_thumbAll 57 = .ok (.return_, 1) := by decide +kernel
theorem dX10_thumb_0 : decode cX10_thumb 0 = .ok (.iload_n 1, 1) := by decide +kernel
theorem dX10_thumb_1 : decode cX10_thumb 1 = .ok (.invokestatic 74, 3) := by decide +kernel
theorem dX10_thumb_4 : decode cX10_thumb 4 = .ok (.ifCond .ne 5, 3) := by decide +kernel
theorem dX10_thumb_7 : decode cX10_thumb 7 = .ok (.iconst (-1), 1) := by decide +kernel
theorem dX10_thumb_8 : decode cX10_thumb 8 = .ok (.ireturn, 1) := by decide +kernel
theorem dX10_thumb_9 : decode cX10_thumb 9 = .ok (.iload_n 2, 1) := by decide +kernel
theorem dX10_thumb_10 : decode cX10_thumb 10 = .ok (.i2l, 1) := by decide +kernel
theorem dX10_thumb_11 : decode cX10_thumb 11 = .ok (.lconst 0, 1) := by decide +kernel
theorem dX10_thumb_12 : decode cX10_thumb 12 = .ok (.ldc2_w 87, 3) := by decide +kernel
theorem dX10_thumb_15 : decode cX10_thumb 15 = .ok (.invokestatic 66, 3) := by decide +kernel
theorem dX10_thumb_18 : decode cX10_thumb 18 = .ok (.ifCond .eq 23, 3) := by decide +kernel
theorem dX10_thumb_21 : decode cX10_thumb 21 = .ok (.iload_n 3, 1) := by decide +kernel
theorem dX10_thumb_22 : decode cX10_thumb 22 = .ok (.invokestatic 110, 3) := by decide +kernel
theorem dX10_thumb_25 : decode cX10_thumb 25 = .ok (.ifCond .eq 16, 3) := by decide +kernel
theorem dX10_thumb_28 : decode cX10_thumb 28 = .ok (.iload 4, 2) := by decide +kernel
theorem dX10_thumb_30 : decode cX10_thumb 30 = .ok (.i2l, 1) := by decide +kernel
theorem dX10_thumb_31 : decode cX10_thumb 31 = .ok (.lconst 0, 1) := by decide +kernel
theorem dX10_thumb_32 : decode cX10_thumb 32 = .ok (.ldc2_w 206, 3) := by decide +kernel
theorem dX10_thumb_35 : decode cX10_thumb 35 = .ok (.invokestatic 66, 3) := by decide +kernel
theorem dX10_thumb_38 : decode cX10_thumb 38 = .ok (.ifCond .ne 6, 3) := by decide +kernel
theorem dX10_thumb_41 : decode cX10_thumb 41 = .ok (.bipush (-2), 2) := by decide +kernel
theorem dX10_thumb_43 : decode cX10_thumb 43 = .ok (.ireturn, 1) := by decide +kernel
theorem dX10_thumb_44 : decode cX10_thumb 44 = .ok (.aload_n 0, 1) := by decide +kernel
theorem dX10_thumb_45 : decode cX10_thumb 45 = .ok (.iload_n 1, 1) := by decide +kernel
theorem dX10_thumb_46 : decode cX10_thumb 46 = .ok (.iload_n 2, 1) := by decide +kernel
theorem dX10_thumb_47 : decode cX10_thumb 47 = .ok (.iload_n 3, 1) := by decide +kernel
theorem dX10_thumb_48 : decode cX10_thumb 48 = .ok (.invokevirtual 208, 3) := by decide +kernel
theorem dX10_thumb_51 : decode cX10_thumb 51 = .ok (.aload_n 0, 1) := by decide +kernel
theorem dX10_thumb_52 : decode cX10_thumb 52 = .ok (.invokevirtual 173, 3) := by decide +kernel
theorem dX10_thumb_55 : decode cX10_thumb 55 = .ok (.istore 5, 2) := by decide +kernel
theorem dX10_thumb_57 : decode cX10_thumb 57 = .ok (.iload 4, 2) := by decide +kernel
theorem dX10_thumb_59 : decode cX10_thumb 59 = .ok (.ifCond .ne 8, 3) := by decide +kernel
theorem dX10_thumb_62 : decode cX10_thumb 62 = .ok (.iload 5, 2) := by decide +kernel
theorem dX10_thumb_64 : decode cX10_thumb 64 = .ok (.goto 28, 3) := by decide +kernel
theorem dX10_thumb_67 : decode cX10_thumb 67 = .ok (.iload 4, 2) := by decide +kernel
theorem dX10_thumb_69 : decode cX10_thumb 69 = .ok (.iconst 1, 1) := by decide +kernel
theorem dX10_thumb_70 : decode cX10_thumb 70 = .ok (.if_icmp .ne 18, 3) := by decide +kernel
theorem dX10_thumb_73 : decode cX10_thumb 73 = .ok (.aload_n 0, 1) := by decide +kernel
theorem dX10_thumb_74 : decode cX10_thumb 74 = .ok (.iload_n 1, 1) := by decide +kernel
theorem dX10_thumb_75 : decode cX10_thumb 75 = .ok (.iconst 0, 1) := by decide +kernel
theorem dX10_thumb_76 : decode cX10_thumb 76 = .ok (.iload_n 3, 1) := by decide +kernel
theorem dX10_thumb_77 : decode cX10_thumb 77 = .ok (.iconst 0, 1) := by decide +kernel
theorem dX10_thumb_78 : decode cX10_thumb 78 = .ok (.iconst 4, 1) := by decide +kernel
theorem dX10_thumb_79 : decode cX10_thumb 79 = .ok (.invokevirtual 193, 3) := by decide +kernel
theorem dX10_thumb_82 : decode cX10_thumb 82 = .ok (.iload 5, 2) := by decide +kernel
theorem dX10_thumb_84 : decode cX10_thumb 84 = .ok (.isub, 1) := by decide +kernel
theorem dX10_thumb_85 : decode cX10_thumb 85 = .ok (.goto 7, 3) := by decide +kernel
theorem dX10_thumb_88 : decode cX10_thumb 88 = .ok (.aload_n 0, 1) := by decide +kernel
theorem dX10_thumb_89 : decode cX10_thumb 89 = .ok (.getfield 144, 3) := by decide +kernel
theorem dX10_thumb_92 : decode cX10_thumb 92 = .ok (.ireturn, 1) := by decide +kernel
theorem dX10_worth_0 : decode cX10_worth 0 = .ok (.iload_n 1, 1) := by decide +kernel
theorem dX10_worth_1 : decode cX10_worth 1 = .ok (.invokestatic 74, 3) := by decide +kernel
theorem dX10_worth_4 : decode cX10_worth 4 = .ok (.ifCond .ne 5, 3) := by decide +kernel
theorem dX10_worth_7 : decode cX10_worth 7 = .ok (.iconst (-1), 1) := by decide +kernel
theorem dX10_worth_8 : decode cX10_worth 8 = .ok (.ireturn, 1) := by decide +kernel
theorem dX10_worth_9 : decode cX10_worth 9 = .ok (.iload_n 2, 1) := by decide +kernel
theorem dX10_worth_10 : decode cX10_worth 10 = .ok (.invokestatic 110, 3) := by decide +kernel
theorem dX10_worth_13 : decode cX10_worth 13 = .ok (.ifCond .eq 27, 3) := by decide +kernel
theorem dX10_worth_16 : decode cX10_worth 16 = .ok (.iload_n 3, 1) := by decide +kernel
theorem dX10_worth_17 : decode cX10_worth 17 = .ok (.invokestatic 161, 3) := by decide +kernel
theorem dX10_worth_20 : decode cX10_worth 20 = .ok (.ifCond .eq 20, 3) := by decide +kernel
theorem dX10_worth_23 : decode cX10_worth 23 = .ok (.iload 4, 2) := by decide +kernel
theorem dX10_worth_25 : decode cX10_worth 25 = .ok (.invokestatic 161, 3) := by decide +kernel
theorem dX10_worth_28 : decode cX10_worth 28 = .ok (.ifCond .eq 12, 3) := by decide +kernel
theorem dX10_worth_31 : decode cX10_worth 31 = .ok (.iload_n 3, 1) := by decide +kernel
theorem dX10_worth_32 : decode cX10_worth 32 = .ok (.iload 4, 2) := by decide +kernel
theorem dX10_worth_34 : decode cX10_worth 34 = .ok (.iadd, 1) := by decide +kernel
theorem dX10_worth_35 : decode cX10_worth 35 = .ok (.bipush 24, 2) := by decide +kernel
theorem dX10_worth_37 : decode cX10_worth 37 = .ok (.if_icmp .le 6, 3) := by decide +kernel
theorem dX10_worth_40 : decode cX10_worth 40 = .ok (.bipush (-2), 2) := by decide +kernel
theorem dX10_worth_42 : decode cX10_worth 42 = .ok (.ireturn, 1) := by decide +kernel
theorem dX10_worth_43 : decode cX10_worth 43 = .ok (.aload_n 0, 1) := by decide +kernel
theorem dX10_worth_44 : decode cX10_worth 44 = .ok (.iload_n 1, 1) := by decide +kernel
theorem dX10_worth_45 : decode cX10_worth 45 = .ok (.iconst 0, 1) := by decide +kernel
theorem dX10_worth_46 : decode cX10_worth 46 = .ok (.iload_n 2, 1) := by decide +kernel
theorem dX10_worth_47 : decode cX10_worth 47 = .ok (.iload_n 3, 1) := by decide +kernel
theorem dX10_worth_48 : decode cX10_worth 48 = .ok (.iload 4, 2) := by decide +kernel
theorem dX10_worth_50 : decode cX10_worth 50 = .ok (.iadd, 1) := by decide +kernel
theorem dX10_worth_51 : decode cX10_worth 51 = .ok (.iconst 4, 1) := by decide +kernel
theorem dX10_worth_52 : decode cX10_worth 52 = .ok (.invokevirtual 193, 3) := by decide +kernel
theorem dX10_worth_55 : decode cX10_worth 55 = .ok (.aload_n 0, 1) := by decide +kernel
theorem dX10_worth_56 : decode cX10_worth 56 = .ok (.iload_n 1, 1) := by decide +kernel
theorem dX10_worth_57 : decode cX10_worth 57 = .ok (.iconst 0, 1) := by decide +kernel
theorem dX10_worth_58 : decode cX10_worth 58 = .ok (.iload_n 2, 1) := by decide +kernel
theorem dX10_worth_59 : decode cX10_worth 59 = .ok (.iload_n 3, 1) := by decide +kernel
theorem dX10_worth_60 : decode cX10_worth 60 = .ok (.iconst 4, 1) := by decide +kernel
theorem dX10_worth_61 : decode cX10_worth 61 = .ok (.invokevirtual 193, 3) := by decide +kernel
theorem dX10_worth_64 : decode cX10_worth 64 = .ok (.isub, 1) := by decide +kernel
theorem dX10_worth_65 : decode cX10_worth 65 = .ok (.ireturn, 1) := by decide +kernel
theorem dX10_round_0 : decode cX10_round 0 = .ok (.iload_n 1, 1) := by decide +kernel
theorem dX10_round_1 : decode cX10_round 1 = .ok (.invokestatic 110, 3) := by decide +kernel
theorem dX10_round_4 : decode cX10_round 4 = .ok (.ifCond .eq 10, 3) := by decide +kernel
theorem dX10_round_7 : decode cX10_round 7 = .ok (.iload_n 2, 1) := by decide +kernel
theorem dX10_round_8 : decode cX10_round 8 = .ok (.invokestatic 161, 3) := by decide +kernel
theorem dX10_round_11 : decode cX10_round 11 = .ok (.ifCond .ne 6, 3) := by decide +kernel
theorem dX10_round_14 : decode cX10_round 14 = .ok (.bipush (-2), 2) := by decide +kernel
theorem dX10_round_16 : decode cX10_round 16 = .ok (.ireturn, 1) := by decide +kernel
theorem dX10_round_17 : decode cX10_round 17 = .ok (.aload_n 0, 1) := by decide +kernel
theorem dX10_round_18 : decode cX10_round 18 = .ok (.iconst 1, 1) := by decide +kernel
theorem dX10_round_19 : decode cX10_round 19 = .ok (.iconst 0, 1) := by decide +kernel
theorem dX10_round_20 : decode cX10_round 20 = .ok (.iload_n 1, 1) := by decide +kernel
theorem dX10_round_21 : decode cX10_round 21 = .ok (.iload_n 2, 1) := by decide +kernel
theorem dX10_round_22 : decode cX10_round 22 = .ok (.iconst 4, 1) := by decide +kernel
theorem dX10_round_23 : decode cX10_round 23 = .ok (.invokevirtual 193, 3) := by decide +kernel
theorem dX10_round_26 : decode cX10_round 26 = .ok (.aload_n 0, 1) := by decide +kernel
theorem dX10_round_27 : decode cX10_round 27 = .ok (.iconst 0, 1) := by decide +kernel
theorem dX10_round_28 : decode cX10_round 28 = .ok (.iconst 0, 1) := by decide +kernel
theorem dX10_round_29 : decode cX10_round 29 = .ok (.iload_n 1, 1) := by decide +kernel
theorem dX10_round_30 : decode cX10_round 30 = .ok (.iload_n 2, 1) := by decide +kernel
theorem dX10_round_31 : decode cX10_round 31 = .ok (.iconst 4, 1) := by decide +kernel
theorem dX10_round_32 : decode cX10_round 32 = .ok (.invokevirtual 193, 3) := by decide +kernel
theorem dX10_round_35 : decode cX10_round 35 = .ok (.if_icmp .le 7, 3) := by decide +kernel
theorem dX10_round_38 : decode cX10_round 38 = .ok (.iconst 1, 1) := by decide +kernel
theorem dX10_round_39 : decode cX10_round 39 = .ok (.goto 4, 3) := by decide +kernel
theorem dX10_round_42 : decode cX10_round 42 = .ok (.iconst 0, 1) := by decide +kernel
theorem dX10_round_43 : decode cX10_round 43 = .ok (.ireturn, 1) := by decide +kernel
theorem dX10_soonest_0 : decode cX10_soonest 0 = .ok (.iload_n 1, 1) := by decide +kernel
theorem dX10_soonest_1 : decode cX10_soonest 1 = .ok (.invokestatic 74, 3) := by decide +kernel
theorem dX10_soonest_4 : decode cX10_soonest 4 = .ok (.ifCond .ne 5, 3) := by decide +kernel
theorem dX10_soonest_7 : decode cX10_soonest 7 = .ok (.iconst (-1), 1) := by decide +kernel
theorem dX10_soonest_8 : decode cX10_soonest 8 = .ok (.ireturn, 1) := by decide +kernel
theorem dX10_soonest_9 : decode cX10_soonest 9 = .ok (.iload_n 2, 1) := by decide +kernel
theorem dX10_soonest_10 : decode cX10_soonest 10 = .ok (.invokestatic 110, 3) := by decide +kernel
theorem dX10_soonest_13 : decode cX10_soonest 13 = .ok (.ifCond .eq 23, 3) := by decide +kernel
theorem dX10_soonest_16 : decode cX10_soonest 16 = .ok (.iload_n 3, 1) := by decide +kernel
theorem dX10_soonest_17 : decode cX10_soonest 17 = .ok (.invokestatic 161, 3) := by decide +kernel
theorem dX10_soonest_20 : decode cX10_soonest 20 = .ok (.ifCond .eq 16, 3) := by decide +kernel
theorem dX10_soonest_23 : decode cX10_soonest 23 = .ok (.iload 4, 2) := by decide +kernel
theorem dX10_soonest_25 : decode cX10_soonest 25 = .ok (.i2l, 1) := by decide +kernel
theorem dX10_soonest_26 : decode cX10_soonest 26 = .ok (.lconst 0, 1) := by decide +kernel
theorem dX10_soonest_27 : decode cX10_soonest 27 = .ok (.ldc2_w 105, 3) := by decide +kernel
theorem dX10_soonest_30 : decode cX10_soonest 30 = .ok (.invokestatic 66, 3) := by decide +kernel
theorem dX10_soonest_33 : decode cX10_soonest 33 = .ok (.ifCond .ne 6, 3) := by decide +kernel
theorem dX10_soonest_36 : decode cX10_soonest 36 = .ok (.bipush (-2), 2) := by decide +kernel
theorem dX10_soonest_38 : decode cX10_soonest 38 = .ok (.ireturn, 1) := by decide +kernel
theorem dX10_soonest_39 : decode cX10_soonest 39 = .ok (.iconst 0, 1) := by decide +kernel
theorem dX10_soonest_40 : decode cX10_soonest 40 = .ok (.istore 5, 2) := by decide +kernel
theorem dX10_soonest_42 : decode cX10_soonest 42 = .ok (.iload 5, 2) := by decide +kernel
theorem dX10_soonest_44 : decode cX10_soonest 44 = .ok (.iconst 4, 1) := by decide +kernel
theorem dX10_soonest_45 : decode cX10_soonest 45 = .ok (.if_icmp .gt 34, 3) := by decide +kernel
theorem dX10_soonest_48 : decode cX10_soonest 48 = .ok (.aload_n 0, 1) := by decide +kernel
theorem dX10_soonest_49 : decode cX10_soonest 49 = .ok (.iload_n 1, 1) := by decide +kernel
theorem dX10_soonest_50 : decode cX10_soonest 50 = .ok (.iconst 0, 1) := by decide +kernel
theorem dX10_soonest_51 : decode cX10_soonest 51 = .ok (.iload_n 2, 1) := by decide +kernel
theorem dX10_soonest_52 : decode cX10_soonest 52 = .ok (.iload_n 3, 1) := by decide +kernel
theorem dX10_soonest_53 : decode cX10_soonest 53 = .ok (.iload 5, 2) := by decide +kernel
theorem dX10_soonest_55 : decode cX10_soonest 55 = .ok (.invokevirtual 193, 3) := by decide +kernel
theorem dX10_soonest_58 : decode cX10_soonest 58 = .ok (.iload 4, 2) := by decide +kernel
theorem dX10_soonest_60 : decode cX10_soonest 60 = .ok (.if_icmp .lt 13, 3) := by decide +kernel
theorem dX10_soonest_63 : decode cX10_soonest 63 = .ok (.aload_n 0, 1) := by decide +kernel
theorem dX10_soonest_64 : decode cX10_soonest 64 = .ok (.getfield 22, 3) := by decide +kernel
theorem dX10_soonest_67 : decode cX10_soonest 67 = .ok (.iload_n 1, 1) := by decide +kernel
theorem dX10_soonest_68 : decode cX10_soonest 68 = .ok (.iaload, 1) := by decide +kernel
theorem dX10_soonest_69 : decode cX10_soonest 69 = .ok (.iload 5, 2) := by decide +kernel
theorem dX10_soonest_71 : decode cX10_soonest 71 = .ok (.iadd, 1) := by decide +kernel
theorem dX10_soonest_72 : decode cX10_soonest 72 = .ok (.ireturn, 1) := by decide +kernel
theorem dX10_soonest_73 : decode cX10_soonest 73 = .ok (.iinc 5 1, 3) := by decide +kernel
theorem dX10_soonest_76 : decode cX10_soonest 76 = .ok (.goto (-34), 3) := by decide +kernel
theorem dX10_soonest_79 : decode cX10_soonest 79 = .ok (.bipush (-6), 2) := by decide +kernel
theorem dX10_soonest_81 : decode cX10_soonest 81 = .ok (.ireturn, 1) := by decide +kernel
theorem dX10_twoOf_0 : decode cX10_twoOf 0 = .ok (.aload_n 0, 1) := by decide +kernel
theorem dX10_twoOf_1 : decode cX10_twoOf 1 = .ok (.getfield 57, 3) := by decide +kernel
theorem dX10_twoOf_4 : decode cX10_twoOf 4 = .ok (.iconst 0, 1) := by decide +kernel
theorem dX10_twoOf_5 : decode cX10_twoOf 5 = .ok (.iload_n 2, 1) := by decide +kernel
theorem dX10_twoOf_6 : decode cX10_twoOf 6 = .ok (.iastore, 1) := by decide +kernel
theorem dX10_twoOf_7 : decode cX10_twoOf 7 = .ok (.aload_n 0, 1) := by decide +kernel
theorem dX10_twoOf_8 : decode cX10_twoOf 8 = .ok (.getfield 57, 3) := by decide +kernel
theorem dX10_twoOf_11 : decode cX10_twoOf 11 = .ok (.iconst 1, 1) := by decide +kernel
theorem dX10_twoOf_12 : decode cX10_twoOf 12 = .ok (.iload_n 2, 1) := by decide +kernel
theorem dX10_twoOf_13 : decode cX10_twoOf 13 = .ok (.iastore, 1) := by decide +kernel
theorem dX10_twoOf_14 : decode cX10_twoOf 14 = .ok (.aload_n 0, 1) := by decide +kernel
theorem dX10_twoOf_15 : decode cX10_twoOf 15 = .ok (.iconst 0, 1) := by decide +kernel
theorem dX10_twoOf_16 : decode cX10_twoOf 16 = .ok (.putfield 135, 3) := by decide +kernel
theorem dX10_twoOf_19 : decode cX10_twoOf 19 = .ok (.iconst 0, 1) := by decide +kernel
theorem dX10_twoOf_20 : decode cX10_twoOf 20 = .ok (.istore 4, 2) := by decide +kernel
theorem dX10_twoOf_22 : decode cX10_twoOf 22 = .ok (.iload 4, 2) := by decide +kernel
theorem dX10_twoOf_24 : decode cX10_twoOf 24 = .ok (.aload_n 0, 1) := by decide +kernel
theorem dX10_twoOf_25 : decode cX10_twoOf 25 = .ok (.getfield 22, 3) := by decide +kernel
theorem dX10_twoOf_28 : decode cX10_twoOf 28 = .ok (.iload_n 1, 1) := by decide +kernel
theorem dX10_twoOf_29 : decode cX10_twoOf 29 = .ok (.iaload, 1) := by decide +kernel
theorem dX10_twoOf_30 : decode cX10_twoOf 30 = .ok (.if_icmp .ge 160, 3) := by decide +kernel
theorem dX10_twoOf_33 : decode cX10_twoOf 33 = .ok (.iload 4, 2) := by decide +kernel
theorem dX10_twoOf_35 : decode cX10_twoOf 35 = .ok (.iload_n 3, 1) := by decide +kernel
theorem dX10_twoOf_36 : decode cX10_twoOf 36 = .ok (.idiv, 1) := by decide +kernel
theorem dX10_twoOf_37 : decode cX10_twoOf 37 = .ok (.iconst 2, 1) := by decide +kernel
theorem dX10_twoOf_38 : decode cX10_twoOf 38 = .ok (.irem, 1) := by decide +kernel
theorem dX10_twoOf_39 : decode cX10_twoOf 39 = .ok (.istore 5, 2) := by decide +kernel
theorem dX10_twoOf_41 : decode cX10_twoOf 41 = .ok (.aload_n 0, 1) := by decide +kernel
theorem dX10_twoOf_42 : decode cX10_twoOf 42 = .ok (.iload_n 1, 1) := by decide +kernel
theorem dX10_twoOf_43 : decode cX10_twoOf 43 = .ok (.iload 4, 2) := by decide +kernel
theorem dX10_twoOf_45 : decode cX10_twoOf 45 = .ok (.invokevirtual 93, 3) := by decide +kernel
theorem dX10_twoOf_48 : decode cX10_twoOf 48 = .ok (.istore 6, 2) := by decide +kernel
theorem dX10_twoOf_50 : decode cX10_twoOf 50 = .ok (.iload 6, 2) := by decide +kernel
theorem dX10_twoOf_52 : decode cX10_twoOf 52 = .ok (.ifCond .eq 22, 3) := by decide +kernel
theorem dX10_twoOf_55 : decode cX10_twoOf 55 = .ok (.aload_n 0, 1) := by decide +kernel
theorem dX10_twoOf_56 : decode cX10_twoOf 56 = .ok (.getfield 57, 3) := by decide +kernel
theorem dX10_twoOf_59 : decode cX10_twoOf 59 = .ok (.iload 5, 2) := by decide +kernel
theorem dX10_twoOf_61 : decode cX10_twoOf 61 = .ok (.iaload, 1) := by decide +kernel
theorem dX10_twoOf_62 : decode cX10_twoOf 62 = .ok (.aload_n 0, 1) := by decide +kernel
theorem dX10_twoOf_63 : decode cX10_twoOf 63 = .ok (.getfield 57, 3) := by decide +kernel
theorem dX10_twoOf_66 : decode cX10_twoOf 66 = .ok (.iconst 1, 1) := by decide +kernel
theorem dX10_twoOf_67 : decode cX10_twoOf 67 = .ok (.iload 5, 2) := by decide +kernel
theorem dX10_twoOf_69 : decode cX10_twoOf 69 = .ok (.isub, 1) := by decide +kernel
theorem dX10_twoOf_70 : decode cX10_twoOf 70 = .ok (.iaload, 1) := by decide +kernel
theorem dX10_twoOf_71 : decode cX10_twoOf 71 = .ok (.if_icmp .ge 13, 3) := by decide +kernel
theorem dX10_twoOf_74 : decode cX10_twoOf 74 = .ok (.aload_n 0, 1) := by decide +kernel
theorem dX10_twoOf_75 : decode cX10_twoOf 75 = .ok (.getfield 57, 3) := by decide +kernel
theorem dX10_twoOf_78 : decode cX10_twoOf 78 = .ok (.iload 5, 2) := by decide +kernel
theorem dX10_twoOf_80 : decode cX10_twoOf 80 = .ok (.iaload, 1) := by decide +kernel
theorem dX10_twoOf_81 : decode cX10_twoOf 81 = .ok (.goto 12, 3) := by decide +kernel
theorem dX10_twoOf_84 : decode cX10_twoOf 84 = .ok (.aload_n 0, 1) := by decide +kernel
theorem dX10_twoOf_85 : decode cX10_twoOf 85 = .ok (.getfield 57, 3) := by decide +kernel
theorem dX10_twoOf_88 : decode cX10_twoOf 88 = .ok (.iconst 1, 1) := by decide +kernel
theorem dX10_twoOf_89 : decode cX10_twoOf 89 = .ok (.iload 5, 2) := by decide +kernel
theorem dX10_twoOf_91 : decode cX10_twoOf 91 = .ok (.isub, 1) := by decide +kernel
theorem dX10_twoOf_92 : decode cX10_twoOf 92 = .ok (.iaload, 1) := by decide +kernel
theorem dX10_twoOf_93 : decode cX10_twoOf 93 = .ok (.istore 7, 2) := by decide +kernel
theorem dX10_twoOf_95 : decode cX10_twoOf 95 = .ok (.aload_n 0, 1) := by decide +kernel
theorem dX10_twoOf_96 : decode cX10_twoOf 96 = .ok (.iload_n 1, 1) := by decide +kernel
theorem dX10_twoOf_97 : decode cX10_twoOf 97 = .ok (.iload 4, 2) := by decide +kernel
theorem dX10_twoOf_99 : decode cX10_twoOf 99 = .ok (.aload_n 0, 1) := by decide +kernel
theorem dX10_twoOf_100 : decode cX10_twoOf 100 = .ok (.iload 7, 2) := by decide +kernel
theorem dX10_twoOf_102 : decode cX10_twoOf 102 = .ok (.iconst 0, 1) := by decide +kernel
theorem dX10_twoOf_103 : decode cX10_twoOf 103 = .ok (.iconst 0, 1) := by decide +kernel
theorem dX10_twoOf_104 : decode cX10_twoOf 104 = .ok (.invokevirtual 100, 3) := by decide +kernel
theorem dX10_twoOf_107 : decode cX10_twoOf 107 = .ok (.invokevirtual 147, 3) := by decide +kernel
theorem dX10_twoOf_110 : decode cX10_twoOf 110 = .ok (.aload_n 0, 1) := by decide +kernel
theorem dX10_twoOf_111 : decode cX10_twoOf 111 = .ok (.getfield 57, 3) := by decide +kernel
theorem dX10_twoOf_114 : decode cX10_twoOf 114 = .ok (.iload 5, 2) := by decide +kernel
theorem dX10_twoOf_116 : decode cX10_twoOf 116 = .ok (.aload_n 0, 1) := by decide +kernel
theorem dX10_twoOf_117 : decode cX10_twoOf 117 = .ok (.iload_n 1, 1) := by decide +kernel
theorem dX10_twoOf_118 : decode cX10_twoOf 118 = .ok (.iload 4, 2) := by decide +kernel
theorem dX10_twoOf_120 : decode cX10_twoOf 120 = .ok (.aload_n 0, 1) := by decide +kernel
theorem dX10_twoOf_121 : decode cX10_twoOf 121 = .ok (.getfield 57, 3) := by decide +kernel
theorem dX10_twoOf_124 : decode cX10_twoOf 124 = .ok (.iload 5, 2) := by decide +kernel
theorem dX10_twoOf_126 : decode cX10_twoOf 126 = .ok (.iaload, 1) := by decide +kernel
theorem dX10_twoOf_127 : decode cX10_twoOf 127 = .ok (.iconst 0, 1) := by decide +kernel
theorem dX10_twoOf_128 : decode cX10_twoOf 128 = .ok (.invokevirtual 119, 3) := by decide +kernel
theorem dX10_twoOf_131 : decode cX10_twoOf 131 = .ok (.iastore, 1) := by decide +kernel
theorem dX10_twoOf_132 : decode cX10_twoOf 132 = .ok (.aload_n 0, 1) := by decide +kernel
theorem dX10_twoOf_133 : decode cX10_twoOf 133 = .ok (.getfield 57, 3) := by decide +kernel
theorem dX10_twoOf_136 : decode cX10_twoOf 136 = .ok (.iconst 1, 1) := by decide +kernel
theorem dX10_twoOf_137 : decode cX10_twoOf 137 = .ok (.iload 5, 2) := by decide +kernel
theorem dX10_twoOf_139 : decode cX10_twoOf 139 = .ok (.isub, 1) := by decide +kernel
theorem dX10_twoOf_140 : decode cX10_twoOf 140 = .ok (.iaload, 1) := by decide +kernel
theorem dX10_twoOf_141 : decode cX10_twoOf 141 = .ok (.istore 8, 2) := by decide +kernel
theorem dX10_twoOf_143 : decode cX10_twoOf 143 = .ok (.aload_n 0, 1) := by decide +kernel
theorem dX10_twoOf_144 : decode cX10_twoOf 144 = .ok (.getfield 57, 3) := by decide +kernel
theorem dX10_twoOf_147 : decode cX10_twoOf 147 = .ok (.iconst 1, 1) := by decide +kernel
theorem dX10_twoOf_148 : decode cX10_twoOf 148 = .ok (.iload 5, 2) := by decide +kernel
theorem dX10_twoOf_150 : decode cX10_twoOf 150 = .ok (.isub, 1) := by decide +kernel
theorem dX10_twoOf_151 : decode cX10_twoOf 151 = .ok (.iload 6, 2) := by decide +kernel
theorem dX10_twoOf_153 : decode cX10_twoOf 153 = .ok (.ifCond .eq 16, 3) := by decide +kernel
theorem dX10_twoOf_156 : decode cX10_twoOf 156 = .ok (.aload_n 0, 1) := by decide +kernel
theorem dX10_twoOf_157 : decode cX10_twoOf 157 = .ok (.iload_n 1, 1) := by decide +kernel
theorem dX10_twoOf_158 : decode cX10_twoOf 158 = .ok (.iload 4, 2) := by decide +kernel
theorem dX10_twoOf_160 : decode cX10_twoOf 160 = .ok (.iload 8, 2) := by decide +kernel
theorem dX10_twoOf_162 : decode cX10_twoOf 162 = .ok (.iconst 0, 1) := by decide +kernel
theorem dX10_twoOf_163 : decode cX10_twoOf 163 = .ok (.invokevirtual 119, 3) := by decide +kernel
theorem dX10_twoOf_166 : decode cX10_twoOf 166 = .ok (.goto 17, 3) := by decide +kernel
theorem dX10_twoOf_169 : decode cX10_twoOf 169 = .ok (.iload 8, 2) := by decide +kernel
theorem dX10_twoOf_171 : decode cX10_twoOf 171 = .ok (.iconst 2, 1) := by decide +kernel
theorem dX10_twoOf_172 : decode cX10_twoOf 172 = .ok (.if_icmp .ge 7, 3) := by decide +kernel
theorem dX10_twoOf_175 : decode cX10_twoOf 175 = .ok (.iconst 0, 1) := by decide +kernel
theorem dX10_twoOf_176 : decode cX10_twoOf 176 = .ok (.goto 7, 3) := by decide +kernel
theorem dX10_twoOf_179 : decode cX10_twoOf 179 = .ok (.iload 8, 2) := by decide +kernel
theorem dX10_twoOf_181 : decode cX10_twoOf 181 = .ok (.iconst 2, 1) := by decide +kernel
theorem dX10_twoOf_182 : decode cX10_twoOf 182 = .ok (.isub, 1) := by decide +kernel
theorem dX10_twoOf_183 : decode cX10_twoOf 183 = .ok (.iastore, 1) := by decide +kernel
theorem dX10_twoOf_184 : decode cX10_twoOf 184 = .ok (.iinc 4 1, 3) := by decide +kernel
theorem dX10_twoOf_187 : decode cX10_twoOf 187 = .ok (.goto (-165), 3) := by decide +kernel
theorem dX10_twoOf_190 : decode cX10_twoOf 190 = .ok (.aload_n 0, 1) := by decide +kernel
theorem dX10_twoOf_191 : decode cX10_twoOf 191 = .ok (.invokevirtual 173, 3) := by decide +kernel
theorem dX10_twoOf_194 : decode cX10_twoOf 194 = .ok (.ireturn, 1) := by decide +kernel
theorem dX10_two_0 : decode cX10_two 0 = .ok (.iload_n 1, 1) := by decide +kernel
theorem dX10_two_1 : decode cX10_two 1 = .ok (.invokestatic 74, 3) := by decide +kernel
theorem dX10_two_4 : decode cX10_two 4 = .ok (.ifCond .ne 5, 3) := by decide +kernel
theorem dX10_two_7 : decode cX10_two 7 = .ok (.iconst (-1), 1) := by decide +kernel
theorem dX10_two_8 : decode cX10_two 8 = .ok (.ireturn, 1) := by decide +kernel
theorem dX10_two_9 : decode cX10_two 9 = .ok (.iload_n 2, 1) := by decide +kernel
theorem dX10_two_10 : decode cX10_two 10 = .ok (.invokestatic 110, 3) := by decide +kernel
theorem dX10_two_13 : decode cX10_two 13 = .ok (.ifCond .eq 25, 3) := by decide +kernel
theorem dX10_two_16 : decode cX10_two 16 = .ok (.iload_n 3, 1) := by decide +kernel
theorem dX10_two_17 : decode cX10_two 17 = .ok (.i2l, 1) := by decide +kernel
theorem dX10_two_18 : decode cX10_two 18 = .ok (.lconst 1, 1) := by decide +kernel
theorem dX10_two_19 : decode cX10_two 19 = .ok (.ldc2_w 164, 3) := by decide +kernel
theorem dX10_two_22 : decode cX10_two 22 = .ok (.invokestatic 66, 3) := by decide +kernel
theorem dX10_two_25 : decode cX10_two 25 = .ok (.ifCond .eq 13, 3) := by decide +kernel
theorem dX10_two_28 : decode cX10_two 28 = .ok (.aload_n 0, 1) := by decide +kernel
theorem dX10_two_29 : decode cX10_two 29 = .ok (.iload_n 1, 1) := by decide +kernel
theorem dX10_two_30 : decode cX10_two 30 = .ok (.iload_n 2, 1) := by decide +kernel
theorem dX10_two_31 : decode cX10_two 31 = .ok (.iload_n 3, 1) := by decide +kernel
theorem dX10_two_32 : decode cX10_two 32 = .ok (.invokevirtual 211, 3) := by decide +kernel
theorem dX10_two_35 : decode cX10_two 35 = .ok (.goto 5, 3) := by decide +kernel
theorem dX10_two_38 : decode cX10_two 38 = .ok (.bipush (-2), 2) := by decide +kernel
theorem dX10_two_40 : decode cX10_two 40 = .ok (.ireturn, 1) := by decide +kernel
theorem dX10_share_0 : decode cX10_share 0 = .ok (.iload_n 1, 1) := by decide +kernel
theorem dX10_share_1 : decode cX10_share 1 = .ok (.invokestatic 74, 3) := by decide +kernel
theorem dX10_share_4 : decode cX10_share 4 = .ok (.ifCond .ne 5, 3) := by decide +kernel
theorem dX10_share_7 : decode cX10_share 7 = .ok (.iconst (-1), 1) := by decide +kernel
theorem dX10_share_8 : decode cX10_share 8 = .ok (.ireturn, 1) := by decide +kernel
theorem dX10_share_9 : decode cX10_share 9 = .ok (.iload_n 2, 1) := by decide +kernel
theorem dX10_share_10 : decode cX10_share 10 = .ok (.invokestatic 110, 3) := by decide +kernel
theorem dX10_share_13 : decode cX10_share 13 = .ok (.ifCond .ne 6, 3) := by decide +kernel
theorem dX10_share_16 : decode cX10_share 16 = .ok (.bipush (-2), 2) := by decide +kernel
theorem dX10_share_18 : decode cX10_share 18 = .ok (.ireturn, 1) := by decide +kernel
theorem dX10_share_19 : decode cX10_share 19 = .ok (.iconst 1, 1) := by decide +kernel
theorem dX10_share_20 : decode cX10_share 20 = .ok (.istore_n 3, 1) := by decide +kernel
theorem dX10_share_21 : decode cX10_share 21 = .ok (.aload_n 0, 1) := by decide +kernel
theorem dX10_share_22 : decode cX10_share 22 = .ok (.iload_n 1, 1) := by decide +kernel
theorem dX10_share_23 : decode cX10_share 23 = .ok (.iload_n 2, 1) := by decide +kernel
theorem dX10_share_24 : decode cX10_share 24 = .ok (.iconst 1, 1) := by decide +kernel
theorem dX10_share_25 : decode cX10_share 25 = .ok (.invokevirtual 211, 3) := by decide +kernel
theorem dX10_share_28 : decode cX10_share 28 = .ok (.istore 4, 2) := by decide +kernel
theorem dX10_share_30 : decode cX10_share 30 = .ok (.iconst 2, 1) := by decide +kernel
theorem dX10_share_31 : decode cX10_share 31 = .ok (.istore 5, 2) := by decide +kernel
theorem dX10_share_33 : decode cX10_share 33 = .ok (.iload 5, 2) := by decide +kernel
theorem dX10_share_35 : decode cX10_share 35 = .ok (.bipush 6, 2) := by decide +kernel
theorem dX10_share_37 : decode cX10_share 37 = .ok (.if_icmp .gt 33, 3) := by decide +kernel
theorem dX10_share_40 : decode cX10_share 40 = .ok (.aload_n 0, 1) := by decide +kernel
theorem dX10_share_41 : decode cX10_share 41 = .ok (.iload_n 1, 1) := by decide +kernel
theorem dX10_share_42 : decode cX10_share 42 = .ok (.iload_n 2, 1) := by decide +kernel
theorem dX10_share_43 : decode cX10_share 43 = .ok (.iload 5, 2) := by decide +kernel
theorem dX10_share_45 : decode cX10_share 45 = .ok (.invokevirtual 211, 3) := by decide +kernel
theorem dX10_share_48 : decode cX10_share 48 = .ok (.istore 6, 2) := by decide +kernel
theorem dX10_share_50 : decode cX10_share 50 = .ok (.iload 6, 2) := by decide +kernel
theorem dX10_share_52 : decode cX10_share 52 = .ok (.iload 4, 2) := by decide +kernel
theorem dX10_share_54 : decode cX10_share 54 = .ok (.if_icmp .le 10, 3) := by decide +kernel
theorem dX10_share_57 : decode cX10_share 57 = .ok (.iload 5, 2) := by decide +kernel
theorem dX10_share_59 : decode cX10_share 59 = .ok (.istore_n 3, 1) := by decide +kernel
theorem dX10_share_60 : decode cX10_share 60 = .ok (.iload 6, 2) := by decide +kernel
theorem dX10_share_62 : decode cX10_share 62 = .ok (.istore 4, 2) := by decide +kernel
theorem dX10_share_64 : decode cX10_share 64 = .ok (.iinc 5 1, 3) := by decide +kernel
theorem dX10_share_67 : decode cX10_share 67 = .ok (.goto (-34), 3) := by decide +kernel
theorem dX10_share_70 : decode cX10_share 70 = .ok (.iload_n 3, 1) := by decide +kernel
theorem dX10_share_71 : decode cX10_share 71 = .ok (.ireturn, 1) := by decide +kernel
theorem dX10_getsUp_0 : decode cX10_getsUp 0 = .ok (.sipush 1000, 3) := by decide +kernel
theorem dX10_getsUp_3 : decode cX10_getsUp 3 = .ok (.iconst 1, 1) := by decide +kernel
theorem dX10_getsUp_4 : decode cX10_getsUp 4 = .ok (.bipush 10, 2) := by decide +kernel
theorem dX10_getsUp_6 : decode cX10_getsUp 6 = .ok (.iload_n 2, 1) := by decide +kernel
theorem dX10_getsUp_7 : decode cX10_getsUp 7 = .ok (.imul, 1) := by decide +kernel
theorem dX10_getsUp_8 : decode cX10_getsUp 8 = .ok (.iadd, 1) := by decide +kernel
theorem dX10_getsUp_9 : decode cX10_getsUp 9 = .ok (.imul, 1) := by decide +kernel
theorem dX10_getsUp_10 : decode cX10_getsUp 10 = .ok (.iload_n 1, 1) := by decide +kernel
theorem dX10_getsUp_11 : decode cX10_getsUp 11 = .ok (.iload_n 0, 1) := by decide +kernel
theorem dX10_getsUp_12 : decode cX10_getsUp 12 = .ok (.imul, 1) := by decide +kernel
theorem dX10_getsUp_13 : decode cX10_getsUp 13 = .ok (.if_icmp .gt 7, 3) := by decide +kernel
theorem dX10_getsUp_16 : decode cX10_getsUp 16 = .ok (.iconst 1, 1) := by decide +kernel
theorem dX10_getsUp_17 : decode cX10_getsUp 17 = .ok (.goto 4, 3) := by decide +kernel
theorem dX10_getsUp_20 : decode cX10_getsUp 20 = .ok (.iconst 0, 1) := by decide +kernel
theorem dX10_getsUp_21 : decode cX10_getsUp 21 = .ok (.ireturn, 1) := by decide +kernel
theorem dX10_up_0 : decode cX10_up 0 = .ok (.iload_n 1, 1) := by decide +kernel
theorem dX10_up_1 : decode cX10_up 1 = .ok (.i2l, 1) := by decide +kernel
theorem dX10_up_2 : decode cX10_up 2 = .ok (.lconst 0, 1) := by decide +kernel
theorem dX10_up_3 : decode cX10_up 3 = .ok (.ldc2_w 91, 3) := by decide +kernel
theorem dX10_up_6 : decode cX10_up 6 = .ok (.invokestatic 66, 3) := by decide +kernel
theorem dX10_up_9 : decode cX10_up 9 = .ok (.ifCond .eq 22, 3) := by decide +kernel
theorem dX10_up_12 : decode cX10_up 12 = .ok (.iload_n 2, 1) := by decide +kernel
theorem dX10_up_13 : decode cX10_up 13 = .ok (.i2l, 1) := by decide +kernel
theorem dX10_up_14 : decode cX10_up 14 = .ok (.lconst 0, 1) := by decide +kernel
theorem dX10_up_15 : decode cX10_up 15 = .ok (.ldc2_w 214, 3) := by decide +kernel
theorem dX10_up_18 : decode cX10_up 18 = .ok (.invokestatic 66, 3) := by decide +kernel
theorem dX10_up_21 : decode cX10_up 21 = .ok (.ifCond .eq 10, 3) := by decide +kernel
theorem dX10_up_24 : decode cX10_up 24 = .ok (.iload_n 3, 1) := by decide +kernel
theorem dX10_up_25 : decode cX10_up 25 = .ok (.invokestatic 110, 3) := by decide +kernel
theorem dX10_up_28 : decode cX10_up 28 = .ok (.ifCond .ne 6, 3) := by decide +kernel
theorem dX10_up_31 : decode cX10_up 31 = .ok (.bipush (-2), 2) := by decide +kernel
theorem dX10_up_33 : decode cX10_up 33 = .ok (.ireturn, 1) := by decide +kernel
theorem dX10_up_34 : decode cX10_up 34 = .ok (.iload_n 1, 1) := by decide +kernel
theorem dX10_up_35 : decode cX10_up 35 = .ok (.iload_n 2, 1) := by decide +kernel
theorem dX10_up_36 : decode cX10_up 36 = .ok (.iload_n 3, 1) := by decide +kernel
theorem dX10_up_37 : decode cX10_up 37 = .ok (.invokestatic 216, 3) := by decide +kernel
theorem dX10_up_40 : decode cX10_up 40 = .ok (.ifCond .eq 7, 3) := by decide +kernel
theorem dX10_up_43 : decode cX10_up 43 = .ok (.iconst 1, 1) := by decide +kernel
theorem dX10_up_44 : decode cX10_up 44 = .ok (.goto 4, 3) := by decide +kernel
theorem dX10_up_47 : decode cX10_up 47 = .ok (.iconst 0, 1) := by decide +kernel
theorem dX10_up_48 : decode cX10_up 48 = .ok (.ireturn, 1) := by decide +kernel
theorem dX10_trust_0 : decode cX10_trust 0 = .ok (.iload_n 1, 1) := by decide +kernel
theorem dX10_trust_1 : decode cX10_trust 1 = .ok (.i2l, 1) := by decide +kernel
theorem dX10_trust_2 : decode cX10_trust 2 = .ok (.lconst 0, 1) := by decide +kernel
theorem dX10_trust_3 : decode cX10_trust 3 = .ok (.ldc2_w 214, 3) := by decide +kernel
theorem dX10_trust_6 : decode cX10_trust 6 = .ok (.invokestatic 66, 3) := by decide +kernel
theorem dX10_trust_9 : decode cX10_trust 9 = .ok (.ifCond .eq 10, 3) := by decide +kernel
theorem dX10_trust_12 : decode cX10_trust 12 = .ok (.iload_n 2, 1) := by decide +kernel
theorem dX10_trust_13 : decode cX10_trust 13 = .ok (.invokestatic 110, 3) := by decide +kernel
theorem dX10_trust_16 : decode cX10_trust 16 = .ok (.ifCond .ne 6, 3) := by decide +kernel
theorem dX10_trust_19 : decode cX10_trust 19 = .ok (.bipush (-2), 2) := by decide +kernel
theorem dX10_trust_21 : decode cX10_trust 21 = .ok (.ireturn, 1) := by decide +kernel
theorem dX10_trust_22 : decode cX10_trust 22 = .ok (.iconst 0, 1) := by decide +kernel
theorem dX10_trust_23 : decode cX10_trust 23 = .ok (.istore_n 3, 1) := by decide +kernel
theorem dX10_trust_24 : decode cX10_trust 24 = .ok (.iload_n 3, 1) := by decide +kernel
theorem dX10_trust_25 : decode cX10_trust 25 = .ok (.sipush 1000, 3) := by decide +kernel
theorem dX10_trust_28 : decode cX10_trust 28 = .ok (.if_icmp .gt 18, 3) := by decide +kernel
theorem dX10_trust_31 : decode cX10_trust 31 = .ok (.iload_n 3, 1) := by decide +kernel
theorem dX10_trust_32 : decode cX10_trust 32 = .ok (.iload_n 1, 1) := by decide +kernel
theorem dX10_trust_33 : decode cX10_trust 33 = .ok (.iload_n 2, 1) := by decide +kernel
theorem dX10_trust_34 : decode cX10_trust 34 = .ok (.invokestatic 216, 3) := by decide +kernel
theorem dX10_trust_37 : decode cX10_trust 37 = .ok (.ifCond .ne 9, 3) := by decide +kernel
theorem dX10_trust_40 : decode cX10_trust 40 = .ok (.iinc 3 1, 3) := by decide +kernel
theorem dX10_trust_43 : decode cX10_trust 43 = .ok (.goto (-19), 3) := by decide +kernel
theorem dX10_trust_46 : decode cX10_trust 46 = .ok (.iload_n 3, 1) := by decide +kernel
theorem dX10_trust_47 : decode cX10_trust 47 = .ok (.ireturn, 1) := by decide +kernel
theorem dX10_thousandth_0 : decode cX10_thousandth 0 = .ok (.aload_n 0, 1) := by decide +kernel
theorem dX10_thousandth_1 : decode cX10_thousandth 1 = .ok (.bipush 75, 2) := by decide +kernel
theorem dX10_thousandth_3 : decode cX10_thousandth 3 = .ok (.aload_n 0, 1) := by decide +kernel
theorem dX10_thousandth_4 : decode cX10_thousandth 4 = .ok (.getfield 219, 3) := by decide +kernel
theorem dX10_thousandth_7 : decode cX10_thousandth 7 = .ok (.imul, 1) := by decide +kernel
theorem dX10_thousandth_8 : decode cX10_thousandth 8 = .ok (.bipush 74, 2) := by decide +kernel
theorem dX10_thousandth_10 : decode cX10_thousandth 10 = .ok (.iadd, 1) := by decide +kernel
theorem dX10_thousandth_11 : decode cX10_thousandth 11 = .ok (.ldc 222, 2) := by decide +kernel
theorem dX10_thousandth_13 : decode cX10_thousandth 13 = .ok (.irem, 1) := by decide +kernel
theorem dX10_thousandth_14 : decode cX10_thousandth 14 = .ok (.putfield 219, 3) := by decide +kernel
theorem dX10_thousandth_17 : decode cX10_thousandth 17 = .ok (.aload_n 0, 1) := by decide +kernel
theorem dX10_thousandth_18 : decode cX10_thousandth 18 = .ok (.getfield 219, 3) := by decide +kernel
theorem dX10_thousandth_21 : decode cX10_thousandth 21 = .ok (.sipush 1000, 3) := by decide +kernel
theorem dX10_thousandth_24 : decode cX10_thousandth 24 = .ok (.irem, 1) := by decide +kernel
theorem dX10_thousandth_25 : decode cX10_thousandth 25 = .ok (.ireturn, 1) := by decide +kernel
theorem dX10_draw_0 : decode cX10_draw 0 = .ok (.iload_n 1, 1) := by decide +kernel
theorem dX10_draw_1 : decode cX10_draw 1 = .ok (.invokestatic 74, 3) := by decide +kernel
theorem dX10_draw_4 : decode cX10_draw 4 = .ok (.ifCond .ne 5, 3) := by decide +kernel
theorem dX10_draw_7 : decode cX10_draw 7 = .ok (.iconst (-1), 1) := by decide +kernel
theorem dX10_draw_8 : decode cX10_draw 8 = .ok (.ireturn, 1) := by decide +kernel
theorem dX10_draw_9 : decode cX10_draw 9 = .ok (.iload_n 2, 1) := by decide +kernel
theorem dX10_draw_10 : decode cX10_draw 10 = .ok (.invokestatic 110, 3) := by decide +kernel
theorem dX10_draw_13 : decode cX10_draw 13 = .ok (.ifCond .eq 23, 3) := by decide +kernel
theorem dX10_draw_16 : decode cX10_draw 16 = .ok (.iload_n 3, 1) := by decide +kernel
theorem dX10_draw_17 : decode cX10_draw 17 = .ok (.invokestatic 161, 3) := by decide +kernel
theorem dX10_draw_20 : decode cX10_draw 20 = .ok (.ifCond .eq 16, 3) := by decide +kernel
theorem dX10_draw_23 : decode cX10_draw 23 = .ok (.iload 4, 2) := by decide +kernel
theorem dX10_draw_25 : decode cX10_draw 25 = .ok (.i2l, 1) := by decide +kernel
theorem dX10_draw_26 : decode cX10_draw 26 = .ok (.lconst 0, 1) := by decide +kernel
theorem dX10_draw_27 : decode cX10_draw 27 = .ok (.ldc2_w 223, 3) := by decide +kernel
theorem dX10_draw_30 : decode cX10_draw 30 = .ok (.invokestatic 66, 3) := by decide +kernel
theorem dX10_draw_33 : decode cX10_draw 33 = .ok (.ifCond .ne 6, 3) := by decide +kernel
theorem dX10_draw_36 : decode cX10_draw 36 = .ok (.bipush (-2), 2) := by decide +kernel
theorem dX10_draw_38 : decode cX10_draw 38 = .ok (.ireturn, 1) := by decide +kernel
theorem dX10_draw_39 : decode cX10_draw 39 = .ok (.aload_n 0, 1) := by decide +kernel
theorem dX10_draw_40 : decode cX10_draw 40 = .ok (.invokevirtual 166, 3) := by decide +kernel
theorem dX10_draw_43 : decode cX10_draw 43 = .ok (.ifCond .lt 6, 3) := by decide +kernel
theorem dX10_draw_46 : decode cX10_draw 46 = .ok (.bipush (-5), 2) := by decide +kernel
theorem dX10_draw_48 : decode cX10_draw 48 = .ok (.ireturn, 1) := by decide +kernel
theorem dX10_draw_49 : decode cX10_draw 49 = .ok (.aload_n 0, 1) := by decide +kernel
theorem dX10_draw_50 : decode cX10_draw 50 = .ok (.iload_n 1, 1) := by decide +kernel
theorem dX10_draw_51 : decode cX10_draw 51 = .ok (.iload_n 2, 1) := by decide +kernel
theorem dX10_draw_52 : decode cX10_draw 52 = .ok (.iload_n 3, 1) := by decide +kernel
theorem dX10_draw_53 : decode cX10_draw 53 = .ok (.invokevirtual 170, 3) := by decide +kernel
theorem dX10_draw_56 : decode cX10_draw 56 = .ok (.aload_n 0, 1) := by decide +kernel
theorem dX10_draw_57 : decode cX10_draw 57 = .ok (.iload 4, 2) := by decide +kernel
theorem dX10_draw_59 : decode cX10_draw 59 = .ok (.putfield 219, 3) := by decide +kernel
theorem dX10_draw_62 : decode cX10_draw 62 = .ok (.iconst 0, 1) := by decide +kernel
theorem dX10_draw_63 : decode cX10_draw 63 = .ok (.istore 5, 2) := by decide +kernel
theorem dX10_draw_65 : decode cX10_draw 65 = .ok (.iload 5, 2) := by decide +kernel
theorem dX10_draw_67 : decode cX10_draw 67 = .ok (.aload_n 0, 1) := by decide +kernel
theorem dX10_draw_68 : decode cX10_draw 68 = .ok (.getfield 135, 3) := by decide +kernel
theorem dX10_draw_71 : decode cX10_draw 71 = .ok (.if_icmp .ge 52, 3) := by decide +kernel
theorem dX10_draw_74 : decode cX10_draw 74 = .ok (.aload_n 0, 1) := by decide +kernel
theorem dX10_draw_75 : decode cX10_draw 75 = .ok (.invokevirtual 225, 3) := by decide +kernel
theorem dX10_draw_78 : decode cX10_draw 78 = .ok (.aload_n 0, 1) := by decide +kernel
theorem dX10_draw_79 : decode cX10_draw 79 = .ok (.getfield 43, 3) := by decide +kernel
theorem dX10_draw_82 : decode cX10_draw 82 = .ok (.iload 5, 2) := by decide +kernel
theorem dX10_draw_84 : decode cX10_draw 84 = .ok (.iaload, 1) := by decide +kernel
theorem dX10_draw_85 : decode cX10_draw 85 = .ok (.if_icmp .ge 7, 3) := by decide +kernel
theorem dX10_draw_88 : decode cX10_draw 88 = .ok (.iconst 1, 1) := by decide +kernel
theorem dX10_draw_89 : decode cX10_draw 89 = .ok (.goto 4, 3) := by decide +kernel
theorem dX10_draw_92 : decode cX10_draw 92 = .ok (.iconst 0, 1) := by decide +kernel
theorem dX10_draw_93 : decode cX10_draw 93 = .ok (.istore 6, 2) := by decide +kernel
theorem dX10_draw_95 : decode cX10_draw 95 = .ok (.iload 6, 2) := by decide +kernel
theorem dX10_draw_97 : decode cX10_draw 97 = .ok (.ifCond .eq 20, 3) := by decide +kernel
theorem dX10_draw_100 : decode cX10_draw 100 = .ok (.aload_n 0, 1) := by decide +kernel
theorem dX10_draw_101 : decode cX10_draw 101 = .ok (.invokevirtual 225, 3) := by decide +kernel
theorem dX10_draw_104 : decode cX10_draw 104 = .ok (.aload_n 0, 1) := by decide +kernel
theorem dX10_draw_105 : decode cX10_draw 105 = .ok (.getfield 46, 3) := by decide +kernel
theorem dX10_draw_108 : decode cX10_draw 108 = .ok (.iload 5, 2) := by decide +kernel
theorem dX10_draw_110 : decode cX10_draw 110 = .ok (.iaload, 1) := by decide +kernel
theorem dX10_draw_111 : decode cX10_draw 111 = .ok (.if_icmp .ge 6, 3) := by decide +kernel
theorem dX10_draw_114 : decode cX10_draw 114 = .ok (.iload 5, 2) := by decide +kernel
theorem dX10_draw_116 : decode cX10_draw 116 = .ok (.ireturn, 1) := by decide +kernel
theorem dX10_draw_117 : decode cX10_draw 117 = .ok (.iinc 5 1, 3) := by decide +kernel
theorem dX10_draw_120 : decode cX10_draw 120 = .ok (.goto (-55), 3) := by decide +kernel
theorem dX10_draw_123 : decode cX10_draw 123 = .ok (.bipush (-6), 2) := by decide +kernel
theorem dX10_draw_125 : decode cX10_draw 125 = .ok (.ireturn, 1) := by decide +kernel
theorem dX10_pass_0 : decode cX10_pass 0 = .ok (.aload_n 0, 1) := by decide +kernel
theorem dX10_pass_1 : decode cX10_pass 1 = .ok (.getfield 228, 3) := by decide +kernel
theorem dX10_pass_4 : decode cX10_pass 4 = .ok (.ifCond .eq 7, 3) := by decide +kernel
theorem dX10_pass_7 : decode cX10_pass 7 = .ok (.iload_n 1, 1) := by decide +kernel
theorem dX10_pass_8 : decode cX10_pass 8 = .ok (.goto 12, 3) := by decide +kernel
theorem dX10_pass_11 : decode cX10_pass 11 = .ok (.aload_n 0, 1) := by decide +kernel
theorem dX10_pass_12 : decode cX10_pass 12 = .ok (.getfield 60, 3) := by decide +kernel
theorem dX10_pass_15 : decode cX10_pass 15 = .ok (.aload_n 0, 1) := by decide +kernel
theorem dX10_pass_16 : decode cX10_pass 16 = .ok (.getfield 232, 3) := by decide +kernel
theorem dX10_pass_19 : decode cX10_pass 19 = .ok (.iaload, 1) := by decide +kernel
theorem dX10_pass_20 : decode cX10_pass 20 = .ok (.istore_n 2, 1) := by decide +kernel
theorem dX10_pass_21 : decode cX10_pass 21 = .ok (.aload_n 0, 1) := by decide +kernel
theorem dX10_pass_22 : decode cX10_pass 22 = .ok (.getfield 60, 3) := by decide +kernel
theorem dX10_pass_25 : decode cX10_pass 25 = .ok (.aload_n 0, 1) := by decide +kernel
theorem dX10_pass_26 : decode cX10_pass 26 = .ok (.getfield 232, 3) := by decide +kernel
theorem dX10_pass_29 : decode cX10_pass 29 = .ok (.iload_n 2, 1) := by decide +kernel
theorem dX10_pass_30 : decode cX10_pass 30 = .ok (.iastore, 1) := by decide +kernel
theorem dX10_pass_31 : decode cX10_pass 31 = .ok (.aload_n 0, 1) := by decide +kernel
theorem dX10_pass_32 : decode cX10_pass 32 = .ok (.dup, 1) := by decide +kernel
theorem dX10_pass_33 : decode cX10_pass 33 = .ok (.getfield 232, 3) := by decide +kernel
theorem dX10_pass_36 : decode cX10_pass 36 = .ok (.iconst 1, 1) := by decide +kernel
theorem dX10_pass_37 : decode cX10_pass 37 = .ok (.iadd, 1) := by decide +kernel
theorem dX10_pass_38 : decode cX10_pass 38 = .ok (.putfield 232, 3) := by decide +kernel
theorem dX10_pass_41 : decode cX10_pass 41 = .ok (.iload_n 2, 1) := by decide +kernel
theorem dX10_pass_42 : decode cX10_pass 42 = .ok (.ireturn, 1) := by decide +kernel
theorem dX10_passAll_0 : decode cX10_passAll 0 = .ok (.iconst 0, 1) := by decide +kernel
theorem dX10_passAll_1 : decode cX10_passAll 1 = .ok (.istore_n 1, 1) := by decide +kernel
theorem dX10_passAll_2 : decode cX10_passAll 2 = .ok (.iload_n 1, 1) := by decide +kernel
theorem dX10_passAll_3 : decode cX10_passAll 3 = .ok (.bipush 16, 2) := by decide +kernel
theorem dX10_passAll_5 : decode cX10_passAll 5 = .ok (.if_icmp .ge 57, 3) := by decide +kernel
theorem dX10_passAll_8 : decode cX10_passAll 8 = .ok (.aload_n 0, 1) := by decide +kernel
theorem dX10_passAll_9 : decode cX10_passAll 9 = .ok (.getfield 7, 3) := by decide +kernel
theorem dX10_passAll_12 : decode cX10_passAll 12 = .ok (.iload_n 1, 1) := by decide +kernel
theorem dX10_passAll_13 : decode cX10_passAll 13 = .ok (.aload_n 0, 1) := by decide +kernel
theorem dX10_passAll_14 : decode cX10_passAll 14 = .ok (.aload_n 0, 1) := by decide +kernel
theorem dX10_passAll_15 : decode cX10_passAll 15 = .ok (.getfield 7, 3) := by decide +kernel
theorem dX10_passAll_18 : decode cX10_passAll 18 = .ok (.iload_n 1, 1) := by decide +kernel
theorem dX10_passAll_19 : decode cX10_passAll 19 = .ok (.iaload, 1) := by decide +kernel
theorem dX10_passAll_20 : decode cX10_passAll 20 = .ok (.invokevirtual 235, 3) := by decide +kernel
theorem dX10_passAll_23 : decode cX10_passAll 23 = .ok (.iastore, 1) := by decide +kernel
theorem dX10_passAll_24 : decode cX10_passAll 24 = .ok (.aload_n 0, 1) := by decide +kernel
theorem dX10_passAll_25 : decode cX10_passAll 25 = .ok (.getfield 13, 3) := by decide +kernel
theorem dX10_passAll_28 : decode cX10_passAll 28 = .ok (.iload_n 1, 1) := by decide +kernel
theorem dX10_passAll_29 : decode cX10_passAll 29 = .ok (.aload_n 0, 1) := by decide +kernel
theorem dX10_passAll_30 : decode cX10_passAll 30 = .ok (.aload_n 0, 1) := by decide +kernel
theorem dX10_passAll_31 : decode cX10_passAll 31 = .ok (.getfield 13, 3) := by decide +kernel
theorem dX10_passAll_34 : decode cX10_passAll 34 = .ok (.iload_n 1, 1) := by decide +kernel
theorem dX10_passAll_35 : decode cX10_passAll 35 = .ok (.iaload, 1) := by decide +kernel
theorem dX10_passAll_36 : decode cX10_passAll 36 = .ok (.invokevirtual 235, 3) := by decide +kernel
theorem dX10_passAll_39 : decode cX10_passAll 39 = .ok (.iastore, 1) := by decide +kernel
theorem dX10_passAll_40 : decode cX10_passAll 40 = .ok (.aload_n 0, 1) := by decide +kernel
theorem dX10_passAll_41 : decode cX10_passAll 41 = .ok (.getfield 16, 3) := by decide +kernel
theorem dX10_passAll_44 : decode cX10_passAll 44 = .ok (.iload_n 1, 1) := by decide +kernel
theorem dX10_passAll_45 : decode cX10_passAll 45 = .ok (.aload_n 0, 1) := by decide +kernel
theorem dX10_passAll_46 : decode cX10_passAll 46 = .ok (.aload_n 0, 1) := by decide +kernel
theorem dX10_passAll_47 : decode cX10_passAll 47 = .ok (.getfield 16, 3) := by decide +kernel
theorem dX10_passAll_50 : decode cX10_passAll 50 = .ok (.iload_n 1, 1) := by decide +kernel
theorem dX10_passAll_51 : decode cX10_passAll 51 = .ok (.iaload, 1) := by decide +kernel
theorem dX10_passAll_52 : decode cX10_passAll 52 = .ok (.invokevirtual 235, 3) := by decide +kernel
theorem dX10_passAll_55 : decode cX10_passAll 55 = .ok (.iastore, 1) := by decide +kernel
theorem dX10_passAll_56 : decode cX10_passAll 56 = .ok (.iinc 1 1, 3) := by decide +kernel
theorem dX10_passAll_59 : decode cX10_passAll 59 = .ok (.goto (-57), 3) := by decide +kernel
theorem dX10_passAll_62 : decode cX10_passAll 62 = .ok (.iconst 0, 1) := by decide +kernel
theorem dX10_passAll_63 : decode cX10_passAll 63 = .ok (.istore_n 1, 1) := by decide +kernel
theorem dX10_passAll_64 : decode cX10_passAll 64 = .ok (.iload_n 1, 1) := by decide +kernel
theorem dX10_passAll_65 : decode cX10_passAll 65 = .ok (.iconst 2, 1) := by decide +kernel
theorem dX10_passAll_66 : decode cX10_passAll 66 = .ok (.if_icmp .ge 25, 3) := by decide +kernel
theorem dX10_passAll_69 : decode cX10_passAll 69 = .ok (.aload_n 0, 1) := by decide +kernel
theorem dX10_passAll_70 : decode cX10_passAll 70 = .ok (.getfield 19, 3) := by decide +kernel
theorem dX10_passAll_73 : decode cX10_passAll 73 = .ok (.iload_n 1, 1) := by decide +kernel
theorem dX10_passAll_74 : decode cX10_passAll 74 = .ok (.aload_n 0, 1) := by decide +kernel
theorem dX10_passAll_75 : decode cX10_passAll 75 = .ok (.aload_n 0, 1) := by decide +kernel
theorem dX10_passAll_76 : decode cX10_passAll 76 = .ok (.getfield 19, 3) := by decide +kernel
theorem dX10_passAll_79 : decode cX10_passAll 79 = .ok (.iload_n 1, 1) := by decide +kernel
theorem dX10_passAll_80 : decode cX10_passAll 80 = .ok (.iaload, 1) := by decide +kernel
theorem dX10_passAll_81 : decode cX10_passAll 81 = .ok (.invokevirtual 235, 3) := by decide +kernel
theorem dX10_passAll_84 : decode cX10_passAll 84 = .ok (.iastore, 1) := by decide +kernel
theorem dX10_passAll_85 : decode cX10_passAll 85 = .ok (.iinc 1 1, 3) := by decide +kernel
theorem dX10_passAll_88 : decode cX10_passAll 88 = .ok (.goto (-24), 3) := by decide +kernel
theorem dX10_passAll_91 : decode cX10_passAll 91 = .ok (.iconst 0, 1) := by decide +kernel
theorem dX10_passAll_92 : decode cX10_passAll 92 = .ok (.istore_n 1, 1) := by decide +kernel
theorem dX10_passAll_93 : decode cX10_passAll 93 = .ok (.iload_n 1, 1) := by decide +kernel
theorem dX10_passAll_94 : decode cX10_passAll 94 = .ok (.iconst 3, 1) := by decide +kernel
theorem dX10_passAll_95 : decode cX10_passAll 95 = .ok (.if_icmp .ge 41, 3) := by decide +kernel
theorem dX10_passAll_98 : decode cX10_passAll 98 = .ok (.aload_n 0, 1) := by decide +kernel
theorem dX10_passAll_99 : decode cX10_passAll 99 = .ok (.getfield 31, 3) := by decide +kernel
theorem dX10_passAll_102 : decode cX10_passAll 102 = .ok (.iload_n 1, 1) := by decide +kernel
theorem dX10_passAll_103 : decode cX10_passAll 103 = .ok (.aload_n 0, 1) := by decide +kernel
theorem dX10_passAll_104 : decode cX10_passAll 104 = .ok (.aload_n 0, 1) := by decide +kernel
theorem dX10_passAll_105 : decode cX10_passAll 105 = .ok (.getfield 31, 3) := by decide +kernel
theorem dX10_passAll_108 : decode cX10_passAll 108 = .ok (.iload_n 1, 1) := by decide +kernel
theorem dX10_passAll_109 : decode cX10_passAll 109 = .ok (.iaload, 1) := by decide +kernel
theorem dX10_passAll_110 : decode cX10_passAll 110 = .ok (.invokevirtual 235, 3) := by decide +kernel
theorem dX10_passAll_113 : decode cX10_passAll 113 = .ok (.iastore, 1) := by decide +kernel
theorem dX10_passAll_114 : decode cX10_passAll 114 = .ok (.aload_n 0, 1) := by decide +kernel
theorem dX10_passAll_115 : decode cX10_passAll 115 = .ok (.getfield 34, 3) := by decide +kernel
theorem dX10_passAll_118 : decode cX10_passAll 118 = .ok (.iload_n 1, 1) := by decide +kernel
theorem dX10_passAll_119 : decode cX10_passAll 119 = .ok (.aload_n 0, 1) := by decide +kernel
theorem dX10_passAll_120 : decode cX10_passAll 120 = .ok (.aload_n 0, 1) := by decide +kernel
theorem dX10_passAll_121 : decode cX10_passAll 121 = .ok (.getfield 34, 3) := by decide +kernel
theorem dX10_passAll_124 : decode cX10_passAll 124 = .ok (.iload_n 1, 1) := by decide +kernel
theorem dX10_passAll_125 : decode cX10_passAll 125 = .ok (.iaload, 1) := by decide +kernel
theorem dX10_passAll_126 : decode cX10_passAll 126 = .ok (.invokevirtual 235, 3) := by decide +kernel
theorem dX10_passAll_129 : decode cX10_passAll 129 = .ok (.iastore, 1) := by decide +kernel
theorem dX10_passAll_130 : decode cX10_passAll 130 = .ok (.iinc 1 1, 3) := by decide +kernel
theorem dX10_passAll_133 : decode cX10_passAll 133 = .ok (.goto (-40), 3) := by decide +kernel
theorem dX10_passAll_136 : decode cX10_passAll 136 = .ok (.return_, 1) := by decide +kernel
theorem dX10_image_0 : decode cX10_image 0 = .ok (.iload_n 1, 1) := by decide +kernel
theorem dX10_image_1 : decode cX10_image 1 = .ok (.invokestatic 80, 3) := by decide +kernel
theorem dX10_image_4 : decode cX10_image 4 = .ok (.ifCond .ne 6, 3) := by decide +kernel
theorem dX10_image_7 : decode cX10_image 7 = .ok (.bipush (-2), 2) := by decide +kernel
theorem dX10_image_9 : decode cX10_image 9 = .ok (.ireturn, 1) := by decide +kernel
theorem dX10_image_10 : decode cX10_image 10 = .ok (.aload_n 0, 1) := by decide +kernel
theorem dX10_image_11 : decode cX10_image 11 = .ok (.bipush 60, 2) := by decide +kernel
theorem dX10_image_13 : decode cX10_image 13 = .ok (.iload_n 1, 1) := by decide +kernel
theorem dX10_image_14 : decode cX10_image 14 = .ok (.imul, 1) := by decide +kernel
theorem dX10_image_15 : decode cX10_image 15 = .ok (.putfield 232, 3) := by decide +kernel
theorem dX10_image_18 : decode cX10_image 18 = .ok (.aload_n 0, 1) := by decide +kernel
theorem dX10_image_19 : decode cX10_image 19 = .ok (.iconst 1, 1) := by decide +kernel
theorem dX10_image_20 : decode cX10_image 20 = .ok (.putfield 228, 3) := by decide +kernel
theorem dX10_image_23 : decode cX10_image 23 = .ok (.aload_n 0, 1) := by decide +kernel
theorem dX10_image_24 : decode cX10_image 24 = .ok (.invokevirtual 238, 3) := by decide +kernel
theorem dX10_image_27 : decode cX10_image 27 = .ok (.aload_n 0, 1) := by decide +kernel
theorem dX10_image_28 : decode cX10_image 28 = .ok (.getfield 63, 3) := by decide +kernel
theorem dX10_image_31 : decode cX10_image 31 = .ok (.iload_n 1, 1) := by decide +kernel
theorem dX10_image_32 : decode cX10_image 32 = .ok (.iconst 1, 1) := by decide +kernel
theorem dX10_image_33 : decode cX10_image 33 = .ok (.bastore, 1) := by decide +kernel
theorem dX10_image_34 : decode cX10_image 34 = .ok (.iconst 1, 1) := by decide +kernel
theorem dX10_image_35 : decode cX10_image 35 = .ok (.ireturn, 1) := by decide +kernel
theorem dX10_restore_0 : decode cX10_restore 0 = .ok (.iload_n 1, 1) := by decide +kernel
theorem dX10_restore_1 : decode cX10_restore 1 = .ok (.invokestatic 80, 3) := by decide +kernel
theorem dX10_restore_4 : decode cX10_restore 4 = .ok (.ifCond .ne 6, 3) := by decide +kernel
theorem dX10_restore_7 : decode cX10_restore 7 = .ok (.bipush (-2), 2) := by decide +kernel
theorem dX10_restore_9 : decode cX10_restore 9 = .ok (.ireturn, 1) := by decide +kernel
theorem dX10_restore_10 : decode cX10_restore 10 = .ok (.aload_n 0, 1) := by decide +kernel
theorem dX10_restore_11 : decode cX10_restore 11 = .ok (.getfield 63, 3) := by decide +kernel
theorem dX10_restore_14 : decode cX10_restore 14 = .ok (.iload_n 1, 1) := by decide +kernel
theorem dX10_restore_15 : decode cX10_restore 15 = .ok (.baload, 1) := by decide +kernel
theorem dX10_restore_16 : decode cX10_restore 16 = .ok (.ifCond .ne 6, 3) := by decide +kernel
theorem dX10_restore_19 : decode cX10_restore 19 = .ok (.bipush (-3), 2) := by decide +kernel
theorem dX10_restore_21 : decode cX10_restore 21 = .ok (.ireturn, 1) := by decide +kernel
theorem dX10_restore_22 : decode cX10_restore 22 = .ok (.aload_n 0, 1) := by decide +kernel
theorem dX10_restore_23 : decode cX10_restore 23 = .ok (.bipush 60, 2) := by decide +kernel
theorem dX10_restore_25 : decode cX10_restore 25 = .ok (.iload_n 1, 1) := by decide +kernel
theorem dX10_restore_26 : decode cX10_restore 26 = .ok (.imul, 1) := by decide +kernel
theorem dX10_restore_27 : decode cX10_restore 27 = .ok (.putfield 232, 3) := by decide +kernel
theorem dX10_restore_30 : decode cX10_restore 30 = .ok (.aload_n 0, 1) := by decide +kernel
theorem dX10_restore_31 : decode cX10_restore 31 = .ok (.iconst 0, 1) := by decide +kernel
theorem dX10_restore_32 : decode cX10_restore 32 = .ok (.putfield 228, 3) := by decide +kernel
theorem dX10_restore_35 : decode cX10_restore 35 = .ok (.aload_n 0, 1) := by decide +kernel
theorem dX10_restore_36 : decode cX10_restore 36 = .ok (.invokevirtual 238, 3) := by decide +kernel
theorem dX10_restore_39 : decode cX10_restore 39 = .ok (.aload_n 0, 1) := by decide +kernel
theorem dX10_restore_40 : decode cX10_restore 40 = .ok (.iconst 0, 1) := by decide +kernel
theorem dX10_restore_41 : decode cX10_restore 41 = .ok (.invokevirtual 83, 3) := by decide +kernel
theorem dX10_restore_44 : decode cX10_restore 44 = .ok (.aload_n 0, 1) := by decide +kernel
theorem dX10_restore_45 : decode cX10_restore 45 = .ok (.iconst 1, 1) := by decide +kernel
theorem dX10_restore_46 : decode cX10_restore 46 = .ok (.invokevirtual 83, 3) := by decide +kernel
theorem dX10_restore_49 : decode cX10_restore 49 = .ok (.iconst 1, 1) := by decide +kernel
theorem dX10_restore_50 : decode cX10_restore 50 = .ok (.ireturn, 1) := by decide +kernel
theorem dX10_told_0 : decode cX10_told 0 = .ok (.iload_n 1, 1) := by decide +kernel
theorem dX10_told_1 : decode cX10_told 1 = .ok (.i2l, 1) := by decide +kernel
theorem dX10_told_2 : decode cX10_told 2 = .ok (.lconst 1, 1) := by decide +kernel
theorem dX10_told_3 : decode cX10_told 3 = .ok (.ldc2_w 206, 3) := by decide +kernel
theorem dX10_told_6 : decode cX10_told 6 = .ok (.invokestatic 66, 3) := by decide +kernel
theorem dX10_told_9 : decode cX10_told 9 = .ok (.ifCond .eq 12, 3) := by decide +kernel
theorem dX10_told_12 : decode cX10_told 12 = .ok (.aload_n 0, 1) := by decide +kernel
theorem dX10_told_13 : decode cX10_told 13 = .ok (.getfield 19, 3) := by decide +kernel
theorem dX10_told_16 : decode cX10_told 16 = .ok (.iload_n 1, 1) := by decide +kernel
theorem dX10_told_17 : decode cX10_told 17 = .ok (.iconst 1, 1) := by decide +kernel
theorem dX10_told_18 : decode cX10_told 18 = .ok (.isub, 1) := by decide +kernel
theorem dX10_told_19 : decode cX10_told 19 = .ok (.iaload, 1) := by decide +kernel
theorem dX10_told_20 : decode cX10_told 20 = .ok (.ireturn, 1) := by decide +kernel
theorem dX10_told_21 : decode cX10_told 21 = .ok (.iload_n 1, 1) := by decide +kernel
theorem dX10_told_22 : decode cX10_told 22 = .ok (.i2l, 1) := by decide +kernel
theorem dX10_told_23 : decode cX10_told 23 = .ok (.ldc2_w 87, 3) := by decide +kernel
theorem dX10_told_26 : decode cX10_told 26 = .ok (.ldc2_w 113, 3) := by decide +kernel
theorem dX10_told_29 : decode cX10_told 29 = .ok (.invokestatic 66, 3) := by decide +kernel
theorem dX10_told_32 : decode cX10_told 32 = .ok (.ifCond .eq 12, 3) := by decide +kernel
theorem dX10_told_35 : decode cX10_told 35 = .ok (.aload_n 0, 1) := by decide +kernel
theorem dX10_told_36 : decode cX10_told 36 = .ok (.getfield 22, 3) := by decide +kernel
theorem dX10_told_39 : decode cX10_told 39 = .ok (.iload_n 1, 1) := by decide +kernel
theorem dX10_told_40 : decode cX10_told 40 = .ok (.iconst 3, 1) := by decide +kernel
theorem dX10_told_41 : decode cX10_told 41 = .ok (.isub, 1) := by decide +kernel
theorem dX10_told_42 : decode cX10_told 42 = .ok (.iaload, 1) := by decide +kernel
theorem dX10_told_43 : decode cX10_told 43 = .ok (.ireturn, 1) := by decide +kernel
theorem dX10_told_44 : decode cX10_told 44 = .ok (.iload_n 1, 1) := by decide +kernel
theorem dX10_told_45 : decode cX10_told 45 = .ok (.i2l, 1) := by decide +kernel
theorem dX10_told_46 : decode cX10_told 46 = .ok (.ldc2_w 241, 3) := by decide +kernel
theorem dX10_told_49 : decode cX10_told 49 = .ok (.ldc2_w 243, 3) := by decide +kernel
theorem dX10_told_52 : decode cX10_told 52 = .ok (.invokestatic 66, 3) := by decide +kernel
theorem dX10_told_55 : decode cX10_told 55 = .ok (.ifCond .eq 12, 3) := by decide +kernel
theorem dX10_told_58 : decode cX10_told 58 = .ok (.aload_n 0, 1) := by decide +kernel
theorem dX10_told_59 : decode cX10_told 59 = .ok (.getfield 31, 3) := by decide +kernel
theorem dX10_told_62 : decode cX10_told 62 = .ok (.iload_n 1, 1) := by decide +kernel
theorem dX10_told_63 : decode cX10_told 63 = .ok (.iconst 5, 1) := by decide +kernel
theorem dX10_told_64 : decode cX10_told 64 = .ok (.isub, 1) := by decide +kernel
theorem dX10_told_65 : decode cX10_told 65 = .ok (.iaload, 1) := by decide +kernel
theorem dX10_told_66 : decode cX10_told 66 = .ok (.ireturn, 1) := by decide +kernel
theorem dX10_told_67 : decode cX10_told 67 = .ok (.iload_n 1, 1) := by decide +kernel
theorem dX10_told_68 : decode cX10_told 68 = .ok (.i2l, 1) := by decide +kernel
theorem dX10_told_69 : decode cX10_told 69 = .ok (.ldc2_w 245, 3) := by decide +kernel
theorem dX10_told_72 : decode cX10_told 72 = .ok (.ldc2_w 247, 3) := by decide +kernel
theorem dX10_told_75 : decode cX10_told 75 = .ok (.invokestatic 66, 3) := by decide +kernel
theorem dX10_told_78 : decode cX10_told 78 = .ok (.ifCond .eq 13, 3) := by decide +kernel
theorem dX10_told_81 : decode cX10_told 81 = .ok (.aload_n 0, 1) := by decide +kernel
theorem dX10_told_82 : decode cX10_told 82 = .ok (.getfield 34, 3) := by decide +kernel
theorem dX10_told_85 : decode cX10_told 85 = .ok (.iload_n 1, 1) := by decide +kernel
theorem dX10_told_86 : decode cX10_told 86 = .ok (.bipush 8, 2) := by decide +kernel
theorem dX10_told_88 : decode cX10_told 88 = .ok (.isub, 1) := by decide +kernel
theorem dX10_told_89 : decode cX10_told 89 = .ok (.iaload, 1) := by decide +kernel
theorem dX10_told_90 : decode cX10_told 90 = .ok (.ireturn, 1) := by decide +kernel
theorem dX10_told_91 : decode cX10_told 91 = .ok (.iload_n 1, 1) := by decide +kernel
theorem dX10_told_92 : decode cX10_told 92 = .ok (.ifCond .ne 10, 3) := by decide +kernel
theorem dX10_told_95 : decode cX10_told 95 = .ok (.aload_n 0, 1) := by decide +kernel
theorem dX10_told_96 : decode cX10_told 96 = .ok (.getfield 131, 3) := by decide +kernel
theorem dX10_told_99 : decode cX10_told 99 = .ok (.goto 5, 3) := by decide +kernel
theorem dX10_told_102 : decode cX10_told 102 = .ok (.bipush (-2), 2) := by decide +kernel
theorem dX10_told_104 : decode cX10_told 104 = .ok (.ireturn, 1) := by decide +kernel
