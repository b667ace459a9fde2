theorem dX0_init_0 : decode cX0_init 0 = .ok (.aload_n 0, 1) := by decide +kernel
theorem dX0_init_1 : decode cX0_init 1 = .ok (.invokespecial 3, 3) := by decide +kernel
theorem dX0_init_4 : decode cX0_init 4 = .ok (.aload_n 0, 1) := by decide +kernel
theorem dX0_init_5 : decode cX0_init 5 = .ok (.sipush 8591, 3) := by decide +kernel
theorem dX0_init_8 : decode cX0_init 8 = .ok (.newarray .int, 2) := by decide +kernel
theorem dX0_init_10 : decode cX0_init 10 = .ok (.putfield 9, 3) := by decide +kernel
theorem dX0_init_13 : decode cX0_init 13 = .ok (.aload_n 0, 1) := by decide +kernel
theorem dX0_init_14 : decode cX0_init 14 = .ok (.iconst 1, 1) := by decide +kernel
theorem dX0_init_15 : decode cX0_init 15 = .ok (.putfield 13, 3) := by decide +kernel
theorem dX0_init_18 : decode cX0_init 18 = .ok (.return_, 1) := by decide +kernel
theorem dX0_reckon_0 : decode cX0_reckon 0 = .ok (.aload_n 1, 1) := by decide +kernel
theorem dX0_reckon_1 : decode cX0_reckon 1 = .ok (.getfield 17, 3) := by decide +kernel
theorem dX0_reckon_4 : decode cX0_reckon 4 = .ok (.iload_n 2, 1) := by decide +kernel
theorem dX0_reckon_5 : decode cX0_reckon 5 = .ok (.iaload, 1) := by decide +kernel
theorem dX0_reckon_6 : decode cX0_reckon 6 = .ok (.istore_n 3, 1) := by decide +kernel
theorem dX0_reckon_7 : decode cX0_reckon 7 = .ok (.aload_n 1, 1) := by decide +kernel
theorem dX0_reckon_8 : decode cX0_reckon 8 = .ok (.getfield 17, 3) := by decide +kernel
theorem dX0_reckon_11 : decode cX0_reckon 11 = .ok (.iload_n 2, 1) := by decide +kernel
theorem dX0_reckon_12 : decode cX0_reckon 12 = .ok (.iconst 1, 1) := by decide +kernel
theorem dX0_reckon_13 : decode cX0_reckon 13 = .ok (.iadd, 1) := by decide +kernel
theorem dX0_reckon_14 : decode cX0_reckon 14 = .ok (.iaload, 1) := by decide +kernel
theorem dX0_reckon_15 : decode cX0_reckon 15 = .ok (.istore 4, 2) := by decide +kernel
theorem dX0_reckon_17 : decode cX0_reckon 17 = .ok (.aload_n 1, 1) := by decide +kernel
theorem dX0_reckon_18 : decode cX0_reckon 18 = .ok (.getfield 17, 3) := by decide +kernel
theorem dX0_reckon_21 : decode cX0_reckon 21 = .ok (.iload_n 2, 1) := by decide +kernel
theorem dX0_reckon_22 : decode cX0_reckon 22 = .ok (.iconst 2, 1) := by decide +kernel
theorem dX0_reckon_23 : decode cX0_reckon 23 = .ok (.iadd, 1) := by decide +kernel
theorem dX0_reckon_24 : decode cX0_reckon 24 = .ok (.iaload, 1) := by decide +kernel
theorem dX0_reckon_25 : decode cX0_reckon 25 = .ok (.istore 5, 2) := by decide +kernel
theorem dX0_reckon_27 : decode cX0_reckon 27 = .ok (.iload 5, 2) := by decide +kernel
theorem dX0_reckon_29 : decode cX0_reckon 29 = .ok (.iload_n 3, 1) := by decide +kernel
theorem dX0_reckon_30 : decode cX0_reckon 30 = .ok (.isub, 1) := by decide +kernel
theorem dX0_reckon_31 : decode cX0_reckon 31 = .ok (.istore 6, 2) := by decide +kernel
theorem dX0_reckon_33 : decode cX0_reckon 33 = .ok (.iload 6, 2) := by decide +kernel
theorem dX0_reckon_35 : decode cX0_reckon 35 = .ok (.bipush 20, 2) := by decide +kernel
theorem dX0_reckon_37 : decode cX0_reckon 37 = .ok (.if_icmp .le 5, 3) := by decide +kernel
theorem dX0_reckon_40 : decode cX0_reckon 40 = .ok (.iconst 0, 1) := by decide +kernel
theorem dX0_reckon_41 : decode cX0_reckon 41 = .ok (.ireturn, 1) := by decide +kernel
theorem dX0_reckon_42 : decode cX0_reckon 42 = .ok (.iload 5, 2) := by decide +kernel
theorem dX0_reckon_44 : decode cX0_reckon 44 = .ok (.iload 4, 2) := by decide +kernel
theorem dX0_reckon_46 : decode cX0_reckon 46 = .ok (.isub, 1) := by decide +kernel
theorem dX0_reckon_47 : decode cX0_reckon 47 = .ok (.iload 4, 2) := by decide +kernel
theorem dX0_reckon_49 : decode cX0_reckon 49 = .ok (.iload_n 3, 1) := by decide +kernel
theorem dX0_reckon_50 : decode cX0_reckon 50 = .ok (.isub, 1) := by decide +kernel
theorem dX0_reckon_51 : decode cX0_reckon 51 = .ok (.if_icmp .gt 7, 3) := by decide +kernel
theorem dX0_reckon_54 : decode cX0_reckon 54 = .ok (.iconst 1, 1) := by decide +kernel
theorem dX0_reckon_55 : decode cX0_reckon 55 = .ok (.goto 4, 3) := by decide +kernel
theorem dX0_reckon_58 : decode cX0_reckon 58 = .ok (.iconst 0, 1) := by decide +kernel
theorem dX0_reckon_59 : decode cX0_reckon 59 = .ok (.istore 7, 2) := by decide +kernel
theorem dX0_reckon_61 : decode cX0_reckon 61 = .ok (.iload 7, 2) := by decide +kernel
theorem dX0_reckon_63 : decode cX0_reckon 63 = .ok (.ifCond .eq 8, 3) := by decide +kernel
theorem dX0_reckon_66 : decode cX0_reckon 66 = .ok (.iload 4, 2) := by decide +kernel
theorem dX0_reckon_68 : decode cX0_reckon 68 = .ok (.goto 4, 3) := by decide +kernel
theorem dX0_reckon_71 : decode cX0_reckon 71 = .ok (.iload_n 3, 1) := by decide +kernel
theorem dX0_reckon_72 : decode cX0_reckon 72 = .ok (.istore 8, 2) := by decide +kernel
theorem dX0_reckon_74 : decode cX0_reckon 74 = .ok (.iload 7, 2) := by decide +kernel
theorem dX0_reckon_76 : decode cX0_reckon 76 = .ok (.ifCond .eq 11, 3) := by decide +kernel
theorem dX0_reckon_79 : decode cX0_reckon 79 = .ok (.iload 5, 2) := by decide +kernel
theorem dX0_reckon_81 : decode cX0_reckon 81 = .ok (.iload 4, 2) := by decide +kernel
theorem dX0_reckon_83 : decode cX0_reckon 83 = .ok (.isub, 1) := by decide +kernel
theorem dX0_reckon_84 : decode cX0_reckon 84 = .ok (.goto 7, 3) := by decide +kernel
theorem dX0_reckon_87 : decode cX0_reckon 87 = .ok (.iload 4, 2) := by decide +kernel
theorem dX0_reckon_89 : decode cX0_reckon 89 = .ok (.iload_n 3, 1) := by decide +kernel
theorem dX0_reckon_90 : decode cX0_reckon 90 = .ok (.isub, 1) := by decide +kernel
theorem dX0_reckon_91 : decode cX0_reckon 91 = .ok (.istore 9, 2) := by decide +kernel
theorem dX0_reckon_93 : decode cX0_reckon 93 = .ok (.aload_n 1, 1) := by decide +kernel
theorem dX0_reckon_94 : decode cX0_reckon 94 = .ok (.iload_n 2, 1) := by decide +kernel
theorem dX0_reckon_95 : decode cX0_reckon 95 = .ok (.invokevirtual 22, 3) := by decide +kernel
theorem dX0_reckon_98 : decode cX0_reckon 98 = .ok (.ifCond .le 7, 3) := by decide +kernel
theorem dX0_reckon_101 : decode cX0_reckon 101 = .ok (.iconst 1, 1) := by decide +kernel
theorem dX0_reckon_102 : decode cX0_reckon 102 = .ok (.goto 4, 3) := by decide +kernel
theorem dX0_reckon_105 : decode cX0_reckon 105 = .ok (.iconst 0, 1) := by decide +kernel
theorem dX0_reckon_106 : decode cX0_reckon 106 = .ok (.iload 7, 2) := by decide +kernel
theorem dX0_reckon_108 : decode cX0_reckon 108 = .ok (.if_icmp .ne 7, 3) := by decide +kernel
theorem dX0_reckon_111 : decode cX0_reckon 111 = .ok (.iconst 1, 1) := by decide +kernel
theorem dX0_reckon_112 : decode cX0_reckon 112 = .ok (.goto 4, 3) := by decide +kernel
theorem dX0_reckon_115 : decode cX0_reckon 115 = .ok (.iconst 0, 1) := by decide +kernel
theorem dX0_reckon_116 : decode cX0_reckon 116 = .ok (.istore 10, 2) := by decide +kernel
theorem dX0_reckon_118 : decode cX0_reckon 118 = .ok (.aload_n 1, 1) := by decide +kernel
theorem dX0_reckon_119 : decode cX0_reckon 119 = .ok (.getfield 26, 3) := by decide +kernel
theorem dX0_reckon_122 : decode cX0_reckon 122 = .ok (.iload_n 3, 1) := by decide +kernel
theorem dX0_reckon_123 : decode cX0_reckon 123 = .ok (.iload 5, 2) := by decide +kernel
theorem dX0_reckon_125 : decode cX0_reckon 125 = .ok (.iload 10, 2) := by decide +kernel
theorem dX0_reckon_127 : decode cX0_reckon 127 = .ok (.invokestatic 29, 3) := by decide +kernel
theorem dX0_reckon_130 : decode cX0_reckon 130 = .ok (.istore 11, 2) := by decide +kernel
theorem dX0_reckon_132 : decode cX0_reckon 132 = .ok (.iconst 0, 1) := by decide +kernel
theorem dX0_reckon_133 : decode cX0_reckon 133 = .ok (.istore 12, 2) := by decide +kernel
theorem dX0_reckon_135 : decode cX0_reckon 135 = .ok (.iload 8, 2) := by decide +kernel
theorem dX0_reckon_137 : decode cX0_reckon 137 = .ok (.istore 13, 2) := by decide +kernel
theorem dX0_reckon_139 : decode cX0_reckon 139 = .ok (.iload 13, 2) := by decide +kernel
theorem dX0_reckon_141 : decode cX0_reckon 141 = .ok (.iload 8, 2) := by decide +kernel
theorem dX0_reckon_143 : decode cX0_reckon 143 = .ok (.iload 9, 2) := by decide +kernel
theorem dX0_reckon_145 : decode cX0_reckon 145 = .ok (.iadd, 1) := by decide +kernel
theorem dX0_reckon_146 : decode cX0_reckon 146 = .ok (.if_icmp .ge 27, 3) := by decide +kernel
theorem dX0_reckon_149 : decode cX0_reckon 149 = .ok (.iload 12, 2) := by decide +kernel
theorem dX0_reckon_151 : decode cX0_reckon 151 = .ok (.iload 11, 2) := by decide +kernel
theorem dX0_reckon_153 : decode cX0_reckon 153 = .ok (.aload_n 1, 1) := by decide +kernel
theorem dX0_reckon_154 : decode cX0_reckon 154 = .ok (.getfield 26, 3) := by decide +kernel
theorem dX0_reckon_157 : decode cX0_reckon 157 = .ok (.iload 13, 2) := by decide +kernel
theorem dX0_reckon_159 : decode cX0_reckon 159 = .ok (.iaload, 1) := by decide +kernel
theorem dX0_reckon_160 : decode cX0_reckon 160 = .ok (.isub, 1) := by decide +kernel
theorem dX0_reckon_161 : decode cX0_reckon 161 = .ok (.invokestatic 33, 3) := by decide +kernel
theorem dX0_reckon_164 : decode cX0_reckon 164 = .ok (.iadd, 1) := by decide +kernel
theorem dX0_reckon_165 : decode cX0_reckon 165 = .ok (.istore 12, 2) := by decide +kernel
theorem dX0_reckon_167 : decode cX0_reckon 167 = .ok (.iinc 13 1, 3) := by decide +kernel
theorem dX0_reckon_170 : decode cX0_reckon 170 = .ok (.goto (-31), 3) := by decide +kernel
theorem dX0_reckon_173 : decode cX0_reckon 173 = .ok (.aload_n 0, 1) := by decide +kernel
theorem dX0_reckon_174 : decode cX0_reckon 174 = .ok (.aload_n 0, 1) := by decide +kernel
theorem dX0_reckon_175 : decode cX0_reckon 175 = .ok (.aload_n 1, 1) := by decide +kernel
theorem dX0_reckon_176 : decode cX0_reckon 176 = .ok (.getfield 26, 3) := by decide +kernel
theorem dX0_reckon_179 : decode cX0_reckon 179 = .ok (.iload_n 3, 1) := by decide +kernel
theorem dX0_reckon_180 : decode cX0_reckon 180 = .ok (.iload 5, 2) := by decide +kernel
theorem dX0_reckon_182 : decode cX0_reckon 182 = .ok (.iload 11, 2) := by decide +kernel
theorem dX0_reckon_184 : decode cX0_reckon 184 = .ok (.iload 9, 2) := by decide +kernel
theorem dX0_reckon_186 : decode cX0_reckon 186 = .ok (.iload 12, 2) := by decide +kernel
theorem dX0_reckon_188 : decode cX0_reckon 188 = .ok (.invokevirtual 38, 3) := by decide +kernel
theorem dX0_reckon_191 : decode cX0_reckon 191 = .ok (.putfield 42, 3) := by decide +kernel
theorem dX0_reckon_194 : decode cX0_reckon 194 = .ok (.aload_n 0, 1) := by decide +kernel
theorem dX0_reckon_195 : decode cX0_reckon 195 = .ok (.iload 6, 2) := by decide +kernel
theorem dX0_reckon_197 : decode cX0_reckon 197 = .ok (.iload 9, 2) := by decide +kernel
theorem dX0_reckon_199 : decode cX0_reckon 199 = .ok (.invokestatic 45, 3) := by decide +kernel
theorem dX0_reckon_202 : decode cX0_reckon 202 = .ok (.putfield 13, 3) := by decide +kernel
theorem dX0_reckon_205 : decode cX0_reckon 205 = .ok (.aload_n 0, 1) := by decide +kernel
theorem dX0_reckon_206 : decode cX0_reckon 206 = .ok (.getfield 13, 3) := by decide +kernel
theorem dX0_reckon_209 : decode cX0_reckon 209 = .ok (.aload_n 0, 1) := by decide +kernel
theorem dX0_reckon_210 : decode cX0_reckon 210 = .ok (.getfield 42, 3) := by decide +kernel
theorem dX0_reckon_213 : decode cX0_reckon 213 = .ok (.invokestatic 49, 3) := by decide +kernel
theorem dX0_reckon_216 : decode cX0_reckon 216 = .ok (.istore 13, 2) := by decide +kernel
theorem dX0_reckon_218 : decode cX0_reckon 218 = .ok (.iload 13, 2) := by decide +kernel
theorem dX0_reckon_220 : decode cX0_reckon 220 = .ok (.iconst 1, 1) := by decide +kernel
theorem dX0_reckon_221 : decode cX0_reckon 221 = .ok (.if_icmp .le 25, 3) := by decide +kernel
theorem dX0_reckon_224 : decode cX0_reckon 224 = .ok (.aload_n 0, 1) := by decide +kernel
theorem dX0_reckon_225 : decode cX0_reckon 225 = .ok (.dup, 1) := by decide +kernel
theorem dX0_reckon_226 : decode cX0_reckon 226 = .ok (.getfield 42, 3) := by decide +kernel
theorem dX0_reckon_229 : decode cX0_reckon 229 = .ok (.iload 13, 2) := by decide +kernel
theorem dX0_reckon_231 : decode cX0_reckon 231 = .ok (.idiv, 1) := by decide +kernel
theorem dX0_reckon_232 : decode cX0_reckon 232 = .ok (.putfield 42, 3) := by decide +kernel
theorem dX0_reckon_235 : decode cX0_reckon 235 = .ok (.aload_n 0, 1) := by decide +kernel
theorem dX0_reckon_236 : decode cX0_reckon 236 = .ok (.dup, 1) := by decide +kernel
theorem dX0_reckon_237 : decode cX0_reckon 237 = .ok (.getfield 13, 3) := by decide +kernel
theorem dX0_reckon_240 : decode cX0_reckon 240 = .ok (.iload 13, 2) := by decide +kernel
theorem dX0_reckon_242 : decode cX0_reckon 242 = .ok (.idiv, 1) := by decide +kernel
theorem dX0_reckon_243 : decode cX0_reckon 243 = .ok (.putfield 13, 3) := by decide +kernel
theorem dX0_reckon_246 : decode cX0_reckon 246 = .ok (.iconst 1, 1) := by decide +kernel
theorem dX0_reckon_247 : decode cX0_reckon 247 = .ok (.ireturn, 1) := by decide +kernel
theorem dX0_outermost_0 : decode cX0_outermost 0 = .ok (.aload_n 0, 1) := by decide +kernel
theorem dX0_outermost_1 : decode cX0_outermost 1 = .ok (.iload_n 1, 1) := by decide +kernel
theorem dX0_outermost_2 : decode cX0_outermost 2 = .ok (.iaload, 1) := by decide +kernel
theorem dX0_outermost_3 : decode cX0_outermost 3 = .ok (.istore 4, 2) := by decide +kernel
theorem dX0_outermost_5 : decode cX0_outermost 5 = .ok (.iload_n 1, 1) := by decide +kernel
theorem dX0_outermost_6 : decode cX0_outermost 6 = .ok (.iconst 1, 1) := by decide +kernel
theorem dX0_outermost_7 : decode cX0_outermost 7 = .ok (.iadd, 1) := by decide +kernel
theorem dX0_outermost_8 : decode cX0_outermost 8 = .ok (.istore 5, 2) := by decide +kernel
theorem dX0_outermost_10 : decode cX0_outermost 10 = .ok (.iload 5, 2) := by decide +kernel
theorem dX0_outermost_12 : decode cX0_outermost 12 = .ok (.iload_n 2, 1) := by decide +kernel
theorem dX0_outermost_13 : decode cX0_outermost 13 = .ok (.if_icmp .ge 36, 3) := by decide +kernel
theorem dX0_outermost_16 : decode cX0_outermost 16 = .ok (.iload_n 3, 1) := by decide +kernel
theorem dX0_outermost_17 : decode cX0_outermost 17 = .ok (.ifCond .eq 15, 3) := by decide +kernel
theorem dX0_outermost_20 : decode cX0_outermost 20 = .ok (.iload 4, 2) := by decide +kernel
theorem dX0_outermost_22 : decode cX0_outermost 22 = .ok (.aload_n 0, 1) := by decide +kernel
theorem dX0_outermost_23 : decode cX0_outermost 23 = .ok (.iload 5, 2) := by decide +kernel
theorem dX0_outermost_25 : decode cX0_outermost 25 = .ok (.iaload, 1) := by decide +kernel
theorem dX0_outermost_26 : decode cX0_outermost 26 = .ok (.invokestatic 52, 3) := by decide +kernel
theorem dX0_outermost_29 : decode cX0_outermost 29 = .ok (.goto 12, 3) := by decide +kernel
theorem dX0_outermost_32 : decode cX0_outermost 32 = .ok (.iload 4, 2) := by decide +kernel
theorem dX0_outermost_34 : decode cX0_outermost 34 = .ok (.aload_n 0, 1) := by decide +kernel
theorem dX0_outermost_35 : decode cX0_outermost 35 = .ok (.iload 5, 2) := by decide +kernel
theorem dX0_outermost_37 : decode cX0_outermost 37 = .ok (.iaload, 1) := by decide +kernel
theorem dX0_outermost_38 : decode cX0_outermost 38 = .ok (.invokestatic 55, 3) := by decide +kernel
theorem dX0_outermost_41 : decode cX0_outermost 41 = .ok (.istore 4, 2) := by decide +kernel
theorem dX0_outermost_43 : decode cX0_outermost 43 = .ok (.iinc 5 1, 3) := by decide +kernel
theorem dX0_outermost_46 : decode cX0_outermost 46 = .ok (.goto (-36), 3) := by decide +kernel
theorem dX0_outermost_49 : decode cX0_outermost 49 = .ok (.iload 4, 2) := by decide +kernel
theorem dX0_outermost_51 : decode cX0_outermost 51 = .ok (.ireturn, 1) := by decide +kernel
theorem dX0_countUpTo_0 : decode cX0_countUpTo 0 = .ok (.aload_n 0, 1) := by decide +kernel
theorem dX0_countUpTo_1 : decode cX0_countUpTo 1 = .ok (.iload 5, 2) := by decide +kernel
theorem dX0_countUpTo_3 : decode cX0_countUpTo 3 = .ok (.iload 6, 2) := by decide +kernel
theorem dX0_countUpTo_5 : decode cX0_countUpTo 5 = .ok (.invokevirtual 58, 3) := by decide +kernel
theorem dX0_countUpTo_8 : decode cX0_countUpTo 8 = .ok (.iload_n 2, 1) := by decide +kernel
theorem dX0_countUpTo_9 : decode cX0_countUpTo 9 = .ok (.istore 7, 2) := by decide +kernel
theorem dX0_countUpTo_11 : decode cX0_countUpTo 11 = .ok (.iload 7, 2) := by decide +kernel
theorem dX0_countUpTo_13 : decode cX0_countUpTo 13 = .ok (.iload_n 3, 1) := by decide +kernel
theorem dX0_countUpTo_14 : decode cX0_countUpTo 14 = .ok (.if_icmp .ge 36, 3) := by decide +kernel
theorem dX0_countUpTo_17 : decode cX0_countUpTo 17 = .ok (.aload_n 0, 1) := by decide +kernel
theorem dX0_countUpTo_18 : decode cX0_countUpTo 18 = .ok (.iload 4, 2) := by decide +kernel
theorem dX0_countUpTo_20 : decode cX0_countUpTo 20 = .ok (.aload_n 1, 1) := by decide +kernel
theorem dX0_countUpTo_21 : decode cX0_countUpTo 21 = .ok (.iload 7, 2) := by decide +kernel
theorem dX0_countUpTo_23 : decode cX0_countUpTo 23 = .ok (.iaload, 1) := by decide +kernel
theorem dX0_countUpTo_24 : decode cX0_countUpTo 24 = .ok (.isub, 1) := by decide +kernel
theorem dX0_countUpTo_25 : decode cX0_countUpTo 25 = .ok (.invokestatic 33, 3) := by decide +kernel
theorem dX0_countUpTo_28 : decode cX0_countUpTo 28 = .ok (.iload 5, 2) := by decide +kernel
theorem dX0_countUpTo_30 : decode cX0_countUpTo 30 = .ok (.iload 7, 2) := by decide +kernel
theorem dX0_countUpTo_32 : decode cX0_countUpTo 32 = .ok (.iload_n 2, 1) := by decide +kernel
theorem dX0_countUpTo_33 : decode cX0_countUpTo 33 = .ok (.isub, 1) := by decide +kernel
theorem dX0_countUpTo_34 : decode cX0_countUpTo 34 = .ok (.iconst 1, 1) := by decide +kernel
theorem dX0_countUpTo_35 : decode cX0_countUpTo 35 = .ok (.iadd, 1) := by decide +kernel
theorem dX0_countUpTo_36 : decode cX0_countUpTo 36 = .ok (.invokestatic 55, 3) := by decide +kernel
theorem dX0_countUpTo_39 : decode cX0_countUpTo 39 = .ok (.iload 6, 2) := by decide +kernel
theorem dX0_countUpTo_41 : decode cX0_countUpTo 41 = .ok (.invokevirtual 62, 3) := by decide +kernel
theorem dX0_countUpTo_44 : decode cX0_countUpTo 44 = .ok (.iinc 7 1, 3) := by decide +kernel
theorem dX0_countUpTo_47 : decode cX0_countUpTo 47 = .ok (.goto (-36), 3) := by decide +kernel
theorem dX0_countUpTo_50 : decode cX0_countUpTo 50 = .ok (.iconst 0, 1) := by decide +kernel
theorem dX0_countUpTo_51 : decode cX0_countUpTo 51 = .ok (.istore 7, 2) := by decide +kernel
theorem dX0_countUpTo_53 : decode cX0_countUpTo 53 = .ok (.iconst 0, 1) := by decide +kernel
theorem dX0_countUpTo_54 : decode cX0_countUpTo 54 = .ok (.istore 8, 2) := by decide +kernel
theorem dX0_countUpTo_56 : decode cX0_countUpTo 56 = .ok (.iload 8, 2) := by decide +kernel
theorem dX0_countUpTo_58 : decode cX0_countUpTo 58 = .ok (.iload 6, 2) := by decide +kernel
theorem dX0_countUpTo_60 : decode cX0_countUpTo 60 = .ok (.if_icmp .gt 28, 3) := by decide +kernel
theorem dX0_countUpTo_63 : decode cX0_countUpTo 63 = .ok (.iload 7, 2) := by decide +kernel
theorem dX0_countUpTo_65 : decode cX0_countUpTo 65 = .ok (.aload_n 0, 1) := by decide +kernel
theorem dX0_countUpTo_66 : decode cX0_countUpTo 66 = .ok (.getfield 9, 3) := by decide +kernel
theorem dX0_countUpTo_69 : decode cX0_countUpTo 69 = .ok (.iload 5, 2) := by decide +kernel
theorem dX0_countUpTo_71 : decode cX0_countUpTo 71 = .ok (.sipush 781, 3) := by decide +kernel
theorem dX0_countUpTo_74 : decode cX0_countUpTo 74 = .ok (.imul, 1) := by decide +kernel
theorem dX0_countUpTo_75 : decode cX0_countUpTo 75 = .ok (.iload 8, 2) := by decide +kernel
theorem dX0_countUpTo_77 : decode cX0_countUpTo 77 = .ok (.iadd, 1) := by decide +kernel
theorem dX0_countUpTo_78 : decode cX0_countUpTo 78 = .ok (.iaload, 1) := by decide +kernel
theorem dX0_countUpTo_79 : decode cX0_countUpTo 79 = .ok (.iadd, 1) := by decide +kernel
theorem dX0_countUpTo_80 : decode cX0_countUpTo 80 = .ok (.istore 7, 2) := by decide +kernel
theorem dX0_countUpTo_82 : decode cX0_countUpTo 82 = .ok (.iinc 8 1, 3) := by decide +kernel
theorem dX0_countUpTo_85 : decode cX0_countUpTo 85 = .ok (.goto (-29), 3) := by decide +kernel
theorem dX0_countUpTo_88 : decode cX0_countUpTo 88 = .ok (.iload 7, 2) := by decide +kernel
theorem dX0_countUpTo_90 : decode cX0_countUpTo 90 = .ok (.ireturn, 1) := by decide +kernel
theorem dX0_clear_0 : decode cX0_clear 0 = .ok (.iconst 0, 1) := by decide +kernel
theorem dX0_clear_1 : decode cX0_clear 1 = .ok (.istore_n 3, 1) := by decide +kernel
theorem dX0_clear_2 : decode cX0_clear 2 = .ok (.iload_n 3, 1) := by decide +kernel
theorem dX0_clear_3 : decode cX0_clear 3 = .ok (.iload_n 1, 1) := by decide +kernel
theorem dX0_clear_4 : decode cX0_clear 4 = .ok (.if_icmp .gt 38, 3) := by decide +kernel
theorem dX0_clear_7 : decode cX0_clear 7 = .ok (.iconst 0, 1) := by decide +kernel
theorem dX0_clear_8 : decode cX0_clear 8 = .ok (.istore 4, 2) := by decide +kernel
theorem dX0_clear_10 : decode cX0_clear 10 = .ok (.iload 4, 2) := by decide +kernel
theorem dX0_clear_12 : decode cX0_clear 12 = .ok (.iload_n 2, 1) := by decide +kernel
theorem dX0_clear_13 : decode cX0_clear 13 = .ok (.if_icmp .gt 23, 3) := by decide +kernel
theorem dX0_clear_16 : decode cX0_clear 16 = .ok (.aload_n 0, 1) := by decide +kernel
theorem dX0_clear_17 : decode cX0_clear 17 = .ok (.getfield 9, 3) := by decide +kernel
theorem dX0_clear_20 : decode cX0_clear 20 = .ok (.iload_n 3, 1) := by decide +kernel
theorem dX0_clear_21 : decode cX0_clear 21 = .ok (.sipush 781, 3) := by decide +kernel
theorem dX0_clear_24 : decode cX0_clear 24 = .ok (.imul, 1) := by decide +kernel
theorem dX0_clear_25 : decode cX0_clear 25 = .ok (.iload 4, 2) := by decide +kernel
theorem dX0_clear_27 : decode cX0_clear 27 = .ok (.iadd, 1) := by decide +kernel
theorem dX0_clear_28 : decode cX0_clear 28 = .ok (.iconst 0, 1) := by decide +kernel
theorem dX0_clear_29 : decode cX0_clear 29 = .ok (.iastore, 1) := by decide +kernel
theorem dX0_clear_30 : decode cX0_clear 30 = .ok (.iinc 4 1, 3) := by decide +kernel
theorem dX0_clear_33 : decode cX0_clear 33 = .ok (.goto (-23), 3) := by decide +kernel
theorem dX0_clear_36 : decode cX0_clear 36 = .ok (.iinc 3 1, 3) := by decide +kernel
theorem dX0_clear_39 : decode cX0_clear 39 = .ok (.goto (-37), 3) := by decide +kernel
theorem dX0_clear_42 : decode cX0_clear 42 = .ok (.aload_n 0, 1) := by decide +kernel
theorem dX0_clear_43 : decode cX0_clear 43 = .ok (.getfield 9, 3) := by decide +kernel
theorem dX0_clear_46 : decode cX0_clear 46 = .ok (.iconst 0, 1) := by decide +kernel
theorem dX0_clear_47 : decode cX0_clear 47 = .ok (.iconst 1, 1) := by decide +kernel
theorem dX0_clear_48 : decode cX0_clear 48 = .ok (.iastore, 1) := by decide +kernel
theorem dX0_clear_49 : decode cX0_clear 49 = .ok (.return_, 1) := by decide +kernel
theorem dX0_addOne_0 : decode cX0_addOne 0 = .ok (.iload_n 2, 1) := by decide +kernel
theorem dX0_addOne_1 : decode cX0_addOne 1 = .ok (.istore 4, 2) := by decide +kernel
theorem dX0_addOne_3 : decode cX0_addOne 3 = .ok (.iload 4, 2) := by decide +kernel
theorem dX0_addOne_5 : decode cX0_addOne 5 = .ok (.ifCond .le 65, 3) := by decide +kernel
theorem dX0_addOne_8 : decode cX0_addOne 8 = .ok (.iload 4, 2) := by decide +kernel
theorem dX0_addOne_10 : decode cX0_addOne 10 = .ok (.sipush 781, 3) := by decide +kernel
theorem dX0_addOne_13 : decode cX0_addOne 13 = .ok (.imul, 1) := by decide +kernel
theorem dX0_addOne_14 : decode cX0_addOne 14 = .ok (.istore 5, 2) := by decide +kernel
theorem dX0_addOne_16 : decode cX0_addOne 16 = .ok (.iload 5, 2) := by decide +kernel
theorem dX0_addOne_18 : decode cX0_addOne 18 = .ok (.sipush 781, 3) := by decide +kernel
theorem dX0_addOne_21 : decode cX0_addOne 21 = .ok (.isub, 1) := by decide +kernel
theorem dX0_addOne_22 : decode cX0_addOne 22 = .ok (.iload_n 1, 1) := by decide +kernel
theorem dX0_addOne_23 : decode cX0_addOne 23 = .ok (.isub, 1) := by decide +kernel
theorem dX0_addOne_24 : decode cX0_addOne 24 = .ok (.istore 6, 2) := by decide +kernel
theorem dX0_addOne_26 : decode cX0_addOne 26 = .ok (.iload_n 1, 1) := by decide +kernel
theorem dX0_addOne_27 : decode cX0_addOne 27 = .ok (.istore 7, 2) := by decide +kernel
theorem dX0_addOne_29 : decode cX0_addOne 29 = .ok (.iload 7, 2) := by decide +kernel
theorem dX0_addOne_31 : decode cX0_addOne 31 = .ok (.iload_n 3, 1) := by decide +kernel
theorem dX0_addOne_32 : decode cX0_addOne 32 = .ok (.if_icmp .gt 32, 3) := by decide +kernel
theorem dX0_addOne_35 : decode cX0_addOne 35 = .ok (.aload_n 0, 1) := by decide +kernel
theorem dX0_addOne_36 : decode cX0_addOne 36 = .ok (.getfield 9, 3) := by decide +kernel
theorem dX0_addOne_39 : decode cX0_addOne 39 = .ok (.iload 5, 2) := by decide +kernel
theorem dX0_addOne_41 : decode cX0_addOne 41 = .ok (.iload 7, 2) := by decide +kernel
theorem dX0_addOne_43 : decode cX0_addOne 43 = .ok (.iadd, 1) := by decide +kernel
theorem dX0_addOne_44 : decode cX0_addOne 44 = .ok (.dup2, 1) := by decide +kernel
theorem dX0_addOne_45 : decode cX0_addOne 45 = .ok (.iaload, 1) := by decide +kernel
theorem dX0_addOne_46 : decode cX0_addOne 46 = .ok (.aload_n 0, 1) := by decide +kernel
theorem dX0_addOne_47 : decode cX0_addOne 47 = .ok (.getfield 9, 3) := by decide +kernel
theorem dX0_addOne_50 : decode cX0_addOne 50 = .ok (.iload 6, 2) := by decide +kernel
theorem dX0_addOne_52 : decode cX0_addOne 52 = .ok (.iload 7, 2) := by decide +kernel
theorem dX0_addOne_54 : decode cX0_addOne 54 = .ok (.iadd, 1) := by decide +kernel
theorem dX0_addOne_55 : decode cX0_addOne 55 = .ok (.iaload, 1) := by decide +kernel
theorem dX0_addOne_56 : decode cX0_addOne 56 = .ok (.iadd, 1) := by decide +kernel
theorem dX0_addOne_57 : decode cX0_addOne 57 = .ok (.iastore, 1) := by decide +kernel
theorem dX0_addOne_58 : decode cX0_addOne 58 = .ok (.iinc 7 1, 3) := by decide +kernel
theorem dX0_addOne_61 : decode cX0_addOne 61 = .ok (.goto (-32), 3) := by decide +kernel
theorem dX0_addOne_64 : decode cX0_addOne 64 = .ok (.iinc 4 (-1), 3) := by decide +kernel
theorem dX0_addOne_67 : decode cX0_addOne 67 = .ok (.goto (-64), 3) := by decide +kernel
theorem dX0_addOne_70 : decode cX0_addOne 70 = .ok (.return_, 1) := by decide +kernel
theorem dX0_choose_0 : decode cX0_choose 0 = .ok (.iconst 1, 1) := by decide +kernel
theorem dX0_choose_1 : decode cX0_choose 1 = .ok (.istore_n 2, 1) := by decide +kernel
theorem dX0_choose_2 : decode cX0_choose 2 = .ok (.iconst 1, 1) := by decide +kernel
theorem dX0_choose_3 : decode cX0_choose 3 = .ok (.istore_n 3, 1) := by decide +kernel
theorem dX0_choose_4 : decode cX0_choose 4 = .ok (.iload_n 3, 1) := by decide +kernel
theorem dX0_choose_5 : decode cX0_choose 5 = .ok (.iload_n 1, 1) := by decide +kernel
theorem dX0_choose_6 : decode cX0_choose 6 = .ok (.if_icmp .gt 19, 3) := by decide +kernel
theorem dX0_choose_9 : decode cX0_choose 9 = .ok (.iload_n 2, 1) := by decide +kernel
theorem dX0_choose_10 : decode cX0_choose 10 = .ok (.iload_n 0, 1) := by decide +kernel
theorem dX0_choose_11 : decode cX0_choose 11 = .ok (.iload_n 1, 1) := by decide +kernel
theorem dX0_choose_12 : decode cX0_choose 12 = .ok (.isub, 1) := by decide +kernel
theorem dX0_choose_13 : decode cX0_choose 13 = .ok (.iload_n 3, 1) := by decide +kernel
theorem dX0_choose_14 : decode cX0_choose 14 = .ok (.iadd, 1) := by decide +kernel
theorem dX0_choose_15 : decode cX0_choose 15 = .ok (.imul, 1) := by decide +kernel
theorem dX0_choose_16 : decode cX0_choose 16 = .ok (.iload_n 3, 1) := by decide +kernel
theorem dX0_choose_17 : decode cX0_choose 17 = .ok (.idiv, 1) := by decide +kernel
theorem dX0_choose_18 : decode cX0_choose 18 = .ok (.istore_n 2, 1) := by decide +kernel
theorem dX0_choose_19 : decode cX0_choose 19 = .ok (.iinc 3 1, 3) := by decide +kernel
theorem dX0_choose_22 : decode cX0_choose 22 = .ok (.goto (-18), 3) := by decide +kernel
theorem dX0_choose_25 : decode cX0_choose 25 = .ok (.iload_n 2, 1) := by decide +kernel
theorem dX0_choose_26 : decode cX0_choose 26 = .ok (.ireturn, 1) := by decide +kernel
theorem dX0_commonDivisor_0 : decode cX0_commonDivisor 0 = .ok (.iload_n 0, 1) := by decide +kernel
theorem dX0_commonDivisor_1 : decode cX0_commonDivisor 1 = .ok (.istore_n 2, 1) := by decide +kernel
theorem dX0_commonDivisor_2 : decode cX0_commonDivisor 2 = .ok (.iload_n 1, 1) := by decide +kernel
theorem dX0_commonDivisor_3 : decode cX0_commonDivisor 3 = .ok (.istore_n 3, 1) := by decide +kernel
theorem dX0_commonDivisor_4 : decode cX0_commonDivisor 4 = .ok (.iconst 0, 1) := by decide +kernel
theorem dX0_commonDivisor_5 : decode cX0_commonDivisor 5 = .ok (.istore 4, 2) := by decide +kernel
theorem dX0_commonDivisor_7 : decode cX0_commonDivisor 7 = .ok (.iload 4, 2) := by decide +kernel
theorem dX0_commonDivisor_9 : decode cX0_commonDivisor 9 = .ok (.bipush 64, 2) := by decide +kernel
theorem dX0_commonDivisor_11 : decode cX0_commonDivisor 11 = .ok (.if_icmp .ge 23, 3) := by decide +kernel
theorem dX0_commonDivisor_14 : decode cX0_commonDivisor 14 = .ok (.iload_n 3, 1) := by decide +kernel
theorem dX0_commonDivisor_15 : decode cX0_commonDivisor 15 = .ok (.ifCond .eq 19, 3) := by decide +kernel
theorem dX0_commonDivisor_18 : decode cX0_commonDivisor 18 = .ok (.iload_n 2, 1) := by decide +kernel
theorem dX0_commonDivisor_19 : decode cX0_commonDivisor 19 = .ok (.iload_n 3, 1) := by decide +kernel
theorem dX0_commonDivisor_20 : decode cX0_commonDivisor 20 = .ok (.irem, 1) := by decide +kernel
theorem dX0_commonDivisor_21 : decode cX0_commonDivisor 21 = .ok (.istore 5, 2) := by decide +kernel
theorem dX0_commonDivisor_23 : decode cX0_commonDivisor 23 = .ok (.iload_n 3, 1) := by decide +kernel
theorem dX0_commonDivisor_24 : decode cX0_commonDivisor 24 = .ok (.istore_n 2, 1) := by decide +kernel
theorem dX0_commonDivisor_25 : decode cX0_commonDivisor 25 = .ok (.iload 5, 2) := by decide +kernel
theorem dX0_commonDivisor_27 : decode cX0_commonDivisor 27 = .ok (.istore_n 3, 1) := by decide +kernel
theorem dX0_commonDivisor_28 : decode cX0_commonDivisor 28 = .ok (.iinc 4 1, 3) := by decide +kernel
theorem dX0_commonDivisor_31 : decode cX0_commonDivisor 31 = .ok (.goto (-24), 3) := by decide +kernel
theorem dX0_commonDivisor_34 : decode cX0_commonDivisor 34 = .ok (.iload_n 2, 1) := by decide +kernel
theorem dX0_commonDivisor_35 : decode cX0_commonDivisor 35 = .ok (.ireturn, 1) := by decide +kernel
theorem dX1_init_0 : decode cX1_init 0 = .ok (.aload_n 0, 1) := by decide +kernel
theorem dX1_init_1 : decode cX1_init 1 = .ok (.invokespecial 3, 3) := by decide +kernel
theorem dX1_init_4 : decode cX1_init 4 = .ok (.aload_n 0, 1) := by decide +kernel
theorem dX1_init_5 : decode cX1_init 5 = .ok (.bipush 40, 2) := by decide +kernel
theorem dX1_init_7 : decode cX1_init 7 = .ok (.newarray .int, 2) := by decide +kernel
theorem dX1_init_9 : decode cX1_init 9 = .ok (.putfield 9, 3) := by decide +kernel
theorem dX1_init_12 : decode cX1_init 12 = .ok (.aload_n 0, 1) := by decide +kernel
theorem dX1_init_13 : decode cX1_init 13 = .ok (.bipush 40, 2) := by decide +kernel
theorem dX1_init_15 : decode cX1_init 15 = .ok (.newarray .int, 2) := by decide +kernel
theorem dX1_init_17 : decode cX1_init 17 = .ok (.putfield 15, 3) := by decide +kernel
theorem dX1_init_20 : decode cX1_init 20 = .ok (.aload_n 0, 1) := by decide +kernel
theorem dX1_init_21 : decode cX1_init 21 = .ok (.bipush 40, 2) := by decide +kernel
theorem dX1_init_23 : decode cX1_init 23 = .ok (.newarray .int, 2) := by decide +kernel
theorem dX1_init_25 : decode cX1_init 25 = .ok (.putfield 18, 3) := by decide +kernel
theorem dX1_init_28 : decode cX1_init 28 = .ok (.aload_n 0, 1) := by decide +kernel
theorem dX1_init_29 : decode cX1_init 29 = .ok (.bipush 40, 2) := by decide +kernel
theorem dX1_init_31 : decode cX1_init 31 = .ok (.newarray .int, 2) := by decide +kernel
theorem dX1_init_33 : decode cX1_init 33 = .ok (.putfield 21, 3) := by decide +kernel
theorem dX1_init_36 : decode cX1_init 36 = .ok (.return_, 1) := by decide +kernel
theorem dX1_divide_0 : decode cX1_divide 0 = .ok (.aload_n 1, 1) := by decide +kernel
theorem dX1_divide_1 : decode cX1_divide 1 = .ok (.iload_n 2, 1) := by decide +kernel
theorem dX1_divide_2 : decode cX1_divide 2 = .ok (.invokevirtual 24, 3) := by decide +kernel
theorem dX1_divide_5 : decode cX1_divide 5 = .ok (.aload_n 1, 1) := by decide +kernel
theorem dX1_divide_6 : decode cX1_divide 6 = .ok (.getfield 30, 3) := by decide +kernel
theorem dX1_divide_9 : decode cX1_divide 9 = .ok (.iconst 1, 1) := by decide +kernel
theorem dX1_divide_10 : decode cX1_divide 10 = .ok (.isub, 1) := by decide +kernel
theorem dX1_divide_11 : decode cX1_divide 11 = .ok (.istore 4, 2) := by decide +kernel
theorem dX1_divide_13 : decode cX1_divide 13 = .ok (.iload 4, 2) := by decide +kernel
theorem dX1_divide_15 : decode cX1_divide 15 = .ok (.ifCond .lt 17, 3) := by decide +kernel
theorem dX1_divide_18 : decode cX1_divide 18 = .ok (.aload_n 0, 1) := by decide +kernel
theorem dX1_divide_19 : decode cX1_divide 19 = .ok (.aload_n 1, 1) := by decide +kernel
theorem dX1_divide_20 : decode cX1_divide 20 = .ok (.iload 4, 2) := by decide +kernel
theorem dX1_divide_22 : decode cX1_divide 22 = .ok (.iload_n 3, 1) := by decide +kernel
theorem dX1_divide_23 : decode cX1_divide 23 = .ok (.invokevirtual 34, 3) := by decide +kernel
theorem dX1_divide_26 : decode cX1_divide 26 = .ok (.iinc 4 (-1), 3) := by decide +kernel
theorem dX1_divide_29 : decode cX1_divide 29 = .ok (.goto (-16), 3) := by decide +kernel
theorem dX1_divide_32 : decode cX1_divide 32 = .ok (.aload_n 1, 1) := by decide +kernel
theorem dX1_divide_33 : decode cX1_divide 33 = .ok (.aload_n 1, 1) := by decide +kernel
theorem dX1_divide_34 : decode cX1_divide 34 = .ok (.getfield 30, 3) := by decide +kernel
theorem dX1_divide_37 : decode cX1_divide 37 = .ok (.ifCond .le 12, 3) := by decide +kernel
theorem dX1_divide_40 : decode cX1_divide 40 = .ok (.aload_n 0, 1) := by decide +kernel
theorem dX1_divide_41 : decode cX1_divide 41 = .ok (.getfield 15, 3) := by decide +kernel
theorem dX1_divide_44 : decode cX1_divide 44 = .ok (.iconst 0, 1) := by decide +kernel
theorem dX1_divide_45 : decode cX1_divide 45 = .ok (.iaload, 1) := by decide +kernel
theorem dX1_divide_46 : decode cX1_divide 46 = .ok (.goto 4, 3) := by decide +kernel
theorem dX1_divide_49 : decode cX1_divide 49 = .ok (.iconst 0, 1) := by decide +kernel
theorem dX1_divide_50 : decode cX1_divide 50 = .ok (.putfield 38, 3) := by decide +kernel
theorem dX1_divide_53 : decode cX1_divide 53 = .ok (.aload_n 0, 1) := by decide +kernel
theorem dX1_divide_54 : decode cX1_divide 54 = .ok (.aload_n 1, 1) := by decide +kernel
theorem dX1_divide_55 : decode cX1_divide 55 = .ok (.invokevirtual 41, 3) := by decide +kernel
theorem dX1_divide_58 : decode cX1_divide 58 = .ok (.aload_n 0, 1) := by decide +kernel
theorem dX1_divide_59 : decode cX1_divide 59 = .ok (.aload_n 1, 1) := by decide +kernel
theorem dX1_divide_60 : decode cX1_divide 60 = .ok (.invokevirtual 45, 3) := by decide +kernel
theorem dX1_divide_63 : decode cX1_divide 63 = .ok (.aload_n 1, 1) := by decide +kernel
theorem dX1_divide_64 : decode cX1_divide 64 = .ok (.invokevirtual 48, 3) := by decide +kernel
theorem dX1_divide_67 : decode cX1_divide 67 = .ok (.aload_n 1, 1) := by decide +kernel
theorem dX1_divide_68 : decode cX1_divide 68 = .ok (.iconst 0, 1) := by decide +kernel
theorem dX1_divide_69 : decode cX1_divide 69 = .ok (.putfield 51, 3) := by decide +kernel
theorem dX1_divide_72 : decode cX1_divide 72 = .ok (.aload_n 1, 1) := by decide +kernel
theorem dX1_divide_73 : decode cX1_divide 73 = .ok (.iload_n 2, 1) := by decide +kernel
theorem dX1_divide_74 : decode cX1_divide 74 = .ok (.putfield 55, 3) := by decide +kernel
theorem dX1_divide_77 : decode cX1_divide 77 = .ok (.aload_n 1, 1) := by decide +kernel
theorem dX1_divide_78 : decode cX1_divide 78 = .ok (.iload_n 3, 1) := by decide +kernel
theorem dX1_divide_79 : decode cX1_divide 79 = .ok (.putfield 58, 3) := by decide +kernel
theorem dX1_divide_82 : decode cX1_divide 82 = .ok (.return_, 1) := by decide +kernel
theorem dX1_solveFrom_0 : decode cX1_solveFrom 0 = .ok (.iconst 0, 1) := by decide +kernel
theorem dX1_solveFrom_1 : decode cX1_solveFrom 1 = .ok (.istore 4, 2) := by decide +kernel
theorem dX1_solveFrom_3 : decode cX1_solveFrom 3 = .ok (.iload_n 2, 1) := by decide +kernel
theorem dX1_solveFrom_4 : decode cX1_solveFrom 4 = .ok (.istore 5, 2) := by decide +kernel
theorem dX1_solveFrom_6 : decode cX1_solveFrom 6 = .ok (.iload 5, 2) := by decide +kernel
theorem dX1_solveFrom_8 : decode cX1_solveFrom 8 = .ok (.aload_n 1, 1) := by decide +kernel
theorem dX1_solveFrom_9 : decode cX1_solveFrom 9 = .ok (.getfield 30, 3) := by decide +kernel
theorem dX1_solveFrom_12 : decode cX1_solveFrom 12 = .ok (.if_icmp .ge 186, 3) := by decide +kernel
theorem dX1_solveFrom_15 : decode cX1_solveFrom 15 = .ok (.iload 5, 2) := by decide +kernel
theorem dX1_solveFrom_17 : decode cX1_solveFrom 17 = .ok (.iload_n 2, 1) := by decide +kernel
theorem dX1_solveFrom_18 : decode cX1_solveFrom 18 = .ok (.isub, 1) := by decide +kernel
theorem dX1_solveFrom_19 : decode cX1_solveFrom 19 = .ok (.istore 6, 2) := by decide +kernel
theorem dX1_solveFrom_21 : decode cX1_solveFrom 21 = .ok (.iload 4, 2) := by decide +kernel
theorem dX1_solveFrom_23 : decode cX1_solveFrom 23 = .ok (.aload_n 0, 1) := by decide +kernel
theorem dX1_solveFrom_24 : decode cX1_solveFrom 24 = .ok (.aload_n 1, 1) := by decide +kernel
theorem dX1_solveFrom_25 : decode cX1_solveFrom 25 = .ok (.getfield 61, 3) := by decide +kernel
theorem dX1_solveFrom_28 : decode cX1_solveFrom 28 = .ok (.iload 5, 2) := by decide +kernel
theorem dX1_solveFrom_30 : decode cX1_solveFrom 30 = .ok (.iaload, 1) := by decide +kernel
theorem dX1_solveFrom_31 : decode cX1_solveFrom 31 = .ok (.iload 6, 2) := by decide +kernel
theorem dX1_solveFrom_33 : decode cX1_solveFrom 33 = .ok (.invokevirtual 64, 3) := by decide +kernel
theorem dX1_solveFrom_36 : decode cX1_solveFrom 36 = .ok (.iadd, 1) := by decide +kernel
theorem dX1_solveFrom_37 : decode cX1_solveFrom 37 = .ok (.istore 4, 2) := by decide +kernel
theorem dX1_solveFrom_39 : decode cX1_solveFrom 39 = .ok (.aload_n 0, 1) := by decide +kernel
theorem dX1_solveFrom_40 : decode cX1_solveFrom 40 = .ok (.aload_n 1, 1) := by decide +kernel
theorem dX1_solveFrom_41 : decode cX1_solveFrom 41 = .ok (.getfield 61, 3) := by decide +kernel
theorem dX1_solveFrom_44 : decode cX1_solveFrom 44 = .ok (.iload 5, 2) := by decide +kernel
theorem dX1_solveFrom_46 : decode cX1_solveFrom 46 = .ok (.iaload, 1) := by decide +kernel
theorem dX1_solveFrom_47 : decode cX1_solveFrom 47 = .ok (.iload 6, 2) := by decide +kernel
theorem dX1_solveFrom_49 : decode cX1_solveFrom 49 = .ok (.invokevirtual 68, 3) := by decide +kernel
theorem dX1_solveFrom_52 : decode cX1_solveFrom 52 = .ok (.iload 5, 2) := by decide +kernel
theorem dX1_solveFrom_54 : decode cX1_solveFrom 54 = .ok (.iconst 1, 1) := by decide +kernel
theorem dX1_solveFrom_55 : decode cX1_solveFrom 55 = .ok (.iadd, 1) := by decide +kernel
theorem dX1_solveFrom_56 : decode cX1_solveFrom 56 = .ok (.istore 7, 2) := by decide +kernel
theorem dX1_solveFrom_58 : decode cX1_solveFrom 58 = .ok (.iload 7, 2) := by decide +kernel
theorem dX1_solveFrom_60 : decode cX1_solveFrom 60 = .ok (.aload_n 1, 1) := by decide +kernel
theorem dX1_solveFrom_61 : decode cX1_solveFrom 61 = .ok (.getfield 30, 3) := by decide +kernel
theorem dX1_solveFrom_64 : decode cX1_solveFrom 64 = .ok (.if_icmp .ne 7, 3) := by decide +kernel
theorem dX1_solveFrom_67 : decode cX1_solveFrom 67 = .ok (.iconst 1, 1) := by decide +kernel
theorem dX1_solveFrom_68 : decode cX1_solveFrom 68 = .ok (.goto 4, 3) := by decide +kernel
theorem dX1_solveFrom_71 : decode cX1_solveFrom 71 = .ok (.iconst 0, 1) := by decide +kernel
theorem dX1_solveFrom_72 : decode cX1_solveFrom 72 = .ok (.istore 8, 2) := by decide +kernel
theorem dX1_solveFrom_74 : decode cX1_solveFrom 74 = .ok (.iload 8, 2) := by decide +kernel
theorem dX1_solveFrom_76 : decode cX1_solveFrom 76 = .ok (.ifCond .eq 8, 3) := by decide +kernel
theorem dX1_solveFrom_79 : decode cX1_solveFrom 79 = .ok (.iload 4, 2) := by decide +kernel
theorem dX1_solveFrom_81 : decode cX1_solveFrom 81 = .ok (.goto 15, 3) := by decide +kernel
theorem dX1_solveFrom_84 : decode cX1_solveFrom 84 = .ok (.iload 4, 2) := by decide +kernel
theorem dX1_solveFrom_86 : decode cX1_solveFrom 86 = .ok (.iload_n 3, 1) := by decide +kernel
theorem dX1_solveFrom_87 : decode cX1_solveFrom 87 = .ok (.iadd, 1) := by decide +kernel
theorem dX1_solveFrom_88 : decode cX1_solveFrom 88 = .ok (.aload_n 0, 1) := by decide +kernel
theorem dX1_solveFrom_89 : decode cX1_solveFrom 89 = .ok (.getfield 15, 3) := by decide +kernel
theorem dX1_solveFrom_92 : decode cX1_solveFrom 92 = .ok (.iload 7, 2) := by decide +kernel
theorem dX1_solveFrom_94 : decode cX1_solveFrom 94 = .ok (.iaload, 1) := by decide +kernel
theorem dX1_solveFrom_95 : decode cX1_solveFrom 95 = .ok (.iadd, 1) := by decide +kernel
theorem dX1_solveFrom_96 : decode cX1_solveFrom 96 = .ok (.istore 9, 2) := by decide +kernel
theorem dX1_solveFrom_98 : decode cX1_solveFrom 98 = .ok (.iload 8, 2) := by decide +kernel
theorem dX1_solveFrom_100 : decode cX1_solveFrom 100 = .ok (.ifCond .eq 7, 3) := by decide +kernel
theorem dX1_solveFrom_103 : decode cX1_solveFrom 103 = .ok (.iconst 0, 1) := by decide +kernel
theorem dX1_solveFrom_104 : decode cX1_solveFrom 104 = .ok (.goto 12, 3) := by decide +kernel
theorem dX1_solveFrom_107 : decode cX1_solveFrom 107 = .ok (.iconst 1, 1) := by decide +kernel
theorem dX1_solveFrom_108 : decode cX1_solveFrom 108 = .ok (.aload_n 0, 1) := by decide +kernel
theorem dX1_solveFrom_109 : decode cX1_solveFrom 109 = .ok (.getfield 18, 3) := by decide +kernel
theorem dX1_solveFrom_112 : decode cX1_solveFrom 112 = .ok (.iload 7, 2) := by decide +kernel
theorem dX1_solveFrom_114 : decode cX1_solveFrom 114 = .ok (.iaload, 1) := by decide +kernel
theorem dX1_solveFrom_115 : decode cX1_solveFrom 115 = .ok (.iadd, 1) := by decide +kernel
theorem dX1_solveFrom_116 : decode cX1_solveFrom 116 = .ok (.istore 10, 2) := by decide +kernel
theorem dX1_solveFrom_118 : decode cX1_solveFrom 118 = .ok (.iload 9, 2) := by decide +kernel
theorem dX1_solveFrom_120 : decode cX1_solveFrom 120 = .ok (.aload_n 0, 1) := by decide +kernel
theorem dX1_solveFrom_121 : decode cX1_solveFrom 121 = .ok (.getfield 15, 3) := by decide +kernel
theorem dX1_solveFrom_124 : decode cX1_solveFrom 124 = .ok (.iload_n 2, 1) := by decide +kernel
theorem dX1_solveFrom_125 : decode cX1_solveFrom 125 = .ok (.iaload, 1) := by decide +kernel
theorem dX1_solveFrom_126 : decode cX1_solveFrom 126 = .ok (.if_icmp .lt 25, 3) := by decide +kernel
theorem dX1_solveFrom_129 : decode cX1_solveFrom 129 = .ok (.iload 9, 2) := by decide +kernel
theorem dX1_solveFrom_131 : decode cX1_solveFrom 131 = .ok (.aload_n 0, 1) := by decide +kernel
theorem dX1_solveFrom_132 : decode cX1_solveFrom 132 = .ok (.getfield 15, 3) := by decide +kernel
theorem dX1_solveFrom_135 : decode cX1_solveFrom 135 = .ok (.iload_n 2, 1) := by decide +kernel
theorem dX1_solveFrom_136 : decode cX1_solveFrom 136 = .ok (.iaload, 1) := by decide +kernel
theorem dX1_solveFrom_137 : decode cX1_solveFrom 137 = .ok (.if_icmp .ne 18, 3) := by decide +kernel
theorem dX1_solveFrom_140 : decode cX1_solveFrom 140 = .ok (.iload 10, 2) := by decide +kernel
theorem dX1_solveFrom_142 : decode cX1_solveFrom 142 = .ok (.aload_n 0, 1) := by decide +kernel
theorem dX1_solveFrom_143 : decode cX1_solveFrom 143 = .ok (.getfield 18, 3) := by decide +kernel
theorem dX1_solveFrom_146 : decode cX1_solveFrom 146 = .ok (.iload_n 2, 1) := by decide +kernel
theorem dX1_solveFrom_147 : decode cX1_solveFrom 147 = .ok (.iaload, 1) := by decide +kernel
theorem dX1_solveFrom_148 : decode cX1_solveFrom 148 = .ok (.if_icmp .ge 7, 3) := by decide +kernel
theorem dX1_solveFrom_151 : decode cX1_solveFrom 151 = .ok (.iconst 1, 1) := by decide +kernel
theorem dX1_solveFrom_152 : decode cX1_solveFrom 152 = .ok (.goto 4, 3) := by decide +kernel
theorem dX1_solveFrom_155 : decode cX1_solveFrom 155 = .ok (.iconst 0, 1) := by decide +kernel
theorem dX1_solveFrom_156 : decode cX1_solveFrom 156 = .ok (.istore 11, 2) := by decide +kernel
theorem dX1_solveFrom_158 : decode cX1_solveFrom 158 = .ok (.iload 6, 2) := by decide +kernel
theorem dX1_solveFrom_160 : decode cX1_solveFrom 160 = .ok (.ifCond .eq 8, 3) := by decide +kernel
theorem dX1_solveFrom_163 : decode cX1_solveFrom 163 = .ok (.iload 11, 2) := by decide +kernel
theorem dX1_solveFrom_165 : decode cX1_solveFrom 165 = .ok (.ifCond .eq 27, 3) := by decide +kernel
theorem dX1_solveFrom_168 : decode cX1_solveFrom 168 = .ok (.aload_n 0, 1) := by decide +kernel
theorem dX1_solveFrom_169 : decode cX1_solveFrom 169 = .ok (.getfield 15, 3) := by decide +kernel
theorem dX1_solveFrom_172 : decode cX1_solveFrom 172 = .ok (.iload_n 2, 1) := by decide +kernel
theorem dX1_solveFrom_173 : decode cX1_solveFrom 173 = .ok (.iload 9, 2) := by decide +kernel
theorem dX1_solveFrom_175 : decode cX1_solveFrom 175 = .ok (.iastore, 1) := by decide +kernel
theorem dX1_solveFrom_176 : decode cX1_solveFrom 176 = .ok (.aload_n 0, 1) := by decide +kernel
theorem dX1_solveFrom_177 : decode cX1_solveFrom 177 = .ok (.getfield 18, 3) := by decide +kernel
theorem dX1_solveFrom_180 : decode cX1_solveFrom 180 = .ok (.iload_n 2, 1) := by decide +kernel
theorem dX1_solveFrom_181 : decode cX1_solveFrom 181 = .ok (.iload 10, 2) := by decide +kernel
theorem dX1_solveFrom_183 : decode cX1_solveFrom 183 = .ok (.iastore, 1) := by decide +kernel
theorem dX1_solveFrom_184 : decode cX1_solveFrom 184 = .ok (.aload_n 0, 1) := by decide +kernel
theorem dX1_solveFrom_185 : decode cX1_solveFrom 185 = .ok (.getfield 21, 3) := by decide +kernel
theorem dX1_solveFrom_188 : decode cX1_solveFrom 188 = .ok (.iload_n 2, 1) := by decide +kernel
theorem dX1_solveFrom_189 : decode cX1_solveFrom 189 = .ok (.iload 7, 2) := by decide +kernel
theorem dX1_solveFrom_191 : decode cX1_solveFrom 191 = .ok (.iastore, 1) := by decide +kernel
theorem dX1_solveFrom_192 : decode cX1_solveFrom 192 = .ok (.iinc 5 1, 3) := by decide +kernel
theorem dX1_solveFrom_195 : decode cX1_solveFrom 195 = .ok (.goto (-189), 3) := by decide +kernel
theorem dX1_solveFrom_198 : decode cX1_solveFrom 198 = .ok (.return_, 1) := by decide +kernel
theorem dX1_farFromMiddle_0 : decode cX1_farFromMiddle 0 = .ok (.iload_n 2, 1) := by decide +kernel
theorem dX1_farFromMiddle_1 : decode cX1_farFromMiddle 1 = .ok (.ifCond .ne 5, 3) := by decide +kernel
theorem dX1_farFromMiddle_4 : decode cX1_farFromMiddle 4 = .ok (.iconst 0, 1) := by decide +kernel
theorem dX1_farFromMiddle_5 : decode cX1_farFromMiddle 5 = .ok (.ireturn, 1) := by decide +kernel
theorem dX1_farFromMiddle_6 : decode cX1_farFromMiddle 6 = .ok (.aload_n 0, 1) := by decide +kernel
theorem dX1_farFromMiddle_7 : decode cX1_farFromMiddle 7 = .ok (.getfield 9, 3) := by decide +kernel
theorem dX1_farFromMiddle_10 : decode cX1_farFromMiddle 10 = .ok (.iload_n 2, 1) := by decide +kernel
theorem dX1_farFromMiddle_11 : decode cX1_farFromMiddle 11 = .ok (.iconst 1, 1) := by decide +kernel
theorem dX1_farFromMiddle_12 : decode cX1_farFromMiddle 12 = .ok (.isub, 1) := by decide +kernel
theorem dX1_farFromMiddle_13 : decode cX1_farFromMiddle 13 = .ok (.iconst 2, 1) := by decide +kernel
theorem dX1_farFromMiddle_14 : decode cX1_farFromMiddle 14 = .ok (.idiv, 1) := by decide +kernel
theorem dX1_farFromMiddle_15 : decode cX1_farFromMiddle 15 = .ok (.iaload, 1) := by decide +kernel
theorem dX1_farFromMiddle_16 : decode cX1_farFromMiddle 16 = .ok (.istore_n 3, 1) := by decide +kernel
theorem dX1_farFromMiddle_17 : decode cX1_farFromMiddle 17 = .ok (.aload_n 0, 1) := by decide +kernel
theorem dX1_farFromMiddle_18 : decode cX1_farFromMiddle 18 = .ok (.getfield 9, 3) := by decide +kernel
theorem dX1_farFromMiddle_21 : decode cX1_farFromMiddle 21 = .ok (.iload_n 2, 1) := by decide +kernel
theorem dX1_farFromMiddle_22 : decode cX1_farFromMiddle 22 = .ok (.iconst 2, 1) := by decide +kernel
theorem dX1_farFromMiddle_23 : decode cX1_farFromMiddle 23 = .ok (.idiv, 1) := by decide +kernel
theorem dX1_farFromMiddle_24 : decode cX1_farFromMiddle 24 = .ok (.iaload, 1) := by decide +kernel
theorem dX1_farFromMiddle_25 : decode cX1_farFromMiddle 25 = .ok (.istore 4, 2) := by decide +kernel
theorem dX1_farFromMiddle_27 : decode cX1_farFromMiddle 27 = .ok (.iload_n 1, 1) := by decide +kernel
theorem dX1_farFromMiddle_28 : decode cX1_farFromMiddle 28 = .ok (.iload_n 3, 1) := by decide +kernel
theorem dX1_farFromMiddle_29 : decode cX1_farFromMiddle 29 = .ok (.if_icmp .ge 9, 3) := by decide +kernel
theorem dX1_farFromMiddle_32 : decode cX1_farFromMiddle 32 = .ok (.iload_n 3, 1) := by decide +kernel
theorem dX1_farFromMiddle_33 : decode cX1_farFromMiddle 33 = .ok (.iload_n 1, 1) := by decide +kernel
theorem dX1_farFromMiddle_34 : decode cX1_farFromMiddle 34 = .ok (.isub, 1) := by decide +kernel
theorem dX1_farFromMiddle_35 : decode cX1_farFromMiddle 35 = .ok (.goto 17, 3) := by decide +kernel
theorem dX1_farFromMiddle_38 : decode cX1_farFromMiddle 38 = .ok (.iload_n 1, 1) := by decide +kernel
theorem dX1_farFromMiddle_39 : decode cX1_farFromMiddle 39 = .ok (.iload 4, 2) := by decide +kernel
theorem dX1_farFromMiddle_41 : decode cX1_farFromMiddle 41 = .ok (.if_icmp .le 10, 3) := by decide +kernel
theorem dX1_farFromMiddle_44 : decode cX1_farFromMiddle 44 = .ok (.iload_n 1, 1) := by decide +kernel
theorem dX1_farFromMiddle_45 : decode cX1_farFromMiddle 45 = .ok (.iload 4, 2) := by decide +kernel
theorem dX1_farFromMiddle_47 : decode cX1_farFromMiddle 47 = .ok (.isub, 1) := by decide +kernel
theorem dX1_farFromMiddle_48 : decode cX1_farFromMiddle 48 = .ok (.goto 4, 3) := by decide +kernel
theorem dX1_farFromMiddle_51 : decode cX1_farFromMiddle 51 = .ok (.iconst 0, 1) := by decide +kernel
theorem dX1_farFromMiddle_52 : decode cX1_farFromMiddle 52 = .ok (.ireturn, 1) := by decide +kernel
theorem dX1_insert_0 : decode cX1_insert 0 = .ok (.iload_n 2, 1) := by decide +kernel
theorem dX1_insert_1 : decode cX1_insert 1 = .ok (.istore_n 3, 1) := by decide +kernel
theorem dX1_insert_2 : decode cX1_insert 2 = .ok (.iload_n 3, 1) := by decide +kernel
theorem dX1_insert_3 : decode cX1_insert 3 = .ok (.ifCond .le 35, 3) := by decide +kernel
theorem dX1_insert_6 : decode cX1_insert 6 = .ok (.aload_n 0, 1) := by decide +kernel
theorem dX1_insert_7 : decode cX1_insert 7 = .ok (.getfield 9, 3) := by decide +kernel
theorem dX1_insert_10 : decode cX1_insert 10 = .ok (.iload_n 3, 1) := by decide +kernel
theorem dX1_insert_11 : decode cX1_insert 11 = .ok (.iconst 1, 1) := by decide +kernel
theorem dX1_insert_12 : decode cX1_insert 12 = .ok (.isub, 1) := by decide +kernel
theorem dX1_insert_13 : decode cX1_insert 13 = .ok (.iaload, 1) := by decide +kernel
theorem dX1_insert_14 : decode cX1_insert 14 = .ok (.iload_n 1, 1) := by decide +kernel
theorem dX1_insert_15 : decode cX1_insert 15 = .ok (.if_icmp .le 23, 3) := by decide +kernel
theorem dX1_insert_18 : decode cX1_insert 18 = .ok (.aload_n 0, 1) := by decide +kernel
theorem dX1_insert_19 : decode cX1_insert 19 = .ok (.getfield 9, 3) := by decide +kernel
theorem dX1_insert_22 : decode cX1_insert 22 = .ok (.iload_n 3, 1) := by decide +kernel
theorem dX1_insert_23 : decode cX1_insert 23 = .ok (.aload_n 0, 1) := by decide +kernel
theorem dX1_insert_24 : decode cX1_insert 24 = .ok (.getfield 9, 3) := by decide +kernel
theorem dX1_insert_27 : decode cX1_insert 27 = .ok (.iload_n 3, 1) := by decide +kernel
theorem dX1_insert_28 : decode cX1_insert 28 = .ok (.iconst 1, 1) := by decide +kernel
theorem dX1_insert_29 : decode cX1_insert 29 = .ok (.isub, 1) := by decide +kernel
theorem dX1_insert_30 : decode cX1_insert 30 = .ok (.iaload, 1) := by decide +kernel
theorem dX1_insert_31 : decode cX1_insert 31 = .ok (.iastore, 1) := by decide +kernel
theorem dX1_insert_32 : decode cX1_insert 32 = .ok (.iinc 3 (-1), 3) := by decide +kernel
theorem dX1_insert_35 : decode cX1_insert 35 = .ok (.goto (-33), 3) := by decide +kernel
theorem dX1_insert_38 : decode cX1_insert 38 = .ok (.aload_n 0, 1) := by decide +kernel
theorem dX1_insert_39 : decode cX1_insert 39 = .ok (.getfield 9, 3) := by decide +kernel
theorem dX1_insert_42 : decode cX1_insert 42 = .ok (.iload_n 3, 1) := by decide +kernel
theorem dX1_insert_43 : decode cX1_insert 43 = .ok (.iload_n 1, 1) := by decide +kernel
theorem dX1_insert_44 : decode cX1_insert 44 = .ok (.iastore, 1) := by decide +kernel
theorem dX1_insert_45 : decode cX1_insert 45 = .ok (.return_, 1) := by decide +kernel
theorem dX1_setSpans_0 : decode cX1_setSpans 0 = .ok (.aload_n 1, 1) := by decide +kernel
theorem dX1_setSpans_1 : decode cX1_setSpans 1 = .ok (.iconst 0, 1) := by decide +kernel
theorem dX1_setSpans_2 : decode cX1_setSpans 2 = .ok (.putfield 72, 3) := by decide +kernel
theorem dX1_setSpans_5 : decode cX1_setSpans 5 = .ok (.iconst 0, 1) := by decide +kernel
theorem dX1_setSpans_6 : decode cX1_setSpans 6 = .ok (.istore_n 2, 1) := by decide +kernel
theorem dX1_setSpans_7 : decode cX1_setSpans 7 = .ok (.iconst 0, 1) := by decide +kernel
theorem dX1_setSpans_8 : decode cX1_setSpans 8 = .ok (.istore_n 3, 1) := by decide +kernel
theorem dX1_setSpans_9 : decode cX1_setSpans 9 = .ok (.iload_n 3, 1) := by decide +kernel
theorem dX1_setSpans_10 : decode cX1_setSpans 10 = .ok (.aload_n 1, 1) := by decide +kernel
theorem dX1_setSpans_11 : decode cX1_setSpans 11 = .ok (.getfield 30, 3) := by decide +kernel
theorem dX1_setSpans_14 : decode cX1_setSpans 14 = .ok (.if_icmp .ge 41, 3) := by decide +kernel
theorem dX1_setSpans_17 : decode cX1_setSpans 17 = .ok (.iload_n 3, 1) := by decide +kernel
theorem dX1_setSpans_18 : decode cX1_setSpans 18 = .ok (.iload_n 2, 1) := by decide +kernel
theorem dX1_setSpans_19 : decode cX1_setSpans 19 = .ok (.if_icmp .ne 30, 3) := by decide +kernel
theorem dX1_setSpans_22 : decode cX1_setSpans 22 = .ok (.aload_n 1, 1) := by decide +kernel
theorem dX1_setSpans_23 : decode cX1_setSpans 23 = .ok (.getfield 75, 3) := by decide +kernel
theorem dX1_setSpans_26 : decode cX1_setSpans 26 = .ok (.aload_n 1, 1) := by decide +kernel
theorem dX1_setSpans_27 : decode cX1_setSpans 27 = .ok (.getfield 72, 3) := by decide +kernel
theorem dX1_setSpans_30 : decode cX1_setSpans 30 = .ok (.iload_n 3, 1) := by decide +kernel
theorem dX1_setSpans_31 : decode cX1_setSpans 31 = .ok (.iastore, 1) := by decide +kernel
theorem dX1_setSpans_32 : decode cX1_setSpans 32 = .ok (.aload_n 1, 1) := by decide +kernel
theorem dX1_setSpans_33 : decode cX1_setSpans 33 = .ok (.dup, 1) := by decide +kernel
theorem dX1_setSpans_34 : decode cX1_setSpans 34 = .ok (.getfield 72, 3) := by decide +kernel
theorem dX1_setSpans_37 : decode cX1_setSpans 37 = .ok (.iconst 1, 1) := by decide +kernel
theorem dX1_setSpans_38 : decode cX1_setSpans 38 = .ok (.iadd, 1) := by decide +kernel
theorem dX1_setSpans_39 : decode cX1_setSpans 39 = .ok (.putfield 72, 3) := by decide +kernel
theorem dX1_setSpans_42 : decode cX1_setSpans 42 = .ok (.aload_n 0, 1) := by decide +kernel
theorem dX1_setSpans_43 : decode cX1_setSpans 43 = .ok (.getfield 21, 3) := by decide +kernel
theorem dX1_setSpans_46 : decode cX1_setSpans 46 = .ok (.iload_n 3, 1) := by decide +kernel
theorem dX1_setSpans_47 : decode cX1_setSpans 47 = .ok (.iaload, 1) := by decide +kernel
theorem dX1_setSpans_48 : decode cX1_setSpans 48 = .ok (.istore_n 2, 1) := by decide +kernel
theorem dX1_setSpans_49 : decode cX1_setSpans 49 = .ok (.iinc 3 1, 3) := by decide +kernel
theorem dX1_setSpans_52 : decode cX1_setSpans 52 = .ok (.goto (-43), 3) := by decide +kernel
theorem dX1_setSpans_55 : decode cX1_setSpans 55 = .ok (.aload_n 1, 1) := by decide +kernel
theorem dX1_setSpans_56 : decode cX1_setSpans 56 = .ok (.getfield 75, 3) := by decide +kernel
theorem dX1_setSpans_59 : decode cX1_setSpans 59 = .ok (.aload_n 1, 1) := by decide +kernel
theorem dX1_setSpans_60 : decode cX1_setSpans 60 = .ok (.getfield 72, 3) := by decide +kernel
theorem dX1_setSpans_63 : decode cX1_setSpans 63 = .ok (.aload_n 1, 1) := by decide +kernel
theorem dX1_setSpans_64 : decode cX1_setSpans 64 = .ok (.getfield 30, 3) := by decide +kernel
theorem dX1_setSpans_67 : decode cX1_setSpans 67 = .ok (.iastore, 1) := by decide +kernel
theorem dX1_setSpans_68 : decode cX1_setSpans 68 = .ok (.return_, 1) := by decide +kernel
theorem dX1_setMiddles_0 : decode cX1_setMiddles 0 = .ok (.iconst 0, 1) := by decide +kernel
theorem dX1_setMiddles_1 : decode cX1_setMiddles 1 = .ok (.istore_n 2, 1) := by decide +kernel
theorem dX1_setMiddles_2 : decode cX1_setMiddles 2 = .ok (.iload_n 2, 1) := by decide +kernel
theorem dX1_setMiddles_3 : decode cX1_setMiddles 3 = .ok (.aload_n 1, 1) := by decide +kernel
theorem dX1_setMiddles_4 : decode cX1_setMiddles 4 = .ok (.getfield 72, 3) := by decide +kernel
theorem dX1_setMiddles_7 : decode cX1_setMiddles 7 = .ok (.if_icmp .ge 72, 3) := by decide +kernel
theorem dX1_setMiddles_10 : decode cX1_setMiddles 10 = .ok (.iconst 0, 1) := by decide +kernel
theorem dX1_setMiddles_11 : decode cX1_setMiddles 11 = .ok (.istore_n 3, 1) := by decide +kernel
theorem dX1_setMiddles_12 : decode cX1_setMiddles 12 = .ok (.aload_n 1, 1) := by decide +kernel
theorem dX1_setMiddles_13 : decode cX1_setMiddles 13 = .ok (.getfield 75, 3) := by decide +kernel
theorem dX1_setMiddles_16 : decode cX1_setMiddles 16 = .ok (.iload_n 2, 1) := by decide +kernel
theorem dX1_setMiddles_17 : decode cX1_setMiddles 17 = .ok (.iaload, 1) := by decide +kernel
theorem dX1_setMiddles_18 : decode cX1_setMiddles 18 = .ok (.istore 4, 2) := by decide +kernel
theorem dX1_setMiddles_20 : decode cX1_setMiddles 20 = .ok (.iload 4, 2) := by decide +kernel
theorem dX1_setMiddles_22 : decode cX1_setMiddles 22 = .ok (.aload_n 1, 1) := by decide +kernel
theorem dX1_setMiddles_23 : decode cX1_setMiddles 23 = .ok (.getfield 75, 3) := by decide +kernel
theorem dX1_setMiddles_26 : decode cX1_setMiddles 26 = .ok (.iload_n 2, 1) := by decide +kernel
theorem dX1_setMiddles_27 : decode cX1_setMiddles 27 = .ok (.iconst 1, 1) := by decide +kernel
theorem dX1_setMiddles_28 : decode cX1_setMiddles 28 = .ok (.iadd, 1) := by decide +kernel
theorem dX1_setMiddles_29 : decode cX1_setMiddles 29 = .ok (.iaload, 1) := by decide +kernel
theorem dX1_setMiddles_30 : decode cX1_setMiddles 30 = .ok (.if_icmp .ge 29, 3) := by decide +kernel
theorem dX1_setMiddles_33 : decode cX1_setMiddles 33 = .ok (.aload_n 0, 1) := by decide +kernel
theorem dX1_setMiddles_34 : decode cX1_setMiddles 34 = .ok (.aload_n 1, 1) := by decide +kernel
theorem dX1_setMiddles_35 : decode cX1_setMiddles 35 = .ok (.getfield 78, 3) := by decide +kernel
theorem dX1_setMiddles_38 : decode cX1_setMiddles 38 = .ok (.aload_n 1, 1) := by decide +kernel
theorem dX1_setMiddles_39 : decode cX1_setMiddles 39 = .ok (.getfield 81, 3) := by decide +kernel
theorem dX1_setMiddles_42 : decode cX1_setMiddles 42 = .ok (.iload 4, 2) := by decide +kernel
theorem dX1_setMiddles_44 : decode cX1_setMiddles 44 = .ok (.iaload, 1) := by decide +kernel
theorem dX1_setMiddles_45 : decode cX1_setMiddles 45 = .ok (.iaload, 1) := by decide +kernel
theorem dX1_setMiddles_46 : decode cX1_setMiddles 46 = .ok (.iload_n 3, 1) := by decide +kernel
theorem dX1_setMiddles_47 : decode cX1_setMiddles 47 = .ok (.invokevirtual 68, 3) := by decide +kernel
theorem dX1_setMiddles_50 : decode cX1_setMiddles 50 = .ok (.iinc 3 1, 3) := by decide +kernel
theorem dX1_setMiddles_53 : decode cX1_setMiddles 53 = .ok (.iinc 4 1, 3) := by decide +kernel
theorem dX1_setMiddles_56 : decode cX1_setMiddles 56 = .ok (.goto (-36), 3) := by decide +kernel
theorem dX1_setMiddles_59 : decode cX1_setMiddles 59 = .ok (.aload_n 1, 1) := by decide +kernel
theorem dX1_setMiddles_60 : decode cX1_setMiddles 60 = .ok (.getfield 84, 3) := by decide +kernel
theorem dX1_setMiddles_63 : decode cX1_setMiddles 63 = .ok (.iload_n 2, 1) := by decide +kernel
theorem dX1_setMiddles_64 : decode cX1_setMiddles 64 = .ok (.aload_n 0, 1) := by decide +kernel
theorem dX1_setMiddles_65 : decode cX1_setMiddles 65 = .ok (.getfield 9, 3) := by decide +kernel
theorem dX1_setMiddles_68 : decode cX1_setMiddles 68 = .ok (.iload_n 3, 1) := by decide +kernel
theorem dX1_setMiddles_69 : decode cX1_setMiddles 69 = .ok (.iconst 2, 1) := by decide +kernel
theorem dX1_setMiddles_70 : decode cX1_setMiddles 70 = .ok (.idiv, 1) := by decide +kernel
theorem dX1_setMiddles_71 : decode cX1_setMiddles 71 = .ok (.iaload, 1) := by decide +kernel
theorem dX1_setMiddles_72 : decode cX1_setMiddles 72 = .ok (.iastore, 1) := by decide +kernel
theorem dX1_setMiddles_73 : decode cX1_setMiddles 73 = .ok (.iinc 2 1, 3) := by decide +kernel
theorem dX1_setMiddles_76 : decode cX1_setMiddles 76 = .ok (.goto (-74), 3) := by decide +kernel
theorem dX1_setMiddles_79 : decode cX1_setMiddles 79 = .ok (.return_, 1) := by decide +kernel
theorem dX2_init_0 : decode cX2_init 0 = .ok (.aload_n 0, 1) := by decide +kernel
theorem dX2_init_1 : decode cX2_init 1 = .ok (.invokespecial 1, 3) := by decide +kernel
theorem dX2_init_4 : decode cX2_init 4 = .ok (.return_, 1) := by decide +kernel
theorem dX2_begin_0 : decode cX2_begin 0 = .ok (.aload_n 0, 1) := by decide +kernel
theorem dX2_begin_1 : decode cX2_begin 1 = .ok (.iconst 1, 1) := by decide +kernel
theorem dX2_begin_2 : decode cX2_begin 2 = .ok (.putfield 7, 3) := by decide +kernel
theorem dX2_begin_5 : decode cX2_begin 5 = .ok (.aload_n 0, 1) := by decide +kernel
theorem dX2_begin_6 : decode cX2_begin 6 = .ok (.iload_n 1, 1) := by decide +kernel
theorem dX2_begin_7 : decode cX2_begin 7 = .ok (.putfield 13, 3) := by decide +kernel
theorem dX2_begin_10 : decode cX2_begin 10 = .ok (.aload_n 0, 1) := by decide +kernel
theorem dX2_begin_11 : decode cX2_begin 11 = .ok (.iload_n 2, 1) := by decide +kernel
theorem dX2_begin_12 : decode cX2_begin 12 = .ok (.putfield 17, 3) := by decide +kernel
theorem dX2_begin_15 : decode cX2_begin 15 = .ok (.aload_n 0, 1) := by decide +kernel
theorem dX2_begin_16 : decode cX2_begin 16 = .ok (.iload_n 3, 1) := by decide +kernel
theorem dX2_begin_17 : decode cX2_begin 17 = .ok (.putfield 20, 3) := by decide +kernel
theorem dX2_begin_20 : decode cX2_begin 20 = .ok (.aload_n 0, 1) := by decide +kernel
theorem dX2_begin_21 : decode cX2_begin 21 = .ok (.iconst 0, 1) := by decide +kernel
theorem dX2_begin_22 : decode cX2_begin 22 = .ok (.putfield 23, 3) := by decide +kernel
theorem dX2_begin_25 : decode cX2_begin 25 = .ok (.aload_n 0, 1) := by decide +kernel
theorem dX2_begin_26 : decode cX2_begin 26 = .ok (.iconst 0, 1) := by decide +kernel
theorem dX2_begin_27 : decode cX2_begin 27 = .ok (.putfield 26, 3) := by decide +kernel
theorem dX2_begin_30 : decode cX2_begin 30 = .ok (.aload_n 0, 1) := by decide +kernel
theorem dX2_begin_31 : decode cX2_begin 31 = .ok (.iconst 0, 1) := by decide +kernel
theorem dX2_begin_32 : decode cX2_begin 32 = .ok (.putfield 29, 3) := by decide +kernel
theorem dX2_begin_35 : decode cX2_begin 35 = .ok (.return_, 1) := by decide +kernel
theorem dX2_hasEnded_0 : decode cX2_hasEnded 0 = .ok (.aload_n 0, 1) := by decide +kernel
theorem dX2_hasEnded_1 : decode cX2_hasEnded 1 = .ok (.getfield 17, 3) := by decide +kernel
theorem dX2_hasEnded_4 : decode cX2_hasEnded 4 = .ok (.aload_n 0, 1) := by decide +kernel
theorem dX2_hasEnded_5 : decode cX2_hasEnded 5 = .ok (.getfield 13, 3) := by decide +kernel
theorem dX2_hasEnded_8 : decode cX2_hasEnded 8 = .ok (.isub, 1) := by decide +kernel
theorem dX2_hasEnded_9 : decode cX2_hasEnded 9 = .ok (.iconst 1, 1) := by decide +kernel
theorem dX2_hasEnded_10 : decode cX2_hasEnded 10 = .ok (.if_icmp .gt 7, 3) := by decide +kernel
theorem dX2_hasEnded_13 : decode cX2_hasEnded 13 = .ok (.iconst 1, 1) := by decide +kernel
theorem dX2_hasEnded_14 : decode cX2_hasEnded 14 = .ok (.goto 4, 3) := by decide +kernel
theorem dX2_hasEnded_17 : decode cX2_hasEnded 17 = .ok (.iconst 0, 1) := by decide +kernel
theorem dX2_hasEnded_18 : decode cX2_hasEnded 18 = .ok (.ireturn, 1) := by decide +kernel
theorem dX2_middleBuild_0 : decode cX2_middleBuild 0 = .ok (.aload_n 0, 1) := by decide +kernel
theorem dX2_middleBuild_1 : decode cX2_middleBuild 1 = .ok (.getfield 13, 3) := by decide +kernel
theorem dX2_middleBuild_4 : decode cX2_middleBuild 4 = .ok (.aload_n 0, 1) := by decide +kernel
theorem dX2_middleBuild_5 : decode cX2_middleBuild 5 = .ok (.getfield 17, 3) := by decide +kernel
theorem dX2_middleBuild_8 : decode cX2_middleBuild 8 = .ok (.aload_n 0, 1) := by decide +kernel
theorem dX2_middleBuild_9 : decode cX2_middleBuild 9 = .ok (.getfield 13, 3) := by decide +kernel
theorem dX2_middleBuild_12 : decode cX2_middleBuild 12 = .ok (.isub, 1) := by decide +kernel
theorem dX2_middleBuild_13 : decode cX2_middleBuild 13 = .ok (.iconst 2, 1) := by decide +kernel
theorem dX2_middleBuild_14 : decode cX2_middleBuild 14 = .ok (.idiv, 1) := by decide +kernel
theorem dX2_middleBuild_15 : decode cX2_middleBuild 15 = .ok (.iadd, 1) := by decide +kernel
theorem dX2_middleBuild_16 : decode cX2_middleBuild 16 = .ok (.ireturn, 1) := by decide +kernel
theorem dX2_mostReruns_0 : decode cX2_mostReruns 0 = .ok (.iconst 0, 1) := by decide +kernel
theorem dX2_mostReruns_1 : decode cX2_mostReruns 1 = .ok (.istore_n 1, 1) := by decide +kernel
theorem dX2_mostReruns_2 : decode cX2_mostReruns 2 = .ok (.aload_n 0, 1) := by decide +kernel
theorem dX2_mostReruns_3 : decode cX2_mostReruns 3 = .ok (.getfield 17, 3) := by decide +kernel
theorem dX2_mostReruns_6 : decode cX2_mostReruns 6 = .ok (.aload_n 0, 1) := by decide +kernel
theorem dX2_mostReruns_7 : decode cX2_mostReruns 7 = .ok (.getfield 13, 3) := by decide +kernel
theorem dX2_mostReruns_10 : decode cX2_mostReruns 10 = .ok (.isub, 1) := by decide +kernel
theorem dX2_mostReruns_11 : decode cX2_mostReruns 11 = .ok (.istore_n 2, 1) := by decide +kernel
theorem dX2_mostReruns_12 : decode cX2_mostReruns 12 = .ok (.iload_n 2, 1) := by decide +kernel
theorem dX2_mostReruns_13 : decode cX2_mostReruns 13 = .ok (.iconst 1, 1) := by decide +kernel
theorem dX2_mostReruns_14 : decode cX2_mostReruns 14 = .ok (.if_icmp .le 19, 3) := by decide +kernel
theorem dX2_mostReruns_17 : decode cX2_mostReruns 17 = .ok (.iload_n 1, 1) := by decide +kernel
theorem dX2_mostReruns_18 : decode cX2_mostReruns 18 = .ok (.aload_n 0, 1) := by decide +kernel
theorem dX2_mostReruns_19 : decode cX2_mostReruns 19 = .ok (.getfield 20, 3) := by decide +kernel
theorem dX2_mostReruns_22 : decode cX2_mostReruns 22 = .ok (.iadd, 1) := by decide +kernel
theorem dX2_mostReruns_23 : decode cX2_mostReruns 23 = .ok (.istore_n 1, 1) := by decide +kernel
theorem dX2_mostReruns_24 : decode cX2_mostReruns 24 = .ok (.iload_n 2, 1) := by decide +kernel
theorem dX2_mostReruns_25 : decode cX2_mostReruns 25 = .ok (.iload_n 2, 1) := by decide +kernel
theorem dX2_mostReruns_26 : decode cX2_mostReruns 26 = .ok (.iconst 2, 1) := by decide +kernel
theorem dX2_mostReruns_27 : decode cX2_mostReruns 27 = .ok (.idiv, 1) := by decide +kernel
theorem dX2_mostReruns_28 : decode cX2_mostReruns 28 = .ok (.isub, 1) := by decide +kernel
theorem dX2_mostReruns_29 : decode cX2_mostReruns 29 = .ok (.istore_n 2, 1) := by decide +kernel
theorem dX2_mostReruns_30 : decode cX2_mostReruns 30 = .ok (.goto (-18), 3) := by decide +kernel
theorem dX2_mostReruns_33 : decode cX2_mostReruns 33 = .ok (.iload_n 1, 1) := by decide +kernel
theorem dX2_mostReruns_34 : decode cX2_mostReruns 34 = .ok (.ireturn, 1) := by decide +kernel
theorem dX2_take_0 : decode cX2_take 0 = .ok (.aload_n 0, 1) := by decide +kernel
theorem dX2_take_1 : decode cX2_take 1 = .ok (.dup, 1) := by decide +kernel
theorem dX2_take_2 : decode cX2_take 2 = .ok (.getfield 23, 3) := by decide +kernel
theorem dX2_take_5 : decode cX2_take 5 = .ok (.iconst 1, 1) := by decide +kernel
theorem dX2_take_6 : decode cX2_take 6 = .ok (.iadd, 1) := by decide +kernel
theorem dX2_take_7 : decode cX2_take 7 = .ok (.putfield 23, 3) := by decide +kernel
theorem dX2_take_10 : decode cX2_take 10 = .ok (.aload_n 0, 1) := by decide +kernel
theorem dX2_take_11 : decode cX2_take 11 = .ok (.dup, 1) := by decide +kernel
theorem dX2_take_12 : decode cX2_take 12 = .ok (.getfield 26, 3) := by decide +kernel
theorem dX2_take_15 : decode cX2_take 15 = .ok (.iconst 1, 1) := by decide +kernel
theorem dX2_take_16 : decode cX2_take 16 = .ok (.iadd, 1) := by decide +kernel
theorem dX2_take_17 : decode cX2_take 17 = .ok (.putfield 26, 3) := by decide +kernel
theorem dX2_take_20 : decode cX2_take 20 = .ok (.iload_n 1, 1) := by decide +kernel
theorem dX2_take_21 : decode cX2_take 21 = .ok (.ifCond .eq 13, 3) := by decide +kernel
theorem dX2_take_24 : decode cX2_take 24 = .ok (.aload_n 0, 1) := by decide +kernel
theorem dX2_take_25 : decode cX2_take 25 = .ok (.dup, 1) := by decide +kernel
theorem dX2_take_26 : decode cX2_take 26 = .ok (.getfield 29, 3) := by decide +kernel
theorem dX2_take_29 : decode cX2_take 29 = .ok (.iconst 1, 1) := by decide +kernel
theorem dX2_take_30 : decode cX2_take 30 = .ok (.iadd, 1) := by decide +kernel
theorem dX2_take_31 : decode cX2_take 31 = .ok (.putfield 29, 3) := by decide +kernel
theorem dX2_take_34 : decode cX2_take 34 = .ok (.aload_n 0, 1) := by decide +kernel
theorem dX2_take_35 : decode cX2_take 35 = .ok (.getfield 26, 3) := by decide +kernel
theorem dX2_take_38 : decode cX2_take 38 = .ok (.aload_n 0, 1) := by decide +kernel
theorem dX2_take_39 : decode cX2_take 39 = .ok (.getfield 20, 3) := by decide +kernel
theorem dX2_take_42 : decode cX2_take 42 = .ok (.if_icmp .ge 13, 3) := by decide +kernel
theorem dX2_take_45 : decode cX2_take 45 = .ok (.aload_n 0, 1) := by decide +kernel
theorem dX2_take_46 : decode cX2_take 46 = .ok (.getfield 20, 3) := by decide +kernel
theorem dX2_take_49 : decode cX2_take 49 = .ok (.aload_n 0, 1) := by decide +kernel
theorem dX2_take_50 : decode cX2_take 50 = .ok (.getfield 26, 3) := by decide +kernel
theorem dX2_take_53 : decode cX2_take 53 = .ok (.isub, 1) := by decide +kernel
theorem dX2_take_54 : decode cX2_take 54 = .ok (.ireturn, 1) := by decide +kernel
theorem dX2_take_55 : decode cX2_take 55 = .ok (.aload_n 0, 1) := by decide +kernel
theorem dX2_take_56 : decode cX2_take 56 = .ok (.invokevirtual 32, 3) := by decide +kernel
theorem dX2_take_59 : decode cX2_take 59 = .ok (.iconst 0, 1) := by decide +kernel
theorem dX2_take_60 : decode cX2_take 60 = .ok (.ireturn, 1) := by decide +kernel
theorem dX2_decide_0 : decode cX2_decide 0 = .ok (.aload_n 0, 1) := by decide +kernel
theorem dX2_decide_1 : decode cX2_decide 1 = .ok (.invokevirtual 35, 3) := by decide +kernel
theorem dX2_decide_4 : decode cX2_decide 4 = .ok (.istore_n 1, 1) := by decide +kernel
theorem dX2_decide_5 : decode cX2_decide 5 = .ok (.aload_n 0, 1) := by decide +kernel
theorem dX2_decide_6 : decode cX2_decide 6 = .ok (.getfield 29, 3) := by decide +kernel
theorem dX2_decide_9 : decode cX2_decide 9 = .ok (.aload_n 0, 1) := by decide +kernel
theorem dX2_decide_10 : decode cX2_decide 10 = .ok (.getfield 26, 3) := by decide +kernel
theorem dX2_decide_13 : decode cX2_decide 13 = .ok (.aload_n 0, 1) := by decide +kernel
theorem dX2_decide_14 : decode cX2_decide 14 = .ok (.getfield 29, 3) := by decide +kernel
theorem dX2_decide_17 : decode cX2_decide 17 = .ok (.isub, 1) := by decide +kernel
theorem dX2_decide_18 : decode cX2_decide 18 = .ok (.if_icmp .le 11, 3) := by decide +kernel
theorem dX2_decide_21 : decode cX2_decide 21 = .ok (.aload_n 0, 1) := by decide +kernel
theorem dX2_decide_22 : decode cX2_decide 22 = .ok (.iload_n 1, 1) := by decide +kernel
theorem dX2_decide_23 : decode cX2_decide 23 = .ok (.putfield 17, 3) := by decide +kernel
theorem dX2_decide_26 : decode cX2_decide 26 = .ok (.goto 8, 3) := by decide +kernel
theorem dX2_decide_29 : decode cX2_decide 29 = .ok (.aload_n 0, 1) := by decide +kernel
theorem dX2_decide_30 : decode cX2_decide 30 = .ok (.iload_n 1, 1) := by decide +kernel
theorem dX2_decide_31 : decode cX2_decide 31 = .ok (.putfield 13, 3) := by decide +kernel
theorem dX2_decide_34 : decode cX2_decide 34 = .ok (.aload_n 0, 1) := by decide +kernel
theorem dX2_decide_35 : decode cX2_decide 35 = .ok (.iconst 0, 1) := by decide +kernel
theorem dX2_decide_36 : decode cX2_decide 36 = .ok (.putfield 26, 3) := by decide +kernel
theorem dX2_decide_39 : decode cX2_decide 39 = .ok (.aload_n 0, 1) := by decide +kernel
theorem dX2_decide_40 : decode cX2_decide 40 = .ok (.iconst 0, 1) := by decide +kernel
theorem dX2_decide_41 : decode cX2_decide 41 = .ok (.putfield 29, 3) := by decide +kernel
theorem dX2_decide_44 : decode cX2_decide 44 = .ok (.return_, 1) := by decide +kernel
theorem dX3_init_0 : decode cX3_init 0 = .ok (.aload_n 0, 1) := by decide +kernel
theorem dX3_init_1 : decode cX3_init 1 = .ok (.invokespecial 3, 3) := by decide +kernel
theorem dX3_init_4 : decode cX3_init 4 = .ok (.aload_n 0, 1) := by decide +kernel
theorem dX3_init_5 : decode cX3_init 5 = .ok (.bipush 40, 2) := by decide +kernel
theorem dX3_init_7 : decode cX3_init 7 = .ok (.newarray .int, 2) := by decide +kernel
theorem dX3_init_9 : decode cX3_init 9 = .ok (.putfield 9, 3) := by decide +kernel
theorem dX3_init_12 : decode cX3_init 12 = .ok (.aload_n 0, 1) := by decide +kernel
theorem dX3_init_13 : decode cX3_init 13 = .ok (.iconst 1, 1) := by decide +kernel
theorem dX3_init_14 : decode cX3_init 14 = .ok (.putfield 15, 3) := by decide +kernel
theorem dX3_init_17 : decode cX3_init 17 = .ok (.aload_n 0, 1) := by decide +kernel
theorem dX3_init_18 : decode cX3_init 18 = .ok (.bipush 40, 2) := by decide +kernel
theorem dX3_init_20 : decode cX3_init 20 = .ok (.newarray .int, 2) := by decide +kernel
theorem dX3_init_22 : decode cX3_init 22 = .ok (.putfield 19, 3) := by decide +kernel
theorem dX3_init_25 : decode cX3_init 25 = .ok (.aload_n 0, 1) := by decide +kernel
theorem dX3_init_26 : decode cX3_init 26 = .ok (.bipush 40, 2) := by decide +kernel
theorem dX3_init_28 : decode cX3_init 28 = .ok (.newarray .int, 2) := by decide +kernel
theorem dX3_init_30 : decode cX3_init 30 = .ok (.putfield 22, 3) := by decide +kernel
theorem dX3_init_33 : decode cX3_init 33 = .ok (.aload_n 0, 1) := by decide +kernel
theorem dX3_init_34 : decode cX3_init 34 = .ok (.bipush 41, 2) := by decide +kernel
theorem dX3_init_36 : decode cX3_init 36 = .ok (.newarray .int, 2) := by decide +kernel
theorem dX3_init_38 : decode cX3_init 38 = .ok (.putfield 25, 3) := by decide +kernel
theorem dX3_init_41 : decode cX3_init 41 = .ok (.aload_n 0, 1) := by decide +kernel
theorem dX3_init_42 : decode cX3_init 42 = .ok (.bipush 40, 2) := by decide +kernel
theorem dX3_init_44 : decode cX3_init 44 = .ok (.newarray .int, 2) := by decide +kernel
theorem dX3_init_46 : decode cX3_init 46 = .ok (.putfield 28, 3) := by decide +kernel
theorem dX3_init_49 : decode cX3_init 49 = .ok (.aload_n 0, 1) := by decide +kernel
theorem dX3_init_50 : decode cX3_init 50 = .ok (.bipush 40, 2) := by decide +kernel
theorem dX3_init_52 : decode cX3_init 52 = .ok (.newarray .int, 2) := by decide +kernel
theorem dX3_init_54 : decode cX3_init 54 = .ok (.putfield 31, 3) := by decide +kernel
theorem dX3_init_57 : decode cX3_init 57 = .ok (.aload_n 0, 1) := by decide +kernel
theorem dX3_init_58 : decode cX3_init 58 = .ok (.getfield 9, 3) := by decide +kernel
theorem dX3_init_61 : decode cX3_init 61 = .ok (.bipush (-9), 2) := by decide +kernel
theorem dX3_init_63 : decode cX3_init 63 = .ok (.invokestatic 34, 3) := by decide +kernel
theorem dX3_init_66 : decode cX3_init 66 = .ok (.return_, 1) := by decide +kernel
theorem dX3_empty_0 : decode cX3_empty 0 = .ok (.aload_n 0, 1) := by decide +kernel
theorem dX3_empty_1 : decode cX3_empty 1 = .ok (.getfield 9, 3) := by decide +kernel
theorem dX3_empty_4 : decode cX3_empty 4 = .ok (.bipush (-9), 2) := by decide +kernel
theorem dX3_empty_6 : decode cX3_empty 6 = .ok (.invokestatic 34, 3) := by decide +kernel
theorem dX3_empty_9 : decode cX3_empty 9 = .ok (.aload_n 0, 1) := by decide +kernel
theorem dX3_empty_10 : decode cX3_empty 10 = .ok (.iconst 1, 1) := by decide +kernel
theorem dX3_empty_11 : decode cX3_empty 11 = .ok (.putfield 15, 3) := by decide +kernel
theorem dX3_empty_14 : decode cX3_empty 14 = .ok (.return_, 1) := by decide +kernel
theorem dX3_rankOf_0 : decode cX3_rankOf 0 = .ok (.iconst 0, 1) := by decide +kernel
theorem dX3_rankOf_1 : decode cX3_rankOf 1 = .ok (.istore_n 3, 1) := by decide +kernel
theorem dX3_rankOf_2 : decode cX3_rankOf 2 = .ok (.iconst 0, 1) := by decide +kernel
theorem dX3_rankOf_3 : decode cX3_rankOf 3 = .ok (.istore 4, 2) := by decide +kernel
theorem dX3_rankOf_5 : decode cX3_rankOf 5 = .ok (.iconst 0, 1) := by decide +kernel
theorem dX3_rankOf_6 : decode cX3_rankOf 6 = .ok (.istore 5, 2) := by decide +kernel
theorem dX3_rankOf_8 : decode cX3_rankOf 8 = .ok (.iload 5, 2) := by decide +kernel
theorem dX3_rankOf_10 : decode cX3_rankOf 10 = .ok (.iload_n 2, 1) := by decide +kernel
theorem dX3_rankOf_11 : decode cX3_rankOf 11 = .ok (.if_icmp .ge 46, 3) := by decide +kernel
theorem dX3_rankOf_14 : decode cX3_rankOf 14 = .ok (.aload_n 0, 1) := by decide +kernel
theorem dX3_rankOf_15 : decode cX3_rankOf 15 = .ok (.getfield 9, 3) := by decide +kernel
theorem dX3_rankOf_18 : decode cX3_rankOf 18 = .ok (.iload 5, 2) := by decide +kernel
theorem dX3_rankOf_20 : decode cX3_rankOf 20 = .ok (.iaload, 1) := by decide +kernel
theorem dX3_rankOf_21 : decode cX3_rankOf 21 = .ok (.istore 6, 2) := by decide +kernel
theorem dX3_rankOf_23 : decode cX3_rankOf 23 = .ok (.iload 6, 2) := by decide +kernel
theorem dX3_rankOf_25 : decode cX3_rankOf 25 = .ok (.iload_n 1, 1) := by decide +kernel
theorem dX3_rankOf_26 : decode cX3_rankOf 26 = .ok (.if_icmp .ne 9, 3) := by decide +kernel
theorem dX3_rankOf_29 : decode cX3_rankOf 29 = .ok (.iinc 4 1, 3) := by decide +kernel
theorem dX3_rankOf_32 : decode cX3_rankOf 32 = .ok (.goto 19, 3) := by decide +kernel
theorem dX3_rankOf_35 : decode cX3_rankOf 35 = .ok (.iload 6, 2) := by decide +kernel
theorem dX3_rankOf_37 : decode cX3_rankOf 37 = .ok (.bipush (-9), 2) := by decide +kernel
theorem dX3_rankOf_39 : decode cX3_rankOf 39 = .ok (.if_icmp .eq 12, 3) := by decide +kernel
theorem dX3_rankOf_42 : decode cX3_rankOf 42 = .ok (.iload 6, 2) := by decide +kernel
theorem dX3_rankOf_44 : decode cX3_rankOf 44 = .ok (.iload_n 1, 1) := by decide +kernel
theorem dX3_rankOf_45 : decode cX3_rankOf 45 = .ok (.if_icmp .ge 6, 3) := by decide +kernel
theorem dX3_rankOf_48 : decode cX3_rankOf 48 = .ok (.iinc 3 1, 3) := by decide +kernel
theorem dX3_rankOf_51 : decode cX3_rankOf 51 = .ok (.iinc 5 1, 3) := by decide +kernel
theorem dX3_rankOf_54 : decode cX3_rankOf 54 = .ok (.goto (-46), 3) := by decide +kernel
theorem dX3_rankOf_57 : decode cX3_rankOf 57 = .ok (.iconst 2, 1) := by decide +kernel
theorem dX3_rankOf_58 : decode cX3_rankOf 58 = .ok (.iload_n 3, 1) := by decide +kernel
theorem dX3_rankOf_59 : decode cX3_rankOf 59 = .ok (.imul, 1) := by decide +kernel
theorem dX3_rankOf_60 : decode cX3_rankOf 60 = .ok (.iload 4, 2) := by decide +kernel
theorem dX3_rankOf_62 : decode cX3_rankOf 62 = .ok (.iadd, 1) := by decide +kernel
theorem dX3_rankOf_63 : decode cX3_rankOf 63 = .ok (.ireturn, 1) := by decide +kernel
theorem dX3_cutCount_0 : decode cX3_cutCount 0 = .ok (.aload_n 0, 1) := by decide +kernel
theorem dX3_cutCount_1 : decode cX3_cutCount 1 = .ok (.getfield 40, 3) := by decide +kernel
theorem dX3_cutCount_4 : decode cX3_cutCount 4 = .ok (.ifCond .le 12, 3) := by decide +kernel
theorem dX3_cutCount_7 : decode cX3_cutCount 7 = .ok (.aload_n 0, 1) := by decide +kernel
theorem dX3_cutCount_8 : decode cX3_cutCount 8 = .ok (.getfield 40, 3) := by decide +kernel
theorem dX3_cutCount_11 : decode cX3_cutCount 11 = .ok (.iconst 1, 1) := by decide +kernel
theorem dX3_cutCount_12 : decode cX3_cutCount 12 = .ok (.isub, 1) := by decide +kernel
theorem dX3_cutCount_13 : decode cX3_cutCount 13 = .ok (.goto 4, 3) := by decide +kernel
theorem dX3_cutCount_16 : decode cX3_cutCount 16 = .ok (.iconst 0, 1) := by decide +kernel
theorem dX3_cutCount_17 : decode cX3_cutCount 17 = .ok (.ireturn, 1) := by decide +kernel
theorem dX3_hasCut_0 : decode cX3_hasCut 0 = .ok (.iload_n 1, 1) := by decide +kernel
theorem dX3_hasCut_1 : decode cX3_hasCut 1 = .ok (.ifCond .lt 15, 3) := by decide +kernel
theorem dX3_hasCut_4 : decode cX3_hasCut 4 = .ok (.iload_n 1, 1) := by decide +kernel
theorem dX3_hasCut_5 : decode cX3_hasCut 5 = .ok (.aload_n 0, 1) := by decide +kernel
theorem dX3_hasCut_6 : decode cX3_hasCut 6 = .ok (.invokevirtual 44, 3) := by decide +kernel
theorem dX3_hasCut_9 : decode cX3_hasCut 9 = .ok (.if_icmp .ge 7, 3) := by decide +kernel
theorem dX3_hasCut_12 : decode cX3_hasCut 12 = .ok (.iconst 1, 1) := by decide +kernel
theorem dX3_hasCut_13 : decode cX3_hasCut 13 = .ok (.goto 4, 3) := by decide +kernel
theorem dX3_hasCut_16 : decode cX3_hasCut 16 = .ok (.iconst 0, 1) := by decide +kernel
theorem dX3_hasCut_17 : decode cX3_hasCut 17 = .ok (.ireturn, 1) := by decide +kernel
theorem dX3_cutBuild_0 : decode cX3_cutBuild 0 = .ok (.aload_n 0, 1) := by decide +kernel
theorem dX3_cutBuild_1 : decode cX3_cutBuild 1 = .ok (.getfield 19, 3) := by decide +kernel
theorem dX3_cutBuild_4 : decode cX3_cutBuild 4 = .ok (.aload_n 0, 1) := by decide +kernel
theorem dX3_cutBuild_5 : decode cX3_cutBuild 5 = .ok (.getfield 25, 3) := by decide +kernel
theorem dX3_cutBuild_8 : decode cX3_cutBuild 8 = .ok (.iload_n 1, 1) := by decide +kernel
theorem dX3_cutBuild_9 : decode cX3_cutBuild 9 = .ok (.iconst 1, 1) := by decide +kernel
theorem dX3_cutBuild_10 : decode cX3_cutBuild 10 = .ok (.iadd, 1) := by decide +kernel
theorem dX3_cutBuild_11 : decode cX3_cutBuild 11 = .ok (.iaload, 1) := by decide +kernel
theorem dX3_cutBuild_12 : decode cX3_cutBuild 12 = .ok (.iaload, 1) := by decide +kernel
theorem dX3_cutBuild_13 : decode cX3_cutBuild 13 = .ok (.ireturn, 1) := by decide +kernel
theorem dX3_stepSize_0 : decode cX3_stepSize 0 = .ok (.aload_n 0, 1) := by decide +kernel
theorem dX3_stepSize_1 : decode cX3_stepSize 1 = .ok (.getfield 28, 3) := by decide +kernel
theorem dX3_stepSize_4 : decode cX3_stepSize 4 = .ok (.iload_n 1, 1) := by decide +kernel
theorem dX3_stepSize_5 : decode cX3_stepSize 5 = .ok (.iconst 1, 1) := by decide +kernel
theorem dX3_stepSize_6 : decode cX3_stepSize 6 = .ok (.iadd, 1) := by decide +kernel
theorem dX3_stepSize_7 : decode cX3_stepSize 7 = .ok (.iaload, 1) := by decide +kernel
theorem dX3_stepSize_8 : decode cX3_stepSize 8 = .ok (.aload_n 0, 1) := by decide +kernel
theorem dX3_stepSize_9 : decode cX3_stepSize 9 = .ok (.getfield 28, 3) := by decide +kernel
theorem dX3_stepSize_12 : decode cX3_stepSize 12 = .ok (.iload_n 1, 1) := by decide +kernel
theorem dX3_stepSize_13 : decode cX3_stepSize 13 = .ok (.iaload, 1) := by decide +kernel
theorem dX3_stepSize_14 : decode cX3_stepSize 14 = .ok (.isub, 1) := by decide +kernel
theorem dX3_stepSize_15 : decode cX3_stepSize 15 = .ok (.ireturn, 1) := by decide +kernel
theorem dX3_undoingOf_0 : decode cX3_undoingOf 0 = .ok (.aload_n 0, 1) := by decide +kernel
theorem dX3_undoingOf_1 : decode cX3_undoingOf 1 = .ok (.iload_n 1, 1) := by decide +kernel
theorem dX3_undoingOf_2 : decode cX3_undoingOf 2 = .ok (.invokevirtual 48, 3) := by decide +kernel
theorem dX3_undoingOf_5 : decode cX3_undoingOf 5 = .ok (.ifCond .le 12, 3) := by decide +kernel
theorem dX3_undoingOf_8 : decode cX3_undoingOf 8 = .ok (.aload_n 0, 1) := by decide +kernel
theorem dX3_undoingOf_9 : decode cX3_undoingOf 9 = .ok (.getfield 31, 3) := by decide +kernel
theorem dX3_undoingOf_12 : decode cX3_undoingOf 12 = .ok (.iload_n 1, 1) := by decide +kernel
theorem dX3_undoingOf_13 : decode cX3_undoingOf 13 = .ok (.iaload, 1) := by decide +kernel
theorem dX3_undoingOf_14 : decode cX3_undoingOf 14 = .ok (.goto 5, 3) := by decide +kernel
theorem dX3_undoingOf_17 : decode cX3_undoingOf 17 = .ok (.bipush (-9), 2) := by decide +kernel
theorem dX3_undoingOf_19 : decode cX3_undoingOf 19 = .ok (.ireturn, 1) := by decide +kernel
theorem dX3_stepsNear_0 : decode cX3_stepsNear 0 = .ok (.iconst 0, 1) := by decide +kernel
theorem dX3_stepsNear_1 : decode cX3_stepsNear 1 = .ok (.istore 4, 2) := by decide +kernel
theorem dX3_stepsNear_3 : decode cX3_stepsNear 3 = .ok (.iload 4, 2) := by decide +kernel
theorem dX3_stepsNear_5 : decode cX3_stepsNear 5 = .ok (.aload_n 0, 1) := by decide +kernel
theorem dX3_stepsNear_6 : decode cX3_stepsNear 6 = .ok (.invokevirtual 44, 3) := by decide +kernel
theorem dX3_stepsNear_9 : decode cX3_stepsNear 9 = .ok (.if_icmp .ge 55, 3) := by decide +kernel
theorem dX3_stepsNear_12 : decode cX3_stepsNear 12 = .ok (.iload_n 3, 1) := by decide +kernel
theorem dX3_stepsNear_13 : decode cX3_stepsNear 13 = .ok (.ifCond .eq 20, 3) := by decide +kernel
theorem dX3_stepsNear_16 : decode cX3_stepsNear 16 = .ok (.aload_n 0, 1) := by decide +kernel
theorem dX3_stepsNear_17 : decode cX3_stepsNear 17 = .ok (.iload 4, 2) := by decide +kernel
theorem dX3_stepsNear_19 : decode cX3_stepsNear 19 = .ok (.invokevirtual 48, 3) := by decide +kernel
theorem dX3_stepsNear_22 : decode cX3_stepsNear 22 = .ok (.invokestatic 52, 3) := by decide +kernel
theorem dX3_stepsNear_25 : decode cX3_stepsNear 25 = .ok (.iload_n 3, 1) := by decide +kernel
theorem dX3_stepsNear_26 : decode cX3_stepsNear 26 = .ok (.if_icmp .ne 7, 3) := by decide +kernel
theorem dX3_stepsNear_29 : decode cX3_stepsNear 29 = .ok (.iconst 1, 1) := by decide +kernel
theorem dX3_stepsNear_30 : decode cX3_stepsNear 30 = .ok (.goto 4, 3) := by decide +kernel
theorem dX3_stepsNear_33 : decode cX3_stepsNear 33 = .ok (.iconst 0, 1) := by decide +kernel
theorem dX3_stepsNear_34 : decode cX3_stepsNear 34 = .ok (.istore 5, 2) := by decide +kernel
theorem dX3_stepsNear_36 : decode cX3_stepsNear 36 = .ok (.iload 5, 2) := by decide +kernel
theorem dX3_stepsNear_38 : decode cX3_stepsNear 38 = .ok (.ifCond .eq 20, 3) := by decide +kernel
theorem dX3_stepsNear_41 : decode cX3_stepsNear 41 = .ok (.aload_n 0, 1) := by decide +kernel
theorem dX3_stepsNear_42 : decode cX3_stepsNear 42 = .ok (.iload 4, 2) := by decide +kernel
theorem dX3_stepsNear_44 : decode cX3_stepsNear 44 = .ok (.invokevirtual 57, 3) := by decide +kernel
theorem dX3_stepsNear_47 : decode cX3_stepsNear 47 = .ok (.iload_n 1, 1) := by decide +kernel
theorem dX3_stepsNear_48 : decode cX3_stepsNear 48 = .ok (.isub, 1) := by decide +kernel
theorem dX3_stepsNear_49 : decode cX3_stepsNear 49 = .ok (.invokestatic 60, 3) := by decide +kernel
theorem dX3_stepsNear_52 : decode cX3_stepsNear 52 = .ok (.iload_n 2, 1) := by decide +kernel
theorem dX3_stepsNear_53 : decode cX3_stepsNear 53 = .ok (.if_icmp .gt 5, 3) := by decide +kernel
theorem dX3_stepsNear_56 : decode cX3_stepsNear 56 = .ok (.iconst 1, 1) := by decide +kernel
theorem dX3_stepsNear_57 : decode cX3_stepsNear 57 = .ok (.ireturn, 1) := by decide +kernel
theorem dX3_stepsNear_58 : decode cX3_stepsNear 58 = .ok (.iinc 4 1, 3) := by decide +kernel
theorem dX3_stepsNear_61 : decode cX3_stepsNear 61 = .ok (.goto (-58), 3) := by decide +kernel
theorem dX3_stepsNear_64 : decode cX3_stepsNear 64 = .ok (.iconst 0, 1) := by decide +kernel
theorem dX3_stepsNear_65 : decode cX3_stepsNear 65 = .ok (.ireturn, 1) := by decide +kernel
theorem dX3_isMeasuredAround_0 : decode cX3_isMeasuredAround 0 = .ok (.aload_n 0, 1) := by decide +kernel
theorem dX3_isMeasuredAround_1 : decode cX3_isMeasuredAround 1 = .ok (.getfield 65, 3) := by decide +kernel
theorem dX3_isMeasuredAround_4 : decode cX3_isMeasuredAround 4 = .ok (.ifCond .le 32, 3) := by decide +kernel
theorem dX3_isMeasuredAround_7 : decode cX3_isMeasuredAround 7 = .ok (.aload_n 0, 1) := by decide +kernel
theorem dX3_isMeasuredAround_8 : decode cX3_isMeasuredAround 8 = .ok (.getfield 19, 3) := by decide +kernel
theorem dX3_isMeasuredAround_11 : decode cX3_isMeasuredAround 11 = .ok (.iconst 0, 1) := by decide +kernel
theorem dX3_isMeasuredAround_12 : decode cX3_isMeasuredAround 12 = .ok (.iaload, 1) := by decide +kernel
theorem dX3_isMeasuredAround_13 : decode cX3_isMeasuredAround 13 = .ok (.iload_n 1, 1) := by decide +kernel
theorem dX3_isMeasuredAround_14 : decode cX3_isMeasuredAround 14 = .ok (.if_icmp .ge 22, 3) := by decide +kernel
theorem dX3_isMeasuredAround_17 : decode cX3_isMeasuredAround 17 = .ok (.aload_n 0, 1) := by decide +kernel
theorem dX3_isMeasuredAround_18 : decode cX3_isMeasuredAround 18 = .ok (.getfield 19, 3) := by decide +kernel
theorem dX3_isMeasuredAround_21 : decode cX3_isMeasuredAround 21 = .ok (.aload_n 0, 1) := by decide +kernel
theorem dX3_isMeasuredAround_22 : decode cX3_isMeasuredAround 22 = .ok (.getfield 65, 3) := by decide +kernel
theorem dX3_isMeasuredAround_25 : decode cX3_isMeasuredAround 25 = .ok (.iconst 1, 1) := by decide +kernel
theorem dX3_isMeasuredAround_26 : decode cX3_isMeasuredAround 26 = .ok (.isub, 1) := by decide +kernel
theorem dX3_isMeasuredAround_27 : decode cX3_isMeasuredAround 27 = .ok (.iaload, 1) := by decide +kernel
theorem dX3_isMeasuredAround_28 : decode cX3_isMeasuredAround 28 = .ok (.iload_n 1, 1) := by decide +kernel
theorem dX3_isMeasuredAround_29 : decode cX3_isMeasuredAround 29 = .ok (.if_icmp .lt 7, 3) := by decide +kernel
theorem dX3_isMeasuredAround_32 : decode cX3_isMeasuredAround 32 = .ok (.iconst 1, 1) := by decide +kernel
theorem dX3_isMeasuredAround_33 : decode cX3_isMeasuredAround 33 = .ok (.goto 4, 3) := by decide +kernel
theorem dX3_isMeasuredAround_36 : decode cX3_isMeasuredAround 36 = .ok (.iconst 0, 1) := by decide +kernel
theorem dX3_isMeasuredAround_37 : decode cX3_isMeasuredAround 37 = .ok (.ireturn, 1) := by decide +kernel
theorem dX3_rememberAlarm_0 : decode cX3_rememberAlarm 0 = .ok (.aload_n 0, 1) := by decide +kernel
theorem dX3_rememberAlarm_1 : decode cX3_rememberAlarm 1 = .ok (.dup, 1) := by decide +kernel
theorem dX3_rememberAlarm_2 : decode cX3_rememberAlarm 2 = .ok (.getfield 68, 3) := by decide +kernel
theorem dX3_rememberAlarm_5 : decode cX3_rememberAlarm 5 = .ok (.lconst 1, 1) := by decide +kernel
theorem dX3_rememberAlarm_6 : decode cX3_rememberAlarm 6 = .ok (.aload_n 0, 1) := by decide +kernel
theorem dX3_rememberAlarm_7 : decode cX3_rememberAlarm 7 = .ok (.iload_n 1, 1) := by decide +kernel
theorem dX3_rememberAlarm_8 : decode cX3_rememberAlarm 8 = .ok (.invokevirtual 57, 3) := by decide +kernel
theorem dX3_rememberAlarm_11 : decode cX3_rememberAlarm 11 = .ok (.lshl, 1) := by decide +kernel
theorem dX3_rememberAlarm_12 : decode cX3_rememberAlarm 12 = .ok (.lor, 1) := by decide +kernel
theorem dX3_rememberAlarm_13 : decode cX3_rememberAlarm 13 = .ok (.putfield 68, 3) := by decide +kernel
theorem dX3_rememberAlarm_16 : decode cX3_rememberAlarm 16 = .ok (.return_, 1) := by decide +kernel
theorem dX3_wasAlarmed_0 : decode cX3_wasAlarmed 0 = .ok (.aload_n 0, 1) := by decide +kernel
theorem dX3_wasAlarmed_1 : decode cX3_wasAlarmed 1 = .ok (.getfield 68, 3) := by decide +kernel
theorem dX3_wasAlarmed_4 : decode cX3_wasAlarmed 4 = .ok (.aload_n 0, 1) := by decide +kernel
theorem dX3_wasAlarmed_5 : decode cX3_wasAlarmed 5 = .ok (.iload_n 1, 1) := by decide +kernel
theorem dX3_wasAlarmed_6 : decode cX3_wasAlarmed 6 = .ok (.invokevirtual 57, 3) := by decide +kernel
theorem dX3_wasAlarmed_9 : decode cX3_wasAlarmed 9 = .ok (.lshr, 1) := by decide +kernel
theorem dX3_wasAlarmed_10 : decode cX3_wasAlarmed 10 = .ok (.lconst 1, 1) := by decide +kernel
theorem dX3_wasAlarmed_11 : decode cX3_wasAlarmed 11 = .ok (.land, 1) := by decide +kernel
theorem dX3_wasAlarmed_12 : decode cX3_wasAlarmed 12 = .ok (.lconst 0, 1) := by decide +kernel
theorem dX3_wasAlarmed_13 : decode cX3_wasAlarmed 13 = .ok (.lcmp, 1) := by decide +kernel
theorem dX3_wasAlarmed_14 : decode cX3_wasAlarmed 14 = .ok (.ifCond .eq 7, 3) := by decide +kernel
theorem dX3_wasAlarmed_17 : decode cX3_wasAlarmed 17 = .ok (.iconst 1, 1) := by decide +kernel
theorem dX3_wasAlarmed_18 : decode cX3_wasAlarmed 18 = .ok (.goto 4, 3) := by decide +kernel
theorem dX3_wasAlarmed_21 : decode cX3_wasAlarmed 21 = .ok (.iconst 0, 1) := by decide +kernel
theorem dX3_wasAlarmed_22 : decode cX3_wasAlarmed 22 = .ok (.ireturn, 1) := by decide +kernel
theorem dX3_digestOnto_0 : decode cX3_digestOnto 0 = .ok (.aload_n 0, 1) := by decide +kernel
theorem dX3_digestOnto_1 : decode cX3_digestOnto 1 = .ok (.getfield 72, 3) := by decide +kernel
theorem dX3_digestOnto_4 : decode cX3_digestOnto 4 = .ok (.ifCond .ne 11, 3) := by decide +kernel
theorem dX3_digestOnto_7 : decode cX3_digestOnto 7 = .ok (.ldc2_w 75, 3) := by decide +kernel
theorem dX3_digestOnto_10 : decode cX3_digestOnto 10 = .ok (.lload_n 1, 1) := by decide +kernel
theorem dX3_digestOnto_11 : decode cX3_digestOnto 11 = .ok (.lmul, 1) := by decide +kernel
theorem dX3_digestOnto_12 : decode cX3_digestOnto 12 = .ok (.lconst 1, 1) := by decide +kernel
theorem dX3_digestOnto_13 : decode cX3_digestOnto 13 = .ok (.lsub, 1) := by decide +kernel
theorem dX3_digestOnto_14 : decode cX3_digestOnto 14 = .ok (.lreturn, 1) := by decide +kernel
theorem dX3_digestOnto_15 : decode cX3_digestOnto 15 = .ok (.lload_n 1, 1) := by decide +kernel
theorem dX3_digestOnto_16 : decode cX3_digestOnto 16 = .ok (.lstore_n 3, 1) := by decide +kernel
theorem dX3_digestOnto_17 : decode cX3_digestOnto 17 = .ok (.iconst 0, 1) := by decide +kernel
theorem dX3_digestOnto_18 : decode cX3_digestOnto 18 = .ok (.istore 5, 2) := by decide +kernel
theorem dX3_digestOnto_20 : decode cX3_digestOnto 20 = .ok (.iload 5, 2) := by decide +kernel
theorem dX3_digestOnto_22 : decode cX3_digestOnto 22 = .ok (.bipush 40, 2) := by decide +kernel
theorem dX3_digestOnto_24 : decode cX3_digestOnto 24 = .ok (.if_icmp .ge 24, 3) := by decide +kernel
theorem dX3_digestOnto_27 : decode cX3_digestOnto 27 = .ok (.ldc2_w 75, 3) := by decide +kernel
theorem dX3_digestOnto_30 : decode cX3_digestOnto 30 = .ok (.lload_n 3, 1) := by decide +kernel
theorem dX3_digestOnto_31 : decode cX3_digestOnto 31 = .ok (.lmul, 1) := by decide +kernel
theorem dX3_digestOnto_32 : decode cX3_digestOnto 32 = .ok (.aload_n 0, 1) := by decide +kernel
theorem dX3_digestOnto_33 : decode cX3_digestOnto 33 = .ok (.getfield 9, 3) := by decide +kernel
theorem dX3_digestOnto_36 : decode cX3_digestOnto 36 = .ok (.iload 5, 2) := by decide +kernel
theorem dX3_digestOnto_38 : decode cX3_digestOnto 38 = .ok (.iaload, 1) := by decide +kernel
theorem dX3_digestOnto_39 : decode cX3_digestOnto 39 = .ok (.i2l, 1) := by decide +kernel
theorem dX3_digestOnto_40 : decode cX3_digestOnto 40 = .ok (.ladd, 1) := by decide +kernel
theorem dX3_digestOnto_41 : decode cX3_digestOnto 41 = .ok (.lstore_n 3, 1) := by decide +kernel
theorem dX3_digestOnto_42 : decode cX3_digestOnto 42 = .ok (.iinc 5 1, 3) := by decide +kernel
theorem dX3_digestOnto_45 : decode cX3_digestOnto 45 = .ok (.goto (-25), 3) := by decide +kernel
theorem dX3_digestOnto_48 : decode cX3_digestOnto 48 = .ok (.lload_n 3, 1) := by decide +kernel
theorem dX3_digestOnto_49 : decode cX3_digestOnto 49 = .ok (.lreturn, 1) := by decide +kernel
theorem dX3_gatherMeasured_0 : decode cX3_gatherMeasured 0 = .ok (.aload_n 0, 1) := by decide +kernel
theorem dX3_gatherMeasured_1 : decode cX3_gatherMeasured 1 = .ok (.iconst 0, 1) := by decide +kernel
theorem dX3_gatherMeasured_2 : decode cX3_gatherMeasured 2 = .ok (.putfield 65, 3) := by decide +kernel
theorem dX3_gatherMeasured_5 : decode cX3_gatherMeasured 5 = .ok (.iconst 0, 1) := by decide +kernel
theorem dX3_gatherMeasured_6 : decode cX3_gatherMeasured 6 = .ok (.istore_n 2, 1) := by decide +kernel
theorem dX3_gatherMeasured_7 : decode cX3_gatherMeasured 7 = .ok (.iload_n 2, 1) := by decide +kernel
theorem dX3_gatherMeasured_8 : decode cX3_gatherMeasured 8 = .ok (.iload_n 1, 1) := by decide +kernel
theorem dX3_gatherMeasured_9 : decode cX3_gatherMeasured 9 = .ok (.if_icmp .ge 60, 3) := by decide +kernel
theorem dX3_gatherMeasured_12 : decode cX3_gatherMeasured 12 = .ok (.aload_n 0, 1) := by decide +kernel
theorem dX3_gatherMeasured_13 : decode cX3_gatherMeasured 13 = .ok (.getfield 9, 3) := by decide +kernel
theorem dX3_gatherMeasured_16 : decode cX3_gatherMeasured 16 = .ok (.iload_n 2, 1) := by decide +kernel
theorem dX3_gatherMeasured_17 : decode cX3_gatherMeasured 17 = .ok (.iaload, 1) := by decide +kernel
theorem dX3_gatherMeasured_18 : decode cX3_gatherMeasured 18 = .ok (.bipush (-9), 2) := by decide +kernel
theorem dX3_gatherMeasured_20 : decode cX3_gatherMeasured 20 = .ok (.if_icmp .eq 43, 3) := by decide +kernel
theorem dX3_gatherMeasured_23 : decode cX3_gatherMeasured 23 = .ok (.aload_n 0, 1) := by decide +kernel
theorem dX3_gatherMeasured_24 : decode cX3_gatherMeasured 24 = .ok (.getfield 19, 3) := by decide +kernel
theorem dX3_gatherMeasured_27 : decode cX3_gatherMeasured 27 = .ok (.aload_n 0, 1) := by decide +kernel
theorem dX3_gatherMeasured_28 : decode cX3_gatherMeasured 28 = .ok (.getfield 65, 3) := by decide +kernel
theorem dX3_gatherMeasured_31 : decode cX3_gatherMeasured 31 = .ok (.iload_n 2, 1) := by decide +kernel
theorem dX3_gatherMeasured_32 : decode cX3_gatherMeasured 32 = .ok (.iastore, 1) := by decide +kernel
theorem dX3_gatherMeasured_33 : decode cX3_gatherMeasured 33 = .ok (.aload_n 0, 1) := by decide +kernel
theorem dX3_gatherMeasured_34 : decode cX3_gatherMeasured 34 = .ok (.getfield 22, 3) := by decide +kernel
theorem dX3_gatherMeasured_37 : decode cX3_gatherMeasured 37 = .ok (.aload_n 0, 1) := by decide +kernel
theorem dX3_gatherMeasured_38 : decode cX3_gatherMeasured 38 = .ok (.getfield 65, 3) := by decide +kernel
theorem dX3_gatherMeasured_41 : decode cX3_gatherMeasured 41 = .ok (.aload_n 0, 1) := by decide +kernel
theorem dX3_gatherMeasured_42 : decode cX3_gatherMeasured 42 = .ok (.aload_n 0, 1) := by decide +kernel
theorem dX3_gatherMeasured_43 : decode cX3_gatherMeasured 43 = .ok (.getfield 9, 3) := by decide +kernel
theorem dX3_gatherMeasured_46 : decode cX3_gatherMeasured 46 = .ok (.iload_n 2, 1) := by decide +kernel
theorem dX3_gatherMeasured_47 : decode cX3_gatherMeasured 47 = .ok (.iaload, 1) := by decide +kernel
theorem dX3_gatherMeasured_48 : decode cX3_gatherMeasured 48 = .ok (.iload_n 1, 1) := by decide +kernel
theorem dX3_gatherMeasured_49 : decode cX3_gatherMeasured 49 = .ok (.invokevirtual 77, 3) := by decide +kernel
theorem dX3_gatherMeasured_52 : decode cX3_gatherMeasured 52 = .ok (.iastore, 1) := by decide +kernel
theorem dX3_gatherMeasured_53 : decode cX3_gatherMeasured 53 = .ok (.aload_n 0, 1) := by decide +kernel
theorem dX3_gatherMeasured_54 : decode cX3_gatherMeasured 54 = .ok (.dup, 1) := by decide +kernel
theorem dX3_gatherMeasured_55 : decode cX3_gatherMeasured 55 = .ok (.getfield 65, 3) := by decide +kernel
theorem dX3_gatherMeasured_58 : decode cX3_gatherMeasured 58 = .ok (.iconst 1, 1) := by decide +kernel
theorem dX3_gatherMeasured_59 : decode cX3_gatherMeasured 59 = .ok (.iadd, 1) := by decide +kernel
theorem dX3_gatherMeasured_60 : decode cX3_gatherMeasured 60 = .ok (.putfield 65, 3) := by decide +kernel
theorem dX3_gatherMeasured_63 : decode cX3_gatherMeasured 63 = .ok (.iinc 2 1, 3) := by decide +kernel
theorem dX3_gatherMeasured_66 : decode cX3_gatherMeasured 66 = .ok (.goto (-59), 3) := by decide +kernel
theorem dX3_gatherMeasured_69 : decode cX3_gatherMeasured 69 = .ok (.return_, 1) := by decide +kernel
theorem dX3_pairSteps_0 : decode cX3_pairSteps 0 = .ok (.aload_n 0, 1) := by decide +kernel
theorem dX3_pairSteps_1 : decode cX3_pairSteps 1 = .ok (.getfield 31, 3) := by decide +kernel
theorem dX3_pairSteps_4 : decode cX3_pairSteps 4 = .ok (.bipush (-9), 2) := by decide +kernel
theorem dX3_pairSteps_6 : decode cX3_pairSteps 6 = .ok (.invokestatic 34, 3) := by decide +kernel
theorem dX3_pairSteps_9 : decode cX3_pairSteps 9 = .ok (.iconst 0, 1) := by decide +kernel
theorem dX3_pairSteps_10 : decode cX3_pairSteps 10 = .ok (.istore_n 1, 1) := by decide +kernel
theorem dX3_pairSteps_11 : decode cX3_pairSteps 11 = .ok (.iload_n 1, 1) := by decide +kernel
theorem dX3_pairSteps_12 : decode cX3_pairSteps 12 = .ok (.aload_n 0, 1) := by decide +kernel
theorem dX3_pairSteps_13 : decode cX3_pairSteps 13 = .ok (.invokevirtual 44, 3) := by decide +kernel
theorem dX3_pairSteps_16 : decode cX3_pairSteps 16 = .ok (.if_icmp .ge 22, 3) := by decide +kernel
theorem dX3_pairSteps_19 : decode cX3_pairSteps 19 = .ok (.aload_n 0, 1) := by decide +kernel
theorem dX3_pairSteps_20 : decode cX3_pairSteps 20 = .ok (.iload_n 1, 1) := by decide +kernel
theorem dX3_pairSteps_21 : decode cX3_pairSteps 21 = .ok (.invokevirtual 48, 3) := by decide +kernel
theorem dX3_pairSteps_24 : decode cX3_pairSteps 24 = .ok (.ifCond .le 8, 3) := by decide +kernel
theorem dX3_pairSteps_27 : decode cX3_pairSteps 27 = .ok (.aload_n 0, 1) := by decide +kernel
theorem dX3_pairSteps_28 : decode cX3_pairSteps 28 = .ok (.iload_n 1, 1) := by decide +kernel
theorem dX3_pairSteps_29 : decode cX3_pairSteps 29 = .ok (.invokevirtual 81, 3) := by decide +kernel
theorem dX3_pairSteps_32 : decode cX3_pairSteps 32 = .ok (.iinc 1 1, 3) := by decide +kernel
theorem dX3_pairSteps_35 : decode cX3_pairSteps 35 = .ok (.goto (-24), 3) := by decide +kernel
theorem dX3_pairSteps_38 : decode cX3_pairSteps 38 = .ok (.return_, 1) := by decide +kernel
theorem dX3_pairStep_0 : decode cX3_pairStep 0 = .ok (.aload_n 0, 1) := by decide +kernel
theorem dX3_pairStep_1 : decode cX3_pairStep 1 = .ok (.iload_n 1, 1) := by decide +kernel
theorem dX3_pairStep_2 : decode cX3_pairStep 2 = .ok (.invokevirtual 48, 3) := by decide +kernel
theorem dX3_pairStep_5 : decode cX3_pairStep 5 = .ok (.istore_n 2, 1) := by decide +kernel
theorem dX3_pairStep_6 : decode cX3_pairStep 6 = .ok (.iload_n 1, 1) := by decide +kernel
theorem dX3_pairStep_7 : decode cX3_pairStep 7 = .ok (.iconst 1, 1) := by decide +kernel
theorem dX3_pairStep_8 : decode cX3_pairStep 8 = .ok (.iadd, 1) := by decide +kernel
theorem dX3_pairStep_9 : decode cX3_pairStep 9 = .ok (.istore_n 3, 1) := by decide +kernel
theorem dX3_pairStep_10 : decode cX3_pairStep 10 = .ok (.iload_n 3, 1) := by decide +kernel
theorem dX3_pairStep_11 : decode cX3_pairStep 11 = .ok (.aload_n 0, 1) := by decide +kernel
theorem dX3_pairStep_12 : decode cX3_pairStep 12 = .ok (.invokevirtual 44, 3) := by decide +kernel
theorem dX3_pairStep_15 : decode cX3_pairStep 15 = .ok (.if_icmp .ge 74, 3) := by decide +kernel
theorem dX3_pairStep_18 : decode cX3_pairStep 18 = .ok (.aload_n 0, 1) := by decide +kernel
theorem dX3_pairStep_19 : decode cX3_pairStep 19 = .ok (.iload_n 3, 1) := by decide +kernel
theorem dX3_pairStep_20 : decode cX3_pairStep 20 = .ok (.invokevirtual 48, 3) := by decide +kernel
theorem dX3_pairStep_23 : decode cX3_pairStep 23 = .ok (.ineg, 1) := by decide +kernel
theorem dX3_pairStep_24 : decode cX3_pairStep 24 = .ok (.istore 4, 2) := by decide +kernel
theorem dX3_pairStep_26 : decode cX3_pairStep 26 = .ok (.bipush 10, 2) := by decide +kernel
theorem dX3_pairStep_28 : decode cX3_pairStep 28 = .ok (.iload_n 2, 1) := by decide +kernel
theorem dX3_pairStep_29 : decode cX3_pairStep 29 = .ok (.iload 4, 2) := by decide +kernel
theorem dX3_pairStep_31 : decode cX3_pairStep 31 = .ok (.isub, 1) := by decide +kernel
theorem dX3_pairStep_32 : decode cX3_pairStep 32 = .ok (.invokestatic 60, 3) := by decide +kernel
theorem dX3_pairStep_35 : decode cX3_pairStep 35 = .ok (.imul, 1) := by decide +kernel
theorem dX3_pairStep_36 : decode cX3_pairStep 36 = .ok (.iload_n 2, 1) := by decide +kernel
theorem dX3_pairStep_37 : decode cX3_pairStep 37 = .ok (.if_icmp .gt 7, 3) := by decide +kernel
theorem dX3_pairStep_40 : decode cX3_pairStep 40 = .ok (.iconst 1, 1) := by decide +kernel
theorem dX3_pairStep_41 : decode cX3_pairStep 41 = .ok (.goto 4, 3) := by decide +kernel
theorem dX3_pairStep_44 : decode cX3_pairStep 44 = .ok (.iconst 0, 1) := by decide +kernel
theorem dX3_pairStep_45 : decode cX3_pairStep 45 = .ok (.istore 5, 2) := by decide +kernel
theorem dX3_pairStep_47 : decode cX3_pairStep 47 = .ok (.iload 4, 2) := by decide +kernel
theorem dX3_pairStep_49 : decode cX3_pairStep 49 = .ok (.ifCond .le 34, 3) := by decide +kernel
theorem dX3_pairStep_52 : decode cX3_pairStep 52 = .ok (.aload_n 0, 1) := by decide +kernel
theorem dX3_pairStep_53 : decode cX3_pairStep 53 = .ok (.getfield 31, 3) := by decide +kernel
theorem dX3_pairStep_56 : decode cX3_pairStep 56 = .ok (.iload_n 3, 1) := by decide +kernel
theorem dX3_pairStep_57 : decode cX3_pairStep 57 = .ok (.iaload, 1) := by decide +kernel
theorem dX3_pairStep_58 : decode cX3_pairStep 58 = .ok (.bipush (-9), 2) := by decide +kernel
theorem dX3_pairStep_60 : decode cX3_pairStep 60 = .ok (.if_icmp .ne 23, 3) := by decide +kernel
theorem dX3_pairStep_63 : decode cX3_pairStep 63 = .ok (.iload 5, 2) := by decide +kernel
theorem dX3_pairStep_65 : decode cX3_pairStep 65 = .ok (.ifCond .eq 18, 3) := by decide +kernel
theorem dX3_pairStep_68 : decode cX3_pairStep 68 = .ok (.aload_n 0, 1) := by decide +kernel
theorem dX3_pairStep_69 : decode cX3_pairStep 69 = .ok (.getfield 31, 3) := by decide +kernel
theorem dX3_pairStep_72 : decode cX3_pairStep 72 = .ok (.iload_n 1, 1) := by decide +kernel
theorem dX3_pairStep_73 : decode cX3_pairStep 73 = .ok (.iload_n 3, 1) := by decide +kernel
theorem dX3_pairStep_74 : decode cX3_pairStep 74 = .ok (.iastore, 1) := by decide +kernel
theorem dX3_pairStep_75 : decode cX3_pairStep 75 = .ok (.aload_n 0, 1) := by decide +kernel
theorem dX3_pairStep_76 : decode cX3_pairStep 76 = .ok (.getfield 31, 3) := by decide +kernel
theorem dX3_pairStep_79 : decode cX3_pairStep 79 = .ok (.iload_n 3, 1) := by decide +kernel
theorem dX3_pairStep_80 : decode cX3_pairStep 80 = .ok (.iload_n 1, 1) := by decide +kernel
theorem dX3_pairStep_81 : decode cX3_pairStep 81 = .ok (.iastore, 1) := by decide +kernel
theorem dX3_pairStep_82 : decode cX3_pairStep 82 = .ok (.return_, 1) := by decide +kernel
theorem dX3_pairStep_83 : decode cX3_pairStep 83 = .ok (.iinc 3 1, 3) := by decide +kernel
theorem dX3_pairStep_86 : decode cX3_pairStep 86 = .ok (.goto (-76), 3) := by decide +kernel
theorem dX3_pairStep_89 : decode cX3_pairStep 89 = .ok (.return_, 1) := by decide +kernel
theorem dX4_init_0 : decode cX4_init 0 = .ok (.aload_n 0, 1) := by decide +kernel
theorem dX4_init_1 : decode cX4_init 1 = .ok (.invokespecial 3, 3) := by decide +kernel
theorem dX4_init_4 : decode cX4_init 4 = .ok (.aload_n 0, 1) := by decide +kernel
theorem dX4_init_5 : decode cX4_init 5 = .ok (.iconst 4, 1) := by decide +kernel
theorem dX4_init_6 : decode cX4_init 6 = .ok (.anewarray 9, 3) := by decide +kernel
theorem dX4_init_9 : decode cX4_init 9 = .ok (.putfield 11, 3) := by decide +kernel
theorem dX4_init_12 : decode cX4_init 12 = .ok (.aload_n 0, 1) := by decide +kernel
theorem dX4_init_13 : decode cX4_init 13 = .ok (.iload_n 1, 1) := by decide +kernel
theorem dX4_init_14 : decode cX4_init 14 = .ok (.putfield 17, 3) := by decide +kernel
theorem dX4_init_17 : decode cX4_init 17 = .ok (.iconst 0, 1) := by decide +kernel
theorem dX4_init_18 : decode cX4_init 18 = .ok (.istore_n 2, 1) := by decide +kernel
theorem dX4_init_19 : decode cX4_init 19 = .ok (.iload_n 2, 1) := by decide +kernel
theorem dX4_init_20 : decode cX4_init 20 = .ok (.iconst 4, 1) := by decide +kernel
theorem dX4_init_21 : decode cX4_init 21 = .ok (.if_icmp .ge 22, 3) := by decide +kernel
theorem dX4_init_24 : decode cX4_init 24 = .ok (.aload_n 0, 1) := by decide +kernel
theorem dX4_init_25 : decode cX4_init 25 = .ok (.getfield 11, 3) := by decide +kernel
theorem dX4_init_28 : decode cX4_init 28 = .ok (.iload_n 2, 1) := by decide +kernel
theorem dX4_init_29 : decode cX4_init 29 = .ok (.new 9, 3) := by decide +kernel
theorem dX4_init_32 : decode cX4_init 32 = .ok (.dup, 1) := by decide +kernel
theorem dX4_init_33 : decode cX4_init 33 = .ok (.invokespecial 21, 3) := by decide +kernel
theorem dX4_init_36 : decode cX4_init 36 = .ok (.aastore, 1) := by decide +kernel
theorem dX4_init_37 : decode cX4_init 37 = .ok (.iinc 2 1, 3) := by decide +kernel
theorem dX4_init_40 : decode cX4_init 40 = .ok (.goto (-21), 3) := by decide +kernel
theorem dX4_init_43 : decode cX4_init 43 = .ok (.return_, 1) := by decide +kernel
theorem dJ6_signum_0f7a4_0 : decode cJ6_signum_0f7a4 0 = .ok (.iload_n 0, 1) := by decide +kernel
theorem dJ6_signum_0f7a4_1 : decode cJ6_signum_0f7a4 1 = .ok (.bipush 31, 2) := by decide +kernel
theorem dJ6_signum_0f7a4_3 : decode cJ6_signum_0f7a4 3 = .ok (.ishr, 1) := by decide +kernel
theorem dJ6_signum_0f7a4_4 : decode cJ6_signum_0f7a4 4 = .ok (.iload_n 0, 1) := by decide +kernel
theorem dJ6_signum_0f7a4_5 : decode cJ6_signum_0f7a4 5 = .ok (.ineg, 1) := by decide +kernel
theorem dJ6_signum_0f7a4_6 : decode cJ6_signum_0f7a4 6 = .ok (.bipush 31, 2) := by decide +kernel
theorem dJ6_signum_0f7a4_8 : decode cJ6_signum_0f7a4 8 = .ok (.iushr, 1) := by decide +kernel
theorem dJ6_signum_0f7a4_9 : decode cJ6_signum_0f7a4 9 = .ok (.ior, 1) := by decide +kernel
theorem dJ6_signum_0f7a4_10 : decode cJ6_signum_0f7a4 10 = .ok (.ireturn, 1) := by decide +kernel
theorem dJ9_abs_0f7a4_0 : decode cJ9_abs_0f7a4 0 = .ok (.iload_n 0, 1) := by decide +kernel
theorem dJ9_abs_0f7a4_1 : decode cJ9_abs_0f7a4 1 = .ok (.ifCond .ge 8, 3) := by decide +kernel
theorem dJ9_abs_0f7a4_4 : decode cJ9_abs_0f7a4 4 = .ok (.iload_n 0, 1) := by decide +kernel
theorem dJ9_abs_0f7a4_5 : decode cJ9_abs_0f7a4 5 = .ok (.ineg, 1) := by decide +kernel
theorem dJ9_abs_0f7a4_6 : decode cJ9_abs_0f7a4 6 = .ok (.goto 4, 3) := by decide +kernel
theorem dJ9_abs_0f7a4_9 : decode cJ9_abs_0f7a4 9 = .ok (.iload_n 0, 1) := by decide +kernel
theorem dJ9_abs_0f7a4_10 : decode cJ9_abs_0f7a4 10 = .ok (.ireturn, 1) := by decide +kernel
theorem dJ9_max_7cf53_0 : decode cJ9_max_7cf53 0 = .ok (.iload_n 0, 1) := by decide +kernel
theorem dJ9_max_7cf53_1 : decode cJ9_max_7cf53 1 = .ok (.iload_n 1, 1) := by decide +kernel
theorem dJ9_max_7cf53_2 : decode cJ9_max_7cf53 2 = .ok (.if_icmp .lt 7, 3) := by decide +kernel
theorem dJ9_max_7cf53_5 : decode cJ9_max_7cf53 5 = .ok (.iload_n 0, 1) := by decide +kernel
theorem dJ9_max_7cf53_6 : decode cJ9_max_7cf53 6 = .ok (.goto 4, 3) := by decide +kernel
theorem dJ9_max_7cf53_9 : decode cJ9_max_7cf53 9 = .ok (.iload_n 1, 1) := by decide +kernel
theorem dJ9_max_7cf53_10 : decode cJ9_max_7cf53 10 = .ok (.ireturn, 1) := by decide +kernel
theorem dJ9_min_7cf53_0 : decode cJ9_min_7cf53 0 = .ok (.iload_n 0, 1) := by decide +kernel
theorem dJ9_min_7cf53_1 : decode cJ9_min_7cf53 1 = .ok (.iload_n 1, 1) := by decide +kernel
theorem dJ9_min_7cf53_2 : decode cJ9_min_7cf53 2 = .ok (.if_icmp .gt 7, 3) := by decide +kernel
theorem dJ9_min_7cf53_5 : decode cJ9_min_7cf53 5 = .ok (.iload_n 0, 1) := by decide +kernel
theorem dJ9_min_7cf53_6 : decode cJ9_min_7cf53 6 = .ok (.goto 4, 3) := by decide +kernel
theorem dJ9_min_7cf53_9 : decode cJ9_min_7cf53 9 = .ok (.iload_n 1, 1) := by decide +kernel
theorem dJ9_min_7cf53_10 : decode cJ9_min_7cf53 10 = .ok (.ireturn, 1) := by decide +kernel
theorem dJ7_fill_53178_0 : decode cJ7_fill_53178 0 = .ok (.iconst 0, 1) := by decide +kernel
theorem dJ7_fill_53178_1 : decode cJ7_fill_53178 1 = .ok (.istore_n 2, 1) := by decide +kernel
theorem dJ7_fill_53178_2 : decode cJ7_fill_53178 2 = .ok (.aload_n 0, 1) := by decide +kernel
theorem dJ7_fill_53178_3 : decode cJ7_fill_53178 3 = .ok (.arraylength, 1) := by decide +kernel
theorem dJ7_fill_53178_4 : decode cJ7_fill_53178 4 = .ok (.istore_n 3, 1) := by decide +kernel
theorem dJ7_fill_53178_5 : decode cJ7_fill_53178 5 = .ok (.iload_n 2, 1) := by decide +kernel
theorem dJ7_fill_53178_6 : decode cJ7_fill_53178 6 = .ok (.iload_n 3, 1) := by decide +kernel
theorem dJ7_fill_53178_7 : decode cJ7_fill_53178 7 = .ok (.if_icmp .ge 13, 3) := by decide +kernel
theorem dJ7_fill_53178_10 : decode cJ7_fill_53178 10 = .ok (.aload_n 0, 1) := by decide +kernel
theorem dJ7_fill_53178_11 : decode cJ7_fill_53178 11 = .ok (.iload_n 2, 1) := by decide +kernel
theorem dJ7_fill_53178_12 : decode cJ7_fill_53178 12 = .ok (.iload_n 1, 1) := by decide +kernel
theorem dJ7_fill_53178_13 : decode cJ7_fill_53178 13 = .ok (.iastore, 1) := by decide +kernel
theorem dJ7_fill_53178_14 : decode cJ7_fill_53178 14 = .ok (.iinc 2 1, 3) := by decide +kernel
theorem dJ7_fill_53178_17 : decode cJ7_fill_53178 17 = .ok (.goto (-12), 3) := by decide +kernel
theorem dJ7_fill_53178_20 : decode cJ7_fill_53178 20 = .ok (.return_, 1) := by decide +kernel
