/-! EndlessRows$Reckoner: decode rows and verification conditions, by program -/
theorem dX6_init_0 : decode cX6_init 0 = .ok (.aload_n 0, 1) := by decide +kernel
theorem dX6_init_1 : decode cX6_init 1 = .ok (.invokespecial 5, 3) := by decide +kernel
theorem dX6_init_4 : decode cX6_init 4 = .ok (.aload_n 0, 1) := by decide +kernel
theorem dX6_init_5 : decode cX6_init 5 = .ok (.sipush 3600, 3) := by decide +kernel
theorem dX6_init_8 : decode cX6_init 8 = .ok (.newarray .int, 2) := by decide +kernel
theorem dX6_init_10 : decode cX6_init 10 = .ok (.putfield 11, 3) := by decide +kernel
theorem dX6_init_13 : decode cX6_init 13 = .ok (.aload_n 0, 1) := by decide +kernel
theorem dX6_init_14 : decode cX6_init 14 = .ok (.sipush 3600, 3) := by decide +kernel
theorem dX6_init_17 : decode cX6_init 17 = .ok (.newarray .int, 2) := by decide +kernel
theorem dX6_init_19 : decode cX6_init 19 = .ok (.putfield 15, 3) := by decide +kernel
theorem dX6_init_22 : decode cX6_init 22 = .ok (.aload_n 0, 1) := by decide +kernel
theorem dX6_init_23 : decode cX6_init 23 = .ok (.sipush 3600, 3) := by decide +kernel
theorem dX6_init_26 : decode cX6_init 26 = .ok (.newarray .long, 2) := by decide +kernel
theorem dX6_init_28 : decode cX6_init 28 = .ok (.putfield 18, 3) := by decide +kernel
theorem dX6_init_31 : decode cX6_init 31 = .ok (.aload_n 0, 1) := by decide +kernel
theorem dX6_init_32 : decode cX6_init 32 = .ok (.bipush 106, 2) := by decide +kernel
theorem dX6_init_34 : decode cX6_init 34 = .ok (.newarray .long, 2) := by decide +kernel
theorem dX6_init_36 : decode cX6_init 36 = .ok (.putfield 22, 3) := by decide +kernel
theorem dX6_init_39 : decode cX6_init 39 = .ok (.aload_n 0, 1) := by decide +kernel
theorem dX6_init_40 : decode cX6_init 40 = .ok (.bipush 64, 2) := by decide +kernel
theorem dX6_init_42 : decode cX6_init 42 = .ok (.newarray .int, 2) := by decide +kernel
theorem dX6_init_44 : decode cX6_init 44 = .ok (.putfield 25, 3) := by decide +kernel
theorem dX6_init_47 : decode cX6_init 47 = .ok (.aload_n 0, 1) := by decide +kernel
theorem dX6_init_48 : decode cX6_init 48 = .ok (.bipush 65, 2) := by decide +kernel
theorem dX6_init_50 : decode cX6_init 50 = .ok (.newarray .int, 2) := by decide +kernel
theorem dX6_init_52 : decode cX6_init 52 = .ok (.putfield 28, 3) := by decide +kernel
theorem dX6_init_55 : decode cX6_init 55 = .ok (.aload_n 0, 1) := by decide +kernel
theorem dX6_init_56 : decode cX6_init 56 = .ok (.bipush 40, 2) := by decide +kernel
theorem dX6_init_58 : decode cX6_init 58 = .ok (.newarray .long, 2) := by decide +kernel
theorem dX6_init_60 : decode cX6_init 60 = .ok (.putfield 31, 3) := by decide +kernel
theorem dX6_init_63 : decode cX6_init 63 = .ok (.aload_n 0, 1) := by decide +kernel
theorem dX6_init_64 : decode cX6_init 64 = .ok (.bipush 40, 2) := by decide +kernel
theorem dX6_init_66 : decode cX6_init 66 = .ok (.newarray .long, 2) := by decide +kernel
theorem dX6_init_68 : decode cX6_init 68 = .ok (.putfield 34, 3) := by decide +kernel
theorem dX6_init_71 : decode cX6_init 71 = .ok (.aload_n 0, 1) := by decide +kernel
theorem dX6_init_72 : decode cX6_init 72 = .ok (.bipush 40, 2) := by decide +kernel
theorem dX6_init_74 : decode cX6_init 74 = .ok (.newarray .long, 2) := by decide +kernel
theorem dX6_init_76 : decode cX6_init 76 = .ok (.putfield 37, 3) := by decide +kernel
theorem dX6_init_79 : decode cX6_init 79 = .ok (.return_, 1) := by decide +kernel
theorem dX6_leastUnlike_0 : decode cX6_leastUnlike 0 = .ok (.aload_n 2, 1) := by decide +kernel
theorem dX6_leastUnlike_1 : decode cX6_leastUnlike 1 = .ok (.getfield 40, 3) := by decide +kernel
theorem dX6_leastUnlike_4 : decode cX6_leastUnlike 4 = .ok (.istore 4, 2) := by decide +kernel
theorem dX6_leastUnlike_6 : decode cX6_leastUnlike 6 = .ok (.aload_n 0, 1) := by decide +kernel
theorem dX6_leastUnlike_7 : decode cX6_leastUnlike 7 = .ok (.getfield 15, 3) := by decide +kernel
theorem dX6_leastUnlike_10 : decode cX6_leastUnlike 10 = .ok (.iconst 0, 1) := by decide +kernel
theorem dX6_leastUnlike_11 : decode cX6_leastUnlike 11 = .ok (.invokestatic 46, 3) := by decide +kernel
theorem dX6_leastUnlike_14 : decode cX6_leastUnlike 14 = .ok (.aload_n 0, 1) := by decide +kernel
theorem dX6_leastUnlike_15 : decode cX6_leastUnlike 15 = .ok (.getfield 11, 3) := by decide +kernel
theorem dX6_leastUnlike_18 : decode cX6_leastUnlike 18 = .ok (.iconst 0, 1) := by decide +kernel
theorem dX6_leastUnlike_19 : decode cX6_leastUnlike 19 = .ok (.iconst 0, 1) := by decide +kernel
theorem dX6_leastUnlike_20 : decode cX6_leastUnlike 20 = .ok (.iastore, 1) := by decide +kernel
theorem dX6_leastUnlike_21 : decode cX6_leastUnlike 21 = .ok (.aload_n 0, 1) := by decide +kernel
theorem dX6_leastUnlike_22 : decode cX6_leastUnlike 22 = .ok (.getfield 18, 3) := by decide +kernel
theorem dX6_leastUnlike_25 : decode cX6_leastUnlike 25 = .ok (.iconst 0, 1) := by decide +kernel
theorem dX6_leastUnlike_26 : decode cX6_leastUnlike 26 = .ok (.lconst 0, 1) := by decide +kernel
theorem dX6_leastUnlike_27 : decode cX6_leastUnlike 27 = .ok (.lastore, 1) := by decide +kernel
theorem dX6_leastUnlike_28 : decode cX6_leastUnlike 28 = .ok (.aload_n 0, 1) := by decide +kernel
theorem dX6_leastUnlike_29 : decode cX6_leastUnlike 29 = .ok (.getfield 15, 3) := by decide +kernel
theorem dX6_leastUnlike_32 : decode cX6_leastUnlike 32 = .ok (.iconst 0, 1) := by decide +kernel
theorem dX6_leastUnlike_33 : decode cX6_leastUnlike 33 = .ok (.iconst 1, 1) := by decide +kernel
theorem dX6_leastUnlike_34 : decode cX6_leastUnlike 34 = .ok (.iastore, 1) := by decide +kernel
theorem dX6_leastUnlike_35 : decode cX6_leastUnlike 35 = .ok (.iconst 1, 1) := by decide +kernel
theorem dX6_leastUnlike_36 : decode cX6_leastUnlike 36 = .ok (.istore 5, 2) := by decide +kernel
theorem dX6_leastUnlike_38 : decode cX6_leastUnlike 38 = .ok (.iconst 0, 1) := by decide +kernel
theorem dX6_leastUnlike_39 : decode cX6_leastUnlike 39 = .ok (.istore 6, 2) := by decide +kernel
theorem dX6_leastUnlike_41 : decode cX6_leastUnlike 41 = .ok (.iload 6, 2) := by decide +kernel
theorem dX6_leastUnlike_43 : decode cX6_leastUnlike 43 = .ok (.iload 5, 2) := by decide +kernel
theorem dX6_leastUnlike_45 : decode cX6_leastUnlike 45 = .ok (.if_icmp .ge 187, 3) := by decide +kernel
theorem dX6_leastUnlike_48 : decode cX6_leastUnlike 48 = .ok (.iload 6, 2) := by decide +kernel
theorem dX6_leastUnlike_50 : decode cX6_leastUnlike 50 = .ok (.sipush 3600, 3) := by decide +kernel
theorem dX6_leastUnlike_53 : decode cX6_leastUnlike 53 = .ok (.if_icmp .ge 179, 3) := by decide +kernel
theorem dX6_leastUnlike_56 : decode cX6_leastUnlike 56 = .ok (.iload 4, 2) := by decide +kernel
theorem dX6_leastUnlike_58 : decode cX6_leastUnlike 58 = .ok (.ifCond .le 174, 3) := by decide +kernel
theorem dX6_leastUnlike_61 : decode cX6_leastUnlike 61 = .ok (.aload_n 0, 1) := by decide +kernel
theorem dX6_leastUnlike_62 : decode cX6_leastUnlike 62 = .ok (.getfield 11, 3) := by decide +kernel
theorem dX6_leastUnlike_65 : decode cX6_leastUnlike 65 = .ok (.iload 6, 2) := by decide +kernel
theorem dX6_leastUnlike_67 : decode cX6_leastUnlike 67 = .ok (.iaload, 1) := by decide +kernel
theorem dX6_leastUnlike_68 : decode cX6_leastUnlike 68 = .ok (.iload 4, 2) := by decide +kernel
theorem dX6_leastUnlike_70 : decode cX6_leastUnlike 70 = .ok (.idiv, 1) := by decide +kernel
theorem dX6_leastUnlike_71 : decode cX6_leastUnlike 71 = .ok (.istore 7, 2) := by decide +kernel
theorem dX6_leastUnlike_73 : decode cX6_leastUnlike 73 = .ok (.aload_n 0, 1) := by decide +kernel
theorem dX6_leastUnlike_74 : decode cX6_leastUnlike 74 = .ok (.getfield 11, 3) := by decide +kernel
theorem dX6_leastUnlike_77 : decode cX6_leastUnlike 77 = .ok (.iload 6, 2) := by decide +kernel
theorem dX6_leastUnlike_79 : decode cX6_leastUnlike 79 = .ok (.iaload, 1) := by decide +kernel
theorem dX6_leastUnlike_80 : decode cX6_leastUnlike 80 = .ok (.iload 4, 2) := by decide +kernel
theorem dX6_leastUnlike_82 : decode cX6_leastUnlike 82 = .ok (.irem, 1) := by decide +kernel
theorem dX6_leastUnlike_83 : decode cX6_leastUnlike 83 = .ok (.istore 8, 2) := by decide +kernel
theorem dX6_leastUnlike_85 : decode cX6_leastUnlike 85 = .ok (.aload_n 1, 1) := by decide +kernel
theorem dX6_leastUnlike_86 : decode cX6_leastUnlike 86 = .ok (.iload 7, 2) := by decide +kernel
theorem dX6_leastUnlike_88 : decode cX6_leastUnlike 88 = .ok (.invokevirtual 52, 3) := by decide +kernel
theorem dX6_leastUnlike_91 : decode cX6_leastUnlike 91 = .ok (.aload_n 2, 1) := by decide +kernel
theorem dX6_leastUnlike_92 : decode cX6_leastUnlike 92 = .ok (.iload 8, 2) := by decide +kernel
theorem dX6_leastUnlike_94 : decode cX6_leastUnlike 94 = .ok (.invokevirtual 52, 3) := by decide +kernel
theorem dX6_leastUnlike_97 : decode cX6_leastUnlike 97 = .ok (.if_icmp .eq 31, 3) := by decide +kernel
theorem dX6_leastUnlike_100 : decode cX6_leastUnlike 100 = .ok (.aload_n 0, 1) := by decide +kernel
theorem dX6_leastUnlike_101 : decode cX6_leastUnlike 101 = .ok (.getfield 18, 3) := by decide +kernel
theorem dX6_leastUnlike_104 : decode cX6_leastUnlike 104 = .ok (.iload 6, 2) := by decide +kernel
theorem dX6_leastUnlike_106 : decode cX6_leastUnlike 106 = .ok (.laload, 1) := by decide +kernel
theorem dX6_leastUnlike_107 : decode cX6_leastUnlike 107 = .ok (.ldc2_w 56, 3) := by decide +kernel
theorem dX6_leastUnlike_110 : decode cX6_leastUnlike 110 = .ok (.lcmp, 1) := by decide +kernel
theorem dX6_leastUnlike_111 : decode cX6_leastUnlike 111 = .ok (.ifCond .le 9, 3) := by decide +kernel
theorem dX6_leastUnlike_114 : decode cX6_leastUnlike 114 = .ok (.ldc2_w 58, 3) := by decide +kernel
theorem dX6_leastUnlike_117 : decode cX6_leastUnlike 117 = .ok (.goto 10, 3) := by decide +kernel
theorem dX6_leastUnlike_120 : decode cX6_leastUnlike 120 = .ok (.aload_n 0, 1) := by decide +kernel
theorem dX6_leastUnlike_121 : decode cX6_leastUnlike 121 = .ok (.getfield 18, 3) := by decide +kernel
theorem dX6_leastUnlike_124 : decode cX6_leastUnlike 124 = .ok (.iload 6, 2) := by decide +kernel
theorem dX6_leastUnlike_126 : decode cX6_leastUnlike 126 = .ok (.laload, 1) := by decide +kernel
theorem dX6_leastUnlike_127 : decode cX6_leastUnlike 127 = .ok (.lreturn, 1) := by decide +kernel
theorem dX6_leastUnlike_128 : decode cX6_leastUnlike 128 = .ok (.iconst 0, 1) := by decide +kernel
theorem dX6_leastUnlike_129 : decode cX6_leastUnlike 129 = .ok (.istore 9, 2) := by decide +kernel
theorem dX6_leastUnlike_131 : decode cX6_leastUnlike 131 = .ok (.iload 9, 2) := by decide +kernel
theorem dX6_leastUnlike_133 : decode cX6_leastUnlike 133 = .ok (.iload_n 3, 1) := by decide +kernel
theorem dX6_leastUnlike_134 : decode cX6_leastUnlike 134 = .ok (.if_icmp .ge 92, 3) := by decide +kernel
theorem dX6_leastUnlike_137 : decode cX6_leastUnlike 137 = .ok (.aload_n 1, 1) := by decide +kernel
theorem dX6_leastUnlike_138 : decode cX6_leastUnlike 138 = .ok (.iload 7, 2) := by decide +kernel
theorem dX6_leastUnlike_140 : decode cX6_leastUnlike 140 = .ok (.iload 9, 2) := by decide +kernel
theorem dX6_leastUnlike_142 : decode cX6_leastUnlike 142 = .ok (.invokevirtual 60, 3) := by decide +kernel
theorem dX6_leastUnlike_145 : decode cX6_leastUnlike 145 = .ok (.iload 4, 2) := by decide +kernel
theorem dX6_leastUnlike_147 : decode cX6_leastUnlike 147 = .ok (.imul, 1) := by decide +kernel
theorem dX6_leastUnlike_148 : decode cX6_leastUnlike 148 = .ok (.aload_n 2, 1) := by decide +kernel
theorem dX6_leastUnlike_149 : decode cX6_leastUnlike 149 = .ok (.iload 8, 2) := by decide +kernel
theorem dX6_leastUnlike_151 : decode cX6_leastUnlike 151 = .ok (.iload 9, 2) := by decide +kernel
theorem dX6_leastUnlike_153 : decode cX6_leastUnlike 153 = .ok (.invokevirtual 60, 3) := by decide +kernel
theorem dX6_leastUnlike_156 : decode cX6_leastUnlike 156 = .ok (.iadd, 1) := by decide +kernel
theorem dX6_leastUnlike_157 : decode cX6_leastUnlike 157 = .ok (.istore 10, 2) := by decide +kernel
theorem dX6_leastUnlike_159 : decode cX6_leastUnlike 159 = .ok (.iload 10, 2) := by decide +kernel
theorem dX6_leastUnlike_161 : decode cX6_leastUnlike 161 = .ok (.sipush 3600, 3) := by decide +kernel
theorem dX6_leastUnlike_164 : decode cX6_leastUnlike 164 = .ok (.invokestatic 64, 3) := by decide +kernel
theorem dX6_leastUnlike_167 : decode cX6_leastUnlike 167 = .ok (.ifCond .eq 53, 3) := by decide +kernel
theorem dX6_leastUnlike_170 : decode cX6_leastUnlike 170 = .ok (.aload_n 0, 1) := by decide +kernel
theorem dX6_leastUnlike_171 : decode cX6_leastUnlike 171 = .ok (.getfield 15, 3) := by decide +kernel
theorem dX6_leastUnlike_174 : decode cX6_leastUnlike 174 = .ok (.iload 10, 2) := by decide +kernel
theorem dX6_leastUnlike_176 : decode cX6_leastUnlike 176 = .ok (.iaload, 1) := by decide +kernel
theorem dX6_leastUnlike_177 : decode cX6_leastUnlike 177 = .ok (.ifCond .ne 43, 3) := by decide +kernel
theorem dX6_leastUnlike_180 : decode cX6_leastUnlike 180 = .ok (.aload_n 0, 1) := by decide +kernel
theorem dX6_leastUnlike_181 : decode cX6_leastUnlike 181 = .ok (.getfield 15, 3) := by decide +kernel
theorem dX6_leastUnlike_184 : decode cX6_leastUnlike 184 = .ok (.iload 10, 2) := by decide +kernel
theorem dX6_leastUnlike_186 : decode cX6_leastUnlike 186 = .ok (.iconst 1, 1) := by decide +kernel
theorem dX6_leastUnlike_187 : decode cX6_leastUnlike 187 = .ok (.iastore, 1) := by decide +kernel
theorem dX6_leastUnlike_188 : decode cX6_leastUnlike 188 = .ok (.aload_n 0, 1) := by decide +kernel
theorem dX6_leastUnlike_189 : decode cX6_leastUnlike 189 = .ok (.getfield 11, 3) := by decide +kernel
theorem dX6_leastUnlike_192 : decode cX6_leastUnlike 192 = .ok (.iload 5, 2) := by decide +kernel
theorem dX6_leastUnlike_194 : decode cX6_leastUnlike 194 = .ok (.iload 10, 2) := by decide +kernel
theorem dX6_leastUnlike_196 : decode cX6_leastUnlike 196 = .ok (.iastore, 1) := by decide +kernel
theorem dX6_leastUnlike_197 : decode cX6_leastUnlike 197 = .ok (.aload_n 0, 1) := by decide +kernel
theorem dX6_leastUnlike_198 : decode cX6_leastUnlike 198 = .ok (.getfield 18, 3) := by decide +kernel
theorem dX6_leastUnlike_201 : decode cX6_leastUnlike 201 = .ok (.iload 5, 2) := by decide +kernel
theorem dX6_leastUnlike_203 : decode cX6_leastUnlike 203 = .ok (.aload_n 0, 1) := by decide +kernel
theorem dX6_leastUnlike_204 : decode cX6_leastUnlike 204 = .ok (.getfield 18, 3) := by decide +kernel
theorem dX6_leastUnlike_207 : decode cX6_leastUnlike 207 = .ok (.iload 6, 2) := by decide +kernel
theorem dX6_leastUnlike_209 : decode cX6_leastUnlike 209 = .ok (.laload, 1) := by decide +kernel
theorem dX6_leastUnlike_210 : decode cX6_leastUnlike 210 = .ok (.iload 9, 2) := by decide +kernel
theorem dX6_leastUnlike_212 : decode cX6_leastUnlike 212 = .ok (.iload_n 3, 1) := by decide +kernel
theorem dX6_leastUnlike_213 : decode cX6_leastUnlike 213 = .ok (.invokestatic 68, 3) := by decide +kernel
theorem dX6_leastUnlike_216 : decode cX6_leastUnlike 216 = .ok (.lastore, 1) := by decide +kernel
theorem dX6_leastUnlike_217 : decode cX6_leastUnlike 217 = .ok (.iinc 5 1, 3) := by decide +kernel
theorem dX6_leastUnlike_220 : decode cX6_leastUnlike 220 = .ok (.iinc 9 1, 3) := by decide +kernel
theorem dX6_leastUnlike_223 : decode cX6_leastUnlike 223 = .ok (.goto (-92), 3) := by decide +kernel
theorem dX6_leastUnlike_226 : decode cX6_leastUnlike 226 = .ok (.iinc 6 1, 3) := by decide +kernel
theorem dX6_leastUnlike_229 : decode cX6_leastUnlike 229 = .ok (.goto (-188), 3) := by decide +kernel
theorem dX6_leastUnlike_232 : decode cX6_leastUnlike 232 = .ok (.ldc2_w 72, 3) := by decide +kernel
theorem dX6_leastUnlike_235 : decode cX6_leastUnlike 235 = .ok (.lreturn, 1) := by decide +kernel
theorem dX6_longer_0 : decode cX6_longer 0 = .ok (.iload_n 3, 1) := by decide +kernel
theorem dX6_longer_1 : decode cX6_longer 1 = .ok (.iconst 1, 1) := by decide +kernel
theorem dX6_longer_2 : decode cX6_longer 2 = .ok (.if_icmp .lt 17, 3) := by decide +kernel
theorem dX6_longer_5 : decode cX6_longer 5 = .ok (.lload_n 0, 1) := by decide +kernel
theorem dX6_longer_6 : decode cX6_longer 6 = .ok (.ldc2_w 56, 3) := by decide +kernel
theorem dX6_longer_9 : decode cX6_longer 9 = .ok (.iload_n 2, 1) := by decide +kernel
theorem dX6_longer_10 : decode cX6_longer 10 = .ok (.i2l, 1) := by decide +kernel
theorem dX6_longer_11 : decode cX6_longer 11 = .ok (.lsub, 1) := by decide +kernel
theorem dX6_longer_12 : decode cX6_longer 12 = .ok (.iload_n 3, 1) := by decide +kernel
theorem dX6_longer_13 : decode cX6_longer 13 = .ok (.i2l, 1) := by decide +kernel
theorem dX6_longer_14 : decode cX6_longer 14 = .ok (.ldiv, 1) := by decide +kernel
theorem dX6_longer_15 : decode cX6_longer 15 = .ok (.lcmp, 1) := by decide +kernel
theorem dX6_longer_16 : decode cX6_longer 16 = .ok (.ifCond .le 7, 3) := by decide +kernel
theorem dX6_longer_19 : decode cX6_longer 19 = .ok (.ldc2_w 74, 3) := by decide +kernel
theorem dX6_longer_22 : decode cX6_longer 22 = .ok (.lreturn, 1) := by decide +kernel
theorem dX6_longer_23 : decode cX6_longer 23 = .ok (.lload_n 0, 1) := by decide +kernel
theorem dX6_longer_24 : decode cX6_longer 24 = .ok (.iload_n 3, 1) := by decide +kernel
theorem dX6_longer_25 : decode cX6_longer 25 = .ok (.i2l, 1) := by decide +kernel
theorem dX6_longer_26 : decode cX6_longer 26 = .ok (.lmul, 1) := by decide +kernel
theorem dX6_longer_27 : decode cX6_longer 27 = .ok (.iload_n 2, 1) := by decide +kernel
theorem dX6_longer_28 : decode cX6_longer 28 = .ok (.i2l, 1) := by decide +kernel
theorem dX6_longer_29 : decode cX6_longer 29 = .ok (.ladd, 1) := by decide +kernel
theorem dX6_longer_30 : decode cX6_longer 30 = .ok (.lreturn, 1) := by decide +kernel
theorem dX6_sum_0 : decode cX6_sum 0 = .ok (.lload_n 0, 1) := by decide +kernel
theorem dX6_sum_1 : decode cX6_sum 1 = .ok (.ldc2_w 74, 3) := by decide +kernel
theorem dX6_sum_4 : decode cX6_sum 4 = .ok (.lload_n 2, 1) := by decide +kernel
theorem dX6_sum_5 : decode cX6_sum 5 = .ok (.lsub, 1) := by decide +kernel
theorem dX6_sum_6 : decode cX6_sum 6 = .ok (.lcmp, 1) := by decide +kernel
theorem dX6_sum_7 : decode cX6_sum 7 = .ok (.ifCond .le 9, 3) := by decide +kernel
theorem dX6_sum_10 : decode cX6_sum 10 = .ok (.ldc2_w 74, 3) := by decide +kernel
theorem dX6_sum_13 : decode cX6_sum 13 = .ok (.goto 6, 3) := by decide +kernel
theorem dX6_sum_16 : decode cX6_sum 16 = .ok (.lload_n 0, 1) := by decide +kernel
theorem dX6_sum_17 : decode cX6_sum 17 = .ok (.lload_n 2, 1) := by decide +kernel
theorem dX6_sum_18 : decode cX6_sum 18 = .ok (.ladd, 1) := by decide +kernel
theorem dX6_sum_19 : decode cX6_sum 19 = .ok (.lreturn, 1) := by decide +kernel
theorem dX6_times_0 : decode cX6_times 0 = .ok (.lload_n 0, 1) := by decide +kernel
theorem dX6_times_1 : decode cX6_times 1 = .ok (.lconst 0, 1) := by decide +kernel
theorem dX6_times_2 : decode cX6_times 2 = .ok (.lcmp, 1) := by decide +kernel
theorem dX6_times_3 : decode cX6_times 3 = .ok (.ifCond .eq 9, 3) := by decide +kernel
theorem dX6_times_6 : decode cX6_times 6 = .ok (.lload_n 2, 1) := by decide +kernel
theorem dX6_times_7 : decode cX6_times 7 = .ok (.lconst 0, 1) := by decide +kernel
theorem dX6_times_8 : decode cX6_times 8 = .ok (.lcmp, 1) := by decide +kernel
theorem dX6_times_9 : decode cX6_times 9 = .ok (.ifCond .ne 5, 3) := by decide +kernel
theorem dX6_times_12 : decode cX6_times 12 = .ok (.lconst 0, 1) := by decide +kernel
theorem dX6_times_13 : decode cX6_times 13 = .ok (.lreturn, 1) := by decide +kernel
theorem dX6_times_14 : decode cX6_times 14 = .ok (.lload_n 0, 1) := by decide +kernel
theorem dX6_times_15 : decode cX6_times 15 = .ok (.ldc2_w 74, 3) := by decide +kernel
theorem dX6_times_18 : decode cX6_times 18 = .ok (.lload_n 2, 1) := by decide +kernel
theorem dX6_times_19 : decode cX6_times 19 = .ok (.ldiv, 1) := by decide +kernel
theorem dX6_times_20 : decode cX6_times 20 = .ok (.lcmp, 1) := by decide +kernel
theorem dX6_times_21 : decode cX6_times 21 = .ok (.ifCond .le 9, 3) := by decide +kernel
theorem dX6_times_24 : decode cX6_times 24 = .ok (.ldc2_w 74, 3) := by decide +kernel
theorem dX6_times_27 : decode cX6_times 27 = .ok (.goto 6, 3) := by decide +kernel
theorem dX6_times_30 : decode cX6_times 30 = .ok (.lload_n 0, 1) := by decide +kernel
theorem dX6_times_31 : decode cX6_times 31 = .ok (.lload_n 2, 1) := by decide +kernel
theorem dX6_times_32 : decode cX6_times 32 = .ok (.lmul, 1) := by decide +kernel
theorem dX6_times_33 : decode cX6_times 33 = .ok (.lreturn, 1) := by decide +kernel
theorem dX6_leastAbove_0 : decode cX6_leastAbove 0 = .ok (.aload_n 0, 1) := by decide +kernel
theorem dX6_leastAbove_1 : decode cX6_leastAbove 1 = .ok (.aload_n 1, 1) := by decide +kernel
theorem dX6_leastAbove_2 : decode cX6_leastAbove 2 = .ok (.iload 4, 2) := by decide +kernel
theorem dX6_leastAbove_4 : decode cX6_leastAbove 4 = .ok (.invokevirtual 76, 3) := by decide +kernel
theorem dX6_leastAbove_7 : decode cX6_leastAbove 7 = .ok (.aload_n 0, 1) := by decide +kernel
theorem dX6_leastAbove_8 : decode cX6_leastAbove 8 = .ok (.lload_n 2, 1) := by decide +kernel
theorem dX6_leastAbove_9 : decode cX6_leastAbove 9 = .ok (.lconst 1, 1) := by decide +kernel
theorem dX6_leastAbove_10 : decode cX6_leastAbove 10 = .ok (.ladd, 1) := by decide +kernel
theorem dX6_leastAbove_11 : decode cX6_leastAbove 11 = .ok (.iload 4, 2) := by decide +kernel
theorem dX6_leastAbove_13 : decode cX6_leastAbove 13 = .ok (.invokevirtual 80, 3) := by decide +kernel
theorem dX6_leastAbove_16 : decode cX6_leastAbove 16 = .ok (.istore 5, 2) := by decide +kernel
theorem dX6_leastAbove_18 : decode cX6_leastAbove 18 = .ok (.aload_n 0, 1) := by decide +kernel
theorem dX6_leastAbove_19 : decode cX6_leastAbove 19 = .ok (.aload_n 1, 1) := by decide +kernel
theorem dX6_leastAbove_20 : decode cX6_leastAbove 20 = .ok (.iload 5, 2) := by decide +kernel
theorem dX6_leastAbove_22 : decode cX6_leastAbove 22 = .ok (.invokevirtual 84, 3) := by decide +kernel
theorem dX6_leastAbove_25 : decode cX6_leastAbove 25 = .ok (.aload_n 1, 1) := by decide +kernel
theorem dX6_leastAbove_26 : decode cX6_leastAbove 26 = .ok (.aload_n 0, 1) := by decide +kernel
theorem dX6_leastAbove_27 : decode cX6_leastAbove 27 = .ok (.getfield 28, 3) := by decide +kernel
theorem dX6_leastAbove_30 : decode cX6_leastAbove 30 = .ok (.iload 5, 2) := by decide +kernel
theorem dX6_leastAbove_32 : decode cX6_leastAbove 32 = .ok (.iaload, 1) := by decide +kernel
theorem dX6_leastAbove_33 : decode cX6_leastAbove 33 = .ok (.invokevirtual 52, 3) := by decide +kernel
theorem dX6_leastAbove_36 : decode cX6_leastAbove 36 = .ok (.iconst 1, 1) := by decide +kernel
theorem dX6_leastAbove_37 : decode cX6_leastAbove 37 = .ok (.if_icmp .ne 23, 3) := by decide +kernel
theorem dX6_leastAbove_40 : decode cX6_leastAbove 40 = .ok (.lload_n 2, 1) := by decide +kernel
theorem dX6_leastAbove_41 : decode cX6_leastAbove 41 = .ok (.lconst 1, 1) := by decide +kernel
theorem dX6_leastAbove_42 : decode cX6_leastAbove 42 = .ok (.ladd, 1) := by decide +kernel
theorem dX6_leastAbove_43 : decode cX6_leastAbove 43 = .ok (.ldc2_w 56, 3) := by decide +kernel
theorem dX6_leastAbove_46 : decode cX6_leastAbove 46 = .ok (.lcmp, 1) := by decide +kernel
theorem dX6_leastAbove_47 : decode cX6_leastAbove 47 = .ok (.ifCond .le 9, 3) := by decide +kernel
theorem dX6_leastAbove_50 : decode cX6_leastAbove 50 = .ok (.ldc2_w 58, 3) := by decide +kernel
theorem dX6_leastAbove_53 : decode cX6_leastAbove 53 = .ok (.goto 6, 3) := by decide +kernel
theorem dX6_leastAbove_56 : decode cX6_leastAbove 56 = .ok (.lload_n 2, 1) := by decide +kernel
theorem dX6_leastAbove_57 : decode cX6_leastAbove 57 = .ok (.lconst 1, 1) := by decide +kernel
theorem dX6_leastAbove_58 : decode cX6_leastAbove 58 = .ok (.ladd, 1) := by decide +kernel
theorem dX6_leastAbove_59 : decode cX6_leastAbove 59 = .ok (.lreturn, 1) := by decide +kernel
theorem dX6_leastAbove_60 : decode cX6_leastAbove 60 = .ok (.iload 5, 2) := by decide +kernel
theorem dX6_leastAbove_62 : decode cX6_leastAbove 62 = .ok (.iconst 1, 1) := by decide +kernel
theorem dX6_leastAbove_63 : decode cX6_leastAbove 63 = .ok (.isub, 1) := by decide +kernel
theorem dX6_leastAbove_64 : decode cX6_leastAbove 64 = .ok (.istore 6, 2) := by decide +kernel
theorem dX6_leastAbove_66 : decode cX6_leastAbove 66 = .ok (.iload 6, 2) := by decide +kernel
theorem dX6_leastAbove_68 : decode cX6_leastAbove 68 = .ok (.ifCond .lt 77, 3) := by decide +kernel
theorem dX6_leastAbove_71 : decode cX6_leastAbove 71 = .ok (.aload_n 0, 1) := by decide +kernel
theorem dX6_leastAbove_72 : decode cX6_leastAbove 72 = .ok (.aload_n 1, 1) := by decide +kernel
theorem dX6_leastAbove_73 : decode cX6_leastAbove 73 = .ok (.aload_n 0, 1) := by decide +kernel
theorem dX6_leastAbove_74 : decode cX6_leastAbove 74 = .ok (.getfield 28, 3) := by decide +kernel
theorem dX6_leastAbove_77 : decode cX6_leastAbove 77 = .ok (.iload 6, 2) := by decide +kernel
theorem dX6_leastAbove_79 : decode cX6_leastAbove 79 = .ok (.iaload, 1) := by decide +kernel
theorem dX6_leastAbove_80 : decode cX6_leastAbove 80 = .ok (.aload_n 0, 1) := by decide +kernel
theorem dX6_leastAbove_81 : decode cX6_leastAbove 81 = .ok (.getfield 25, 3) := by decide +kernel
theorem dX6_leastAbove_84 : decode cX6_leastAbove 84 = .ok (.iload 6, 2) := by decide +kernel
theorem dX6_leastAbove_86 : decode cX6_leastAbove 86 = .ok (.iaload, 1) := by decide +kernel
theorem dX6_leastAbove_87 : decode cX6_leastAbove 87 = .ok (.iconst 1, 1) := by decide +kernel
theorem dX6_leastAbove_88 : decode cX6_leastAbove 88 = .ok (.iadd, 1) := by decide +kernel
theorem dX6_leastAbove_89 : decode cX6_leastAbove 89 = .ok (.iload 5, 2) := by decide +kernel
theorem dX6_leastAbove_91 : decode cX6_leastAbove 91 = .ok (.iconst 1, 1) := by decide +kernel
theorem dX6_leastAbove_92 : decode cX6_leastAbove 92 = .ok (.isub, 1) := by decide +kernel
theorem dX6_leastAbove_93 : decode cX6_leastAbove 93 = .ok (.iload 6, 2) := by decide +kernel
theorem dX6_leastAbove_95 : decode cX6_leastAbove 95 = .ok (.isub, 1) := by decide +kernel
theorem dX6_leastAbove_96 : decode cX6_leastAbove 96 = .ok (.iload 4, 2) := by decide +kernel
theorem dX6_leastAbove_98 : decode cX6_leastAbove 98 = .ok (.invokevirtual 87, 3) := by decide +kernel
theorem dX6_leastAbove_101 : decode cX6_leastAbove 101 = .ok (.istore 7, 2) := by decide +kernel
theorem dX6_leastAbove_103 : decode cX6_leastAbove 103 = .ok (.iload 7, 2) := by decide +kernel
theorem dX6_leastAbove_105 : decode cX6_leastAbove 105 = .ok (.iconst (-1), 1) := by decide +kernel
theorem dX6_leastAbove_106 : decode cX6_leastAbove 106 = .ok (.if_icmp .eq 33, 3) := by decide +kernel
theorem dX6_leastAbove_109 : decode cX6_leastAbove 109 = .ok (.aload_n 0, 1) := by decide +kernel
theorem dX6_leastAbove_110 : decode cX6_leastAbove 110 = .ok (.aload_n 1, 1) := by decide +kernel
theorem dX6_leastAbove_111 : decode cX6_leastAbove 111 = .ok (.aload_n 0, 1) := by decide +kernel
theorem dX6_leastAbove_112 : decode cX6_leastAbove 112 = .ok (.iload 6, 2) := by decide +kernel
theorem dX6_leastAbove_114 : decode cX6_leastAbove 114 = .ok (.iload 4, 2) := by decide +kernel
theorem dX6_leastAbove_116 : decode cX6_leastAbove 116 = .ok (.invokevirtual 91, 3) := by decide +kernel
theorem dX6_leastAbove_119 : decode cX6_leastAbove 119 = .ok (.aload_n 0, 1) := by decide +kernel
theorem dX6_leastAbove_120 : decode cX6_leastAbove 120 = .ok (.getfield 28, 3) := by decide +kernel
theorem dX6_leastAbove_123 : decode cX6_leastAbove 123 = .ok (.iload 6, 2) := by decide +kernel
theorem dX6_leastAbove_125 : decode cX6_leastAbove 125 = .ok (.iaload, 1) := by decide +kernel
theorem dX6_leastAbove_126 : decode cX6_leastAbove 126 = .ok (.iload 7, 2) := by decide +kernel
theorem dX6_leastAbove_128 : decode cX6_leastAbove 128 = .ok (.iload 5, 2) := by decide +kernel
theorem dX6_leastAbove_130 : decode cX6_leastAbove 130 = .ok (.iload 6, 2) := by decide +kernel
theorem dX6_leastAbove_132 : decode cX6_leastAbove 132 = .ok (.isub, 1) := by decide +kernel
theorem dX6_leastAbove_133 : decode cX6_leastAbove 133 = .ok (.iload 4, 2) := by decide +kernel
theorem dX6_leastAbove_135 : decode cX6_leastAbove 135 = .ok (.invokevirtual 95, 3) := by decide +kernel
theorem dX6_leastAbove_138 : decode cX6_leastAbove 138 = .ok (.lreturn, 1) := by decide +kernel
theorem dX6_leastAbove_139 : decode cX6_leastAbove 139 = .ok (.iinc 6 (-1), 3) := by decide +kernel
theorem dX6_leastAbove_142 : decode cX6_leastAbove 142 = .ok (.goto (-76), 3) := by decide +kernel
theorem dX6_leastAbove_145 : decode cX6_leastAbove 145 = .ok (.iload 5, 2) := by decide +kernel
theorem dX6_leastAbove_147 : decode cX6_leastAbove 147 = .ok (.iconst 1, 1) := by decide +kernel
theorem dX6_leastAbove_148 : decode cX6_leastAbove 148 = .ok (.iadd, 1) := by decide +kernel
theorem dX6_leastAbove_149 : decode cX6_leastAbove 149 = .ok (.istore 6, 2) := by decide +kernel
theorem dX6_leastAbove_151 : decode cX6_leastAbove 151 = .ok (.iload 6, 2) := by decide +kernel
theorem dX6_leastAbove_153 : decode cX6_leastAbove 153 = .ok (.iload 5, 2) := by decide +kernel
theorem dX6_leastAbove_155 : decode cX6_leastAbove 155 = .ok (.aload_n 1, 1) := by decide +kernel
theorem dX6_leastAbove_156 : decode cX6_leastAbove 156 = .ok (.getfield 40, 3) := by decide +kernel
theorem dX6_leastAbove_159 : decode cX6_leastAbove 159 = .ok (.iadd, 1) := by decide +kernel
theorem dX6_leastAbove_160 : decode cX6_leastAbove 160 = .ok (.if_icmp .gt 44, 3) := by decide +kernel
theorem dX6_leastAbove_163 : decode cX6_leastAbove 163 = .ok (.aload_n 0, 1) := by decide +kernel
theorem dX6_leastAbove_164 : decode cX6_leastAbove 164 = .ok (.aload_n 1, 1) := by decide +kernel
theorem dX6_leastAbove_165 : decode cX6_leastAbove 165 = .ok (.iconst 0, 1) := by decide +kernel
theorem dX6_leastAbove_166 : decode cX6_leastAbove 166 = .ok (.iconst 1, 1) := by decide +kernel
theorem dX6_leastAbove_167 : decode cX6_leastAbove 167 = .ok (.iload 6, 2) := by decide +kernel
theorem dX6_leastAbove_169 : decode cX6_leastAbove 169 = .ok (.iconst 1, 1) := by decide +kernel
theorem dX6_leastAbove_170 : decode cX6_leastAbove 170 = .ok (.isub, 1) := by decide +kernel
theorem dX6_leastAbove_171 : decode cX6_leastAbove 171 = .ok (.iload 4, 2) := by decide +kernel
theorem dX6_leastAbove_173 : decode cX6_leastAbove 173 = .ok (.invokevirtual 87, 3) := by decide +kernel
theorem dX6_leastAbove_176 : decode cX6_leastAbove 176 = .ok (.istore 7, 2) := by decide +kernel
theorem dX6_leastAbove_178 : decode cX6_leastAbove 178 = .ok (.iload 7, 2) := by decide +kernel
theorem dX6_leastAbove_180 : decode cX6_leastAbove 180 = .ok (.iconst (-1), 1) := by decide +kernel
theorem dX6_leastAbove_181 : decode cX6_leastAbove 181 = .ok (.if_icmp .eq 17, 3) := by decide +kernel
theorem dX6_leastAbove_184 : decode cX6_leastAbove 184 = .ok (.aload_n 0, 1) := by decide +kernel
theorem dX6_leastAbove_185 : decode cX6_leastAbove 185 = .ok (.aload_n 1, 1) := by decide +kernel
theorem dX6_leastAbove_186 : decode cX6_leastAbove 186 = .ok (.lconst 0, 1) := by decide +kernel
theorem dX6_leastAbove_187 : decode cX6_leastAbove 187 = .ok (.iconst 0, 1) := by decide +kernel
theorem dX6_leastAbove_188 : decode cX6_leastAbove 188 = .ok (.iload 7, 2) := by decide +kernel
theorem dX6_leastAbove_190 : decode cX6_leastAbove 190 = .ok (.iload 6, 2) := by decide +kernel
theorem dX6_leastAbove_192 : decode cX6_leastAbove 192 = .ok (.iload 4, 2) := by decide +kernel
theorem dX6_leastAbove_194 : decode cX6_leastAbove 194 = .ok (.invokevirtual 95, 3) := by decide +kernel
theorem dX6_leastAbove_197 : decode cX6_leastAbove 197 = .ok (.lreturn, 1) := by decide +kernel
theorem dX6_leastAbove_198 : decode cX6_leastAbove 198 = .ok (.iinc 6 1, 3) := by decide +kernel
theorem dX6_leastAbove_201 : decode cX6_leastAbove 201 = .ok (.goto (-50), 3) := by decide +kernel
theorem dX6_leastAbove_204 : decode cX6_leastAbove 204 = .ok (.ldc2_w 72, 3) := by decide +kernel
theorem dX6_leastAbove_207 : decode cX6_leastAbove 207 = .ok (.lreturn, 1) := by decide +kernel
theorem dX6_fillOpen_0 : decode cX6_fillOpen 0 = .ok (.aload_n 0, 1) := by decide +kernel
theorem dX6_fillOpen_1 : decode cX6_fillOpen 1 = .ok (.getfield 22, 3) := by decide +kernel
theorem dX6_fillOpen_4 : decode cX6_fillOpen 4 = .ok (.iconst 0, 1) := by decide +kernel
theorem dX6_fillOpen_5 : decode cX6_fillOpen 5 = .ok (.lconst 0, 1) := by decide +kernel
theorem dX6_fillOpen_6 : decode cX6_fillOpen 6 = .ok (.lastore, 1) := by decide +kernel
theorem dX6_fillOpen_7 : decode cX6_fillOpen 7 = .ok (.iconst 0, 1) := by decide +kernel
theorem dX6_fillOpen_8 : decode cX6_fillOpen 8 = .ok (.istore_n 3, 1) := by decide +kernel
theorem dX6_fillOpen_9 : decode cX6_fillOpen 9 = .ok (.iload_n 3, 1) := by decide +kernel
theorem dX6_fillOpen_10 : decode cX6_fillOpen 10 = .ok (.aload_n 1, 1) := by decide +kernel
theorem dX6_fillOpen_11 : decode cX6_fillOpen 11 = .ok (.getfield 40, 3) := by decide +kernel
theorem dX6_fillOpen_14 : decode cX6_fillOpen 14 = .ok (.if_icmp .ge 26, 3) := by decide +kernel
theorem dX6_fillOpen_17 : decode cX6_fillOpen 17 = .ok (.aload_n 0, 1) := by decide +kernel
theorem dX6_fillOpen_18 : decode cX6_fillOpen 18 = .ok (.getfield 22, 3) := by decide +kernel
theorem dX6_fillOpen_21 : decode cX6_fillOpen 21 = .ok (.iconst 0, 1) := by decide +kernel
theorem dX6_fillOpen_22 : decode cX6_fillOpen 22 = .ok (.dup2, 1) := by decide +kernel
theorem dX6_fillOpen_23 : decode cX6_fillOpen 23 = .ok (.laload, 1) := by decide +kernel
theorem dX6_fillOpen_24 : decode cX6_fillOpen 24 = .ok (.aload_n 1, 1) := by decide +kernel
theorem dX6_fillOpen_25 : decode cX6_fillOpen 25 = .ok (.iload_n 3, 1) := by decide +kernel
theorem dX6_fillOpen_26 : decode cX6_fillOpen 26 = .ok (.invokevirtual 52, 3) := by decide +kernel
theorem dX6_fillOpen_29 : decode cX6_fillOpen 29 = .ok (.i2l, 1) := by decide +kernel
theorem dX6_fillOpen_30 : decode cX6_fillOpen 30 = .ok (.iload_n 3, 1) := by decide +kernel
theorem dX6_fillOpen_31 : decode cX6_fillOpen 31 = .ok (.lshl, 1) := by decide +kernel
theorem dX6_fillOpen_32 : decode cX6_fillOpen 32 = .ok (.lor, 1) := by decide +kernel
theorem dX6_fillOpen_33 : decode cX6_fillOpen 33 = .ok (.lastore, 1) := by decide +kernel
theorem dX6_fillOpen_34 : decode cX6_fillOpen 34 = .ok (.iinc 3 1, 3) := by decide +kernel
theorem dX6_fillOpen_37 : decode cX6_fillOpen 37 = .ok (.goto (-28), 3) := by decide +kernel
theorem dX6_fillOpen_40 : decode cX6_fillOpen 40 = .ok (.iconst 1, 1) := by decide +kernel
theorem dX6_fillOpen_41 : decode cX6_fillOpen 41 = .ok (.istore_n 3, 1) := by decide +kernel
theorem dX6_fillOpen_42 : decode cX6_fillOpen 42 = .ok (.iload_n 3, 1) := by decide +kernel
theorem dX6_fillOpen_43 : decode cX6_fillOpen 43 = .ok (.aload_n 0, 1) := by decide +kernel
theorem dX6_fillOpen_44 : decode cX6_fillOpen 44 = .ok (.getfield 22, 3) := by decide +kernel
theorem dX6_fillOpen_47 : decode cX6_fillOpen 47 = .ok (.arraylength, 1) := by decide +kernel
theorem dX6_fillOpen_48 : decode cX6_fillOpen 48 = .ok (.if_icmp .ge 63, 3) := by decide +kernel
theorem dX6_fillOpen_51 : decode cX6_fillOpen 51 = .ok (.aload_n 0, 1) := by decide +kernel
theorem dX6_fillOpen_52 : decode cX6_fillOpen 52 = .ok (.getfield 22, 3) := by decide +kernel
theorem dX6_fillOpen_55 : decode cX6_fillOpen 55 = .ok (.iload_n 3, 1) := by decide +kernel
theorem dX6_fillOpen_56 : decode cX6_fillOpen 56 = .ok (.lconst 0, 1) := by decide +kernel
theorem dX6_fillOpen_57 : decode cX6_fillOpen 57 = .ok (.lastore, 1) := by decide +kernel
theorem dX6_fillOpen_58 : decode cX6_fillOpen 58 = .ok (.iconst 0, 1) := by decide +kernel
theorem dX6_fillOpen_59 : decode cX6_fillOpen 59 = .ok (.istore 4, 2) := by decide +kernel
theorem dX6_fillOpen_61 : decode cX6_fillOpen 61 = .ok (.iload 4, 2) := by decide +kernel
theorem dX6_fillOpen_63 : decode cX6_fillOpen 63 = .ok (.aload_n 1, 1) := by decide +kernel
theorem dX6_fillOpen_64 : decode cX6_fillOpen 64 = .ok (.getfield 40, 3) := by decide +kernel
theorem dX6_fillOpen_67 : decode cX6_fillOpen 67 = .ok (.if_icmp .ge 38, 3) := by decide +kernel
theorem dX6_fillOpen_70 : decode cX6_fillOpen 70 = .ok (.aload_n 0, 1) := by decide +kernel
theorem dX6_fillOpen_71 : decode cX6_fillOpen 71 = .ok (.aload_n 1, 1) := by decide +kernel
theorem dX6_fillOpen_72 : decode cX6_fillOpen 72 = .ok (.iload 4, 2) := by decide +kernel
theorem dX6_fillOpen_74 : decode cX6_fillOpen 74 = .ok (.iconst 0, 1) := by decide +kernel
theorem dX6_fillOpen_75 : decode cX6_fillOpen 75 = .ok (.iload_n 3, 1) := by decide +kernel
theorem dX6_fillOpen_76 : decode cX6_fillOpen 76 = .ok (.iconst 1, 1) := by decide +kernel
theorem dX6_fillOpen_77 : decode cX6_fillOpen 77 = .ok (.isub, 1) := by decide +kernel
theorem dX6_fillOpen_78 : decode cX6_fillOpen 78 = .ok (.iload_n 2, 1) := by decide +kernel
theorem dX6_fillOpen_79 : decode cX6_fillOpen 79 = .ok (.invokevirtual 87, 3) := by decide +kernel
theorem dX6_fillOpen_82 : decode cX6_fillOpen 82 = .ok (.iconst (-1), 1) := by decide +kernel
theorem dX6_fillOpen_83 : decode cX6_fillOpen 83 = .ok (.if_icmp .eq 16, 3) := by decide +kernel
theorem dX6_fillOpen_86 : decode cX6_fillOpen 86 = .ok (.aload_n 0, 1) := by decide +kernel
theorem dX6_fillOpen_87 : decode cX6_fillOpen 87 = .ok (.getfield 22, 3) := by decide +kernel
theorem dX6_fillOpen_90 : decode cX6_fillOpen 90 = .ok (.iload_n 3, 1) := by decide +kernel
theorem dX6_fillOpen_91 : decode cX6_fillOpen 91 = .ok (.dup2, 1) := by decide +kernel
theorem dX6_fillOpen_92 : decode cX6_fillOpen 92 = .ok (.laload, 1) := by decide +kernel
theorem dX6_fillOpen_93 : decode cX6_fillOpen 93 = .ok (.lconst 1, 1) := by decide +kernel
theorem dX6_fillOpen_94 : decode cX6_fillOpen 94 = .ok (.iload 4, 2) := by decide +kernel
theorem dX6_fillOpen_96 : decode cX6_fillOpen 96 = .ok (.lshl, 1) := by decide +kernel
theorem dX6_fillOpen_97 : decode cX6_fillOpen 97 = .ok (.lor, 1) := by decide +kernel
theorem dX6_fillOpen_98 : decode cX6_fillOpen 98 = .ok (.lastore, 1) := by decide +kernel
theorem dX6_fillOpen_99 : decode cX6_fillOpen 99 = .ok (.iinc 4 1, 3) := by decide +kernel
theorem dX6_fillOpen_102 : decode cX6_fillOpen 102 = .ok (.goto (-41), 3) := by decide +kernel
theorem dX6_fillOpen_105 : decode cX6_fillOpen 105 = .ok (.iinc 3 1, 3) := by decide +kernel
theorem dX6_fillOpen_108 : decode cX6_fillOpen 108 = .ok (.goto (-66), 3) := by decide +kernel
theorem dX6_fillOpen_111 : decode cX6_fillOpen 111 = .ok (.return_, 1) := by decide +kernel
theorem dX6_openDigit_0 : decode cX6_openDigit 0 = .ok (.iload_n 3, 1) := by decide +kernel
theorem dX6_openDigit_1 : decode cX6_openDigit 1 = .ok (.istore 6, 2) := by decide +kernel
theorem dX6_openDigit_3 : decode cX6_openDigit 3 = .ok (.iload 6, 2) := by decide +kernel
theorem dX6_openDigit_5 : decode cX6_openDigit 5 = .ok (.iload 5, 2) := by decide +kernel
theorem dX6_openDigit_7 : decode cX6_openDigit 7 = .ok (.if_icmp .ge 47, 3) := by decide +kernel
theorem dX6_openDigit_10 : decode cX6_openDigit 10 = .ok (.iload 4, 2) := by decide +kernel
theorem dX6_openDigit_12 : decode cX6_openDigit 12 = .ok (.aload_n 0, 1) := by decide +kernel
theorem dX6_openDigit_13 : decode cX6_openDigit 13 = .ok (.getfield 22, 3) := by decide +kernel
theorem dX6_openDigit_16 : decode cX6_openDigit 16 = .ok (.arraylength, 1) := by decide +kernel
theorem dX6_openDigit_17 : decode cX6_openDigit 17 = .ok (.invokestatic 64, 3) := by decide +kernel
theorem dX6_openDigit_20 : decode cX6_openDigit 20 = .ok (.ifCond .eq 34, 3) := by decide +kernel
theorem dX6_openDigit_23 : decode cX6_openDigit 23 = .ok (.aload_n 0, 1) := by decide +kernel
theorem dX6_openDigit_24 : decode cX6_openDigit 24 = .ok (.getfield 22, 3) := by decide +kernel
theorem dX6_openDigit_27 : decode cX6_openDigit 27 = .ok (.iload 4, 2) := by decide +kernel
theorem dX6_openDigit_29 : decode cX6_openDigit 29 = .ok (.laload, 1) := by decide +kernel
theorem dX6_openDigit_30 : decode cX6_openDigit 30 = .ok (.aload_n 1, 1) := by decide +kernel
theorem dX6_openDigit_31 : decode cX6_openDigit 31 = .ok (.iload_n 2, 1) := by decide +kernel
theorem dX6_openDigit_32 : decode cX6_openDigit 32 = .ok (.iload 6, 2) := by decide +kernel
theorem dX6_openDigit_34 : decode cX6_openDigit 34 = .ok (.invokevirtual 60, 3) := by decide +kernel
theorem dX6_openDigit_37 : decode cX6_openDigit 37 = .ok (.lshr, 1) := by decide +kernel
theorem dX6_openDigit_38 : decode cX6_openDigit 38 = .ok (.lconst 1, 1) := by decide +kernel
theorem dX6_openDigit_39 : decode cX6_openDigit 39 = .ok (.land, 1) := by decide +kernel
theorem dX6_openDigit_40 : decode cX6_openDigit 40 = .ok (.lconst 0, 1) := by decide +kernel
theorem dX6_openDigit_41 : decode cX6_openDigit 41 = .ok (.lcmp, 1) := by decide +kernel
theorem dX6_openDigit_42 : decode cX6_openDigit 42 = .ok (.ifCond .eq 6, 3) := by decide +kernel
theorem dX6_openDigit_45 : decode cX6_openDigit 45 = .ok (.iload 6, 2) := by decide +kernel
theorem dX6_openDigit_47 : decode cX6_openDigit 47 = .ok (.ireturn, 1) := by decide +kernel
theorem dX6_openDigit_48 : decode cX6_openDigit 48 = .ok (.iinc 6 1, 3) := by decide +kernel
theorem dX6_openDigit_51 : decode cX6_openDigit 51 = .ok (.goto (-48), 3) := by decide +kernel
theorem dX6_openDigit_54 : decode cX6_openDigit 54 = .ok (.iconst (-1), 1) := by decide +kernel
theorem dX6_openDigit_55 : decode cX6_openDigit 55 = .ok (.ireturn, 1) := by decide +kernel
theorem dX6_fillDigits_0 : decode cX6_fillDigits 0 = .ok (.iconst 0, 1) := by decide +kernel
theorem dX6_fillDigits_1 : decode cX6_fillDigits 1 = .ok (.istore 4, 2) := by decide +kernel
theorem dX6_fillDigits_3 : decode cX6_fillDigits 3 = .ok (.lload_n 1, 1) := by decide +kernel
theorem dX6_fillDigits_4 : decode cX6_fillDigits 4 = .ok (.lstore 5, 2) := by decide +kernel
theorem dX6_fillDigits_6 : decode cX6_fillDigits 6 = .ok (.iconst 0, 1) := by decide +kernel
theorem dX6_fillDigits_7 : decode cX6_fillDigits 7 = .ok (.istore 7, 2) := by decide +kernel
theorem dX6_fillDigits_9 : decode cX6_fillDigits 9 = .ok (.iload 7, 2) := by decide +kernel
theorem dX6_fillDigits_11 : decode cX6_fillDigits 11 = .ok (.bipush 64, 2) := by decide +kernel
theorem dX6_fillDigits_13 : decode cX6_fillDigits 13 = .ok (.if_icmp .ge 31, 3) := by decide +kernel
theorem dX6_fillDigits_16 : decode cX6_fillDigits 16 = .ok (.lload 5, 2) := by decide +kernel
theorem dX6_fillDigits_18 : decode cX6_fillDigits 18 = .ok (.lconst 0, 1) := by decide +kernel
theorem dX6_fillDigits_19 : decode cX6_fillDigits 19 = .ok (.lcmp, 1) := by decide +kernel
theorem dX6_fillDigits_20 : decode cX6_fillDigits 20 = .ok (.ifCond .le 24, 3) := by decide +kernel
theorem dX6_fillDigits_23 : decode cX6_fillDigits 23 = .ok (.iload_n 3, 1) := by decide +kernel
theorem dX6_fillDigits_24 : decode cX6_fillDigits 24 = .ok (.iconst 1, 1) := by decide +kernel
theorem dX6_fillDigits_25 : decode cX6_fillDigits 25 = .ok (.if_icmp .le 19, 3) := by decide +kernel
theorem dX6_fillDigits_28 : decode cX6_fillDigits 28 = .ok (.lload 5, 2) := by decide +kernel
theorem dX6_fillDigits_30 : decode cX6_fillDigits 30 = .ok (.iload_n 3, 1) := by decide +kernel
theorem dX6_fillDigits_31 : decode cX6_fillDigits 31 = .ok (.i2l, 1) := by decide +kernel
theorem dX6_fillDigits_32 : decode cX6_fillDigits 32 = .ok (.ldiv, 1) := by decide +kernel
theorem dX6_fillDigits_33 : decode cX6_fillDigits 33 = .ok (.lstore 5, 2) := by decide +kernel
theorem dX6_fillDigits_35 : decode cX6_fillDigits 35 = .ok (.iinc 4 1, 3) := by decide +kernel
theorem dX6_fillDigits_38 : decode cX6_fillDigits 38 = .ok (.iinc 7 1, 3) := by decide +kernel
theorem dX6_fillDigits_41 : decode cX6_fillDigits 41 = .ok (.goto (-32), 3) := by decide +kernel
theorem dX6_fillDigits_44 : decode cX6_fillDigits 44 = .ok (.lload_n 1, 1) := by decide +kernel
theorem dX6_fillDigits_45 : decode cX6_fillDigits 45 = .ok (.lstore 5, 2) := by decide +kernel
theorem dX6_fillDigits_47 : decode cX6_fillDigits 47 = .ok (.iload 4, 2) := by decide +kernel
theorem dX6_fillDigits_49 : decode cX6_fillDigits 49 = .ok (.iconst 1, 1) := by decide +kernel
theorem dX6_fillDigits_50 : decode cX6_fillDigits 50 = .ok (.isub, 1) := by decide +kernel
theorem dX6_fillDigits_51 : decode cX6_fillDigits 51 = .ok (.istore 7, 2) := by decide +kernel
theorem dX6_fillDigits_53 : decode cX6_fillDigits 53 = .ok (.iload 7, 2) := by decide +kernel
theorem dX6_fillDigits_55 : decode cX6_fillDigits 55 = .ok (.ifCond .lt 34, 3) := by decide +kernel
theorem dX6_fillDigits_58 : decode cX6_fillDigits 58 = .ok (.iload_n 3, 1) := by decide +kernel
theorem dX6_fillDigits_59 : decode cX6_fillDigits 59 = .ok (.iconst 1, 1) := by decide +kernel
theorem dX6_fillDigits_60 : decode cX6_fillDigits 60 = .ok (.if_icmp .le 29, 3) := by decide +kernel
theorem dX6_fillDigits_63 : decode cX6_fillDigits 63 = .ok (.aload_n 0, 1) := by decide +kernel
theorem dX6_fillDigits_64 : decode cX6_fillDigits 64 = .ok (.getfield 25, 3) := by decide +kernel
theorem dX6_fillDigits_67 : decode cX6_fillDigits 67 = .ok (.iload 7, 2) := by decide +kernel
theorem dX6_fillDigits_69 : decode cX6_fillDigits 69 = .ok (.lload 5, 2) := by decide +kernel
theorem dX6_fillDigits_71 : decode cX6_fillDigits 71 = .ok (.iload_n 3, 1) := by decide +kernel
theorem dX6_fillDigits_72 : decode cX6_fillDigits 72 = .ok (.i2l, 1) := by decide +kernel
theorem dX6_fillDigits_73 : decode cX6_fillDigits 73 = .ok (.lrem, 1) := by decide +kernel
theorem dX6_fillDigits_74 : decode cX6_fillDigits 74 = .ok (.l2i, 1) := by decide +kernel
theorem dX6_fillDigits_75 : decode cX6_fillDigits 75 = .ok (.iastore, 1) := by decide +kernel
theorem dX6_fillDigits_76 : decode cX6_fillDigits 76 = .ok (.lload 5, 2) := by decide +kernel
theorem dX6_fillDigits_78 : decode cX6_fillDigits 78 = .ok (.iload_n 3, 1) := by decide +kernel
theorem dX6_fillDigits_79 : decode cX6_fillDigits 79 = .ok (.i2l, 1) := by decide +kernel
theorem dX6_fillDigits_80 : decode cX6_fillDigits 80 = .ok (.ldiv, 1) := by decide +kernel
theorem dX6_fillDigits_81 : decode cX6_fillDigits 81 = .ok (.lstore 5, 2) := by decide +kernel
theorem dX6_fillDigits_83 : decode cX6_fillDigits 83 = .ok (.iinc 7 (-1), 3) := by decide +kernel
theorem dX6_fillDigits_86 : decode cX6_fillDigits 86 = .ok (.goto (-33), 3) := by decide +kernel
theorem dX6_fillDigits_89 : decode cX6_fillDigits 89 = .ok (.iload 4, 2) := by decide +kernel
theorem dX6_fillDigits_91 : decode cX6_fillDigits 91 = .ok (.ireturn, 1) := by decide +kernel
theorem dX6_fillHeads_0 : decode cX6_fillHeads 0 = .ok (.aload_n 0, 1) := by decide +kernel
theorem dX6_fillHeads_1 : decode cX6_fillHeads 1 = .ok (.getfield 28, 3) := by decide +kernel
theorem dX6_fillHeads_4 : decode cX6_fillHeads 4 = .ok (.iconst 0, 1) := by decide +kernel
theorem dX6_fillHeads_5 : decode cX6_fillHeads 5 = .ok (.iconst 0, 1) := by decide +kernel
theorem dX6_fillHeads_6 : decode cX6_fillHeads 6 = .ok (.iastore, 1) := by decide +kernel
theorem dX6_fillHeads_7 : decode cX6_fillHeads 7 = .ok (.iconst 0, 1) := by decide +kernel
theorem dX6_fillHeads_8 : decode cX6_fillHeads 8 = .ok (.istore_n 3, 1) := by decide +kernel
theorem dX6_fillHeads_9 : decode cX6_fillHeads 9 = .ok (.iload_n 3, 1) := by decide +kernel
theorem dX6_fillHeads_10 : decode cX6_fillHeads 10 = .ok (.iload_n 2, 1) := by decide +kernel
theorem dX6_fillHeads_11 : decode cX6_fillHeads 11 = .ok (.if_icmp .ge 39, 3) := by decide +kernel
theorem dX6_fillHeads_14 : decode cX6_fillHeads 14 = .ok (.iload_n 3, 1) := by decide +kernel
theorem dX6_fillHeads_15 : decode cX6_fillHeads 15 = .ok (.bipush 64, 2) := by decide +kernel
theorem dX6_fillHeads_17 : decode cX6_fillHeads 17 = .ok (.if_icmp .ge 33, 3) := by decide +kernel
theorem dX6_fillHeads_20 : decode cX6_fillHeads 20 = .ok (.aload_n 0, 1) := by decide +kernel
theorem dX6_fillHeads_21 : decode cX6_fillHeads 21 = .ok (.getfield 28, 3) := by decide +kernel
theorem dX6_fillHeads_24 : decode cX6_fillHeads 24 = .ok (.iload_n 3, 1) := by decide +kernel
theorem dX6_fillHeads_25 : decode cX6_fillHeads 25 = .ok (.iconst 1, 1) := by decide +kernel
theorem dX6_fillHeads_26 : decode cX6_fillHeads 26 = .ok (.iadd, 1) := by decide +kernel
theorem dX6_fillHeads_27 : decode cX6_fillHeads 27 = .ok (.aload_n 1, 1) := by decide +kernel
theorem dX6_fillHeads_28 : decode cX6_fillHeads 28 = .ok (.aload_n 0, 1) := by decide +kernel
theorem dX6_fillHeads_29 : decode cX6_fillHeads 29 = .ok (.getfield 28, 3) := by decide +kernel
theorem dX6_fillHeads_32 : decode cX6_fillHeads 32 = .ok (.iload_n 3, 1) := by decide +kernel
theorem dX6_fillHeads_33 : decode cX6_fillHeads 33 = .ok (.iaload, 1) := by decide +kernel
theorem dX6_fillHeads_34 : decode cX6_fillHeads 34 = .ok (.aload_n 0, 1) := by decide +kernel
theorem dX6_fillHeads_35 : decode cX6_fillHeads 35 = .ok (.getfield 25, 3) := by decide +kernel
theorem dX6_fillHeads_38 : decode cX6_fillHeads 38 = .ok (.iload_n 3, 1) := by decide +kernel
theorem dX6_fillHeads_39 : decode cX6_fillHeads 39 = .ok (.iaload, 1) := by decide +kernel
theorem dX6_fillHeads_40 : decode cX6_fillHeads 40 = .ok (.invokevirtual 60, 3) := by decide +kernel
theorem dX6_fillHeads_43 : decode cX6_fillHeads 43 = .ok (.iastore, 1) := by decide +kernel
theorem dX6_fillHeads_44 : decode cX6_fillHeads 44 = .ok (.iinc 3 1, 3) := by decide +kernel
theorem dX6_fillHeads_47 : decode cX6_fillHeads 47 = .ok (.goto (-38), 3) := by decide +kernel
theorem dX6_fillHeads_50 : decode cX6_fillHeads 50 = .ok (.return_, 1) := by decide +kernel
theorem dX6_head_0 : decode cX6_head 0 = .ok (.lconst 0, 1) := by decide +kernel
theorem dX6_head_1 : decode cX6_head 1 = .ok (.lstore_n 3, 1) := by decide +kernel
theorem dX6_head_2 : decode cX6_head 2 = .ok (.iconst 0, 1) := by decide +kernel
theorem dX6_head_3 : decode cX6_head 3 = .ok (.istore 5, 2) := by decide +kernel
theorem dX6_head_5 : decode cX6_head 5 = .ok (.iload 5, 2) := by decide +kernel
theorem dX6_head_7 : decode cX6_head 7 = .ok (.iload_n 1, 1) := by decide +kernel
theorem dX6_head_8 : decode cX6_head 8 = .ok (.if_icmp .ge 29, 3) := by decide +kernel
theorem dX6_head_11 : decode cX6_head 11 = .ok (.iload 5, 2) := by decide +kernel
theorem dX6_head_13 : decode cX6_head 13 = .ok (.bipush 64, 2) := by decide +kernel
theorem dX6_head_15 : decode cX6_head 15 = .ok (.if_icmp .ge 22, 3) := by decide +kernel
theorem dX6_head_18 : decode cX6_head 18 = .ok (.lload_n 3, 1) := by decide +kernel
theorem dX6_head_19 : decode cX6_head 19 = .ok (.aload_n 0, 1) := by decide +kernel
theorem dX6_head_20 : decode cX6_head 20 = .ok (.getfield 25, 3) := by decide +kernel
theorem dX6_head_23 : decode cX6_head 23 = .ok (.iload 5, 2) := by decide +kernel
theorem dX6_head_25 : decode cX6_head 25 = .ok (.iaload, 1) := by decide +kernel
theorem dX6_head_26 : decode cX6_head 26 = .ok (.iload_n 2, 1) := by decide +kernel
theorem dX6_head_27 : decode cX6_head 27 = .ok (.invokestatic 68, 3) := by decide +kernel
theorem dX6_head_30 : decode cX6_head 30 = .ok (.lstore_n 3, 1) := by decide +kernel
theorem dX6_head_31 : decode cX6_head 31 = .ok (.iinc 5 1, 3) := by decide +kernel
theorem dX6_head_34 : decode cX6_head 34 = .ok (.goto (-29), 3) := by decide +kernel
theorem dX6_head_37 : decode cX6_head 37 = .ok (.lload_n 3, 1) := by decide +kernel
theorem dX6_head_38 : decode cX6_head 38 = .ok (.lreturn, 1) := by decide +kernel
theorem dX6_ended_0 : decode cX6_ended 0 = .ok (.lload_n 2, 1) := by decide +kernel
theorem dX6_ended_1 : decode cX6_ended 1 = .ok (.iload 5, 2) := by decide +kernel
theorem dX6_ended_3 : decode cX6_ended 3 = .ok (.iload 7, 2) := by decide +kernel
theorem dX6_ended_5 : decode cX6_ended 5 = .ok (.invokestatic 68, 3) := by decide +kernel
theorem dX6_ended_8 : decode cX6_ended 8 = .ok (.lstore 8, 2) := by decide +kernel
theorem dX6_ended_10 : decode cX6_ended 10 = .ok (.aload_n 1, 1) := by decide +kernel
theorem dX6_ended_11 : decode cX6_ended 11 = .ok (.iload 4, 2) := by decide +kernel
theorem dX6_ended_13 : decode cX6_ended 13 = .ok (.iload 5, 2) := by decide +kernel
theorem dX6_ended_15 : decode cX6_ended 15 = .ok (.invokevirtual 60, 3) := by decide +kernel
theorem dX6_ended_18 : decode cX6_ended 18 = .ok (.istore 10, 2) := by decide +kernel
theorem dX6_ended_20 : decode cX6_ended 20 = .ok (.iload 6, 2) := by decide +kernel
theorem dX6_ended_22 : decode cX6_ended 22 = .ok (.iconst 2, 1) := by decide +kernel
theorem dX6_ended_23 : decode cX6_ended 23 = .ok (.isub, 1) := by decide +kernel
theorem dX6_ended_24 : decode cX6_ended 24 = .ok (.istore 11, 2) := by decide +kernel
theorem dX6_ended_26 : decode cX6_ended 26 = .ok (.iload 11, 2) := by decide +kernel
theorem dX6_ended_28 : decode cX6_ended 28 = .ok (.ifCond .lt 48, 3) := by decide +kernel
theorem dX6_ended_31 : decode cX6_ended 31 = .ok (.iconst 0, 1) := by decide +kernel
theorem dX6_ended_32 : decode cX6_ended 32 = .ok (.aload_n 0, 1) := by decide +kernel
theorem dX6_ended_33 : decode cX6_ended 33 = .ok (.aload_n 1, 1) := by decide +kernel
theorem dX6_ended_34 : decode cX6_ended 34 = .ok (.iload 10, 2) := by decide +kernel
theorem dX6_ended_36 : decode cX6_ended 36 = .ok (.iconst 0, 1) := by decide +kernel
theorem dX6_ended_37 : decode cX6_ended 37 = .ok (.iload 11, 2) := by decide +kernel
theorem dX6_ended_39 : decode cX6_ended 39 = .ok (.iload 7, 2) := by decide +kernel
theorem dX6_ended_41 : decode cX6_ended 41 = .ok (.invokevirtual 87, 3) := by decide +kernel
theorem dX6_ended_44 : decode cX6_ended 44 = .ok (.invokestatic 99, 3) := by decide +kernel
theorem dX6_ended_47 : decode cX6_ended 47 = .ok (.istore 12, 2) := by decide +kernel
theorem dX6_ended_49 : decode cX6_ended 49 = .ok (.lload 8, 2) := by decide +kernel
theorem dX6_ended_51 : decode cX6_ended 51 = .ok (.iload 12, 2) := by decide +kernel
theorem dX6_ended_53 : decode cX6_ended 53 = .ok (.iload 7, 2) := by decide +kernel
theorem dX6_ended_55 : decode cX6_ended 55 = .ok (.invokestatic 68, 3) := by decide +kernel
theorem dX6_ended_58 : decode cX6_ended 58 = .ok (.lstore 8, 2) := by decide +kernel
theorem dX6_ended_60 : decode cX6_ended 60 = .ok (.aload_n 1, 1) := by decide +kernel
theorem dX6_ended_61 : decode cX6_ended 61 = .ok (.iload 10, 2) := by decide +kernel
theorem dX6_ended_63 : decode cX6_ended 63 = .ok (.iload 12, 2) := by decide +kernel
theorem dX6_ended_65 : decode cX6_ended 65 = .ok (.invokevirtual 60, 3) := by decide +kernel
theorem dX6_ended_68 : decode cX6_ended 68 = .ok (.istore 10, 2) := by decide +kernel
theorem dX6_ended_70 : decode cX6_ended 70 = .ok (.iinc 11 (-1), 3) := by decide +kernel
theorem dX6_ended_73 : decode cX6_ended 73 = .ok (.goto (-47), 3) := by decide +kernel
theorem dX6_ended_76 : decode cX6_ended 76 = .ok (.lload 8, 2) := by decide +kernel
theorem dX6_ended_78 : decode cX6_ended 78 = .ok (.ldc2_w 56, 3) := by decide +kernel
theorem dX6_ended_81 : decode cX6_ended 81 = .ok (.lcmp, 1) := by decide +kernel
theorem dX6_ended_82 : decode cX6_ended 82 = .ok (.ifCond .le 9, 3) := by decide +kernel
theorem dX6_ended_85 : decode cX6_ended 85 = .ok (.ldc2_w 58, 3) := by decide +kernel
theorem dX6_ended_88 : decode cX6_ended 88 = .ok (.goto 5, 3) := by decide +kernel
theorem dX6_ended_91 : decode cX6_ended 91 = .ok (.lload 8, 2) := by decide +kernel
theorem dX6_ended_93 : decode cX6_ended 93 = .ok (.lreturn, 1) := by decide +kernel
theorem dX6_howMany_0 : decode cX6_howMany 0 = .ok (.iconst 0, 1) := by decide +kernel
theorem dX6_howMany_1 : decode cX6_howMany 1 = .ok (.istore_n 3, 1) := by decide +kernel
theorem dX6_howMany_2 : decode cX6_howMany 2 = .ok (.iload_n 3, 1) := by decide +kernel
theorem dX6_howMany_3 : decode cX6_howMany 3 = .ok (.aload_n 0, 1) := by decide +kernel
theorem dX6_howMany_4 : decode cX6_howMany 4 = .ok (.getfield 31, 3) := by decide +kernel
theorem dX6_howMany_7 : decode cX6_howMany 7 = .ok (.arraylength, 1) := by decide +kernel
theorem dX6_howMany_8 : decode cX6_howMany 8 = .ok (.if_icmp .ge 21, 3) := by decide +kernel
theorem dX6_howMany_11 : decode cX6_howMany 11 = .ok (.aload_n 0, 1) := by decide +kernel
theorem dX6_howMany_12 : decode cX6_howMany 12 = .ok (.getfield 31, 3) := by decide +kernel
theorem dX6_howMany_15 : decode cX6_howMany 15 = .ok (.iload_n 3, 1) := by decide +kernel
theorem dX6_howMany_16 : decode cX6_howMany 16 = .ok (.aload_n 1, 1) := by decide +kernel
theorem dX6_howMany_17 : decode cX6_howMany 17 = .ok (.iload_n 3, 1) := by decide +kernel
theorem dX6_howMany_18 : decode cX6_howMany 18 = .ok (.invokevirtual 52, 3) := by decide +kernel
theorem dX6_howMany_21 : decode cX6_howMany 21 = .ok (.i2l, 1) := by decide +kernel
theorem dX6_howMany_22 : decode cX6_howMany 22 = .ok (.lastore, 1) := by decide +kernel
theorem dX6_howMany_23 : decode cX6_howMany 23 = .ok (.iinc 3 1, 3) := by decide +kernel
theorem dX6_howMany_26 : decode cX6_howMany 26 = .ok (.goto (-24), 3) := by decide +kernel
theorem dX6_howMany_29 : decode cX6_howMany 29 = .ok (.aload_n 0, 1) := by decide +kernel
theorem dX6_howMany_30 : decode cX6_howMany 30 = .ok (.aload_n 1, 1) := by decide +kernel
theorem dX6_howMany_31 : decode cX6_howMany 31 = .ok (.iconst 1, 1) := by decide +kernel
theorem dX6_howMany_32 : decode cX6_howMany 32 = .ok (.iload_n 2, 1) := by decide +kernel
theorem dX6_howMany_33 : decode cX6_howMany 33 = .ok (.invokevirtual 104, 3) := by decide +kernel
theorem dX6_howMany_36 : decode cX6_howMany 36 = .ok (.lreturn, 1) := by decide +kernel
theorem dX6_howManyFirst_0 : decode cX6_howManyFirst 0 = .ok (.iconst 0, 1) := by decide +kernel
theorem dX6_howManyFirst_1 : decode cX6_howManyFirst 1 = .ok (.istore 5, 2) := by decide +kernel
theorem dX6_howManyFirst_3 : decode cX6_howManyFirst 3 = .ok (.iload 5, 2) := by decide +kernel
theorem dX6_howManyFirst_5 : decode cX6_howManyFirst 5 = .ok (.aload_n 0, 1) := by decide +kernel
theorem dX6_howManyFirst_6 : decode cX6_howManyFirst 6 = .ok (.getfield 31, 3) := by decide +kernel
theorem dX6_howManyFirst_9 : decode cX6_howManyFirst 9 = .ok (.arraylength, 1) := by decide +kernel
theorem dX6_howManyFirst_10 : decode cX6_howManyFirst 10 = .ok (.if_icmp .ge 23, 3) := by decide +kernel
theorem dX6_howManyFirst_13 : decode cX6_howManyFirst 13 = .ok (.aload_n 0, 1) := by decide +kernel
theorem dX6_howManyFirst_14 : decode cX6_howManyFirst 14 = .ok (.getfield 31, 3) := by decide +kernel
theorem dX6_howManyFirst_17 : decode cX6_howManyFirst 17 = .ok (.iload 5, 2) := by decide +kernel
theorem dX6_howManyFirst_19 : decode cX6_howManyFirst 19 = .ok (.aload_n 1, 1) := by decide +kernel
theorem dX6_howManyFirst_20 : decode cX6_howManyFirst 20 = .ok (.iload 5, 2) := by decide +kernel
theorem dX6_howManyFirst_22 : decode cX6_howManyFirst 22 = .ok (.invokevirtual 52, 3) := by decide +kernel
theorem dX6_howManyFirst_25 : decode cX6_howManyFirst 25 = .ok (.i2l, 1) := by decide +kernel
theorem dX6_howManyFirst_26 : decode cX6_howManyFirst 26 = .ok (.lastore, 1) := by decide +kernel
theorem dX6_howManyFirst_27 : decode cX6_howManyFirst 27 = .ok (.iinc 5 1, 3) := by decide +kernel
theorem dX6_howManyFirst_30 : decode cX6_howManyFirst 30 = .ok (.goto (-27), 3) := by decide +kernel
theorem dX6_howManyFirst_33 : decode cX6_howManyFirst 33 = .ok (.aload_n 0, 1) := by decide +kernel
theorem dX6_howManyFirst_34 : decode cX6_howManyFirst 34 = .ok (.lload_n 2, 1) := by decide +kernel
theorem dX6_howManyFirst_35 : decode cX6_howManyFirst 35 = .ok (.iload 4, 2) := by decide +kernel
theorem dX6_howManyFirst_37 : decode cX6_howManyFirst 37 = .ok (.invokevirtual 80, 3) := by decide +kernel
theorem dX6_howManyFirst_40 : decode cX6_howManyFirst 40 = .ok (.istore 5, 2) := by decide +kernel
theorem dX6_howManyFirst_42 : decode cX6_howManyFirst 42 = .ok (.iload 5, 2) := by decide +kernel
theorem dX6_howManyFirst_44 : decode cX6_howManyFirst 44 = .ok (.iconst 1, 1) := by decide +kernel
theorem dX6_howManyFirst_45 : decode cX6_howManyFirst 45 = .ok (.isub, 1) := by decide +kernel
theorem dX6_howManyFirst_46 : decode cX6_howManyFirst 46 = .ok (.istore 6, 2) := by decide +kernel
theorem dX6_howManyFirst_48 : decode cX6_howManyFirst 48 = .ok (.iload 6, 2) := by decide +kernel
theorem dX6_howManyFirst_50 : decode cX6_howManyFirst 50 = .ok (.ifCond .lt 109, 3) := by decide +kernel
theorem dX6_howManyFirst_53 : decode cX6_howManyFirst 53 = .ok (.iconst 0, 1) := by decide +kernel
theorem dX6_howManyFirst_54 : decode cX6_howManyFirst 54 = .ok (.istore 7, 2) := by decide +kernel
theorem dX6_howManyFirst_56 : decode cX6_howManyFirst 56 = .ok (.iload 7, 2) := by decide +kernel
theorem dX6_howManyFirst_58 : decode cX6_howManyFirst 58 = .ok (.aload_n 1, 1) := by decide +kernel
theorem dX6_howManyFirst_59 : decode cX6_howManyFirst 59 = .ok (.getfield 40, 3) := by decide +kernel
theorem dX6_howManyFirst_62 : decode cX6_howManyFirst 62 = .ok (.if_icmp .ge 74, 3) := by decide +kernel
theorem dX6_howManyFirst_65 : decode cX6_howManyFirst 65 = .ok (.aload_n 0, 1) := by decide +kernel
theorem dX6_howManyFirst_66 : decode cX6_howManyFirst 66 = .ok (.getfield 37, 3) := by decide +kernel
theorem dX6_howManyFirst_69 : decode cX6_howManyFirst 69 = .ok (.iload 7, 2) := by decide +kernel
theorem dX6_howManyFirst_71 : decode cX6_howManyFirst 71 = .ok (.lconst 0, 1) := by decide +kernel
theorem dX6_howManyFirst_72 : decode cX6_howManyFirst 72 = .ok (.lastore, 1) := by decide +kernel
theorem dX6_howManyFirst_73 : decode cX6_howManyFirst 73 = .ok (.iconst 0, 1) := by decide +kernel
theorem dX6_howManyFirst_74 : decode cX6_howManyFirst 74 = .ok (.istore 8, 2) := by decide +kernel
theorem dX6_howManyFirst_76 : decode cX6_howManyFirst 76 = .ok (.iload 8, 2) := by decide +kernel
theorem dX6_howManyFirst_78 : decode cX6_howManyFirst 78 = .ok (.iload 4, 2) := by decide +kernel
theorem dX6_howManyFirst_80 : decode cX6_howManyFirst 80 = .ok (.if_icmp .ge 50, 3) := by decide +kernel
theorem dX6_howManyFirst_83 : decode cX6_howManyFirst 83 = .ok (.aload_n 0, 1) := by decide +kernel
theorem dX6_howManyFirst_84 : decode cX6_howManyFirst 84 = .ok (.getfield 37, 3) := by decide +kernel
theorem dX6_howManyFirst_87 : decode cX6_howManyFirst 87 = .ok (.iload 7, 2) := by decide +kernel
theorem dX6_howManyFirst_89 : decode cX6_howManyFirst 89 = .ok (.aload_n 0, 1) := by decide +kernel
theorem dX6_howManyFirst_90 : decode cX6_howManyFirst 90 = .ok (.getfield 37, 3) := by decide +kernel
theorem dX6_howManyFirst_93 : decode cX6_howManyFirst 93 = .ok (.iload 7, 2) := by decide +kernel
theorem dX6_howManyFirst_95 : decode cX6_howManyFirst 95 = .ok (.laload, 1) := by decide +kernel
theorem dX6_howManyFirst_96 : decode cX6_howManyFirst 96 = .ok (.aload_n 0, 1) := by decide +kernel
theorem dX6_howManyFirst_97 : decode cX6_howManyFirst 97 = .ok (.getfield 31, 3) := by decide +kernel
theorem dX6_howManyFirst_100 : decode cX6_howManyFirst 100 = .ok (.aload_n 1, 1) := by decide +kernel
theorem dX6_howManyFirst_101 : decode cX6_howManyFirst 101 = .ok (.iload 7, 2) := by decide +kernel
theorem dX6_howManyFirst_103 : decode cX6_howManyFirst 103 = .ok (.iload 8, 2) := by decide +kernel
theorem dX6_howManyFirst_105 : decode cX6_howManyFirst 105 = .ok (.iload 4, 2) := by decide +kernel
theorem dX6_howManyFirst_107 : decode cX6_howManyFirst 107 = .ok (.imul, 1) := by decide +kernel
theorem dX6_howManyFirst_108 : decode cX6_howManyFirst 108 = .ok (.aload_n 0, 1) := by decide +kernel
theorem dX6_howManyFirst_109 : decode cX6_howManyFirst 109 = .ok (.getfield 25, 3) := by decide +kernel
theorem dX6_howManyFirst_112 : decode cX6_howManyFirst 112 = .ok (.iload 6, 2) := by decide +kernel
theorem dX6_howManyFirst_114 : decode cX6_howManyFirst 114 = .ok (.iaload, 1) := by decide +kernel
theorem dX6_howManyFirst_115 : decode cX6_howManyFirst 115 = .ok (.iadd, 1) := by decide +kernel
theorem dX6_howManyFirst_116 : decode cX6_howManyFirst 116 = .ok (.invokevirtual 60, 3) := by decide +kernel
theorem dX6_howManyFirst_119 : decode cX6_howManyFirst 119 = .ok (.laload, 1) := by decide +kernel
theorem dX6_howManyFirst_120 : decode cX6_howManyFirst 120 = .ok (.invokestatic 108, 3) := by decide +kernel
theorem dX6_howManyFirst_123 : decode cX6_howManyFirst 123 = .ok (.lastore, 1) := by decide +kernel
theorem dX6_howManyFirst_124 : decode cX6_howManyFirst 124 = .ok (.iinc 8 1, 3) := by decide +kernel
theorem dX6_howManyFirst_127 : decode cX6_howManyFirst 127 = .ok (.goto (-51), 3) := by decide +kernel
theorem dX6_howManyFirst_130 : decode cX6_howManyFirst 130 = .ok (.iinc 7 1, 3) := by decide +kernel
theorem dX6_howManyFirst_133 : decode cX6_howManyFirst 133 = .ok (.goto (-77), 3) := by decide +kernel
theorem dX6_howManyFirst_136 : decode cX6_howManyFirst 136 = .ok (.aload_n 0, 1) := by decide +kernel
theorem dX6_howManyFirst_137 : decode cX6_howManyFirst 137 = .ok (.getfield 37, 3) := by decide +kernel
theorem dX6_howManyFirst_140 : decode cX6_howManyFirst 140 = .ok (.iconst 0, 1) := by decide +kernel
theorem dX6_howManyFirst_141 : decode cX6_howManyFirst 141 = .ok (.aload_n 0, 1) := by decide +kernel
theorem dX6_howManyFirst_142 : decode cX6_howManyFirst 142 = .ok (.getfield 31, 3) := by decide +kernel
theorem dX6_howManyFirst_145 : decode cX6_howManyFirst 145 = .ok (.iconst 0, 1) := by decide +kernel
theorem dX6_howManyFirst_146 : decode cX6_howManyFirst 146 = .ok (.aload_n 1, 1) := by decide +kernel
theorem dX6_howManyFirst_147 : decode cX6_howManyFirst 147 = .ok (.getfield 40, 3) := by decide +kernel
theorem dX6_howManyFirst_150 : decode cX6_howManyFirst 150 = .ok (.invokestatic 112, 3) := by decide +kernel
theorem dX6_howManyFirst_153 : decode cX6_howManyFirst 153 = .ok (.iinc 6 (-1), 3) := by decide +kernel
theorem dX6_howManyFirst_156 : decode cX6_howManyFirst 156 = .ok (.goto (-108), 3) := by decide +kernel
theorem dX6_howManyFirst_159 : decode cX6_howManyFirst 159 = .ok (.aload_n 0, 1) := by decide +kernel
theorem dX6_howManyFirst_160 : decode cX6_howManyFirst 160 = .ok (.aload_n 1, 1) := by decide +kernel
theorem dX6_howManyFirst_161 : decode cX6_howManyFirst 161 = .ok (.iload 4, 2) := by decide +kernel
theorem dX6_howManyFirst_163 : decode cX6_howManyFirst 163 = .ok (.iload 4, 2) := by decide +kernel
theorem dX6_howManyFirst_165 : decode cX6_howManyFirst 165 = .ok (.invokevirtual 104, 3) := by decide +kernel
theorem dX6_howManyFirst_168 : decode cX6_howManyFirst 168 = .ok (.lreturn, 1) := by decide +kernel
theorem dX6_countAll_0 : decode cX6_countAll 0 = .ok (.aload_n 0, 1) := by decide +kernel
theorem dX6_countAll_1 : decode cX6_countAll 1 = .ok (.getfield 31, 3) := by decide +kernel
theorem dX6_countAll_4 : decode cX6_countAll 4 = .ok (.iconst 0, 1) := by decide +kernel
theorem dX6_countAll_5 : decode cX6_countAll 5 = .ok (.laload, 1) := by decide +kernel
theorem dX6_countAll_6 : decode cX6_countAll 6 = .ok (.lstore 4, 2) := by decide +kernel
theorem dX6_countAll_8 : decode cX6_countAll 8 = .ok (.aload_n 0, 1) := by decide +kernel
theorem dX6_countAll_9 : decode cX6_countAll 9 = .ok (.aload_n 1, 1) := by decide +kernel
theorem dX6_countAll_10 : decode cX6_countAll 10 = .ok (.iload_n 2, 1) := by decide +kernel
theorem dX6_countAll_11 : decode cX6_countAll 11 = .ok (.iload_n 3, 1) := by decide +kernel
theorem dX6_countAll_12 : decode cX6_countAll 12 = .ok (.invokevirtual 118, 3) := by decide +kernel
theorem dX6_countAll_15 : decode cX6_countAll 15 = .ok (.iconst 1, 1) := by decide +kernel
theorem dX6_countAll_16 : decode cX6_countAll 16 = .ok (.istore 6, 2) := by decide +kernel
theorem dX6_countAll_18 : decode cX6_countAll 18 = .ok (.iload 6, 2) := by decide +kernel
theorem dX6_countAll_20 : decode cX6_countAll 20 = .ok (.bipush 80, 2) := by decide +kernel
theorem dX6_countAll_22 : decode cX6_countAll 22 = .ok (.if_icmp .gt 80, 3) := by decide +kernel
theorem dX6_countAll_25 : decode cX6_countAll 25 = .ok (.iconst 0, 1) := by decide +kernel
theorem dX6_countAll_26 : decode cX6_countAll 26 = .ok (.istore 7, 2) := by decide +kernel
theorem dX6_countAll_28 : decode cX6_countAll 28 = .ok (.iload 7, 2) := by decide +kernel
theorem dX6_countAll_30 : decode cX6_countAll 30 = .ok (.aload_n 1, 1) := by decide +kernel
theorem dX6_countAll_31 : decode cX6_countAll 31 = .ok (.getfield 40, 3) := by decide +kernel
theorem dX6_countAll_34 : decode cX6_countAll 34 = .ok (.if_icmp .ge 55, 3) := by decide +kernel
theorem dX6_countAll_37 : decode cX6_countAll 37 = .ok (.aload_n 0, 1) := by decide +kernel
theorem dX6_countAll_38 : decode cX6_countAll 38 = .ok (.getfield 34, 3) := by decide +kernel
theorem dX6_countAll_41 : decode cX6_countAll 41 = .ok (.iload 7, 2) := by decide +kernel
theorem dX6_countAll_43 : decode cX6_countAll 43 = .ok (.laload, 1) := by decide +kernel
theorem dX6_countAll_44 : decode cX6_countAll 44 = .ok (.aload_n 0, 1) := by decide +kernel
theorem dX6_countAll_45 : decode cX6_countAll 45 = .ok (.getfield 31, 3) := by decide +kernel
theorem dX6_countAll_48 : decode cX6_countAll 48 = .ok (.iload 7, 2) := by decide +kernel
theorem dX6_countAll_50 : decode cX6_countAll 50 = .ok (.laload, 1) := by decide +kernel
theorem dX6_countAll_51 : decode cX6_countAll 51 = .ok (.invokestatic 122, 3) := by decide +kernel
theorem dX6_countAll_54 : decode cX6_countAll 54 = .ok (.lstore 8, 2) := by decide +kernel
theorem dX6_countAll_56 : decode cX6_countAll 56 = .ok (.lload 8, 2) := by decide +kernel
theorem dX6_countAll_58 : decode cX6_countAll 58 = .ok (.lconst 0, 1) := by decide +kernel
theorem dX6_countAll_59 : decode cX6_countAll 59 = .ok (.lcmp, 1) := by decide +kernel
theorem dX6_countAll_60 : decode cX6_countAll 60 = .ok (.ifCond .le 14, 3) := by decide +kernel
theorem dX6_countAll_63 : decode cX6_countAll 63 = .ok (.iload 6, 2) := by decide +kernel
theorem dX6_countAll_65 : decode cX6_countAll 65 = .ok (.bipush 40, 2) := by decide +kernel
theorem dX6_countAll_67 : decode cX6_countAll 67 = .ok (.if_icmp .le 7, 3) := by decide +kernel
theorem dX6_countAll_70 : decode cX6_countAll 70 = .ok (.ldc2_w 72, 3) := by decide +kernel
theorem dX6_countAll_73 : decode cX6_countAll 73 = .ok (.lreturn, 1) := by decide +kernel
theorem dX6_countAll_74 : decode cX6_countAll 74 = .ok (.lload 4, 2) := by decide +kernel
theorem dX6_countAll_76 : decode cX6_countAll 76 = .ok (.lload 8, 2) := by decide +kernel
theorem dX6_countAll_78 : decode cX6_countAll 78 = .ok (.invokestatic 108, 3) := by decide +kernel
theorem dX6_countAll_81 : decode cX6_countAll 81 = .ok (.lstore 4, 2) := by decide +kernel
theorem dX6_countAll_83 : decode cX6_countAll 83 = .ok (.iinc 7 1, 3) := by decide +kernel
theorem dX6_countAll_86 : decode cX6_countAll 86 = .ok (.goto (-58), 3) := by decide +kernel
theorem dX6_countAll_89 : decode cX6_countAll 89 = .ok (.aload_n 0, 1) := by decide +kernel
theorem dX6_countAll_90 : decode cX6_countAll 90 = .ok (.aload_n 1, 1) := by decide +kernel
theorem dX6_countAll_91 : decode cX6_countAll 91 = .ok (.iload_n 2, 1) := by decide +kernel
theorem dX6_countAll_92 : decode cX6_countAll 92 = .ok (.iload_n 3, 1) := by decide +kernel
theorem dX6_countAll_93 : decode cX6_countAll 93 = .ok (.invokevirtual 125, 3) := by decide +kernel
theorem dX6_countAll_96 : decode cX6_countAll 96 = .ok (.iinc 6 1, 3) := by decide +kernel
theorem dX6_countAll_99 : decode cX6_countAll 99 = .ok (.goto (-81), 3) := by decide +kernel
theorem dX6_countAll_102 : decode cX6_countAll 102 = .ok (.lload 4, 2) := by decide +kernel
theorem dX6_countAll_104 : decode cX6_countAll 104 = .ok (.ldc2_w 56, 3) := by decide +kernel
theorem dX6_countAll_107 : decode cX6_countAll 107 = .ok (.lcmp, 1) := by decide +kernel
theorem dX6_countAll_108 : decode cX6_countAll 108 = .ok (.ifCond .le 9, 3) := by decide +kernel
theorem dX6_countAll_111 : decode cX6_countAll 111 = .ok (.ldc2_w 58, 3) := by decide +kernel
theorem dX6_countAll_114 : decode cX6_countAll 114 = .ok (.goto 5, 3) := by decide +kernel
theorem dX6_countAll_117 : decode cX6_countAll 117 = .ok (.lload 4, 2) := by decide +kernel
theorem dX6_countAll_119 : decode cX6_countAll 119 = .ok (.lreturn, 1) := by decide +kernel
theorem dX6_startWays_0 : decode cX6_startWays 0 = .ok (.aload_n 0, 1) := by decide +kernel
theorem dX6_startWays_1 : decode cX6_startWays 1 = .ok (.getfield 34, 3) := by decide +kernel
theorem dX6_startWays_4 : decode cX6_startWays 4 = .ok (.lconst 0, 1) := by decide +kernel
theorem dX6_startWays_5 : decode cX6_startWays 5 = .ok (.invokestatic 128, 3) := by decide +kernel
theorem dX6_startWays_8 : decode cX6_startWays 8 = .ok (.iconst 1, 1) := by decide +kernel
theorem dX6_startWays_9 : decode cX6_startWays 9 = .ok (.istore 4, 2) := by decide +kernel
theorem dX6_startWays_11 : decode cX6_startWays 11 = .ok (.iload 4, 2) := by decide +kernel
theorem dX6_startWays_13 : decode cX6_startWays 13 = .ok (.iload_n 3, 1) := by decide +kernel
theorem dX6_startWays_14 : decode cX6_startWays 14 = .ok (.if_icmp .ge 38, 3) := by decide +kernel
theorem dX6_startWays_17 : decode cX6_startWays 17 = .ok (.aload_n 1, 1) := by decide +kernel
theorem dX6_startWays_18 : decode cX6_startWays 18 = .ok (.iconst 0, 1) := by decide +kernel
theorem dX6_startWays_19 : decode cX6_startWays 19 = .ok (.iload 4, 2) := by decide +kernel
theorem dX6_startWays_21 : decode cX6_startWays 21 = .ok (.iload_n 2, 1) := by decide +kernel
theorem dX6_startWays_22 : decode cX6_startWays 22 = .ok (.imul, 1) := by decide +kernel
theorem dX6_startWays_23 : decode cX6_startWays 23 = .ok (.invokevirtual 60, 3) := by decide +kernel
theorem dX6_startWays_26 : decode cX6_startWays 26 = .ok (.istore 5, 2) := by decide +kernel
theorem dX6_startWays_28 : decode cX6_startWays 28 = .ok (.aload_n 0, 1) := by decide +kernel
theorem dX6_startWays_29 : decode cX6_startWays 29 = .ok (.getfield 34, 3) := by decide +kernel
theorem dX6_startWays_32 : decode cX6_startWays 32 = .ok (.iload 5, 2) := by decide +kernel
theorem dX6_startWays_34 : decode cX6_startWays 34 = .ok (.aload_n 0, 1) := by decide +kernel
theorem dX6_startWays_35 : decode cX6_startWays 35 = .ok (.getfield 34, 3) := by decide +kernel
theorem dX6_startWays_38 : decode cX6_startWays 38 = .ok (.iload 5, 2) := by decide +kernel
theorem dX6_startWays_40 : decode cX6_startWays 40 = .ok (.laload, 1) := by decide +kernel
theorem dX6_startWays_41 : decode cX6_startWays 41 = .ok (.lconst 1, 1) := by decide +kernel
theorem dX6_startWays_42 : decode cX6_startWays 42 = .ok (.invokestatic 108, 3) := by decide +kernel
theorem dX6_startWays_45 : decode cX6_startWays 45 = .ok (.lastore, 1) := by decide +kernel
theorem dX6_startWays_46 : decode cX6_startWays 46 = .ok (.iinc 4 1, 3) := by decide +kernel
theorem dX6_startWays_49 : decode cX6_startWays 49 = .ok (.goto (-38), 3) := by decide +kernel
theorem dX6_startWays_52 : decode cX6_startWays 52 = .ok (.return_, 1) := by decide +kernel
theorem dX6_stepWays_0 : decode cX6_stepWays 0 = .ok (.aload_n 0, 1) := by decide +kernel
theorem dX6_stepWays_1 : decode cX6_stepWays 1 = .ok (.getfield 37, 3) := by decide +kernel
theorem dX6_stepWays_4 : decode cX6_stepWays 4 = .ok (.lconst 0, 1) := by decide +kernel
theorem dX6_stepWays_5 : decode cX6_stepWays 5 = .ok (.invokestatic 128, 3) := by decide +kernel
theorem dX6_stepWays_8 : decode cX6_stepWays 8 = .ok (.iconst 0, 1) := by decide +kernel
theorem dX6_stepWays_9 : decode cX6_stepWays 9 = .ok (.istore 4, 2) := by decide +kernel
theorem dX6_stepWays_11 : decode cX6_stepWays 11 = .ok (.iload 4, 2) := by decide +kernel
theorem dX6_stepWays_13 : decode cX6_stepWays 13 = .ok (.aload_n 1, 1) := by decide +kernel
theorem dX6_stepWays_14 : decode cX6_stepWays 14 = .ok (.getfield 40, 3) := by decide +kernel
theorem dX6_stepWays_17 : decode cX6_stepWays 17 = .ok (.if_icmp .ge 60, 3) := by decide +kernel
theorem dX6_stepWays_20 : decode cX6_stepWays 20 = .ok (.iconst 0, 1) := by decide +kernel
theorem dX6_stepWays_21 : decode cX6_stepWays 21 = .ok (.istore 5, 2) := by decide +kernel
theorem dX6_stepWays_23 : decode cX6_stepWays 23 = .ok (.iload 5, 2) := by decide +kernel
theorem dX6_stepWays_25 : decode cX6_stepWays 25 = .ok (.iload_n 3, 1) := by decide +kernel
theorem dX6_stepWays_26 : decode cX6_stepWays 26 = .ok (.if_icmp .ge 45, 3) := by decide +kernel
theorem dX6_stepWays_29 : decode cX6_stepWays 29 = .ok (.aload_n 1, 1) := by decide +kernel
theorem dX6_stepWays_30 : decode cX6_stepWays 30 = .ok (.iload 4, 2) := by decide +kernel
theorem dX6_stepWays_32 : decode cX6_stepWays 32 = .ok (.iload 5, 2) := by decide +kernel
theorem dX6_stepWays_34 : decode cX6_stepWays 34 = .ok (.iload_n 2, 1) := by decide +kernel
theorem dX6_stepWays_35 : decode cX6_stepWays 35 = .ok (.imul, 1) := by decide +kernel
theorem dX6_stepWays_36 : decode cX6_stepWays 36 = .ok (.invokevirtual 60, 3) := by decide +kernel
theorem dX6_stepWays_39 : decode cX6_stepWays 39 = .ok (.istore 6, 2) := by decide +kernel
theorem dX6_stepWays_41 : decode cX6_stepWays 41 = .ok (.aload_n 0, 1) := by decide +kernel
theorem dX6_stepWays_42 : decode cX6_stepWays 42 = .ok (.getfield 37, 3) := by decide +kernel
theorem dX6_stepWays_45 : decode cX6_stepWays 45 = .ok (.iload 6, 2) := by decide +kernel
theorem dX6_stepWays_47 : decode cX6_stepWays 47 = .ok (.aload_n 0, 1) := by decide +kernel
theorem dX6_stepWays_48 : decode cX6_stepWays 48 = .ok (.getfield 37, 3) := by decide +kernel
theorem dX6_stepWays_51 : decode cX6_stepWays 51 = .ok (.iload 6, 2) := by decide +kernel
theorem dX6_stepWays_53 : decode cX6_stepWays 53 = .ok (.laload, 1) := by decide +kernel
theorem dX6_stepWays_54 : decode cX6_stepWays 54 = .ok (.aload_n 0, 1) := by decide +kernel
theorem dX6_stepWays_55 : decode cX6_stepWays 55 = .ok (.getfield 34, 3) := by decide +kernel
theorem dX6_stepWays_58 : decode cX6_stepWays 58 = .ok (.iload 4, 2) := by decide +kernel
theorem dX6_stepWays_60 : decode cX6_stepWays 60 = .ok (.laload, 1) := by decide +kernel
theorem dX6_stepWays_61 : decode cX6_stepWays 61 = .ok (.invokestatic 108, 3) := by decide +kernel
theorem dX6_stepWays_64 : decode cX6_stepWays 64 = .ok (.lastore, 1) := by decide +kernel
theorem dX6_stepWays_65 : decode cX6_stepWays 65 = .ok (.iinc 5 1, 3) := by decide +kernel
theorem dX6_stepWays_68 : decode cX6_stepWays 68 = .ok (.goto (-45), 3) := by decide +kernel
theorem dX6_stepWays_71 : decode cX6_stepWays 71 = .ok (.iinc 4 1, 3) := by decide +kernel
theorem dX6_stepWays_74 : decode cX6_stepWays 74 = .ok (.goto (-63), 3) := by decide +kernel
theorem dX6_stepWays_77 : decode cX6_stepWays 77 = .ok (.aload_n 0, 1) := by decide +kernel
theorem dX6_stepWays_78 : decode cX6_stepWays 78 = .ok (.getfield 37, 3) := by decide +kernel
theorem dX6_stepWays_81 : decode cX6_stepWays 81 = .ok (.iconst 0, 1) := by decide +kernel
theorem dX6_stepWays_82 : decode cX6_stepWays 82 = .ok (.aload_n 0, 1) := by decide +kernel
theorem dX6_stepWays_83 : decode cX6_stepWays 83 = .ok (.getfield 34, 3) := by decide +kernel
theorem dX6_stepWays_86 : decode cX6_stepWays 86 = .ok (.iconst 0, 1) := by decide +kernel
theorem dX6_stepWays_87 : decode cX6_stepWays 87 = .ok (.aload_n 0, 1) := by decide +kernel
theorem dX6_stepWays_88 : decode cX6_stepWays 88 = .ok (.getfield 34, 3) := by decide +kernel
theorem dX6_stepWays_91 : decode cX6_stepWays 91 = .ok (.arraylength, 1) := by decide +kernel
theorem dX6_stepWays_92 : decode cX6_stepWays 92 = .ok (.invokestatic 112, 3) := by decide +kernel
theorem dX6_stepWays_95 : decode cX6_stepWays 95 = .ok (.return_, 1) := by decide +kernel
theorem eX6_init {G : GG} {d rc rs : Nat} (o : Nat)  {M : Mem} {Q : Option Value → Mem → Prop} (h : 1 ≤ rc ∧ 3600 ≤ rs ∧ (∀ n1, n1 = g_b G + x_n M → ∀ M2, M2 = x_new M n1 1 3600 → (x_h M2 o).1 = 22 ∧ (∀ M7, M7 = x_sr M2 o 0 (some n1) → 1 ≤ (rc - 1) ∧ 3600 ≤ (rs - 3600) ∧ (∀ n8, n8 = g_b G + x_n M7 → ∀ M9, M9 = x_new M7 n8 1 3600 → (x_h M9 o).1 = 22 ∧ (∀ M14, M14 = x_sr M9 o 1 (some n8) → 1 ≤ ((rc - 1) - 1) ∧ 3600 ≤ ((rs - 3600) - 3600) ∧ (∀ n15, n15 = g_b G + x_n M14 → ∀ M16, M16 = x_new M14 n15 2 3600 → (x_h M16 o).1 = 22 ∧ (∀ M21, M21 = x_sr M16 o 2 (some n15) → 1 ≤ (((rc - 1) - 1) - 1) ∧ 106 ≤ (((rs - 3600) - 3600) - 3600) ∧ (∀ n22, n22 = g_b G + x_n M21 → ∀ M23, M23 = x_new M21 n22 2 106 → (x_h M23 o).1 = 22 ∧ (∀ M28, M28 = x_sr M23 o 3 (some n22) → 1 ≤ ((((rc - 1) - 1) - 1) - 1) ∧ 64 ≤ ((((rs - 3600) - 3600) - 3600) - 106) ∧ (∀ n29, n29 = g_b G + x_n M28 → ∀ M30, M30 = x_new M28 n29 1 64 → (x_h M30 o).1 = 22 ∧ (∀ M35, M35 = x_sr M30 o 4 (some n29) → 1 ≤ (((((rc - 1) - 1) - 1) - 1) - 1) ∧ 65 ≤ (((((rs - 3600) - 3600) - 3600) - 106) - 64) ∧ (∀ n36, n36 = g_b G + x_n M35 → ∀ M37, M37 = x_new M35 n36 1 65 → (x_h M37 o).1 = 22 ∧ (∀ M42, M42 = x_sr M37 o 5 (some n36) → 1 ≤ ((((((rc - 1) - 1) - 1) - 1) - 1) - 1) ∧ 40 ≤ ((((((rs - 3600) - 3600) - 3600) - 106) - 64) - 65) ∧ (∀ n43, n43 = g_b G + x_n M42 → ∀ M44, M44 = x_new M42 n43 2 40 → (x_h M44 o).1 = 22 ∧ (∀ M49, M49 = x_sr M44 o 6 (some n43) → 1 ≤ (((((((rc - 1) - 1) - 1) - 1) - 1) - 1) - 1) ∧ 40 ≤ (((((((rs - 3600) - 3600) - 3600) - 106) - 64) - 65) - 40) ∧ (∀ n50, n50 = g_b G + x_n M49 → ∀ M51, M51 = x_new M49 n50 2 40 → (x_h M51 o).1 = 22 ∧ (∀ M56, M56 = x_sr M51 o 7 (some n50) → 1 ≤ ((((((((rc - 1) - 1) - 1) - 1) - 1) - 1) - 1) - 1) ∧ 40 ≤ ((((((((rs - 3600) - 3600) - 3600) - 106) - 64) - 65) - 40) - 40) ∧ (∀ n57, n57 = g_b G + x_n M56 → ∀ M58, M58 = x_new M56 n57 2 40 → (x_h M58 o).1 = 22 ∧ (∀ M63, M63 = x_sr M58 o 8 (some n57) → Q none M63))))))))))))))))))) : Call G (d + 1) rc rs mX6_init [.ref o] M Q := by
  refine call_of (by decide) (Nat.le_of_ble_eq_true rfl) ?_
  show Wk G (d + 1) rc rs mX6_init 0 [some (.ref o)] [] M Q
  refine r_aload_n (pc := 0) (i := 0) dX6_init_0 rfl rfl ?_
  refine r_objInit (pc := 1) (st := []) ww_300 ww_28 ww_29 dX6_init_1 (Nat.le_of_ble_eq_true rfl) ?_
  refine r_aload_n (pc := 4) (i := 0) dX6_init_4 rfl rfl ?_
  refine r_sipush (pc := 5) (v := 3600) dX6_init_5 (by decide) ?_
  obtain ⟨y4, y5, h⟩ := h
  refine r_newIV (pc := 8) (n := 3600) dX6_init_8 (by decide) (by decide) (by decide) y4 y5 (fun n1 M2 enn1 eMn1 e3 => ?_)
  replace h := h n1 enn1 M2 eMn1
  obtain ⟨k6, h⟩ := h
  refine r_putr (pc := 10) (r := some _) flX6_11 dX6_init_10 rfl (fun q hq => by cases hq; exact Or.inr ⟨rfl, rfl, rfl⟩) (fun q hq _ => by cases hq; exact ww_301) k6 ?_
  replace h := h _ rfl
  refine r_aload_n (pc := 13) (i := 0) dX6_init_13 rfl rfl ?_
  refine r_sipush (pc := 14) (v := 3600) dX6_init_14 (by decide) ?_
  obtain ⟨y11, y12, h⟩ := h
  refine r_newIV (pc := 17) (n := 3600) dX6_init_17 (by decide) (by decide) (by decide) y11 y12 (fun n8 M9 enn8 eMn8 e10 => ?_)
  replace h := h n8 enn8 M9 eMn8
  obtain ⟨k13, h⟩ := h
  refine r_putr (pc := 19) (r := some _) flX6_15 dX6_init_19 rfl (fun q hq => by cases hq; exact Or.inr ⟨rfl, rfl, rfl⟩) (fun q hq _ => by cases hq; exact ww_302) k13 ?_
  replace h := h _ rfl
  refine r_aload_n (pc := 22) (i := 0) dX6_init_22 rfl rfl ?_
  refine r_sipush (pc := 23) (v := 3600) dX6_init_23 (by decide) ?_
  obtain ⟨y18, y19, h⟩ := h
  refine r_newJV (pc := 26) (n := 3600) dX6_init_26 (by decide) (by decide) (by decide) y18 y19 (fun n15 M16 enn15 eMn15 e17 => ?_)
  replace h := h n15 enn15 M16 eMn15
  obtain ⟨k20, h⟩ := h
  refine r_putr (pc := 28) (r := some _) flX6_18 dX6_init_28 rfl (fun q hq => by cases hq; exact Or.inr ⟨rfl, rfl, rfl⟩) (fun q hq _ => by cases hq; exact ww_303) k20 ?_
  replace h := h _ rfl
  refine r_aload_n (pc := 31) (i := 0) dX6_init_31 rfl rfl ?_
  refine r_bipush (pc := 32) (v := 106) dX6_init_32 (by decide) ?_
  obtain ⟨y25, y26, h⟩ := h
  refine r_newJV (pc := 34) (n := 106) dX6_init_34 (by decide) (by decide) (by decide) y25 y26 (fun n22 M23 enn22 eMn22 e24 => ?_)
  replace h := h n22 enn22 M23 eMn22
  obtain ⟨k27, h⟩ := h
  refine r_putr (pc := 36) (r := some _) flX6_22 dX6_init_36 rfl (fun q hq => by cases hq; exact Or.inr ⟨rfl, rfl, rfl⟩) (fun q hq _ => by cases hq; exact ww_304) k27 ?_
  replace h := h _ rfl
  refine r_aload_n (pc := 39) (i := 0) dX6_init_39 rfl rfl ?_
  refine r_bipush (pc := 40) (v := 64) dX6_init_40 (by decide) ?_
  obtain ⟨y32, y33, h⟩ := h
  refine r_newIV (pc := 42) (n := 64) dX6_init_42 (by decide) (by decide) (by decide) y32 y33 (fun n29 M30 enn29 eMn29 e31 => ?_)
  replace h := h n29 enn29 M30 eMn29
  obtain ⟨k34, h⟩ := h
  refine r_putr (pc := 44) (r := some _) flX6_25 dX6_init_44 rfl (fun q hq => by cases hq; exact Or.inr ⟨rfl, rfl, rfl⟩) (fun q hq _ => by cases hq; exact ww_305) k34 ?_
  replace h := h _ rfl
  refine r_aload_n (pc := 47) (i := 0) dX6_init_47 rfl rfl ?_
  refine r_bipush (pc := 48) (v := 65) dX6_init_48 (by decide) ?_
  obtain ⟨y39, y40, h⟩ := h
  refine r_newIV (pc := 50) (n := 65) dX6_init_50 (by decide) (by decide) (by decide) y39 y40 (fun n36 M37 enn36 eMn36 e38 => ?_)
  replace h := h n36 enn36 M37 eMn36
  obtain ⟨k41, h⟩ := h
  refine r_putr (pc := 52) (r := some _) flX6_28 dX6_init_52 rfl (fun q hq => by cases hq; exact Or.inr ⟨rfl, rfl, rfl⟩) (fun q hq _ => by cases hq; exact ww_306) k41 ?_
  replace h := h _ rfl
  refine r_aload_n (pc := 55) (i := 0) dX6_init_55 rfl rfl ?_
  refine r_bipush (pc := 56) (v := 40) dX6_init_56 (by decide) ?_
  obtain ⟨y46, y47, h⟩ := h
  refine r_newJV (pc := 58) (n := 40) dX6_init_58 (by decide) (by decide) (by decide) y46 y47 (fun n43 M44 enn43 eMn43 e45 => ?_)
  replace h := h n43 enn43 M44 eMn43
  obtain ⟨k48, h⟩ := h
  refine r_putr (pc := 60) (r := some _) flX6_31 dX6_init_60 rfl (fun q hq => by cases hq; exact Or.inr ⟨rfl, rfl, rfl⟩) (fun q hq _ => by cases hq; exact ww_307) k48 ?_
  replace h := h _ rfl
  refine r_aload_n (pc := 63) (i := 0) dX6_init_63 rfl rfl ?_
  refine r_bipush (pc := 64) (v := 40) dX6_init_64 (by decide) ?_
  obtain ⟨y53, y54, h⟩ := h
  refine r_newJV (pc := 66) (n := 40) dX6_init_66 (by decide) (by decide) (by decide) y53 y54 (fun n50 M51 enn50 eMn50 e52 => ?_)
  replace h := h n50 enn50 M51 eMn50
  obtain ⟨k55, h⟩ := h
  refine r_putr (pc := 68) (r := some _) flX6_34 dX6_init_68 rfl (fun q hq => by cases hq; exact Or.inr ⟨rfl, rfl, rfl⟩) (fun q hq _ => by cases hq; exact ww_308) k55 ?_
  replace h := h _ rfl
  refine r_aload_n (pc := 71) (i := 0) dX6_init_71 rfl rfl ?_
  refine r_bipush (pc := 72) (v := 40) dX6_init_72 (by decide) ?_
  obtain ⟨y60, y61, h⟩ := h
  refine r_newJV (pc := 74) (n := 40) dX6_init_74 (by decide) (by decide) (by decide) y60 y61 (fun n57 M58 enn57 eMn57 e59 => ?_)
  replace h := h n57 enn57 M58 eMn57
  obtain ⟨k62, h⟩ := h
  refine r_putr (pc := 76) (r := some _) flX6_37 dX6_init_76 rfl (fun q hq => by cases hq; exact Or.inr ⟨rfl, rfl, rfl⟩) (fun q hq _ => by cases hq; exact ww_309) k62 ?_
  replace h := h _ rfl
  exact r_vret (pc := 79) dX6_init_79 rfl h
abbrev LX6_leastUnlike_41 (G : GG) (d rc rs : Nat) (p0 : Nat) (p1 : Nat) (p2 : Nat) (x3 : Int32) (x4 : Int32) (x5 : Int32) (x6 : Int32) (z7 : Option Value) (z8 : Option Value) (z9 : Option Value) (z10 : Option Value) (M : Mem) (Q : Option Value → Mem → Prop) : Prop := Wk G (d + 1) rc rs mX6_leastUnlike 41 [some (.ref p0), some (.ref p1), some (.ref p2), some (.int x3), some (.int x4), some (.int x5), some (.int x6), z7, z8, z9, z10] [] M Q
abbrev LX6_leastUnlike_131 (G : GG) (d rc rs : Nat) (p0 : Nat) (p1 : Nat) (p2 : Nat) (x3 : Int32) (x4 : Int32) (x5 : Int32) (x6 : Int32) (x7 : Int32) (x8 : Int32) (x9 : Int32) (z10 : Option Value) (M : Mem) (Q : Option Value → Mem → Prop) : Prop := Wk G (d + 1) rc rs mX6_leastUnlike 131 [some (.ref p0), some (.ref p1), some (.ref p2), some (.int x3), some (.int x4), some (.int x5), some (.int x6), some (.int x7), some (.int x8), some (.int x9), z10] [] M Q
theorem eX6_leastUnlike {G : GG} {d rc rs : Nat} (o : Nat) (a1 : Nat) (a2 : Nat) (a3 : Int32)  {M : Mem} {Q : Option Value → Mem → Prop} (h : (x_h M a2).1 = 17 ∧ (x_h M o).1 = 22 ∧ (∃ b3, x_r M o 1 = some b3 ∧ Call G d 0 0 mJ7_fill_53178 [.ref b3, .int 0] M (fun r4 M5 => r4 = none ∧ (x_h M5 o).1 = 22 ∧ (∃ b7, x_r M5 o 0 = some b7 ∧ (x_h M5 b7).1 = 1 ∧ vp_in 0 (x_h M5 b7).2 ∧ (∀ M10, M10 = x_si M5 b7 (0 : Int32).toNatClampNeg 0 → ∃ b11, x_r M10 o 2 = some b11 ∧ (x_h M5 b11).1 = 2 ∧ vp_in 0 (x_h M5 b11).2 ∧ (∀ M14, M14 = x_sl M10 b11 (0 : Int32).toNatClampNeg 0 → ∃ b15, x_r M14 o 1 = some b15 ∧ (x_h M5 b15).1 = 1 ∧ vp_in 0 (x_h M5 b15).2 ∧ (∀ M18, M18 = x_si M14 b15 (0 : Int32).toNatClampNeg 1 → LX6_leastUnlike_41 G d rc rs o a1 a2 a3 (x_i M a2 2) 1 0 none none none none M18 Q))))))) : Call G (d + 1) rc rs mX6_leastUnlike [.ref o, .ref a1, .ref a2, .int a3] M Q := by
  refine call_of (by decide) (Nat.le_of_ble_eq_true rfl) ?_
  show Wk G (d + 1) rc rs mX6_leastUnlike 0 [some (.ref o), some (.ref a1), some (.ref a2), some (.int a3), none, none, none, none, none, none, none] [] M Q
  refine r_aload_n (pc := 0) (i := 2) dX6_leastUnlike_0 rfl rfl ?_
  obtain ⟨k1, h⟩ := h
  refine r_geti (pc := 1) flX6_40 dX6_leastUnlike_1 (Or.inl rfl) k1 ?_
  refine r_istore (pc := 4) (i := 4) dX6_leastUnlike_4 rfl (Nat.le_of_ble_eq_true rfl) ?_
  refine r_aload_n (pc := 6) (i := 0) dX6_leastUnlike_6 rfl rfl ?_
  obtain ⟨k2, h⟩ := h
  obtain ⟨b3, hb3, h⟩ := h
  refine r_getr (pc := 7) flX6_15 dX6_leastUnlike_7 rfl k2 hb3 ?_
  refine r_iconst (pc := 10) (v := 0) dX6_leastUnlike_10 (by decide) ?_
  refine r_callS (pc := 11) (as := [_, _]) (st := []) okJ7_fill_53178 lkX6_46 stJ7_fill_53178 dX6_leastUnlike_11 rfl (Nat.le_of_ble_eq_true rfl) (Nat.zero_le _) (Nat.zero_le _) (Call.mono h (fun r4 M5 h => ?_))
  obtain ⟨rfl, h⟩ := h
  refine r_aload_n (pc := 14) (i := 0) dX6_leastUnlike_14 rfl rfl ?_
  obtain ⟨k6, h⟩ := h
  obtain ⟨b7, hb7, h⟩ := h
  refine r_getr (pc := 15) flX6_11 dX6_leastUnlike_15 rfl k6 hb7 ?_
  refine r_iconst (pc := 18) (v := 0) dX6_leastUnlike_18 (by decide) ?_
  refine r_iconst (pc := 19) (v := 0) dX6_leastUnlike_19 (by decide) ?_
  obtain ⟨k8, h⟩ := h
  obtain ⟨i9, h⟩ := h
  refine r_iast (pc := 20) dX6_leastUnlike_20 k8 i9 ?_
  replace h := h _ rfl
  refine r_aload_n (pc := 21) (i := 0) dX6_leastUnlike_21 rfl rfl ?_
  obtain ⟨b11, hb11, h⟩ := h
  refine r_getr (pc := 22) flX6_18 dX6_leastUnlike_22 rfl k6 hb11 ?_
  refine r_iconst (pc := 25) (v := 0) dX6_leastUnlike_25 (by decide) ?_
  refine r_lconst (pc := 26) (v := 0) dX6_leastUnlike_26 (by decide) ?_
  obtain ⟨k12, h⟩ := h
  obtain ⟨i13, h⟩ := h
  refine r_last (pc := 27) dX6_leastUnlike_27 k12 i13 ?_
  replace h := h _ rfl
  refine r_aload_n (pc := 28) (i := 0) dX6_leastUnlike_28 rfl rfl ?_
  obtain ⟨b15, hb15, h⟩ := h
  refine r_getr (pc := 29) flX6_15 dX6_leastUnlike_29 rfl k6 hb15 ?_
  refine r_iconst (pc := 32) (v := 0) dX6_leastUnlike_32 (by decide) ?_
  refine r_iconst (pc := 33) (v := 1) dX6_leastUnlike_33 (by decide) ?_
  obtain ⟨k16, h⟩ := h
  obtain ⟨i17, h⟩ := h
  refine r_iast (pc := 34) dX6_leastUnlike_34 k16 i17 ?_
  replace h := h _ rfl
  refine r_iconst (pc := 35) (v := 1) dX6_leastUnlike_35 (by decide) ?_
  refine r_istore (pc := 36) (i := 5) dX6_leastUnlike_36 rfl (Nat.le_of_ble_eq_true rfl) ?_
  refine r_iconst (pc := 38) (v := 0) dX6_leastUnlike_38 (by decide) ?_
  refine r_istore (pc := 39) (i := 6) dX6_leastUnlike_39 rfl (Nat.le_of_ble_eq_true rfl) ?_
  exact h
theorem vX6_leastUnlike_41 {G : GG} {d rc rs : Nat} (p0 : Nat) (p1 : Nat) (p2 : Nat) (x3 : Int32) (x4 : Int32) (x5 : Int32) (x6 : Int32) (z7 : Option Value) (z8 : Option Value) (z9 : Option Value) (z10 : Option Value) (hz7 : c1 z7 = true) (hz8 : c1 z8 = true) (hz9 : c1 z9 = true) (hz10 : c1 z10 = true) {M : Mem} {Q : Option Value → Mem → Prop} (h : (x5 ≤ x6 → Q (some (.long (-1))) M) ∧ (¬ x5 ≤ x6 → (3600 ≤ x6 → Q (some (.long (-1))) M) ∧ (¬ 3600 ≤ x6 → (x4 ≤ 0 → Q (some (.long (-1))) M) ∧ (¬ x4 ≤ 0 → (x_h M p0).1 = 22 ∧ (∃ b5, x_r M p0 0 = some b5 ∧ (x_h M b5).1 = 1 ∧ vp_in x6 (x_h M b5).2 ∧ ¬ x4 = 0 ∧ ¬ x4 = 0 ∧ (x_h M p1).1 = 17 ∧ Call G d 0 0 mX1_mark [.ref p1, .int ((x_i M b5 x6.toNatClampNeg) / x4)] M (fun r11 M12 => ∃ v13 : Int32, r11 = some (.int v13) ∧ (x_h M12 p2).1 = 17 ∧ Call G d 0 0 mX1_mark [.ref p2, .int ((x_i M b5 x6.toNatClampNeg) - (x_i M b5 x6.toNatClampNeg) / x4 * x4)] M12 (fun r15 M16 => ∃ v17 : Int32, r15 = some (.int v17) ∧ (v13 = v17 → LX6_leastUnlike_131 G d rc rs p0 p1 p2 x3 x4 x5 x6 ((x_i M b5 x6.toNatClampNeg) / x4) ((x_i M b5 x6.toNatClampNeg) - (x_i M b5 x6.toNatClampNeg) / x4 * x4) 0 z10 M16 Q) ∧ (¬ v13 = v17 → (x_h M16 p0).1 = 22 ∧ (∃ b20, x_r M16 p0 2 = some b20 ∧ (x_h M16 b20).1 = 2 ∧ vp_in x6 (x_h M16 b20).2 ∧ ((lg_cmp (x_l M16 b20 x6.toNatClampNeg) 4611686018427387904) ≤ 0 → Q (some (.long (x_l M16 b20 x6.toNatClampNeg))) M16) ∧ (¬ (lg_cmp (x_l M16 b20 x6.toNatClampNeg) 4611686018427387904) ≤ 0 → Q (some (.long (-3))) M16)))))))))) : LX6_leastUnlike_41 G d rc rs p0 p1 p2 x3 x4 x5 x6 z7 z8 z9 z10 M Q := by
  show Wk G (d + 1) rc rs mX6_leastUnlike 41 _ _ M Q
  refine r_iload (pc := 41) (i := 6) dX6_leastUnlike_41 rfl ?_
  refine r_iload (pc := 43) (i := 5) dX6_leastUnlike_43 rfl ?_
  refine r_icmp_ge (pc := 45) (tgt := 232) dX6_leastUnlike_45 (by decide) (fun c1 => ?_) (fun c1 => ?_)
  · replace h := h.1 c1
    refine r_ldc2 (pc := 232) (v := (-1)) dX6_leastUnlike_232 ww_1025 ?_
    exact r_lret (pc := 235) dX6_leastUnlike_235 rfl h
  · replace h := h.2 c1
    refine r_iload (pc := 48) (i := 6) dX6_leastUnlike_48 rfl ?_
    refine r_sipush (pc := 50) (v := 3600) dX6_leastUnlike_50 (by decide) ?_
    refine r_icmp_ge (pc := 53) (tgt := 232) dX6_leastUnlike_53 (by decide) (fun c2 => ?_) (fun c2 => ?_)
    · replace h := h.1 c2
      refine r_ldc2 (pc := 232) (v := (-1)) dX6_leastUnlike_232 ww_1025 ?_
      exact r_lret (pc := 235) dX6_leastUnlike_235 rfl h
    · replace h := h.2 c2
      refine r_iload (pc := 56) (i := 4) dX6_leastUnlike_56 rfl ?_
      refine r_if_le (pc := 58) (tgt := 232) dX6_leastUnlike_58 (by decide) (fun c3 => ?_) (fun c3 => ?_)
      · replace h := h.1 c3
        refine r_ldc2 (pc := 232) (v := (-1)) dX6_leastUnlike_232 ww_1025 ?_
        exact r_lret (pc := 235) dX6_leastUnlike_235 rfl h
      · replace h := h.2 c3
        refine r_aload_n (pc := 61) (i := 0) dX6_leastUnlike_61 rfl rfl ?_
        obtain ⟨k4, h⟩ := h
        obtain ⟨b5, hb5, h⟩ := h
        refine r_getr (pc := 62) flX6_11 dX6_leastUnlike_62 rfl k4 hb5 ?_
        refine r_iload (pc := 65) (i := 6) dX6_leastUnlike_65 rfl ?_
        obtain ⟨k6, h⟩ := h
        obtain ⟨i7, h⟩ := h
        refine r_iald (pc := 67) dX6_leastUnlike_67 k6 i7 ?_
        refine r_iload (pc := 68) (i := 4) dX6_leastUnlike_68 rfl ?_
        obtain ⟨n8, h⟩ := h
        refine r_idiv (pc := 70) dX6_leastUnlike_70 n8 ?_
        refine r_istore (pc := 71) (i := 7) dX6_leastUnlike_71 rfl (Nat.le_of_ble_eq_true rfl) ?_
        refine r_aload_n (pc := 73) (i := 0) dX6_leastUnlike_73 rfl rfl ?_
        refine r_getr (pc := 74) flX6_11 dX6_leastUnlike_74 rfl k4 hb5 ?_
        refine r_iload (pc := 77) (i := 6) dX6_leastUnlike_77 rfl ?_
        refine r_iald (pc := 79) dX6_leastUnlike_79 k6 i7 ?_
        refine r_iload (pc := 80) (i := 4) dX6_leastUnlike_80 rfl ?_
        obtain ⟨n9, h⟩ := h
        refine r_irem (pc := 82) dX6_leastUnlike_82 n9 ?_
        refine r_istore (pc := 83) (i := 8) dX6_leastUnlike_83 rfl (Nat.le_of_ble_eq_true rfl) ?_
        refine r_aload_n (pc := 85) (i := 1) dX6_leastUnlike_85 rfl rfl ?_
        refine r_iload (pc := 86) (i := 7) dX6_leastUnlike_86 rfl ?_
        obtain ⟨k10, h⟩ := h
        refine r_callV (pc := 88) (ci := 1) (as := [_]) (st := []) okX1_mark lkX6_52 inX1_mark seX1_mark ⟨_, rfl, rfl⟩ dX6_leastUnlike_88 rfl k10 (Nat.le_of_ble_eq_true rfl) (Nat.zero_le _) (Nat.zero_le _) (Call.mono h (fun r11 M12 h => ?_))
        obtain ⟨v13, rfl, h⟩ := h
        refine r_aload_n (pc := 91) (i := 2) dX6_leastUnlike_91 rfl rfl ?_
        refine r_iload (pc := 92) (i := 8) dX6_leastUnlike_92 rfl ?_
        obtain ⟨k14, h⟩ := h
        refine r_callV (pc := 94) (ci := 1) (as := [_]) (st := [_]) okX1_mark lkX6_52 inX1_mark seX1_mark ⟨_, rfl, rfl⟩ dX6_leastUnlike_94 rfl k14 (Nat.le_of_ble_eq_true rfl) (Nat.zero_le _) (Nat.zero_le _) (Call.mono h (fun r15 M16 h => ?_))
        obtain ⟨v17, rfl, h⟩ := h
        refine r_icmp_eq (pc := 97) (tgt := 128) dX6_leastUnlike_97 (by decide) (fun c18 => ?_) (fun c18 => ?_)
        · replace h := h.1 c18
          refine r_iconst (pc := 128) (v := 0) dX6_leastUnlike_128 (by decide) ?_
          refine r_istore (pc := 129) (i := 9) dX6_leastUnlike_129 rfl (Nat.le_of_ble_eq_true rfl) ?_
          exact h
        · replace h := h.2 c18
          refine r_aload_n (pc := 100) (i := 0) dX6_leastUnlike_100 rfl rfl ?_
          obtain ⟨k19, h⟩ := h
          obtain ⟨b20, hb20, h⟩ := h
          refine r_getr (pc := 101) flX6_18 dX6_leastUnlike_101 rfl k19 hb20 ?_
          refine r_iload (pc := 104) (i := 6) dX6_leastUnlike_104 rfl ?_
          obtain ⟨k21, h⟩ := h
          obtain ⟨i22, h⟩ := h
          refine r_lald (pc := 106) dX6_leastUnlike_106 k21 i22 ?_
          refine r_ldc2 (pc := 107) (v := 4611686018427387904) dX6_leastUnlike_107 ww_1017 ?_
          refine r_lcmp (pc := 110) dX6_leastUnlike_110 ?_
          refine r_if_le (pc := 111) (tgt := 120) dX6_leastUnlike_111 (by decide) (fun c23 => ?_) (fun c23 => ?_)
          · replace h := h.1 c23
            refine r_aload_n (pc := 120) (i := 0) dX6_leastUnlike_120 rfl rfl ?_
            refine r_getr (pc := 121) flX6_18 dX6_leastUnlike_121 rfl k19 hb20 ?_
            refine r_iload (pc := 124) (i := 6) dX6_leastUnlike_124 rfl ?_
            refine r_lald (pc := 126) dX6_leastUnlike_126 k21 i22 ?_
            exact r_lret (pc := 127) dX6_leastUnlike_127 rfl h
          · replace h := h.2 c23
            refine r_ldc2 (pc := 114) (v := (-3)) dX6_leastUnlike_114 ww_1018 ?_
            refine r_goto (pc := 117) (tgt := 127) dX6_leastUnlike_117 (by decide) ?_
            exact r_lret (pc := 127) dX6_leastUnlike_127 rfl h
theorem vX6_leastUnlike_131 {G : GG} {d rc rs : Nat} (p0 : Nat) (p1 : Nat) (p2 : Nat) (x3 : Int32) (x4 : Int32) (x5 : Int32) (x6 : Int32) (x7 : Int32) (x8 : Int32) (x9 : Int32) (z10 : Option Value) (hz10 : c1 z10 = true) {M : Mem} {Q : Option Value → Mem → Prop} (h : (x3 ≤ x9 → LX6_leastUnlike_41 G d rc rs p0 p1 p2 x3 x4 x5 (x6 + 1) (some (.int x7)) (some (.int x8)) (some (.int x9)) z10 M Q) ∧ (¬ x3 ≤ x9 → (x_h M p1).1 = 17 ∧ Call G d 0 0 mX1_after [.ref p1, .int x7, .int x9] M (fun r3 M4 => ∃ v5 : Int32, r3 = some (.int v5) ∧ (x_h M4 p2).1 = 17 ∧ Call G d 0 0 mX1_after [.ref p2, .int x8, .int x9] M4 (fun r7 M8 => ∃ v9 : Int32, r7 = some (.int v9) ∧ Call G d 0 0 mX11_within [.int ((v5 * x4) + v9), .int 3600] M8 (fun r10 M11 => ∃ v12 : Int32, r10 = some (.int v12) ∧ (v12 = 0 → LX6_leastUnlike_131 G d rc rs p0 p1 p2 x3 x4 x5 x6 x7 x8 (x9 + 1) (some (.int ((v5 * x4) + v9))) M11 Q) ∧ (¬ v12 = 0 → (x_h M11 p0).1 = 22 ∧ (∃ b15, x_r M11 p0 1 = some b15 ∧ (x_h M11 b15).1 = 1 ∧ vp_in ((v5 * x4) + v9) (x_h M11 b15).2 ∧ (¬ (x_i M11 b15 ((v5 * x4) + v9).toNatClampNeg) = 0 → LX6_leastUnlike_131 G d rc rs p0 p1 p2 x3 x4 x5 x6 x7 x8 (x9 + 1) (some (.int ((v5 * x4) + v9))) M11 Q) ∧ ((x_i M11 b15 ((v5 * x4) + v9).toNatClampNeg) = 0 → ∀ M19, M19 = x_si M11 b15 ((v5 * x4) + v9).toNatClampNeg 1 → ∃ b20, x_r M19 p0 0 = some b20 ∧ (x_h M11 b20).1 = 1 ∧ vp_in x5 (x_h M11 b20).2 ∧ (∀ M23, M23 = x_si M19 b20 x5.toNatClampNeg ((v5 * x4) + v9) → ∃ b24, x_r M23 p0 2 = some b24 ∧ (x_h M11 b24).1 = 2 ∧ vp_in x6 (x_h M11 b24).2 ∧ Call G d 0 0 mX6_longer [.long (x_l M23 b24 x6.toNatClampNeg), .int x9, .int x3] M23 (fun r27 M28 => ∃ v29 : Int64, r27 = some (.long v29) ∧ (x_h M28 b24).1 = 2 ∧ vp_in x5 (x_h M28 b24).2 ∧ (∀ M32, M32 = x_sl M28 b24 x5.toNatClampNeg v29 → LX6_leastUnlike_131 G d rc rs p0 p1 p2 x3 x4 (x5 + 1) x6 x7 x8 (x9 + 1) (some (.int ((v5 * x4) + v9))) M32 Q))))))))))) : LX6_leastUnlike_131 G d rc rs p0 p1 p2 x3 x4 x5 x6 x7 x8 x9 z10 M Q := by
  show Wk G (d + 1) rc rs mX6_leastUnlike 131 _ _ M Q
  refine r_iload (pc := 131) (i := 9) dX6_leastUnlike_131 rfl ?_
  refine r_iload_n (pc := 133) (i := 3) dX6_leastUnlike_133 rfl rfl ?_
  refine r_icmp_ge (pc := 134) (tgt := 226) dX6_leastUnlike_134 (by decide) (fun c1 => ?_) (fun c1 => ?_)
  · replace h := h.1 c1
    refine r_iinc (pc := 226) (i := 6) (v := _ + 1) dX6_leastUnlike_226 rfl rfl rfl ?_
    refine r_goto (pc := 229) (tgt := 41) dX6_leastUnlike_229 (by decide) ?_
    exact h
  · replace h := h.2 c1
    refine r_aload_n (pc := 137) (i := 1) dX6_leastUnlike_137 rfl rfl ?_
    refine r_iload (pc := 138) (i := 7) dX6_leastUnlike_138 rfl ?_
    refine r_iload (pc := 140) (i := 9) dX6_leastUnlike_140 rfl ?_
    obtain ⟨k2, h⟩ := h
    refine r_callV (pc := 142) (ci := 1) (as := [_, _]) (st := []) okX1_after lkX6_60 inX1_after seX1_after ⟨_, rfl, rfl⟩ dX6_leastUnlike_142 rfl k2 (Nat.le_of_ble_eq_true rfl) (Nat.zero_le _) (Nat.zero_le _) (Call.mono h (fun r3 M4 h => ?_))
    obtain ⟨v5, rfl, h⟩ := h
    refine r_iload (pc := 145) (i := 4) dX6_leastUnlike_145 rfl ?_
    refine r_imul (pc := 147) dX6_leastUnlike_147 ?_
    refine r_aload_n (pc := 148) (i := 2) dX6_leastUnlike_148 rfl rfl ?_
    refine r_iload (pc := 149) (i := 8) dX6_leastUnlike_149 rfl ?_
    refine r_iload (pc := 151) (i := 9) dX6_leastUnlike_151 rfl ?_
    obtain ⟨k6, h⟩ := h
    refine r_callV (pc := 153) (ci := 1) (as := [_, _]) (st := [_]) okX1_after lkX6_60 inX1_after seX1_after ⟨_, rfl, rfl⟩ dX6_leastUnlike_153 rfl k6 (Nat.le_of_ble_eq_true rfl) (Nat.zero_le _) (Nat.zero_le _) (Call.mono h (fun r7 M8 h => ?_))
    obtain ⟨v9, rfl, h⟩ := h
    refine r_iadd (pc := 156) dX6_leastUnlike_156 ?_
    refine r_istore (pc := 157) (i := 10) dX6_leastUnlike_157 rfl (Nat.le_of_ble_eq_true rfl) ?_
    refine r_iload (pc := 159) (i := 10) dX6_leastUnlike_159 rfl ?_
    refine r_sipush (pc := 161) (v := 3600) dX6_leastUnlike_161 (by decide) ?_
    refine r_callS (pc := 164) (as := [_, _]) (st := []) okX11_within lkX6_64 stX11_within dX6_leastUnlike_164 rfl (Nat.le_of_ble_eq_true rfl) (Nat.zero_le _) (Nat.zero_le _) (Call.mono h (fun r10 M11 h => ?_))
    obtain ⟨v12, rfl, h⟩ := h
    refine r_if_eq (pc := 167) (tgt := 220) dX6_leastUnlike_167 (by decide) (fun c13 => ?_) (fun c13 => ?_)
    · replace h := h.1 c13
      refine r_iinc (pc := 220) (i := 9) (v := _ + 1) dX6_leastUnlike_220 rfl rfl rfl ?_
      refine r_goto (pc := 223) (tgt := 131) dX6_leastUnlike_223 (by decide) ?_
      exact h
    · replace h := h.2 c13
      refine r_aload_n (pc := 170) (i := 0) dX6_leastUnlike_170 rfl rfl ?_
      obtain ⟨k14, h⟩ := h
      obtain ⟨b15, hb15, h⟩ := h
      refine r_getr (pc := 171) flX6_15 dX6_leastUnlike_171 rfl k14 hb15 ?_
      refine r_iload (pc := 174) (i := 10) dX6_leastUnlike_174 rfl ?_
      obtain ⟨k16, h⟩ := h
      obtain ⟨i17, h⟩ := h
      refine r_iald (pc := 176) dX6_leastUnlike_176 k16 i17 ?_
      refine r_if_ne (pc := 177) (tgt := 220) dX6_leastUnlike_177 (by decide) (fun c18 => ?_) (fun c18 => ?_)
      · replace h := h.1 c18
        refine r_iinc (pc := 220) (i := 9) (v := _ + 1) dX6_leastUnlike_220 rfl rfl rfl ?_
        refine r_goto (pc := 223) (tgt := 131) dX6_leastUnlike_223 (by decide) ?_
        exact h
      · replace h := h.2 c18
        refine r_aload_n (pc := 180) (i := 0) dX6_leastUnlike_180 rfl rfl ?_
        refine r_getr (pc := 181) flX6_15 dX6_leastUnlike_181 rfl k14 hb15 ?_
        refine r_iload (pc := 184) (i := 10) dX6_leastUnlike_184 rfl ?_
        refine r_iconst (pc := 186) (v := 1) dX6_leastUnlike_186 (by decide) ?_
        refine r_iast (pc := 187) dX6_leastUnlike_187 k16 i17 ?_
        replace h := h _ rfl
        refine r_aload_n (pc := 188) (i := 0) dX6_leastUnlike_188 rfl rfl ?_
        obtain ⟨b20, hb20, h⟩ := h
        refine r_getr (pc := 189) flX6_11 dX6_leastUnlike_189 rfl k14 hb20 ?_
        refine r_iload (pc := 192) (i := 5) dX6_leastUnlike_192 rfl ?_
        refine r_iload (pc := 194) (i := 10) dX6_leastUnlike_194 rfl ?_
        obtain ⟨k21, h⟩ := h
        obtain ⟨i22, h⟩ := h
        refine r_iast (pc := 196) dX6_leastUnlike_196 k21 i22 ?_
        replace h := h _ rfl
        refine r_aload_n (pc := 197) (i := 0) dX6_leastUnlike_197 rfl rfl ?_
        obtain ⟨b24, hb24, h⟩ := h
        refine r_getr (pc := 198) flX6_18 dX6_leastUnlike_198 rfl k14 hb24 ?_
        refine r_iload (pc := 201) (i := 5) dX6_leastUnlike_201 rfl ?_
        refine r_aload_n (pc := 203) (i := 0) dX6_leastUnlike_203 rfl rfl ?_
        refine r_getr (pc := 204) flX6_18 dX6_leastUnlike_204 rfl k14 hb24 ?_
        refine r_iload (pc := 207) (i := 6) dX6_leastUnlike_207 rfl ?_
        obtain ⟨k25, h⟩ := h
        obtain ⟨i26, h⟩ := h
        refine r_lald (pc := 209) dX6_leastUnlike_209 k25 i26 ?_
        refine r_iload (pc := 210) (i := 9) dX6_leastUnlike_210 rfl ?_
        refine r_iload_n (pc := 212) (i := 3) dX6_leastUnlike_212 rfl rfl ?_
        refine r_callS (pc := 213) (as := [_, _, _]) (st := [_, _]) okX6_longer lkX6_68 stX6_longer dX6_leastUnlike_213 rfl (Nat.le_of_ble_eq_true rfl) (Nat.zero_le _) (Nat.zero_le _) (Call.mono h (fun r27 M28 h => ?_))
        obtain ⟨v29, rfl, h⟩ := h
        obtain ⟨k30, h⟩ := h
        obtain ⟨i31, h⟩ := h
        refine r_last (pc := 216) dX6_leastUnlike_216 k30 i31 ?_
        replace h := h _ rfl
        refine r_iinc (pc := 217) (i := 5) (v := _ + 1) dX6_leastUnlike_217 rfl rfl rfl ?_
        refine r_iinc (pc := 220) (i := 9) (v := _ + 1) dX6_leastUnlike_220 rfl rfl rfl ?_
        refine r_goto (pc := 223) (tgt := 131) dX6_leastUnlike_223 (by decide) ?_
        exact h
theorem eX6_longer {G : GG} {d rc rs : Nat} (a1 : Int64) (a2 : Int32) (a3 : Int32)  {M : Mem} {Q : Option Value → Mem → Prop} (h : (a3 < 1 → Q (some (.long 4611686018427387905)) M) ∧ (¬ a3 < 1 → ¬ a3.toInt64 = 0 ∧ ((lg_cmp a1 ((4611686018427387904 - a2.toInt64) / a3.toInt64)) ≤ 0 → Q (some (.long ((a1 * a3.toInt64) + a2.toInt64))) M) ∧ (¬ (lg_cmp a1 ((4611686018427387904 - a2.toInt64) / a3.toInt64)) ≤ 0 → Q (some (.long 4611686018427387905)) M))) : Call G (d + 1) rc rs mX6_longer [.long a1, .int a2, .int a3] M Q := by
  refine call_of (by decide) (Nat.le_of_ble_eq_true rfl) ?_
  show Wk G (d + 1) rc rs mX6_longer 0 [some (.long a1), none, some (.int a2), some (.int a3)] [] M Q
  refine r_iload_n (pc := 0) (i := 3) dX6_longer_0 rfl rfl ?_
  refine r_iconst (pc := 1) (v := 1) dX6_longer_1 (by decide) ?_
  refine r_icmp_lt (pc := 2) (tgt := 19) dX6_longer_2 (by decide) (fun c1 => ?_) (fun c1 => ?_)
  · replace h := h.1 c1
    refine r_ldc2 (pc := 19) (v := 4611686018427387905) dX6_longer_19 ww_1024 ?_
    exact r_lret (pc := 22) dX6_longer_22 rfl h
  · replace h := h.2 c1
    refine r_lload_n (pc := 5) (i := 0) dX6_longer_5 rfl rfl ?_
    refine r_ldc2 (pc := 6) (v := 4611686018427387904) dX6_longer_6 ww_1017 ?_
    refine r_iload_n (pc := 9) (i := 2) dX6_longer_9 rfl rfl ?_
    refine r_i2l (pc := 10) dX6_longer_10 ?_
    refine r_lsub (pc := 11) dX6_longer_11 ?_
    refine r_iload_n (pc := 12) (i := 3) dX6_longer_12 rfl rfl ?_
    refine r_i2l (pc := 13) dX6_longer_13 ?_
    obtain ⟨n2, h⟩ := h
    refine r_ldiv (pc := 14) dX6_longer_14 n2 ?_
    refine r_lcmp (pc := 15) dX6_longer_15 ?_
    refine r_if_le (pc := 16) (tgt := 23) dX6_longer_16 (by decide) (fun c3 => ?_) (fun c3 => ?_)
    · replace h := h.1 c3
      refine r_lload_n (pc := 23) (i := 0) dX6_longer_23 rfl rfl ?_
      refine r_iload_n (pc := 24) (i := 3) dX6_longer_24 rfl rfl ?_
      refine r_i2l (pc := 25) dX6_longer_25 ?_
      refine r_lmul (pc := 26) dX6_longer_26 ?_
      refine r_iload_n (pc := 27) (i := 2) dX6_longer_27 rfl rfl ?_
      refine r_i2l (pc := 28) dX6_longer_28 ?_
      refine r_ladd (pc := 29) dX6_longer_29 ?_
      exact r_lret (pc := 30) dX6_longer_30 rfl h
    · replace h := h.2 c3
      refine r_ldc2 (pc := 19) (v := 4611686018427387905) dX6_longer_19 ww_1024 ?_
      exact r_lret (pc := 22) dX6_longer_22 rfl h
theorem eX6_sum {G : GG} {d rc rs : Nat} (a1 : Int64) (a2 : Int64)  {M : Mem} {Q : Option Value → Mem → Prop} (h : ((lg_cmp a1 (4611686018427387905 - a2)) ≤ 0 → Q (some (.long (a1 + a2))) M) ∧ (¬ (lg_cmp a1 (4611686018427387905 - a2)) ≤ 0 → Q (some (.long 4611686018427387905)) M)) : Call G (d + 1) rc rs mX6_sum [.long a1, .long a2] M Q := by
  refine call_of (by decide) (Nat.le_of_ble_eq_true rfl) ?_
  show Wk G (d + 1) rc rs mX6_sum 0 [some (.long a1), none, some (.long a2), none] [] M Q
  refine r_lload_n (pc := 0) (i := 0) dX6_sum_0 rfl rfl ?_
  refine r_ldc2 (pc := 1) (v := 4611686018427387905) dX6_sum_1 ww_1024 ?_
  refine r_lload_n (pc := 4) (i := 2) dX6_sum_4 rfl rfl ?_
  refine r_lsub (pc := 5) dX6_sum_5 ?_
  refine r_lcmp (pc := 6) dX6_sum_6 ?_
  refine r_if_le (pc := 7) (tgt := 16) dX6_sum_7 (by decide) (fun c1 => ?_) (fun c1 => ?_)
  · replace h := h.1 c1
    refine r_lload_n (pc := 16) (i := 0) dX6_sum_16 rfl rfl ?_
    refine r_lload_n (pc := 17) (i := 2) dX6_sum_17 rfl rfl ?_
    refine r_ladd (pc := 18) dX6_sum_18 ?_
    exact r_lret (pc := 19) dX6_sum_19 rfl h
  · replace h := h.2 c1
    refine r_ldc2 (pc := 10) (v := 4611686018427387905) dX6_sum_10 ww_1024 ?_
    refine r_goto (pc := 13) (tgt := 19) dX6_sum_13 (by decide) ?_
    exact r_lret (pc := 19) dX6_sum_19 rfl h
theorem eX6_times {G : GG} {d rc rs : Nat} (a1 : Int64) (a2 : Int64)  {M : Mem} {Q : Option Value → Mem → Prop} (h : ((lg_cmp a1 0) = 0 → Q (some (.long 0)) M) ∧ (¬ (lg_cmp a1 0) = 0 → (¬ (lg_cmp a2 0) = 0 → ¬ a2 = 0 ∧ ((lg_cmp a1 (4611686018427387905 / a2)) ≤ 0 → Q (some (.long (a1 * a2))) M) ∧ (¬ (lg_cmp a1 (4611686018427387905 / a2)) ≤ 0 → Q (some (.long 4611686018427387905)) M)) ∧ ((lg_cmp a2 0) = 0 → Q (some (.long 0)) M))) : Call G (d + 1) rc rs mX6_times [.long a1, .long a2] M Q := by
  refine call_of (by decide) (Nat.le_of_ble_eq_true rfl) ?_
  show Wk G (d + 1) rc rs mX6_times 0 [some (.long a1), none, some (.long a2), none] [] M Q
  refine r_lload_n (pc := 0) (i := 0) dX6_times_0 rfl rfl ?_
  refine r_lconst (pc := 1) (v := 0) dX6_times_1 (by decide) ?_
  refine r_lcmp (pc := 2) dX6_times_2 ?_
  refine r_if_eq (pc := 3) (tgt := 12) dX6_times_3 (by decide) (fun c1 => ?_) (fun c1 => ?_)
  · replace h := h.1 c1
    refine r_lconst (pc := 12) (v := 0) dX6_times_12 (by decide) ?_
    exact r_lret (pc := 13) dX6_times_13 rfl h
  · replace h := h.2 c1
    refine r_lload_n (pc := 6) (i := 2) dX6_times_6 rfl rfl ?_
    refine r_lconst (pc := 7) (v := 0) dX6_times_7 (by decide) ?_
    refine r_lcmp (pc := 8) dX6_times_8 ?_
    refine r_if_ne (pc := 9) (tgt := 14) dX6_times_9 (by decide) (fun c2 => ?_) (fun c2 => ?_)
    · replace h := h.1 c2
      refine r_lload_n (pc := 14) (i := 0) dX6_times_14 rfl rfl ?_
      refine r_ldc2 (pc := 15) (v := 4611686018427387905) dX6_times_15 ww_1024 ?_
      refine r_lload_n (pc := 18) (i := 2) dX6_times_18 rfl rfl ?_
      obtain ⟨n3, h⟩ := h
      refine r_ldiv (pc := 19) dX6_times_19 n3 ?_
      refine r_lcmp (pc := 20) dX6_times_20 ?_
      refine r_if_le (pc := 21) (tgt := 30) dX6_times_21 (by decide) (fun c4 => ?_) (fun c4 => ?_)
      · replace h := h.1 c4
        refine r_lload_n (pc := 30) (i := 0) dX6_times_30 rfl rfl ?_
        refine r_lload_n (pc := 31) (i := 2) dX6_times_31 rfl rfl ?_
        refine r_lmul (pc := 32) dX6_times_32 ?_
        exact r_lret (pc := 33) dX6_times_33 rfl h
      · replace h := h.2 c4
        refine r_ldc2 (pc := 24) (v := 4611686018427387905) dX6_times_24 ww_1024 ?_
        refine r_goto (pc := 27) (tgt := 33) dX6_times_27 (by decide) ?_
        exact r_lret (pc := 33) dX6_times_33 rfl h
    · replace h := h.2 c2
      refine r_lconst (pc := 12) (v := 0) dX6_times_12 (by decide) ?_
      exact r_lret (pc := 13) dX6_times_13 rfl h
abbrev LX6_leastAbove_66 (G : GG) (d rc rs : Nat) (p0 : Nat) (p1 : Nat) (l2 : Int64) (x4 : Int32) (x5 : Int32) (x6 : Int32) (z7 : Option Value) (M : Mem) (Q : Option Value → Mem → Prop) : Prop := Wk G (d + 1) rc rs mX6_leastAbove 66 [some (.ref p0), some (.ref p1), some (.long l2), none, some (.int x4), some (.int x5), some (.int x6), z7] [] M Q
abbrev LX6_leastAbove_151 (G : GG) (d rc rs : Nat) (p0 : Nat) (p1 : Nat) (l2 : Int64) (x4 : Int32) (x5 : Int32) (x6 : Int32) (z7 : Option Value) (M : Mem) (Q : Option Value → Mem → Prop) : Prop := Wk G (d + 1) rc rs mX6_leastAbove 151 [some (.ref p0), some (.ref p1), some (.long l2), none, some (.int x4), some (.int x5), some (.int x6), z7] [] M Q
theorem eX6_leastAbove {G : GG} {d rc rs : Nat} (o : Nat) (a1 : Nat) (a2 : Int64) (a3 : Int32)  {M : Mem} {Q : Option Value → Mem → Prop} (h : (x_h M o).1 = 22 ∧ Call G d 0 0 mX6_fillOpen [.ref o, .ref a1, .int a3] M (fun r2 M3 => r2 = none ∧ (x_h M3 o).1 = 22 ∧ Call G d 0 0 mX6_fillDigits [.ref o, .long (a2 + 1), .int a3] M3 (fun r5 M6 => ∃ v7 : Int32, r5 = some (.int v7) ∧ (x_h M6 o).1 = 22 ∧ Call G d 0 0 mX6_fillHeads [.ref o, .ref a1, .int v7] M6 (fun r9 M10 => r9 = none ∧ (x_h M10 o).1 = 22 ∧ (∃ b12, x_r M10 o 5 = some b12 ∧ (x_h M10 b12).1 = 1 ∧ vp_in v7 (x_h M10 b12).2 ∧ (x_h M10 a1).1 = 17 ∧ Call G d 0 0 mX1_mark [.ref a1, .int (x_i M10 b12 v7.toNatClampNeg)] M10 (fun r16 M17 => ∃ v18 : Int32, r16 = some (.int v18) ∧ (¬ v18 = 1 → LX6_leastAbove_66 G d rc rs o a1 a2 a3 v7 (v7 - 1) none M17 Q) ∧ (v18 = 1 → ((lg_cmp (a2 + 1) 4611686018427387904) ≤ 0 → Q (some (.long (a2 + 1))) M17) ∧ (¬ (lg_cmp (a2 + 1) 4611686018427387904) ≤ 0 → Q (some (.long (-3))) M17)))))))) : Call G (d + 1) rc rs mX6_leastAbove [.ref o, .ref a1, .long a2, .int a3] M Q := by
  refine call_of (by decide) (Nat.le_of_ble_eq_true rfl) ?_
  show Wk G (d + 1) rc rs mX6_leastAbove 0 [some (.ref o), some (.ref a1), some (.long a2), none, some (.int a3), none, none, none] [] M Q
  refine r_aload_n (pc := 0) (i := 0) dX6_leastAbove_0 rfl rfl ?_
  refine r_aload_n (pc := 1) (i := 1) dX6_leastAbove_1 rfl rfl ?_
  refine r_iload (pc := 2) (i := 4) dX6_leastAbove_2 rfl ?_
  obtain ⟨k1, h⟩ := h
  refine r_callV (pc := 4) (ci := 6) (as := [_, _]) (st := []) okX6_fillOpen lkX6_76 inX6_fillOpen seX6_fillOpen ⟨_, rfl, rfl⟩ dX6_leastAbove_4 rfl k1 (Nat.le_of_ble_eq_true rfl) (Nat.zero_le _) (Nat.zero_le _) (Call.mono h (fun r2 M3 h => ?_))
  obtain ⟨rfl, h⟩ := h
  refine r_aload_n (pc := 7) (i := 0) dX6_leastAbove_7 rfl rfl ?_
  refine r_lload_n (pc := 8) (i := 2) dX6_leastAbove_8 rfl rfl ?_
  refine r_lconst (pc := 9) (v := 1) dX6_leastAbove_9 (by decide) ?_
  refine r_ladd (pc := 10) dX6_leastAbove_10 ?_
  refine r_iload (pc := 11) (i := 4) dX6_leastAbove_11 rfl ?_
  obtain ⟨k4, h⟩ := h
  refine r_callV (pc := 13) (ci := 6) (as := [_, _]) (st := []) okX6_fillDigits lkX6_80 inX6_fillDigits seX6_fillDigits ⟨_, rfl, rfl⟩ dX6_leastAbove_13 rfl k4 (Nat.le_of_ble_eq_true rfl) (Nat.zero_le _) (Nat.zero_le _) (Call.mono h (fun r5 M6 h => ?_))
  obtain ⟨v7, rfl, h⟩ := h
  refine r_istore (pc := 16) (i := 5) dX6_leastAbove_16 rfl (Nat.le_of_ble_eq_true rfl) ?_
  refine r_aload_n (pc := 18) (i := 0) dX6_leastAbove_18 rfl rfl ?_
  refine r_aload_n (pc := 19) (i := 1) dX6_leastAbove_19 rfl rfl ?_
  refine r_iload (pc := 20) (i := 5) dX6_leastAbove_20 rfl ?_
  obtain ⟨k8, h⟩ := h
  refine r_callV (pc := 22) (ci := 6) (as := [_, _]) (st := []) okX6_fillHeads lkX6_84 inX6_fillHeads seX6_fillHeads ⟨_, rfl, rfl⟩ dX6_leastAbove_22 rfl k8 (Nat.le_of_ble_eq_true rfl) (Nat.zero_le _) (Nat.zero_le _) (Call.mono h (fun r9 M10 h => ?_))
  obtain ⟨rfl, h⟩ := h
  refine r_aload_n (pc := 25) (i := 1) dX6_leastAbove_25 rfl rfl ?_
  refine r_aload_n (pc := 26) (i := 0) dX6_leastAbove_26 rfl rfl ?_
  obtain ⟨k11, h⟩ := h
  obtain ⟨b12, hb12, h⟩ := h
  refine r_getr (pc := 27) flX6_28 dX6_leastAbove_27 rfl k11 hb12 ?_
  refine r_iload (pc := 30) (i := 5) dX6_leastAbove_30 rfl ?_
  obtain ⟨k13, h⟩ := h
  obtain ⟨i14, h⟩ := h
  refine r_iald (pc := 32) dX6_leastAbove_32 k13 i14 ?_
  obtain ⟨k15, h⟩ := h
  refine r_callV (pc := 33) (ci := 1) (as := [_]) (st := []) okX1_mark lkX6_52 inX1_mark seX1_mark ⟨_, rfl, rfl⟩ dX6_leastAbove_33 rfl k15 (Nat.le_of_ble_eq_true rfl) (Nat.zero_le _) (Nat.zero_le _) (Call.mono h (fun r16 M17 h => ?_))
  obtain ⟨v18, rfl, h⟩ := h
  refine r_iconst (pc := 36) (v := 1) dX6_leastAbove_36 (by decide) ?_
  refine r_icmp_ne (pc := 37) (tgt := 60) dX6_leastAbove_37 (by decide) (fun c19 => ?_) (fun c19 => ?_)
  · replace h := h.1 c19
    refine r_iload (pc := 60) (i := 5) dX6_leastAbove_60 rfl ?_
    refine r_iconst (pc := 62) (v := 1) dX6_leastAbove_62 (by decide) ?_
    refine r_isub (pc := 63) dX6_leastAbove_63 ?_
    refine r_istore (pc := 64) (i := 6) dX6_leastAbove_64 rfl (Nat.le_of_ble_eq_true rfl) ?_
    exact h
  · replace h := h.2 c19
    refine r_lload_n (pc := 40) (i := 2) dX6_leastAbove_40 rfl rfl ?_
    refine r_lconst (pc := 41) (v := 1) dX6_leastAbove_41 (by decide) ?_
    refine r_ladd (pc := 42) dX6_leastAbove_42 ?_
    refine r_ldc2 (pc := 43) (v := 4611686018427387904) dX6_leastAbove_43 ww_1017 ?_
    refine r_lcmp (pc := 46) dX6_leastAbove_46 ?_
    refine r_if_le (pc := 47) (tgt := 56) dX6_leastAbove_47 (by decide) (fun c20 => ?_) (fun c20 => ?_)
    · replace h := h.1 c20
      refine r_lload_n (pc := 56) (i := 2) dX6_leastAbove_56 rfl rfl ?_
      refine r_lconst (pc := 57) (v := 1) dX6_leastAbove_57 (by decide) ?_
      refine r_ladd (pc := 58) dX6_leastAbove_58 ?_
      exact r_lret (pc := 59) dX6_leastAbove_59 rfl h
    · replace h := h.2 c20
      refine r_ldc2 (pc := 50) (v := (-3)) dX6_leastAbove_50 ww_1018 ?_
      refine r_goto (pc := 53) (tgt := 59) dX6_leastAbove_53 (by decide) ?_
      exact r_lret (pc := 59) dX6_leastAbove_59 rfl h
theorem vX6_leastAbove_66 {G : GG} {d rc rs : Nat} (p0 : Nat) (p1 : Nat) (l2 : Int64) (x4 : Int32) (x5 : Int32) (x6 : Int32) (z7 : Option Value) (hz7 : c1 z7 = true) {M : Mem} {Q : Option Value → Mem → Prop} (h : (x6 < 0 → LX6_leastAbove_151 G d rc rs p0 p1 l2 x4 x5 (x5 + 1) z7 M Q) ∧ (¬ x6 < 0 → (x_h M p0).1 = 22 ∧ (∃ b3, x_r M p0 5 = some b3 ∧ (x_h M b3).1 = 1 ∧ vp_in x6 (x_h M b3).2 ∧ (∃ b6, x_r M p0 4 = some b6 ∧ (x_h M b6).1 = 1 ∧ vp_in x6 (x_h M b6).2 ∧ Call G d 0 0 mX6_openDigit [.ref p0, .ref p1, .int (x_i M b3 x6.toNatClampNeg), .int ((x_i M b6 x6.toNatClampNeg) + 1), .int ((x5 - 1) - x6), .int x4] M (fun r9 M10 => ∃ v11 : Int32, r9 = some (.int v11) ∧ (v11 = (-1) → LX6_leastAbove_66 G d rc rs p0 p1 l2 x4 x5 (x6 + (-1)) (some (.int v11)) M10 Q) ∧ (¬ v11 = (-1) → (x_h M10 p0).1 = 22 ∧ Call G d 0 0 mX6_head [.ref p0, .int x6, .int x4] M10 (fun r14 M15 => ∃ v16 : Int64, r14 = some (.long v16) ∧ (x_h M15 p0).1 = 22 ∧ (∃ b18, x_r M15 p0 5 = some b18 ∧ (x_h M15 b18).1 = 1 ∧ vp_in x6 (x_h M15 b18).2 ∧ Call G d 0 0 mX6_ended [.ref p0, .ref p1, .long v16, .int (x_i M15 b18 x6.toNatClampNeg), .int v11, .int (x5 - x6), .int x4] M15 (fun r21 M22 => ∃ v23 : Int64, r21 = some (.long v23) ∧ Q (some (.long v23)) M22))))))))) : LX6_leastAbove_66 G d rc rs p0 p1 l2 x4 x5 x6 z7 M Q := by
  show Wk G (d + 1) rc rs mX6_leastAbove 66 _ _ M Q
  refine r_iload (pc := 66) (i := 6) dX6_leastAbove_66 rfl ?_
  refine r_if_lt (pc := 68) (tgt := 145) dX6_leastAbove_68 (by decide) (fun c1 => ?_) (fun c1 => ?_)
  · replace h := h.1 c1
    refine r_iload (pc := 145) (i := 5) dX6_leastAbove_145 rfl ?_
    refine r_iconst (pc := 147) (v := 1) dX6_leastAbove_147 (by decide) ?_
    refine r_iadd (pc := 148) dX6_leastAbove_148 ?_
    refine r_istore (pc := 149) (i := 6) dX6_leastAbove_149 rfl (Nat.le_of_ble_eq_true rfl) ?_
    exact h
  · replace h := h.2 c1
    refine r_aload_n (pc := 71) (i := 0) dX6_leastAbove_71 rfl rfl ?_
    refine r_aload_n (pc := 72) (i := 1) dX6_leastAbove_72 rfl rfl ?_
    refine r_aload_n (pc := 73) (i := 0) dX6_leastAbove_73 rfl rfl ?_
    obtain ⟨k2, h⟩ := h
    obtain ⟨b3, hb3, h⟩ := h
    refine r_getr (pc := 74) flX6_28 dX6_leastAbove_74 rfl k2 hb3 ?_
    refine r_iload (pc := 77) (i := 6) dX6_leastAbove_77 rfl ?_
    obtain ⟨k4, h⟩ := h
    obtain ⟨i5, h⟩ := h
    refine r_iald (pc := 79) dX6_leastAbove_79 k4 i5 ?_
    refine r_aload_n (pc := 80) (i := 0) dX6_leastAbove_80 rfl rfl ?_
    obtain ⟨b6, hb6, h⟩ := h
    refine r_getr (pc := 81) flX6_25 dX6_leastAbove_81 rfl k2 hb6 ?_
    refine r_iload (pc := 84) (i := 6) dX6_leastAbove_84 rfl ?_
    obtain ⟨k7, h⟩ := h
    obtain ⟨i8, h⟩ := h
    refine r_iald (pc := 86) dX6_leastAbove_86 k7 i8 ?_
    refine r_iconst (pc := 87) (v := 1) dX6_leastAbove_87 (by decide) ?_
    refine r_iadd (pc := 88) dX6_leastAbove_88 ?_
    refine r_iload (pc := 89) (i := 5) dX6_leastAbove_89 rfl ?_
    refine r_iconst (pc := 91) (v := 1) dX6_leastAbove_91 (by decide) ?_
    refine r_isub (pc := 92) dX6_leastAbove_92 ?_
    refine r_iload (pc := 93) (i := 6) dX6_leastAbove_93 rfl ?_
    refine r_isub (pc := 95) dX6_leastAbove_95 ?_
    refine r_iload (pc := 96) (i := 4) dX6_leastAbove_96 rfl ?_
    refine r_callV (pc := 98) (ci := 6) (as := [_, _, _, _, _]) (st := []) okX6_openDigit lkX6_87 inX6_openDigit seX6_openDigit ⟨_, rfl, rfl⟩ dX6_leastAbove_98 rfl k2 (Nat.le_of_ble_eq_true rfl) (Nat.zero_le _) (Nat.zero_le _) (Call.mono h (fun r9 M10 h => ?_))
    obtain ⟨v11, rfl, h⟩ := h
    refine r_istore (pc := 101) (i := 7) dX6_leastAbove_101 rfl (Nat.le_of_ble_eq_true rfl) ?_
    refine r_iload (pc := 103) (i := 7) dX6_leastAbove_103 rfl ?_
    refine r_iconst (pc := 105) (v := (-1)) dX6_leastAbove_105 (by decide) ?_
    refine r_icmp_eq (pc := 106) (tgt := 139) dX6_leastAbove_106 (by decide) (fun c12 => ?_) (fun c12 => ?_)
    · replace h := h.1 c12
      refine r_iinc (pc := 139) (i := 6) (v := _ + (-1)) dX6_leastAbove_139 rfl rfl rfl ?_
      refine r_goto (pc := 142) (tgt := 66) dX6_leastAbove_142 (by decide) ?_
      exact h
    · replace h := h.2 c12
      refine r_aload_n (pc := 109) (i := 0) dX6_leastAbove_109 rfl rfl ?_
      refine r_aload_n (pc := 110) (i := 1) dX6_leastAbove_110 rfl rfl ?_
      refine r_aload_n (pc := 111) (i := 0) dX6_leastAbove_111 rfl rfl ?_
      refine r_iload (pc := 112) (i := 6) dX6_leastAbove_112 rfl ?_
      refine r_iload (pc := 114) (i := 4) dX6_leastAbove_114 rfl ?_
      obtain ⟨k13, h⟩ := h
      refine r_callV (pc := 116) (ci := 6) (as := [_, _]) (st := [_, _]) okX6_head lkX6_91 inX6_head seX6_head ⟨_, rfl, rfl⟩ dX6_leastAbove_116 rfl k13 (Nat.le_of_ble_eq_true rfl) (Nat.zero_le _) (Nat.zero_le _) (Call.mono h (fun r14 M15 h => ?_))
      obtain ⟨v16, rfl, h⟩ := h
      refine r_aload_n (pc := 119) (i := 0) dX6_leastAbove_119 rfl rfl ?_
      obtain ⟨k17, h⟩ := h
      obtain ⟨b18, hb18, h⟩ := h
      refine r_getr (pc := 120) flX6_28 dX6_leastAbove_120 rfl k17 hb18 ?_
      refine r_iload (pc := 123) (i := 6) dX6_leastAbove_123 rfl ?_
      obtain ⟨k19, h⟩ := h
      obtain ⟨i20, h⟩ := h
      refine r_iald (pc := 125) dX6_leastAbove_125 k19 i20 ?_
      refine r_iload (pc := 126) (i := 7) dX6_leastAbove_126 rfl ?_
      refine r_iload (pc := 128) (i := 5) dX6_leastAbove_128 rfl ?_
      refine r_iload (pc := 130) (i := 6) dX6_leastAbove_130 rfl ?_
      refine r_isub (pc := 132) dX6_leastAbove_132 ?_
      refine r_iload (pc := 133) (i := 4) dX6_leastAbove_133 rfl ?_
      refine r_callV (pc := 135) (ci := 6) (as := [_, _, _, _, _, _]) (st := []) okX6_ended lkX6_95 inX6_ended seX6_ended ⟨_, rfl, rfl⟩ dX6_leastAbove_135 rfl k17 (Nat.le_of_ble_eq_true rfl) (Nat.zero_le _) (Nat.zero_le _) (Call.mono h (fun r21 M22 h => ?_))
      obtain ⟨v23, rfl, h⟩ := h
      exact r_lret (pc := 138) dX6_leastAbove_138 rfl h
theorem vX6_leastAbove_151 {G : GG} {d rc rs : Nat} (p0 : Nat) (p1 : Nat) (l2 : Int64) (x4 : Int32) (x5 : Int32) (x6 : Int32) (z7 : Option Value) (hz7 : c1 z7 = true) {M : Mem} {Q : Option Value → Mem → Prop} (h : (x_h M p1).1 = 17 ∧ ((x5 + (x_i M p1 2)) < x6 → Q (some (.long (-1))) M) ∧ (¬ (x5 + (x_i M p1 2)) < x6 → (x_h M p0).1 = 22 ∧ Call G d 0 0 mX6_openDigit [.ref p0, .ref p1, .int 0, .int 1, .int (x6 - 1), .int x4] M (fun r4 M5 => ∃ v6 : Int32, r4 = some (.int v6) ∧ (v6 = (-1) → LX6_leastAbove_151 G d rc rs p0 p1 l2 x4 x5 (x6 + 1) (some (.int v6)) M5 Q) ∧ (¬ v6 = (-1) → (x_h M5 p0).1 = 22 ∧ Call G d 0 0 mX6_ended [.ref p0, .ref p1, .long 0, .int 0, .int v6, .int x6, .int x4] M5 (fun r9 M10 => ∃ v11 : Int64, r9 = some (.long v11) ∧ Q (some (.long v11)) M10))))) : LX6_leastAbove_151 G d rc rs p0 p1 l2 x4 x5 x6 z7 M Q := by
  show Wk G (d + 1) rc rs mX6_leastAbove 151 _ _ M Q
  refine r_iload (pc := 151) (i := 6) dX6_leastAbove_151 rfl ?_
  refine r_iload (pc := 153) (i := 5) dX6_leastAbove_153 rfl ?_
  refine r_aload_n (pc := 155) (i := 1) dX6_leastAbove_155 rfl rfl ?_
  obtain ⟨k1, h⟩ := h
  refine r_geti (pc := 156) flX6_40 dX6_leastAbove_156 (Or.inl rfl) k1 ?_
  refine r_iadd (pc := 159) dX6_leastAbove_159 ?_
  refine r_icmp_gt (pc := 160) (tgt := 204) dX6_leastAbove_160 (by decide) (fun c2 => ?_) (fun c2 => ?_)
  · replace h := h.1 c2
    refine r_ldc2 (pc := 204) (v := (-1)) dX6_leastAbove_204 ww_1025 ?_
    exact r_lret (pc := 207) dX6_leastAbove_207 rfl h
  · replace h := h.2 c2
    refine r_aload_n (pc := 163) (i := 0) dX6_leastAbove_163 rfl rfl ?_
    refine r_aload_n (pc := 164) (i := 1) dX6_leastAbove_164 rfl rfl ?_
    refine r_iconst (pc := 165) (v := 0) dX6_leastAbove_165 (by decide) ?_
    refine r_iconst (pc := 166) (v := 1) dX6_leastAbove_166 (by decide) ?_
    refine r_iload (pc := 167) (i := 6) dX6_leastAbove_167 rfl ?_
    refine r_iconst (pc := 169) (v := 1) dX6_leastAbove_169 (by decide) ?_
    refine r_isub (pc := 170) dX6_leastAbove_170 ?_
    refine r_iload (pc := 171) (i := 4) dX6_leastAbove_171 rfl ?_
    obtain ⟨k3, h⟩ := h
    refine r_callV (pc := 173) (ci := 6) (as := [_, _, _, _, _]) (st := []) okX6_openDigit lkX6_87 inX6_openDigit seX6_openDigit ⟨_, rfl, rfl⟩ dX6_leastAbove_173 rfl k3 (Nat.le_of_ble_eq_true rfl) (Nat.zero_le _) (Nat.zero_le _) (Call.mono h (fun r4 M5 h => ?_))
    obtain ⟨v6, rfl, h⟩ := h
    refine r_istore (pc := 176) (i := 7) dX6_leastAbove_176 rfl (Nat.le_of_ble_eq_true rfl) ?_
    refine r_iload (pc := 178) (i := 7) dX6_leastAbove_178 rfl ?_
    refine r_iconst (pc := 180) (v := (-1)) dX6_leastAbove_180 (by decide) ?_
    refine r_icmp_eq (pc := 181) (tgt := 198) dX6_leastAbove_181 (by decide) (fun c7 => ?_) (fun c7 => ?_)
    · replace h := h.1 c7
      refine r_iinc (pc := 198) (i := 6) (v := _ + 1) dX6_leastAbove_198 rfl rfl rfl ?_
      refine r_goto (pc := 201) (tgt := 151) dX6_leastAbove_201 (by decide) ?_
      exact h
    · replace h := h.2 c7
      refine r_aload_n (pc := 184) (i := 0) dX6_leastAbove_184 rfl rfl ?_
      refine r_aload_n (pc := 185) (i := 1) dX6_leastAbove_185 rfl rfl ?_
      refine r_lconst (pc := 186) (v := 0) dX6_leastAbove_186 (by decide) ?_
      refine r_iconst (pc := 187) (v := 0) dX6_leastAbove_187 (by decide) ?_
      refine r_iload (pc := 188) (i := 7) dX6_leastAbove_188 rfl ?_
      refine r_iload (pc := 190) (i := 6) dX6_leastAbove_190 rfl ?_
      refine r_iload (pc := 192) (i := 4) dX6_leastAbove_192 rfl ?_
      obtain ⟨k8, h⟩ := h
      refine r_callV (pc := 194) (ci := 6) (as := [_, _, _, _, _, _]) (st := []) okX6_ended lkX6_95 inX6_ended seX6_ended ⟨_, rfl, rfl⟩ dX6_leastAbove_194 rfl k8 (Nat.le_of_ble_eq_true rfl) (Nat.zero_le _) (Nat.zero_le _) (Call.mono h (fun r9 M10 h => ?_))
      obtain ⟨v11, rfl, h⟩ := h
      exact r_lret (pc := 197) dX6_leastAbove_197 rfl h
abbrev LX6_fillOpen_9 (G : GG) (d rc rs : Nat) (p0 : Nat) (p1 : Nat) (x2 : Int32) (x3 : Int32) (M : Mem) (Q : Option Value → Mem → Prop) : Prop := Wk G (d + 1) rc rs mX6_fillOpen 9 [some (.ref p0), some (.ref p1), some (.int x2), some (.int x3), none] [] M Q
abbrev LX6_fillOpen_42 (G : GG) (d rc rs : Nat) (p0 : Nat) (p1 : Nat) (x2 : Int32) (x3 : Int32) (z4 : Option Value) (M : Mem) (Q : Option Value → Mem → Prop) : Prop := Wk G (d + 1) rc rs mX6_fillOpen 42 [some (.ref p0), some (.ref p1), some (.int x2), some (.int x3), z4] [] M Q
abbrev LX6_fillOpen_61 (G : GG) (d rc rs : Nat) (p0 : Nat) (p1 : Nat) (x2 : Int32) (x3 : Int32) (x4 : Int32) (M : Mem) (Q : Option Value → Mem → Prop) : Prop := Wk G (d + 1) rc rs mX6_fillOpen 61 [some (.ref p0), some (.ref p1), some (.int x2), some (.int x3), some (.int x4)] [] M Q
theorem eX6_fillOpen {G : GG} {d rc rs : Nat} (o : Nat) (a1 : Nat) (a2 : Int32)  {M : Mem} {Q : Option Value → Mem → Prop} (h : (x_h M o).1 = 22 ∧ (∃ b2, x_r M o 3 = some b2 ∧ (x_h M b2).1 = 2 ∧ vp_in 0 (x_h M b2).2 ∧ (∀ M5, M5 = x_sl M b2 (0 : Int32).toNatClampNeg 0 → LX6_fillOpen_9 G d rc rs o a1 a2 0 M5 Q))) : Call G (d + 1) rc rs mX6_fillOpen [.ref o, .ref a1, .int a2] M Q := by
  refine call_of (by decide) (Nat.le_of_ble_eq_true rfl) ?_
  show Wk G (d + 1) rc rs mX6_fillOpen 0 [some (.ref o), some (.ref a1), some (.int a2), none, none] [] M Q
  refine r_aload_n (pc := 0) (i := 0) dX6_fillOpen_0 rfl rfl ?_
  obtain ⟨k1, h⟩ := h
  obtain ⟨b2, hb2, h⟩ := h
  refine r_getr (pc := 1) flX6_22 dX6_fillOpen_1 rfl k1 hb2 ?_
  refine r_iconst (pc := 4) (v := 0) dX6_fillOpen_4 (by decide) ?_
  refine r_lconst (pc := 5) (v := 0) dX6_fillOpen_5 (by decide) ?_
  obtain ⟨k3, h⟩ := h
  obtain ⟨i4, h⟩ := h
  refine r_last (pc := 6) dX6_fillOpen_6 k3 i4 ?_
  replace h := h _ rfl
  refine r_iconst (pc := 7) (v := 0) dX6_fillOpen_7 (by decide) ?_
  refine r_istore_n (pc := 8) (i := 3) dX6_fillOpen_8 rfl rfl (Nat.le_of_ble_eq_true rfl) ?_
  exact h
theorem vX6_fillOpen_9 {G : GG} {d rc rs : Nat} (p0 : Nat) (p1 : Nat) (x2 : Int32) (x3 : Int32)  {M : Mem} {Q : Option Value → Mem → Prop} (h : (x_h M p1).1 = 17 ∧ ((x_i M p1 2) ≤ x3 → LX6_fillOpen_42 G d rc rs p0 p1 x2 1 none M Q) ∧ (¬ (x_i M p1 2) ≤ x3 → (x_h M p0).1 = 22 ∧ (∃ b4, x_r M p0 3 = some b4 ∧ (x_h M b4).1 = 2 ∧ vp_in 0 (x_h M b4).2 ∧ Call G d 0 0 mX1_mark [.ref p1, .int x3] M (fun r7 M8 => ∃ v9 : Int32, r7 = some (.int v9) ∧ (x_h M8 b4).1 = 2 ∧ vp_in 0 (x_h M8 b4).2 ∧ (∀ M12, M12 = x_sl M8 b4 (0 : Int32).toNatClampNeg ((x_l M b4 (0 : Int32).toNatClampNeg) ||| (v9.toInt64 <<< (x3.toInt64 &&& 63))) → LX6_fillOpen_9 G d rc rs p0 p1 x2 (x3 + 1) M12 Q))))) : LX6_fillOpen_9 G d rc rs p0 p1 x2 x3 M Q := by
  show Wk G (d + 1) rc rs mX6_fillOpen 9 _ _ M Q
  refine r_iload_n (pc := 9) (i := 3) dX6_fillOpen_9 rfl rfl ?_
  refine r_aload_n (pc := 10) (i := 1) dX6_fillOpen_10 rfl rfl ?_
  obtain ⟨k1, h⟩ := h
  refine r_geti (pc := 11) flX6_40 dX6_fillOpen_11 (Or.inl rfl) k1 ?_
  refine r_icmp_ge (pc := 14) (tgt := 40) dX6_fillOpen_14 (by decide) (fun c2 => ?_) (fun c2 => ?_)
  · replace h := h.1 c2
    refine r_iconst (pc := 40) (v := 1) dX6_fillOpen_40 (by decide) ?_
    refine r_istore_n (pc := 41) (i := 3) dX6_fillOpen_41 rfl rfl (Nat.le_of_ble_eq_true rfl) ?_
    exact h
  · replace h := h.2 c2
    refine r_aload_n (pc := 17) (i := 0) dX6_fillOpen_17 rfl rfl ?_
    obtain ⟨k3, h⟩ := h
    obtain ⟨b4, hb4, h⟩ := h
    refine r_getr (pc := 18) flX6_22 dX6_fillOpen_18 rfl k3 hb4 ?_
    refine r_iconst (pc := 21) (v := 0) dX6_fillOpen_21 (by decide) ?_
    refine r_dup2 (pc := 22) dX6_fillOpen_22 rfl rfl ?_
    obtain ⟨k5, h⟩ := h
    obtain ⟨i6, h⟩ := h
    refine r_lald (pc := 23) dX6_fillOpen_23 k5 i6 ?_
    refine r_aload_n (pc := 24) (i := 1) dX6_fillOpen_24 rfl rfl ?_
    refine r_iload_n (pc := 25) (i := 3) dX6_fillOpen_25 rfl rfl ?_
    refine r_callV (pc := 26) (ci := 1) (as := [_]) (st := [_, _, _]) okX1_mark lkX6_52 inX1_mark seX1_mark ⟨_, rfl, rfl⟩ dX6_fillOpen_26 rfl k1 (Nat.le_of_ble_eq_true rfl) (Nat.zero_le _) (Nat.zero_le _) (Call.mono h (fun r7 M8 h => ?_))
    obtain ⟨v9, rfl, h⟩ := h
    refine r_i2l (pc := 29) dX6_fillOpen_29 ?_
    refine r_iload_n (pc := 30) (i := 3) dX6_fillOpen_30 rfl rfl ?_
    refine r_lshl (pc := 31) dX6_fillOpen_31 ?_
    refine r_lor (pc := 32) dX6_fillOpen_32 ?_
    obtain ⟨k10, h⟩ := h
    obtain ⟨i11, h⟩ := h
    refine r_last (pc := 33) dX6_fillOpen_33 k10 i11 ?_
    replace h := h _ rfl
    refine r_iinc (pc := 34) (i := 3) (v := _ + 1) dX6_fillOpen_34 rfl rfl rfl ?_
    refine r_goto (pc := 37) (tgt := 9) dX6_fillOpen_37 (by decide) ?_
    exact h
theorem vX6_fillOpen_42 {G : GG} {d rc rs : Nat} (p0 : Nat) (p1 : Nat) (x2 : Int32) (x3 : Int32) (z4 : Option Value) (hz4 : c1 z4 = true) {M : Mem} {Q : Option Value → Mem → Prop} (h : (x_h M p0).1 = 22 ∧ (∃ b2, x_r M p0 3 = some b2 ∧ (1 ≤ (x_h M b2).1 ∧ (x_h M b2).1 < 8) ∧ ((nI (x_h M b2).2) ≤ x3 → Q none M) ∧ (¬ (nI (x_h M b2).2) ≤ x3 → (x_h M b2).1 = 2 ∧ vp_in x3 (x_h M b2).2 ∧ (∀ M7, M7 = x_sl M b2 x3.toNatClampNeg 0 → LX6_fillOpen_61 G d rc rs p0 p1 x2 x3 0 M7 Q)))) : LX6_fillOpen_42 G d rc rs p0 p1 x2 x3 z4 M Q := by
  show Wk G (d + 1) rc rs mX6_fillOpen 42 _ _ M Q
  refine r_iload_n (pc := 42) (i := 3) dX6_fillOpen_42 rfl rfl ?_
  refine r_aload_n (pc := 43) (i := 0) dX6_fillOpen_43 rfl rfl ?_
  obtain ⟨k1, h⟩ := h
  obtain ⟨b2, hb2, h⟩ := h
  refine r_getr (pc := 44) flX6_22 dX6_fillOpen_44 rfl k1 hb2 ?_
  obtain ⟨k3, h⟩ := h
  refine r_alen (pc := 47) dX6_fillOpen_47 rfl k3 ?_
  refine r_icmp_ge (pc := 48) (tgt := 111) dX6_fillOpen_48 (by decide) (fun c4 => ?_) (fun c4 => ?_)
  · replace h := h.1 c4
    exact r_vret (pc := 111) dX6_fillOpen_111 rfl h
  · replace h := h.2 c4
    refine r_aload_n (pc := 51) (i := 0) dX6_fillOpen_51 rfl rfl ?_
    refine r_getr (pc := 52) flX6_22 dX6_fillOpen_52 rfl k1 hb2 ?_
    refine r_iload_n (pc := 55) (i := 3) dX6_fillOpen_55 rfl rfl ?_
    refine r_lconst (pc := 56) (v := 0) dX6_fillOpen_56 (by decide) ?_
    obtain ⟨k5, h⟩ := h
    obtain ⟨i6, h⟩ := h
    refine r_last (pc := 57) dX6_fillOpen_57 k5 i6 ?_
    replace h := h _ rfl
    refine r_iconst (pc := 58) (v := 0) dX6_fillOpen_58 (by decide) ?_
    refine r_istore (pc := 59) (i := 4) dX6_fillOpen_59 rfl (Nat.le_of_ble_eq_true rfl) ?_
    exact h
theorem vX6_fillOpen_61 {G : GG} {d rc rs : Nat} (p0 : Nat) (p1 : Nat) (x2 : Int32) (x3 : Int32) (x4 : Int32)  {M : Mem} {Q : Option Value → Mem → Prop} (h : (x_h M p1).1 = 17 ∧ ((x_i M p1 2) ≤ x4 → LX6_fillOpen_42 G d rc rs p0 p1 x2 (x3 + 1) (some (.int x4)) M Q) ∧ (¬ (x_i M p1 2) ≤ x4 → (x_h M p0).1 = 22 ∧ Call G d 0 0 mX6_openDigit [.ref p0, .ref p1, .int x4, .int 0, .int (x3 - 1), .int x2] M (fun r4 M5 => ∃ v6 : Int32, r4 = some (.int v6) ∧ (v6 = (-1) → LX6_fillOpen_61 G d rc rs p0 p1 x2 x3 (x4 + 1) M5 Q) ∧ (¬ v6 = (-1) → (x_h M5 p0).1 = 22 ∧ (∃ b9, x_r M5 p0 3 = some b9 ∧ (x_h M5 b9).1 = 2 ∧ vp_in x3 (x_h M5 b9).2 ∧ (∀ M12, M12 = x_sl M5 b9 x3.toNatClampNeg ((x_l M5 b9 x3.toNatClampNeg) ||| (1 <<< (x4.toInt64 &&& 63))) → LX6_fillOpen_61 G d rc rs p0 p1 x2 x3 (x4 + 1) M12 Q)))))) : LX6_fillOpen_61 G d rc rs p0 p1 x2 x3 x4 M Q := by
  show Wk G (d + 1) rc rs mX6_fillOpen 61 _ _ M Q
  refine r_iload (pc := 61) (i := 4) dX6_fillOpen_61 rfl ?_
  refine r_aload_n (pc := 63) (i := 1) dX6_fillOpen_63 rfl rfl ?_
  obtain ⟨k1, h⟩ := h
  refine r_geti (pc := 64) flX6_40 dX6_fillOpen_64 (Or.inl rfl) k1 ?_
  refine r_icmp_ge (pc := 67) (tgt := 105) dX6_fillOpen_67 (by decide) (fun c2 => ?_) (fun c2 => ?_)
  · replace h := h.1 c2
    refine r_iinc (pc := 105) (i := 3) (v := _ + 1) dX6_fillOpen_105 rfl rfl rfl ?_
    refine r_goto (pc := 108) (tgt := 42) dX6_fillOpen_108 (by decide) ?_
    exact h
  · replace h := h.2 c2
    refine r_aload_n (pc := 70) (i := 0) dX6_fillOpen_70 rfl rfl ?_
    refine r_aload_n (pc := 71) (i := 1) dX6_fillOpen_71 rfl rfl ?_
    refine r_iload (pc := 72) (i := 4) dX6_fillOpen_72 rfl ?_
    refine r_iconst (pc := 74) (v := 0) dX6_fillOpen_74 (by decide) ?_
    refine r_iload_n (pc := 75) (i := 3) dX6_fillOpen_75 rfl rfl ?_
    refine r_iconst (pc := 76) (v := 1) dX6_fillOpen_76 (by decide) ?_
    refine r_isub (pc := 77) dX6_fillOpen_77 ?_
    refine r_iload_n (pc := 78) (i := 2) dX6_fillOpen_78 rfl rfl ?_
    obtain ⟨k3, h⟩ := h
    refine r_callV (pc := 79) (ci := 6) (as := [_, _, _, _, _]) (st := []) okX6_openDigit lkX6_87 inX6_openDigit seX6_openDigit ⟨_, rfl, rfl⟩ dX6_fillOpen_79 rfl k3 (Nat.le_of_ble_eq_true rfl) (Nat.zero_le _) (Nat.zero_le _) (Call.mono h (fun r4 M5 h => ?_))
    obtain ⟨v6, rfl, h⟩ := h
    refine r_iconst (pc := 82) (v := (-1)) dX6_fillOpen_82 (by decide) ?_
    refine r_icmp_eq (pc := 83) (tgt := 99) dX6_fillOpen_83 (by decide) (fun c7 => ?_) (fun c7 => ?_)
    · replace h := h.1 c7
      refine r_iinc (pc := 99) (i := 4) (v := _ + 1) dX6_fillOpen_99 rfl rfl rfl ?_
      refine r_goto (pc := 102) (tgt := 61) dX6_fillOpen_102 (by decide) ?_
      exact h
    · replace h := h.2 c7
      refine r_aload_n (pc := 86) (i := 0) dX6_fillOpen_86 rfl rfl ?_
      obtain ⟨k8, h⟩ := h
      obtain ⟨b9, hb9, h⟩ := h
      refine r_getr (pc := 87) flX6_22 dX6_fillOpen_87 rfl k8 hb9 ?_
      refine r_iload_n (pc := 90) (i := 3) dX6_fillOpen_90 rfl rfl ?_
      refine r_dup2 (pc := 91) dX6_fillOpen_91 rfl rfl ?_
      obtain ⟨k10, h⟩ := h
      obtain ⟨i11, h⟩ := h
      refine r_lald (pc := 92) dX6_fillOpen_92 k10 i11 ?_
      refine r_lconst (pc := 93) (v := 1) dX6_fillOpen_93 (by decide) ?_
      refine r_iload (pc := 94) (i := 4) dX6_fillOpen_94 rfl ?_
      refine r_lshl (pc := 96) dX6_fillOpen_96 ?_
      refine r_lor (pc := 97) dX6_fillOpen_97 ?_
      refine r_last (pc := 98) dX6_fillOpen_98 k10 i11 ?_
      replace h := h _ rfl
      refine r_iinc (pc := 99) (i := 4) (v := _ + 1) dX6_fillOpen_99 rfl rfl rfl ?_
      refine r_goto (pc := 102) (tgt := 61) dX6_fillOpen_102 (by decide) ?_
      exact h
abbrev LX6_openDigit_3 (G : GG) (d rc rs : Nat) (p0 : Nat) (p1 : Nat) (x2 : Int32) (x3 : Int32) (x4 : Int32) (x5 : Int32) (x6 : Int32) (M : Mem) (Q : Option Value → Mem → Prop) : Prop := Wk G (d + 1) rc rs mX6_openDigit 3 [some (.ref p0), some (.ref p1), some (.int x2), some (.int x3), some (.int x4), some (.int x5), some (.int x6)] [] M Q
theorem eX6_openDigit {G : GG} {d rc rs : Nat} (o : Nat) (a1 : Nat) (a2 : Int32) (a3 : Int32) (a4 : Int32) (a5 : Int32)  {M : Mem} {Q : Option Value → Mem → Prop} (h : LX6_openDigit_3 G d rc rs o a1 a2 a3 a4 a5 a3 M Q) : Call G (d + 1) rc rs mX6_openDigit [.ref o, .ref a1, .int a2, .int a3, .int a4, .int a5] M Q := by
  refine call_of (by decide) (Nat.le_of_ble_eq_true rfl) ?_
  show Wk G (d + 1) rc rs mX6_openDigit 0 [some (.ref o), some (.ref a1), some (.int a2), some (.int a3), some (.int a4), some (.int a5), none] [] M Q
  refine r_iload_n (pc := 0) (i := 3) dX6_openDigit_0 rfl rfl ?_
  refine r_istore (pc := 1) (i := 6) dX6_openDigit_1 rfl (Nat.le_of_ble_eq_true rfl) ?_
  exact h
theorem vX6_openDigit_3 {G : GG} {d rc rs : Nat} (p0 : Nat) (p1 : Nat) (x2 : Int32) (x3 : Int32) (x4 : Int32) (x5 : Int32) (x6 : Int32)  {M : Mem} {Q : Option Value → Mem → Prop} (h : (x5 ≤ x6 → Q (some (.int (-1))) M) ∧ (¬ x5 ≤ x6 → (x_h M p0).1 = 22 ∧ (∃ b3, x_r M p0 3 = some b3 ∧ (1 ≤ (x_h M b3).1 ∧ (x_h M b3).1 < 8) ∧ Call G d 0 0 mX11_within [.int x4, .int (nI (x_h M b3).2)] M (fun r5 M6 => ∃ v7 : Int32, r5 = some (.int v7) ∧ (v7 = 0 → Q (some (.int (-1))) M6) ∧ (¬ v7 = 0 → (x_h M6 p0).1 = 22 ∧ (∃ b10, x_r M6 p0 3 = some b10 ∧ (x_h M6 b10).1 = 2 ∧ vp_in x4 (x_h M6 b10).2 ∧ (x_h M6 p1).1 = 17 ∧ Call G d 0 0 mX1_after [.ref p1, .int x2, .int x6] M6 (fun r14 M15 => ∃ v16 : Int32, r14 = some (.int v16) ∧ ((lg_cmp (((x_l M6 b10 x4.toNatClampNeg) >>> (v16.toInt64 &&& 63)) &&& 1) 0) = 0 → LX6_openDigit_3 G d rc rs p0 p1 x2 x3 x4 x5 (x6 + 1) M15 Q) ∧ (¬ (lg_cmp (((x_l M6 b10 x4.toNatClampNeg) >>> (v16.toInt64 &&& 63)) &&& 1) 0) = 0 → Q (some (.int x6)) M15)))))))) : LX6_openDigit_3 G d rc rs p0 p1 x2 x3 x4 x5 x6 M Q := by
  show Wk G (d + 1) rc rs mX6_openDigit 3 _ _ M Q
  refine r_iload (pc := 3) (i := 6) dX6_openDigit_3 rfl ?_
  refine r_iload (pc := 5) (i := 5) dX6_openDigit_5 rfl ?_
  refine r_icmp_ge (pc := 7) (tgt := 54) dX6_openDigit_7 (by decide) (fun c1 => ?_) (fun c1 => ?_)
  · replace h := h.1 c1
    refine r_iconst (pc := 54) (v := (-1)) dX6_openDigit_54 (by decide) ?_
    exact r_iret (pc := 55) dX6_openDigit_55 rfl h
  · replace h := h.2 c1
    refine r_iload (pc := 10) (i := 4) dX6_openDigit_10 rfl ?_
    refine r_aload_n (pc := 12) (i := 0) dX6_openDigit_12 rfl rfl ?_
    obtain ⟨k2, h⟩ := h
    obtain ⟨b3, hb3, h⟩ := h
    refine r_getr (pc := 13) flX6_22 dX6_openDigit_13 rfl k2 hb3 ?_
    obtain ⟨k4, h⟩ := h
    refine r_alen (pc := 16) dX6_openDigit_16 rfl k4 ?_
    refine r_callS (pc := 17) (as := [_, _]) (st := []) okX11_within lkX6_64 stX11_within dX6_openDigit_17 rfl (Nat.le_of_ble_eq_true rfl) (Nat.zero_le _) (Nat.zero_le _) (Call.mono h (fun r5 M6 h => ?_))
    obtain ⟨v7, rfl, h⟩ := h
    refine r_if_eq (pc := 20) (tgt := 54) dX6_openDigit_20 (by decide) (fun c8 => ?_) (fun c8 => ?_)
    · replace h := h.1 c8
      refine r_iconst (pc := 54) (v := (-1)) dX6_openDigit_54 (by decide) ?_
      exact r_iret (pc := 55) dX6_openDigit_55 rfl h
    · replace h := h.2 c8
      refine r_aload_n (pc := 23) (i := 0) dX6_openDigit_23 rfl rfl ?_
      obtain ⟨k9, h⟩ := h
      obtain ⟨b10, hb10, h⟩ := h
      refine r_getr (pc := 24) flX6_22 dX6_openDigit_24 rfl k9 hb10 ?_
      refine r_iload (pc := 27) (i := 4) dX6_openDigit_27 rfl ?_
      obtain ⟨k11, h⟩ := h
      obtain ⟨i12, h⟩ := h
      refine r_lald (pc := 29) dX6_openDigit_29 k11 i12 ?_
      refine r_aload_n (pc := 30) (i := 1) dX6_openDigit_30 rfl rfl ?_
      refine r_iload_n (pc := 31) (i := 2) dX6_openDigit_31 rfl rfl ?_
      refine r_iload (pc := 32) (i := 6) dX6_openDigit_32 rfl ?_
      obtain ⟨k13, h⟩ := h
      refine r_callV (pc := 34) (ci := 1) (as := [_, _]) (st := [_]) okX1_after lkX6_60 inX1_after seX1_after ⟨_, rfl, rfl⟩ dX6_openDigit_34 rfl k13 (Nat.le_of_ble_eq_true rfl) (Nat.zero_le _) (Nat.zero_le _) (Call.mono h (fun r14 M15 h => ?_))
      obtain ⟨v16, rfl, h⟩ := h
      refine r_lshr (pc := 37) dX6_openDigit_37 ?_
      refine r_lconst (pc := 38) (v := 1) dX6_openDigit_38 (by decide) ?_
      refine r_land (pc := 39) dX6_openDigit_39 ?_
      refine r_lconst (pc := 40) (v := 0) dX6_openDigit_40 (by decide) ?_
      refine r_lcmp (pc := 41) dX6_openDigit_41 ?_
      refine r_if_eq (pc := 42) (tgt := 48) dX6_openDigit_42 (by decide) (fun c17 => ?_) (fun c17 => ?_)
      · replace h := h.1 c17
        refine r_iinc (pc := 48) (i := 6) (v := _ + 1) dX6_openDigit_48 rfl rfl rfl ?_
        refine r_goto (pc := 51) (tgt := 3) dX6_openDigit_51 (by decide) ?_
        exact h
      · replace h := h.2 c17
        refine r_iload (pc := 45) (i := 6) dX6_openDigit_45 rfl ?_
        exact r_iret (pc := 47) dX6_openDigit_47 rfl h
abbrev LX6_fillDigits_9 (G : GG) (d rc rs : Nat) (p0 : Nat) (l1 : Int64) (x3 : Int32) (x4 : Int32) (l5 : Int64) (x7 : Int32) (M : Mem) (Q : Option Value → Mem → Prop) : Prop := Wk G (d + 1) rc rs mX6_fillDigits 9 [some (.ref p0), some (.long l1), none, some (.int x3), some (.int x4), some (.long l5), none, some (.int x7)] [] M Q
abbrev LX6_fillDigits_53 (G : GG) (d rc rs : Nat) (p0 : Nat) (l1 : Int64) (x3 : Int32) (x4 : Int32) (l5 : Int64) (x7 : Int32) (M : Mem) (Q : Option Value → Mem → Prop) : Prop := Wk G (d + 1) rc rs mX6_fillDigits 53 [some (.ref p0), some (.long l1), none, some (.int x3), some (.int x4), some (.long l5), none, some (.int x7)] [] M Q
theorem eX6_fillDigits {G : GG} {d rc rs : Nat} (o : Nat) (a1 : Int64) (a2 : Int32)  {M : Mem} {Q : Option Value → Mem → Prop} (h : LX6_fillDigits_9 G d rc rs o a1 a2 0 a1 0 M Q) : Call G (d + 1) rc rs mX6_fillDigits [.ref o, .long a1, .int a2] M Q := by
  refine call_of (by decide) (Nat.le_of_ble_eq_true rfl) ?_
  show Wk G (d + 1) rc rs mX6_fillDigits 0 [some (.ref o), some (.long a1), none, some (.int a2), none, none, none, none] [] M Q
  refine r_iconst (pc := 0) (v := 0) dX6_fillDigits_0 (by decide) ?_
  refine r_istore (pc := 1) (i := 4) dX6_fillDigits_1 rfl (Nat.le_of_ble_eq_true rfl) ?_
  refine r_lload_n (pc := 3) (i := 1) dX6_fillDigits_3 rfl rfl ?_
  refine r_lstore (pc := 4) (i := 5) dX6_fillDigits_4 rfl (Nat.le_of_ble_eq_true rfl) ?_
  refine r_iconst (pc := 6) (v := 0) dX6_fillDigits_6 (by decide) ?_
  refine r_istore (pc := 7) (i := 7) dX6_fillDigits_7 rfl (Nat.le_of_ble_eq_true rfl) ?_
  exact h
theorem vX6_fillDigits_9 {G : GG} {d rc rs : Nat} (p0 : Nat) (l1 : Int64) (x3 : Int32) (x4 : Int32) (l5 : Int64) (x7 : Int32)  {M : Mem} {Q : Option Value → Mem → Prop} (h : (64 ≤ x7 → LX6_fillDigits_53 G d rc rs p0 l1 x3 x4 l1 (x4 - 1) M Q) ∧ (¬ 64 ≤ x7 → ((lg_cmp l5 0) ≤ 0 → LX6_fillDigits_53 G d rc rs p0 l1 x3 x4 l1 (x4 - 1) M Q) ∧ (¬ (lg_cmp l5 0) ≤ 0 → (x3 ≤ 1 → LX6_fillDigits_53 G d rc rs p0 l1 x3 x4 l1 (x4 - 1) M Q) ∧ (¬ x3 ≤ 1 → ¬ x3.toInt64 = 0 ∧ LX6_fillDigits_9 G d rc rs p0 l1 x3 (x4 + 1) (l5 / x3.toInt64) (x7 + 1) M Q)))) : LX6_fillDigits_9 G d rc rs p0 l1 x3 x4 l5 x7 M Q := by
  show Wk G (d + 1) rc rs mX6_fillDigits 9 _ _ M Q
  refine r_iload (pc := 9) (i := 7) dX6_fillDigits_9 rfl ?_
  refine r_bipush (pc := 11) (v := 64) dX6_fillDigits_11 (by decide) ?_
  refine r_icmp_ge (pc := 13) (tgt := 44) dX6_fillDigits_13 (by decide) (fun c1 => ?_) (fun c1 => ?_)
  · replace h := h.1 c1
    refine r_lload_n (pc := 44) (i := 1) dX6_fillDigits_44 rfl rfl ?_
    refine r_lstore (pc := 45) (i := 5) dX6_fillDigits_45 rfl (Nat.le_of_ble_eq_true rfl) ?_
    refine r_iload (pc := 47) (i := 4) dX6_fillDigits_47 rfl ?_
    refine r_iconst (pc := 49) (v := 1) dX6_fillDigits_49 (by decide) ?_
    refine r_isub (pc := 50) dX6_fillDigits_50 ?_
    refine r_istore (pc := 51) (i := 7) dX6_fillDigits_51 rfl (Nat.le_of_ble_eq_true rfl) ?_
    exact h
  · replace h := h.2 c1
    refine r_lload (pc := 16) (i := 5) dX6_fillDigits_16 rfl ?_
    refine r_lconst (pc := 18) (v := 0) dX6_fillDigits_18 (by decide) ?_
    refine r_lcmp (pc := 19) dX6_fillDigits_19 ?_
    refine r_if_le (pc := 20) (tgt := 44) dX6_fillDigits_20 (by decide) (fun c2 => ?_) (fun c2 => ?_)
    · replace h := h.1 c2
      refine r_lload_n (pc := 44) (i := 1) dX6_fillDigits_44 rfl rfl ?_
      refine r_lstore (pc := 45) (i := 5) dX6_fillDigits_45 rfl (Nat.le_of_ble_eq_true rfl) ?_
      refine r_iload (pc := 47) (i := 4) dX6_fillDigits_47 rfl ?_
      refine r_iconst (pc := 49) (v := 1) dX6_fillDigits_49 (by decide) ?_
      refine r_isub (pc := 50) dX6_fillDigits_50 ?_
      refine r_istore (pc := 51) (i := 7) dX6_fillDigits_51 rfl (Nat.le_of_ble_eq_true rfl) ?_
      exact h
    · replace h := h.2 c2
      refine r_iload_n (pc := 23) (i := 3) dX6_fillDigits_23 rfl rfl ?_
      refine r_iconst (pc := 24) (v := 1) dX6_fillDigits_24 (by decide) ?_
      refine r_icmp_le (pc := 25) (tgt := 44) dX6_fillDigits_25 (by decide) (fun c3 => ?_) (fun c3 => ?_)
      · replace h := h.1 c3
        refine r_lload_n (pc := 44) (i := 1) dX6_fillDigits_44 rfl rfl ?_
        refine r_lstore (pc := 45) (i := 5) dX6_fillDigits_45 rfl (Nat.le_of_ble_eq_true rfl) ?_
        refine r_iload (pc := 47) (i := 4) dX6_fillDigits_47 rfl ?_
        refine r_iconst (pc := 49) (v := 1) dX6_fillDigits_49 (by decide) ?_
        refine r_isub (pc := 50) dX6_fillDigits_50 ?_
        refine r_istore (pc := 51) (i := 7) dX6_fillDigits_51 rfl (Nat.le_of_ble_eq_true rfl) ?_
        exact h
      · replace h := h.2 c3
        refine r_lload (pc := 28) (i := 5) dX6_fillDigits_28 rfl ?_
        refine r_iload_n (pc := 30) (i := 3) dX6_fillDigits_30 rfl rfl ?_
        refine r_i2l (pc := 31) dX6_fillDigits_31 ?_
        obtain ⟨n4, h⟩ := h
        refine r_ldiv (pc := 32) dX6_fillDigits_32 n4 ?_
        refine r_lstore (pc := 33) (i := 5) dX6_fillDigits_33 rfl (Nat.le_of_ble_eq_true rfl) ?_
        refine r_iinc (pc := 35) (i := 4) (v := _ + 1) dX6_fillDigits_35 rfl rfl rfl ?_
        refine r_iinc (pc := 38) (i := 7) (v := _ + 1) dX6_fillDigits_38 rfl rfl rfl ?_
        refine r_goto (pc := 41) (tgt := 9) dX6_fillDigits_41 (by decide) ?_
        exact h
theorem vX6_fillDigits_53 {G : GG} {d rc rs : Nat} (p0 : Nat) (l1 : Int64) (x3 : Int32) (x4 : Int32) (l5 : Int64) (x7 : Int32)  {M : Mem} {Q : Option Value → Mem → Prop} (h : (x7 < 0 → Q (some (.int x4)) M) ∧ (¬ x7 < 0 → (x3 ≤ 1 → Q (some (.int x4)) M) ∧ (¬ x3 ≤ 1 → (x_h M p0).1 = 22 ∧ (∃ b4, x_r M p0 4 = some b4 ∧ ¬ x3.toInt64 = 0 ∧ (x_h M b4).1 = 1 ∧ vp_in x7 (x_h M b4).2 ∧ (∀ M8, M8 = x_si M b4 x7.toNatClampNeg ((l5 - l5 / x3.toInt64 * x3.toInt64).toInt32) → ¬ x3.toInt64 = 0 ∧ LX6_fillDigits_53 G d rc rs p0 l1 x3 x4 (l5 / x3.toInt64) (x7 + (-1)) M8 Q))))) : LX6_fillDigits_53 G d rc rs p0 l1 x3 x4 l5 x7 M Q := by
  show Wk G (d + 1) rc rs mX6_fillDigits 53 _ _ M Q
  refine r_iload (pc := 53) (i := 7) dX6_fillDigits_53 rfl ?_
  refine r_if_lt (pc := 55) (tgt := 89) dX6_fillDigits_55 (by decide) (fun c1 => ?_) (fun c1 => ?_)
  · replace h := h.1 c1
    refine r_iload (pc := 89) (i := 4) dX6_fillDigits_89 rfl ?_
    exact r_iret (pc := 91) dX6_fillDigits_91 rfl h
  · replace h := h.2 c1
    refine r_iload_n (pc := 58) (i := 3) dX6_fillDigits_58 rfl rfl ?_
    refine r_iconst (pc := 59) (v := 1) dX6_fillDigits_59 (by decide) ?_
    refine r_icmp_le (pc := 60) (tgt := 89) dX6_fillDigits_60 (by decide) (fun c2 => ?_) (fun c2 => ?_)
    · replace h := h.1 c2
      refine r_iload (pc := 89) (i := 4) dX6_fillDigits_89 rfl ?_
      exact r_iret (pc := 91) dX6_fillDigits_91 rfl h
    · replace h := h.2 c2
      refine r_aload_n (pc := 63) (i := 0) dX6_fillDigits_63 rfl rfl ?_
      obtain ⟨k3, h⟩ := h
      obtain ⟨b4, hb4, h⟩ := h
      refine r_getr (pc := 64) flX6_25 dX6_fillDigits_64 rfl k3 hb4 ?_
      refine r_iload (pc := 67) (i := 7) dX6_fillDigits_67 rfl ?_
      refine r_lload (pc := 69) (i := 5) dX6_fillDigits_69 rfl ?_
      refine r_iload_n (pc := 71) (i := 3) dX6_fillDigits_71 rfl rfl ?_
      refine r_i2l (pc := 72) dX6_fillDigits_72 ?_
      obtain ⟨n5, h⟩ := h
      refine r_lrem (pc := 73) dX6_fillDigits_73 n5 ?_
      refine r_l2i (pc := 74) dX6_fillDigits_74 ?_
      obtain ⟨k6, h⟩ := h
      obtain ⟨i7, h⟩ := h
      refine r_iast (pc := 75) dX6_fillDigits_75 k6 i7 ?_
      replace h := h _ rfl
      refine r_lload (pc := 76) (i := 5) dX6_fillDigits_76 rfl ?_
      refine r_iload_n (pc := 78) (i := 3) dX6_fillDigits_78 rfl rfl ?_
      refine r_i2l (pc := 79) dX6_fillDigits_79 ?_
      obtain ⟨n9, h⟩ := h
      refine r_ldiv (pc := 80) dX6_fillDigits_80 n9 ?_
      refine r_lstore (pc := 81) (i := 5) dX6_fillDigits_81 rfl (Nat.le_of_ble_eq_true rfl) ?_
      refine r_iinc (pc := 83) (i := 7) (v := _ + (-1)) dX6_fillDigits_83 rfl rfl rfl ?_
      refine r_goto (pc := 86) (tgt := 53) dX6_fillDigits_86 (by decide) ?_
      exact h
abbrev LX6_fillHeads_9 (G : GG) (d rc rs : Nat) (p0 : Nat) (p1 : Nat) (x2 : Int32) (x3 : Int32) (M : Mem) (Q : Option Value → Mem → Prop) : Prop := Wk G (d + 1) rc rs mX6_fillHeads 9 [some (.ref p0), some (.ref p1), some (.int x2), some (.int x3)] [] M Q
theorem eX6_fillHeads {G : GG} {d rc rs : Nat} (o : Nat) (a1 : Nat) (a2 : Int32)  {M : Mem} {Q : Option Value → Mem → Prop} (h : (x_h M o).1 = 22 ∧ (∃ b2, x_r M o 5 = some b2 ∧ (x_h M b2).1 = 1 ∧ vp_in 0 (x_h M b2).2 ∧ (∀ M5, M5 = x_si M b2 (0 : Int32).toNatClampNeg 0 → LX6_fillHeads_9 G d rc rs o a1 a2 0 M5 Q))) : Call G (d + 1) rc rs mX6_fillHeads [.ref o, .ref a1, .int a2] M Q := by
  refine call_of (by decide) (Nat.le_of_ble_eq_true rfl) ?_
  show Wk G (d + 1) rc rs mX6_fillHeads 0 [some (.ref o), some (.ref a1), some (.int a2), none] [] M Q
  refine r_aload_n (pc := 0) (i := 0) dX6_fillHeads_0 rfl rfl ?_
  obtain ⟨k1, h⟩ := h
  obtain ⟨b2, hb2, h⟩ := h
  refine r_getr (pc := 1) flX6_28 dX6_fillHeads_1 rfl k1 hb2 ?_
  refine r_iconst (pc := 4) (v := 0) dX6_fillHeads_4 (by decide) ?_
  refine r_iconst (pc := 5) (v := 0) dX6_fillHeads_5 (by decide) ?_
  obtain ⟨k3, h⟩ := h
  obtain ⟨i4, h⟩ := h
  refine r_iast (pc := 6) dX6_fillHeads_6 k3 i4 ?_
  replace h := h _ rfl
  refine r_iconst (pc := 7) (v := 0) dX6_fillHeads_7 (by decide) ?_
  refine r_istore_n (pc := 8) (i := 3) dX6_fillHeads_8 rfl rfl (Nat.le_of_ble_eq_true rfl) ?_
  exact h
theorem vX6_fillHeads_9 {G : GG} {d rc rs : Nat} (p0 : Nat) (p1 : Nat) (x2 : Int32) (x3 : Int32)  {M : Mem} {Q : Option Value → Mem → Prop} (h : (x2 ≤ x3 → Q none M) ∧ (¬ x2 ≤ x3 → (64 ≤ x3 → Q none M) ∧ (¬ 64 ≤ x3 → (x_h M p0).1 = 22 ∧ (∃ b4, x_r M p0 5 = some b4 ∧ (x_h M b4).1 = 1 ∧ vp_in x3 (x_h M b4).2 ∧ (∃ b7, x_r M p0 4 = some b7 ∧ (x_h M b7).1 = 1 ∧ vp_in x3 (x_h M b7).2 ∧ (x_h M p1).1 = 17 ∧ Call G d 0 0 mX1_after [.ref p1, .int (x_i M b4 x3.toNatClampNeg), .int (x_i M b7 x3.toNatClampNeg)] M (fun r11 M12 => ∃ v13 : Int32, r11 = some (.int v13) ∧ (x_h M12 b4).1 = 1 ∧ vp_in (x3 + 1) (x_h M12 b4).2 ∧ (∀ M16, M16 = x_si M12 b4 (x3 + 1).toNatClampNeg v13 → LX6_fillHeads_9 G d rc rs p0 p1 x2 (x3 + 1) M16 Q))))))) : LX6_fillHeads_9 G d rc rs p0 p1 x2 x3 M Q := by
  show Wk G (d + 1) rc rs mX6_fillHeads 9 _ _ M Q
  refine r_iload_n (pc := 9) (i := 3) dX6_fillHeads_9 rfl rfl ?_
  refine r_iload_n (pc := 10) (i := 2) dX6_fillHeads_10 rfl rfl ?_
  refine r_icmp_ge (pc := 11) (tgt := 50) dX6_fillHeads_11 (by decide) (fun c1 => ?_) (fun c1 => ?_)
  · replace h := h.1 c1
    exact r_vret (pc := 50) dX6_fillHeads_50 rfl h
  · replace h := h.2 c1
    refine r_iload_n (pc := 14) (i := 3) dX6_fillHeads_14 rfl rfl ?_
    refine r_bipush (pc := 15) (v := 64) dX6_fillHeads_15 (by decide) ?_
    refine r_icmp_ge (pc := 17) (tgt := 50) dX6_fillHeads_17 (by decide) (fun c2 => ?_) (fun c2 => ?_)
    · replace h := h.1 c2
      exact r_vret (pc := 50) dX6_fillHeads_50 rfl h
    · replace h := h.2 c2
      refine r_aload_n (pc := 20) (i := 0) dX6_fillHeads_20 rfl rfl ?_
      obtain ⟨k3, h⟩ := h
      obtain ⟨b4, hb4, h⟩ := h
      refine r_getr (pc := 21) flX6_28 dX6_fillHeads_21 rfl k3 hb4 ?_
      refine r_iload_n (pc := 24) (i := 3) dX6_fillHeads_24 rfl rfl ?_
      refine r_iconst (pc := 25) (v := 1) dX6_fillHeads_25 (by decide) ?_
      refine r_iadd (pc := 26) dX6_fillHeads_26 ?_
      refine r_aload_n (pc := 27) (i := 1) dX6_fillHeads_27 rfl rfl ?_
      refine r_aload_n (pc := 28) (i := 0) dX6_fillHeads_28 rfl rfl ?_
      refine r_getr (pc := 29) flX6_28 dX6_fillHeads_29 rfl k3 hb4 ?_
      refine r_iload_n (pc := 32) (i := 3) dX6_fillHeads_32 rfl rfl ?_
      obtain ⟨k5, h⟩ := h
      obtain ⟨i6, h⟩ := h
      refine r_iald (pc := 33) dX6_fillHeads_33 k5 i6 ?_
      refine r_aload_n (pc := 34) (i := 0) dX6_fillHeads_34 rfl rfl ?_
      obtain ⟨b7, hb7, h⟩ := h
      refine r_getr (pc := 35) flX6_25 dX6_fillHeads_35 rfl k3 hb7 ?_
      refine r_iload_n (pc := 38) (i := 3) dX6_fillHeads_38 rfl rfl ?_
      obtain ⟨k8, h⟩ := h
      obtain ⟨i9, h⟩ := h
      refine r_iald (pc := 39) dX6_fillHeads_39 k8 i9 ?_
      obtain ⟨k10, h⟩ := h
      refine r_callV (pc := 40) (ci := 1) (as := [_, _]) (st := [_, _]) okX1_after lkX6_60 inX1_after seX1_after ⟨_, rfl, rfl⟩ dX6_fillHeads_40 rfl k10 (Nat.le_of_ble_eq_true rfl) (Nat.zero_le _) (Nat.zero_le _) (Call.mono h (fun r11 M12 h => ?_))
      obtain ⟨v13, rfl, h⟩ := h
      obtain ⟨k14, h⟩ := h
      obtain ⟨i15, h⟩ := h
      refine r_iast (pc := 43) dX6_fillHeads_43 k14 i15 ?_
      replace h := h _ rfl
      refine r_iinc (pc := 44) (i := 3) (v := _ + 1) dX6_fillHeads_44 rfl rfl rfl ?_
      refine r_goto (pc := 47) (tgt := 9) dX6_fillHeads_47 (by decide) ?_
      exact h
abbrev LX6_head_5 (G : GG) (d rc rs : Nat) (p0 : Nat) (x1 : Int32) (x2 : Int32) (l3 : Int64) (x5 : Int32) (M : Mem) (Q : Option Value → Mem → Prop) : Prop := Wk G (d + 1) rc rs mX6_head 5 [some (.ref p0), some (.int x1), some (.int x2), some (.long l3), none, some (.int x5)] [] M Q
theorem eX6_head {G : GG} {d rc rs : Nat} (o : Nat) (a1 : Int32) (a2 : Int32)  {M : Mem} {Q : Option Value → Mem → Prop} (h : LX6_head_5 G d rc rs o a1 a2 0 0 M Q) : Call G (d + 1) rc rs mX6_head [.ref o, .int a1, .int a2] M Q := by
  refine call_of (by decide) (Nat.le_of_ble_eq_true rfl) ?_
  show Wk G (d + 1) rc rs mX6_head 0 [some (.ref o), some (.int a1), some (.int a2), none, none, none] [] M Q
  refine r_lconst (pc := 0) (v := 0) dX6_head_0 (by decide) ?_
  refine r_lstore_n (pc := 1) (i := 3) dX6_head_1 rfl rfl (Nat.le_of_ble_eq_true rfl) ?_
  refine r_iconst (pc := 2) (v := 0) dX6_head_2 (by decide) ?_
  refine r_istore (pc := 3) (i := 5) dX6_head_3 rfl (Nat.le_of_ble_eq_true rfl) ?_
  exact h
theorem vX6_head_5 {G : GG} {d rc rs : Nat} (p0 : Nat) (x1 : Int32) (x2 : Int32) (l3 : Int64) (x5 : Int32)  {M : Mem} {Q : Option Value → Mem → Prop} (h : (x1 ≤ x5 → Q (some (.long l3)) M) ∧ (¬ x1 ≤ x5 → (64 ≤ x5 → Q (some (.long l3)) M) ∧ (¬ 64 ≤ x5 → (x_h M p0).1 = 22 ∧ (∃ b4, x_r M p0 4 = some b4 ∧ (x_h M b4).1 = 1 ∧ vp_in x5 (x_h M b4).2 ∧ Call G d 0 0 mX6_longer [.long l3, .int (x_i M b4 x5.toNatClampNeg), .int x2] M (fun r7 M8 => ∃ v9 : Int64, r7 = some (.long v9) ∧ LX6_head_5 G d rc rs p0 x1 x2 v9 (x5 + 1) M8 Q))))) : LX6_head_5 G d rc rs p0 x1 x2 l3 x5 M Q := by
  show Wk G (d + 1) rc rs mX6_head 5 _ _ M Q
  refine r_iload (pc := 5) (i := 5) dX6_head_5 rfl ?_
  refine r_iload_n (pc := 7) (i := 1) dX6_head_7 rfl rfl ?_
  refine r_icmp_ge (pc := 8) (tgt := 37) dX6_head_8 (by decide) (fun c1 => ?_) (fun c1 => ?_)
  · replace h := h.1 c1
    refine r_lload_n (pc := 37) (i := 3) dX6_head_37 rfl rfl ?_
    exact r_lret (pc := 38) dX6_head_38 rfl h
  · replace h := h.2 c1
    refine r_iload (pc := 11) (i := 5) dX6_head_11 rfl ?_
    refine r_bipush (pc := 13) (v := 64) dX6_head_13 (by decide) ?_
    refine r_icmp_ge (pc := 15) (tgt := 37) dX6_head_15 (by decide) (fun c2 => ?_) (fun c2 => ?_)
    · replace h := h.1 c2
      refine r_lload_n (pc := 37) (i := 3) dX6_head_37 rfl rfl ?_
      exact r_lret (pc := 38) dX6_head_38 rfl h
    · replace h := h.2 c2
      refine r_lload_n (pc := 18) (i := 3) dX6_head_18 rfl rfl ?_
      refine r_aload_n (pc := 19) (i := 0) dX6_head_19 rfl rfl ?_
      obtain ⟨k3, h⟩ := h
      obtain ⟨b4, hb4, h⟩ := h
      refine r_getr (pc := 20) flX6_25 dX6_head_20 rfl k3 hb4 ?_
      refine r_iload (pc := 23) (i := 5) dX6_head_23 rfl ?_
      obtain ⟨k5, h⟩ := h
      obtain ⟨i6, h⟩ := h
      refine r_iald (pc := 25) dX6_head_25 k5 i6 ?_
      refine r_iload_n (pc := 26) (i := 2) dX6_head_26 rfl rfl ?_
      refine r_callS (pc := 27) (as := [_, _, _]) (st := []) okX6_longer lkX6_68 stX6_longer dX6_head_27 rfl (Nat.le_of_ble_eq_true rfl) (Nat.zero_le _) (Nat.zero_le _) (Call.mono h (fun r7 M8 h => ?_))
      obtain ⟨v9, rfl, h⟩ := h
      refine r_lstore_n (pc := 30) (i := 3) dX6_head_30 rfl rfl (Nat.le_of_ble_eq_true rfl) ?_
      refine r_iinc (pc := 31) (i := 5) (v := _ + 1) dX6_head_31 rfl rfl rfl ?_
      refine r_goto (pc := 34) (tgt := 5) dX6_head_34 (by decide) ?_
      exact h
abbrev LX6_ended_26 (G : GG) (d rc rs : Nat) (p0 : Nat) (p1 : Nat) (l2 : Int64) (x4 : Int32) (x5 : Int32) (x6 : Int32) (x7 : Int32) (l8 : Int64) (x10 : Int32) (x11 : Int32) (z12 : Option Value) (M : Mem) (Q : Option Value → Mem → Prop) : Prop := Wk G (d + 1) rc rs mX6_ended 26 [some (.ref p0), some (.ref p1), some (.long l2), none, some (.int x4), some (.int x5), some (.int x6), some (.int x7), some (.long l8), none, some (.int x10), some (.int x11), z12] [] M Q
theorem eX6_ended {G : GG} {d rc rs : Nat} (o : Nat) (a1 : Nat) (a2 : Int64) (a3 : Int32) (a4 : Int32) (a5 : Int32) (a6 : Int32)  {M : Mem} {Q : Option Value → Mem → Prop} (h : Call G d 0 0 mX6_longer [.long a2, .int a4, .int a6] M (fun r1 M2 => ∃ v3 : Int64, r1 = some (.long v3) ∧ (x_h M2 a1).1 = 17 ∧ Call G d 0 0 mX1_after [.ref a1, .int a3, .int a4] M2 (fun r5 M6 => ∃ v7 : Int32, r5 = some (.int v7) ∧ LX6_ended_26 G d rc rs o a1 a2 a3 a4 a5 a6 v3 v7 (a5 - 2) none M6 Q))) : Call G (d + 1) rc rs mX6_ended [.ref o, .ref a1, .long a2, .int a3, .int a4, .int a5, .int a6] M Q := by
  refine call_of (by decide) (Nat.le_of_ble_eq_true rfl) ?_
  show Wk G (d + 1) rc rs mX6_ended 0 [some (.ref o), some (.ref a1), some (.long a2), none, some (.int a3), some (.int a4), some (.int a5), some (.int a6), none, none, none, none, none] [] M Q
  refine r_lload_n (pc := 0) (i := 2) dX6_ended_0 rfl rfl ?_
  refine r_iload (pc := 1) (i := 5) dX6_ended_1 rfl ?_
  refine r_iload (pc := 3) (i := 7) dX6_ended_3 rfl ?_
  refine r_callS (pc := 5) (as := [_, _, _]) (st := []) okX6_longer lkX6_68 stX6_longer dX6_ended_5 rfl (Nat.le_of_ble_eq_true rfl) (Nat.zero_le _) (Nat.zero_le _) (Call.mono h (fun r1 M2 h => ?_))
  obtain ⟨v3, rfl, h⟩ := h
  refine r_lstore (pc := 8) (i := 8) dX6_ended_8 rfl (Nat.le_of_ble_eq_true rfl) ?_
  refine r_aload_n (pc := 10) (i := 1) dX6_ended_10 rfl rfl ?_
  refine r_iload (pc := 11) (i := 4) dX6_ended_11 rfl ?_
  refine r_iload (pc := 13) (i := 5) dX6_ended_13 rfl ?_
  obtain ⟨k4, h⟩ := h
  refine r_callV (pc := 15) (ci := 1) (as := [_, _]) (st := []) okX1_after lkX6_60 inX1_after seX1_after ⟨_, rfl, rfl⟩ dX6_ended_15 rfl k4 (Nat.le_of_ble_eq_true rfl) (Nat.zero_le _) (Nat.zero_le _) (Call.mono h (fun r5 M6 h => ?_))
  obtain ⟨v7, rfl, h⟩ := h
  refine r_istore (pc := 18) (i := 10) dX6_ended_18 rfl (Nat.le_of_ble_eq_true rfl) ?_
  refine r_iload (pc := 20) (i := 6) dX6_ended_20 rfl ?_
  refine r_iconst (pc := 22) (v := 2) dX6_ended_22 (by decide) ?_
  refine r_isub (pc := 23) dX6_ended_23 ?_
  refine r_istore (pc := 24) (i := 11) dX6_ended_24 rfl (Nat.le_of_ble_eq_true rfl) ?_
  exact h
theorem vX6_ended_26 {G : GG} {d rc rs : Nat} (p0 : Nat) (p1 : Nat) (l2 : Int64) (x4 : Int32) (x5 : Int32) (x6 : Int32) (x7 : Int32) (l8 : Int64) (x10 : Int32) (x11 : Int32) (z12 : Option Value) (hz12 : c1 z12 = true) {M : Mem} {Q : Option Value → Mem → Prop} (h : (x11 < 0 → ((lg_cmp l8 4611686018427387904) ≤ 0 → Q (some (.long l8)) M) ∧ (¬ (lg_cmp l8 4611686018427387904) ≤ 0 → Q (some (.long (-3))) M)) ∧ (¬ x11 < 0 → (x_h M p0).1 = 22 ∧ Call G d 0 0 mX6_openDigit [.ref p0, .ref p1, .int x10, .int 0, .int x11, .int x7] M (fun r4 M5 => ∃ v6 : Int32, r4 = some (.int v6) ∧ Call G d 0 0 mJ9_max_7cf53 [.int 0, .int v6] M5 (fun r7 M8 => ∃ v9 : Int32, r7 = some (.int v9) ∧ Call G d 0 0 mX6_longer [.long l8, .int v9, .int x7] M8 (fun r10 M11 => ∃ v12 : Int64, r10 = some (.long v12) ∧ (x_h M11 p1).1 = 17 ∧ Call G d 0 0 mX1_after [.ref p1, .int x10, .int v9] M11 (fun r14 M15 => ∃ v16 : Int32, r14 = some (.int v16) ∧ LX6_ended_26 G d rc rs p0 p1 l2 x4 x5 x6 x7 v12 v16 (x11 + (-1)) (some (.int v9)) M15 Q)))))) : LX6_ended_26 G d rc rs p0 p1 l2 x4 x5 x6 x7 l8 x10 x11 z12 M Q := by
  show Wk G (d + 1) rc rs mX6_ended 26 _ _ M Q
  refine r_iload (pc := 26) (i := 11) dX6_ended_26 rfl ?_
  refine r_if_lt (pc := 28) (tgt := 76) dX6_ended_28 (by decide) (fun c1 => ?_) (fun c1 => ?_)
  · replace h := h.1 c1
    refine r_lload (pc := 76) (i := 8) dX6_ended_76 rfl ?_
    refine r_ldc2 (pc := 78) (v := 4611686018427387904) dX6_ended_78 ww_1017 ?_
    refine r_lcmp (pc := 81) dX6_ended_81 ?_
    refine r_if_le (pc := 82) (tgt := 91) dX6_ended_82 (by decide) (fun c2 => ?_) (fun c2 => ?_)
    · replace h := h.1 c2
      refine r_lload (pc := 91) (i := 8) dX6_ended_91 rfl ?_
      exact r_lret (pc := 93) dX6_ended_93 rfl h
    · replace h := h.2 c2
      refine r_ldc2 (pc := 85) (v := (-3)) dX6_ended_85 ww_1018 ?_
      refine r_goto (pc := 88) (tgt := 93) dX6_ended_88 (by decide) ?_
      exact r_lret (pc := 93) dX6_ended_93 rfl h
  · replace h := h.2 c1
    refine r_iconst (pc := 31) (v := 0) dX6_ended_31 (by decide) ?_
    refine r_aload_n (pc := 32) (i := 0) dX6_ended_32 rfl rfl ?_
    refine r_aload_n (pc := 33) (i := 1) dX6_ended_33 rfl rfl ?_
    refine r_iload (pc := 34) (i := 10) dX6_ended_34 rfl ?_
    refine r_iconst (pc := 36) (v := 0) dX6_ended_36 (by decide) ?_
    refine r_iload (pc := 37) (i := 11) dX6_ended_37 rfl ?_
    refine r_iload (pc := 39) (i := 7) dX6_ended_39 rfl ?_
    obtain ⟨k3, h⟩ := h
    refine r_callV (pc := 41) (ci := 6) (as := [_, _, _, _, _]) (st := [_]) okX6_openDigit lkX6_87 inX6_openDigit seX6_openDigit ⟨_, rfl, rfl⟩ dX6_ended_41 rfl k3 (Nat.le_of_ble_eq_true rfl) (Nat.zero_le _) (Nat.zero_le _) (Call.mono h (fun r4 M5 h => ?_))
    obtain ⟨v6, rfl, h⟩ := h
    refine r_callS (pc := 44) (as := [_, _]) (st := []) okJ9_max_7cf53 lkX6_99 stJ9_max_7cf53 dX6_ended_44 rfl (Nat.le_of_ble_eq_true rfl) (Nat.zero_le _) (Nat.zero_le _) (Call.mono h (fun r7 M8 h => ?_))
    obtain ⟨v9, rfl, h⟩ := h
    refine r_istore (pc := 47) (i := 12) dX6_ended_47 rfl (Nat.le_of_ble_eq_true rfl) ?_
    refine r_lload (pc := 49) (i := 8) dX6_ended_49 rfl ?_
    refine r_iload (pc := 51) (i := 12) dX6_ended_51 rfl ?_
    refine r_iload (pc := 53) (i := 7) dX6_ended_53 rfl ?_
    refine r_callS (pc := 55) (as := [_, _, _]) (st := []) okX6_longer lkX6_68 stX6_longer dX6_ended_55 rfl (Nat.le_of_ble_eq_true rfl) (Nat.zero_le _) (Nat.zero_le _) (Call.mono h (fun r10 M11 h => ?_))
    obtain ⟨v12, rfl, h⟩ := h
    refine r_lstore (pc := 58) (i := 8) dX6_ended_58 rfl (Nat.le_of_ble_eq_true rfl) ?_
    refine r_aload_n (pc := 60) (i := 1) dX6_ended_60 rfl rfl ?_
    refine r_iload (pc := 61) (i := 10) dX6_ended_61 rfl ?_
    refine r_iload (pc := 63) (i := 12) dX6_ended_63 rfl ?_
    obtain ⟨k13, h⟩ := h
    refine r_callV (pc := 65) (ci := 1) (as := [_, _]) (st := []) okX1_after lkX6_60 inX1_after seX1_after ⟨_, rfl, rfl⟩ dX6_ended_65 rfl k13 (Nat.le_of_ble_eq_true rfl) (Nat.zero_le _) (Nat.zero_le _) (Call.mono h (fun r14 M15 h => ?_))
    obtain ⟨v16, rfl, h⟩ := h
    refine r_istore (pc := 68) (i := 10) dX6_ended_68 rfl (Nat.le_of_ble_eq_true rfl) ?_
    refine r_iinc (pc := 70) (i := 11) (v := _ + (-1)) dX6_ended_70 rfl rfl rfl ?_
    refine r_goto (pc := 73) (tgt := 26) dX6_ended_73 (by decide) ?_
    exact h
abbrev LX6_howMany_2 (G : GG) (d rc rs : Nat) (p0 : Nat) (p1 : Nat) (x2 : Int32) (x3 : Int32) (M : Mem) (Q : Option Value → Mem → Prop) : Prop := Wk G (d + 1) rc rs mX6_howMany 2 [some (.ref p0), some (.ref p1), some (.int x2), some (.int x3)] [] M Q
theorem eX6_howMany {G : GG} {d rc rs : Nat} (o : Nat) (a1 : Nat) (a2 : Int32)  {M : Mem} {Q : Option Value → Mem → Prop} (h : LX6_howMany_2 G d rc rs o a1 a2 0 M Q) : Call G (d + 1) rc rs mX6_howMany [.ref o, .ref a1, .int a2] M Q := by
  refine call_of (by decide) (Nat.le_of_ble_eq_true rfl) ?_
  show Wk G (d + 1) rc rs mX6_howMany 0 [some (.ref o), some (.ref a1), some (.int a2), none] [] M Q
  refine r_iconst (pc := 0) (v := 0) dX6_howMany_0 (by decide) ?_
  refine r_istore_n (pc := 1) (i := 3) dX6_howMany_1 rfl rfl (Nat.le_of_ble_eq_true rfl) ?_
  exact h
theorem vX6_howMany_2 {G : GG} {d rc rs : Nat} (p0 : Nat) (p1 : Nat) (x2 : Int32) (x3 : Int32)  {M : Mem} {Q : Option Value → Mem → Prop} (h : (x_h M p0).1 = 22 ∧ (∃ b2, x_r M p0 6 = some b2 ∧ (1 ≤ (x_h M b2).1 ∧ (x_h M b2).1 < 8) ∧ ((nI (x_h M b2).2) ≤ x3 → Call G d 0 0 mX6_countAll [.ref p0, .ref p1, .int 1, .int x2] M (fun r5 M6 => ∃ v7 : Int64, r5 = some (.long v7) ∧ Q (some (.long v7)) M6)) ∧ (¬ (nI (x_h M b2).2) ≤ x3 → (x_h M p1).1 = 17 ∧ Call G d 0 0 mX1_mark [.ref p1, .int x3] M (fun r9 M10 => ∃ v11 : Int32, r9 = some (.int v11) ∧ (x_h M10 b2).1 = 2 ∧ vp_in x3 (x_h M10 b2).2 ∧ (∀ M14, M14 = x_sl M10 b2 x3.toNatClampNeg v11.toInt64 → LX6_howMany_2 G d rc rs p0 p1 x2 (x3 + 1) M14 Q))))) : LX6_howMany_2 G d rc rs p0 p1 x2 x3 M Q := by
  show Wk G (d + 1) rc rs mX6_howMany 2 _ _ M Q
  refine r_iload_n (pc := 2) (i := 3) dX6_howMany_2 rfl rfl ?_
  refine r_aload_n (pc := 3) (i := 0) dX6_howMany_3 rfl rfl ?_
  obtain ⟨k1, h⟩ := h
  obtain ⟨b2, hb2, h⟩ := h
  refine r_getr (pc := 4) flX6_31 dX6_howMany_4 rfl k1 hb2 ?_
  obtain ⟨k3, h⟩ := h
  refine r_alen (pc := 7) dX6_howMany_7 rfl k3 ?_
  refine r_icmp_ge (pc := 8) (tgt := 29) dX6_howMany_8 (by decide) (fun c4 => ?_) (fun c4 => ?_)
  · replace h := h.1 c4
    refine r_aload_n (pc := 29) (i := 0) dX6_howMany_29 rfl rfl ?_
    refine r_aload_n (pc := 30) (i := 1) dX6_howMany_30 rfl rfl ?_
    refine r_iconst (pc := 31) (v := 1) dX6_howMany_31 (by decide) ?_
    refine r_iload_n (pc := 32) (i := 2) dX6_howMany_32 rfl rfl ?_
    refine r_callV (pc := 33) (ci := 6) (as := [_, _, _]) (st := []) okX6_countAll lkX6_104 inX6_countAll seX6_countAll ⟨_, rfl, rfl⟩ dX6_howMany_33 rfl k1 (Nat.le_of_ble_eq_true rfl) (Nat.zero_le _) (Nat.zero_le _) (Call.mono h (fun r5 M6 h => ?_))
    obtain ⟨v7, rfl, h⟩ := h
    exact r_lret (pc := 36) dX6_howMany_36 rfl h
  · replace h := h.2 c4
    refine r_aload_n (pc := 11) (i := 0) dX6_howMany_11 rfl rfl ?_
    refine r_getr (pc := 12) flX6_31 dX6_howMany_12 rfl k1 hb2 ?_
    refine r_iload_n (pc := 15) (i := 3) dX6_howMany_15 rfl rfl ?_
    refine r_aload_n (pc := 16) (i := 1) dX6_howMany_16 rfl rfl ?_
    refine r_iload_n (pc := 17) (i := 3) dX6_howMany_17 rfl rfl ?_
    obtain ⟨k8, h⟩ := h
    refine r_callV (pc := 18) (ci := 1) (as := [_]) (st := [_, _]) okX1_mark lkX6_52 inX1_mark seX1_mark ⟨_, rfl, rfl⟩ dX6_howMany_18 rfl k8 (Nat.le_of_ble_eq_true rfl) (Nat.zero_le _) (Nat.zero_le _) (Call.mono h (fun r9 M10 h => ?_))
    obtain ⟨v11, rfl, h⟩ := h
    refine r_i2l (pc := 21) dX6_howMany_21 ?_
    obtain ⟨k12, h⟩ := h
    obtain ⟨i13, h⟩ := h
    refine r_last (pc := 22) dX6_howMany_22 k12 i13 ?_
    replace h := h _ rfl
    refine r_iinc (pc := 23) (i := 3) (v := _ + 1) dX6_howMany_23 rfl rfl rfl ?_
    refine r_goto (pc := 26) (tgt := 2) dX6_howMany_26 (by decide) ?_
    exact h
abbrev LX6_howManyFirst_3 (G : GG) (d rc rs : Nat) (p0 : Nat) (p1 : Nat) (l2 : Int64) (x4 : Int32) (x5 : Int32) (M : Mem) (Q : Option Value → Mem → Prop) : Prop := Wk G (d + 1) rc rs mX6_howManyFirst 3 [some (.ref p0), some (.ref p1), some (.long l2), none, some (.int x4), some (.int x5), none, none, none] [] M Q
abbrev LX6_howManyFirst_48 (G : GG) (d rc rs : Nat) (p0 : Nat) (p1 : Nat) (l2 : Int64) (x4 : Int32) (x5 : Int32) (x6 : Int32) (z7 : Option Value) (z8 : Option Value) (M : Mem) (Q : Option Value → Mem → Prop) : Prop := Wk G (d + 1) rc rs mX6_howManyFirst 48 [some (.ref p0), some (.ref p1), some (.long l2), none, some (.int x4), some (.int x5), some (.int x6), z7, z8] [] M Q
abbrev LX6_howManyFirst_56 (G : GG) (d rc rs : Nat) (p0 : Nat) (p1 : Nat) (l2 : Int64) (x4 : Int32) (x5 : Int32) (x6 : Int32) (x7 : Int32) (z8 : Option Value) (M : Mem) (Q : Option Value → Mem → Prop) : Prop := Wk G (d + 1) rc rs mX6_howManyFirst 56 [some (.ref p0), some (.ref p1), some (.long l2), none, some (.int x4), some (.int x5), some (.int x6), some (.int x7), z8] [] M Q
abbrev LX6_howManyFirst_76 (G : GG) (d rc rs : Nat) (p0 : Nat) (p1 : Nat) (l2 : Int64) (x4 : Int32) (x5 : Int32) (x6 : Int32) (x7 : Int32) (x8 : Int32) (M : Mem) (Q : Option Value → Mem → Prop) : Prop := Wk G (d + 1) rc rs mX6_howManyFirst 76 [some (.ref p0), some (.ref p1), some (.long l2), none, some (.int x4), some (.int x5), some (.int x6), some (.int x7), some (.int x8)] [] M Q
theorem eX6_howManyFirst {G : GG} {d rc rs : Nat} (o : Nat) (a1 : Nat) (a2 : Int64) (a3 : Int32)  {M : Mem} {Q : Option Value → Mem → Prop} (h : LX6_howManyFirst_3 G d rc rs o a1 a2 a3 0 M Q) : Call G (d + 1) rc rs mX6_howManyFirst [.ref o, .ref a1, .long a2, .int a3] M Q := by
  refine call_of (by decide) (Nat.le_of_ble_eq_true rfl) ?_
  show Wk G (d + 1) rc rs mX6_howManyFirst 0 [some (.ref o), some (.ref a1), some (.long a2), none, some (.int a3), none, none, none, none] [] M Q
  refine r_iconst (pc := 0) (v := 0) dX6_howManyFirst_0 (by decide) ?_
  refine r_istore (pc := 1) (i := 5) dX6_howManyFirst_1 rfl (Nat.le_of_ble_eq_true rfl) ?_
  exact h
theorem vX6_howManyFirst_3 {G : GG} {d rc rs : Nat} (p0 : Nat) (p1 : Nat) (l2 : Int64) (x4 : Int32) (x5 : Int32)  {M : Mem} {Q : Option Value → Mem → Prop} (h : (x_h M p0).1 = 22 ∧ (∃ b2, x_r M p0 6 = some b2 ∧ (1 ≤ (x_h M b2).1 ∧ (x_h M b2).1 < 8) ∧ ((nI (x_h M b2).2) ≤ x5 → Call G d 0 0 mX6_fillDigits [.ref p0, .long l2, .int x4] M (fun r5 M6 => ∃ v7 : Int32, r5 = some (.int v7) ∧ LX6_howManyFirst_48 G d rc rs p0 p1 l2 x4 v7 (v7 - 1) none none M6 Q)) ∧ (¬ (nI (x_h M b2).2) ≤ x5 → (x_h M p1).1 = 17 ∧ Call G d 0 0 mX1_mark [.ref p1, .int x5] M (fun r9 M10 => ∃ v11 : Int32, r9 = some (.int v11) ∧ (x_h M10 b2).1 = 2 ∧ vp_in x5 (x_h M10 b2).2 ∧ (∀ M14, M14 = x_sl M10 b2 x5.toNatClampNeg v11.toInt64 → LX6_howManyFirst_3 G d rc rs p0 p1 l2 x4 (x5 + 1) M14 Q))))) : LX6_howManyFirst_3 G d rc rs p0 p1 l2 x4 x5 M Q := by
  show Wk G (d + 1) rc rs mX6_howManyFirst 3 _ _ M Q
  refine r_iload (pc := 3) (i := 5) dX6_howManyFirst_3 rfl ?_
  refine r_aload_n (pc := 5) (i := 0) dX6_howManyFirst_5 rfl rfl ?_
  obtain ⟨k1, h⟩ := h
  obtain ⟨b2, hb2, h⟩ := h
  refine r_getr (pc := 6) flX6_31 dX6_howManyFirst_6 rfl k1 hb2 ?_
  obtain ⟨k3, h⟩ := h
  refine r_alen (pc := 9) dX6_howManyFirst_9 rfl k3 ?_
  refine r_icmp_ge (pc := 10) (tgt := 33) dX6_howManyFirst_10 (by decide) (fun c4 => ?_) (fun c4 => ?_)
  · replace h := h.1 c4
    refine r_aload_n (pc := 33) (i := 0) dX6_howManyFirst_33 rfl rfl ?_
    refine r_lload_n (pc := 34) (i := 2) dX6_howManyFirst_34 rfl rfl ?_
    refine r_iload (pc := 35) (i := 4) dX6_howManyFirst_35 rfl ?_
    refine r_callV (pc := 37) (ci := 6) (as := [_, _]) (st := []) okX6_fillDigits lkX6_80 inX6_fillDigits seX6_fillDigits ⟨_, rfl, rfl⟩ dX6_howManyFirst_37 rfl k1 (Nat.le_of_ble_eq_true rfl) (Nat.zero_le _) (Nat.zero_le _) (Call.mono h (fun r5 M6 h => ?_))
    obtain ⟨v7, rfl, h⟩ := h
    refine r_istore (pc := 40) (i := 5) dX6_howManyFirst_40 rfl (Nat.le_of_ble_eq_true rfl) ?_
    refine r_iload (pc := 42) (i := 5) dX6_howManyFirst_42 rfl ?_
    refine r_iconst (pc := 44) (v := 1) dX6_howManyFirst_44 (by decide) ?_
    refine r_isub (pc := 45) dX6_howManyFirst_45 ?_
    refine r_istore (pc := 46) (i := 6) dX6_howManyFirst_46 rfl (Nat.le_of_ble_eq_true rfl) ?_
    exact h
  · replace h := h.2 c4
    refine r_aload_n (pc := 13) (i := 0) dX6_howManyFirst_13 rfl rfl ?_
    refine r_getr (pc := 14) flX6_31 dX6_howManyFirst_14 rfl k1 hb2 ?_
    refine r_iload (pc := 17) (i := 5) dX6_howManyFirst_17 rfl ?_
    refine r_aload_n (pc := 19) (i := 1) dX6_howManyFirst_19 rfl rfl ?_
    refine r_iload (pc := 20) (i := 5) dX6_howManyFirst_20 rfl ?_
    obtain ⟨k8, h⟩ := h
    refine r_callV (pc := 22) (ci := 1) (as := [_]) (st := [_, _]) okX1_mark lkX6_52 inX1_mark seX1_mark ⟨_, rfl, rfl⟩ dX6_howManyFirst_22 rfl k8 (Nat.le_of_ble_eq_true rfl) (Nat.zero_le _) (Nat.zero_le _) (Call.mono h (fun r9 M10 h => ?_))
    obtain ⟨v11, rfl, h⟩ := h
    refine r_i2l (pc := 25) dX6_howManyFirst_25 ?_
    obtain ⟨k12, h⟩ := h
    obtain ⟨i13, h⟩ := h
    refine r_last (pc := 26) dX6_howManyFirst_26 k12 i13 ?_
    replace h := h _ rfl
    refine r_iinc (pc := 27) (i := 5) (v := _ + 1) dX6_howManyFirst_27 rfl rfl rfl ?_
    refine r_goto (pc := 30) (tgt := 3) dX6_howManyFirst_30 (by decide) ?_
    exact h
theorem vX6_howManyFirst_48 {G : GG} {d rc rs : Nat} (p0 : Nat) (p1 : Nat) (l2 : Int64) (x4 : Int32) (x5 : Int32) (x6 : Int32) (z7 : Option Value) (z8 : Option Value) (hz7 : c1 z7 = true) (hz8 : c1 z8 = true) {M : Mem} {Q : Option Value → Mem → Prop} (h : (x6 < 0 → (x_h M p0).1 = 22 ∧ Call G d 0 0 mX6_countAll [.ref p0, .ref p1, .int x4, .int x4] M (fun r3 M4 => ∃ v5 : Int64, r3 = some (.long v5) ∧ Q (some (.long v5)) M4)) ∧ (¬ x6 < 0 → LX6_howManyFirst_56 G d rc rs p0 p1 l2 x4 x5 x6 0 z8 M Q)) : LX6_howManyFirst_48 G d rc rs p0 p1 l2 x4 x5 x6 z7 z8 M Q := by
  show Wk G (d + 1) rc rs mX6_howManyFirst 48 _ _ M Q
  refine r_iload (pc := 48) (i := 6) dX6_howManyFirst_48 rfl ?_
  refine r_if_lt (pc := 50) (tgt := 159) dX6_howManyFirst_50 (by decide) (fun c1 => ?_) (fun c1 => ?_)
  · replace h := h.1 c1
    refine r_aload_n (pc := 159) (i := 0) dX6_howManyFirst_159 rfl rfl ?_
    refine r_aload_n (pc := 160) (i := 1) dX6_howManyFirst_160 rfl rfl ?_
    refine r_iload (pc := 161) (i := 4) dX6_howManyFirst_161 rfl ?_
    refine r_iload (pc := 163) (i := 4) dX6_howManyFirst_163 rfl ?_
    obtain ⟨k2, h⟩ := h
    refine r_callV (pc := 165) (ci := 6) (as := [_, _, _]) (st := []) okX6_countAll lkX6_104 inX6_countAll seX6_countAll ⟨_, rfl, rfl⟩ dX6_howManyFirst_165 rfl k2 (Nat.le_of_ble_eq_true rfl) (Nat.zero_le _) (Nat.zero_le _) (Call.mono h (fun r3 M4 h => ?_))
    obtain ⟨v5, rfl, h⟩ := h
    exact r_lret (pc := 168) dX6_howManyFirst_168 rfl h
  · replace h := h.2 c1
    refine r_iconst (pc := 53) (v := 0) dX6_howManyFirst_53 (by decide) ?_
    refine r_istore (pc := 54) (i := 7) dX6_howManyFirst_54 rfl (Nat.le_of_ble_eq_true rfl) ?_
    exact h
theorem vX6_howManyFirst_56 {G : GG} {d rc rs : Nat} (p0 : Nat) (p1 : Nat) (l2 : Int64) (x4 : Int32) (x5 : Int32) (x6 : Int32) (x7 : Int32) (z8 : Option Value) (hz8 : c1 z8 = true) {M : Mem} {Q : Option Value → Mem → Prop} (h : (x_h M p1).1 = 17 ∧ ((x_i M p1 2) ≤ x7 → (x_h M p0).1 = 22 ∧ (∃ b4, x_r M p0 8 = some b4 ∧ ∃ b5, x_r M p0 6 = some b5 ∧ (x_h M b5).1 = 2 ∧ (x_h M b4).1 = 2 ∧ ¬ (0 : Int32) < 0 ∧ ¬ (0 : Int32) < 0 ∧ ¬ (x_i M p1 2) < 0 ∧ (0 : Int32).toNatClampNeg + (x_i M p1 2).toNatClampNeg ≤ (x_h M b4).2 ∧ (0 : Int32).toNatClampNeg + (x_i M p1 2).toNatClampNeg ≤ (x_h M b5).2 ∧ (∀ M13, M13 = x_cpl M b4 (0 : Int32).toNatClampNeg b5 (0 : Int32).toNatClampNeg (x_i M p1 2).toNatClampNeg → LX6_howManyFirst_48 G d rc rs p0 p1 l2 x4 x5 (x6 + (-1)) (some (.int x7)) z8 M13 Q))) ∧ (¬ (x_i M p1 2) ≤ x7 → (x_h M p0).1 = 22 ∧ (∃ b15, x_r M p0 8 = some b15 ∧ (x_h M b15).1 = 2 ∧ vp_in x7 (x_h M b15).2 ∧ (∀ M18, M18 = x_sl M b15 x7.toNatClampNeg 0 → LX6_howManyFirst_76 G d rc rs p0 p1 l2 x4 x5 x6 x7 0 M18 Q)))) : LX6_howManyFirst_56 G d rc rs p0 p1 l2 x4 x5 x6 x7 z8 M Q := by
  show Wk G (d + 1) rc rs mX6_howManyFirst 56 _ _ M Q
  refine r_iload (pc := 56) (i := 7) dX6_howManyFirst_56 rfl ?_
  refine r_aload_n (pc := 58) (i := 1) dX6_howManyFirst_58 rfl rfl ?_
  obtain ⟨k1, h⟩ := h
  refine r_geti (pc := 59) flX6_40 dX6_howManyFirst_59 (Or.inl rfl) k1 ?_
  refine r_icmp_ge (pc := 62) (tgt := 136) dX6_howManyFirst_62 (by decide) (fun c2 => ?_) (fun c2 => ?_)
  · replace h := h.1 c2
    refine r_aload_n (pc := 136) (i := 0) dX6_howManyFirst_136 rfl rfl ?_
    obtain ⟨k3, h⟩ := h
    obtain ⟨b4, hb4, h⟩ := h
    refine r_getr (pc := 137) flX6_37 dX6_howManyFirst_137 rfl k3 hb4 ?_
    refine r_iconst (pc := 140) (v := 0) dX6_howManyFirst_140 (by decide) ?_
    refine r_aload_n (pc := 141) (i := 0) dX6_howManyFirst_141 rfl rfl ?_
    obtain ⟨b5, hb5, h⟩ := h
    refine r_getr (pc := 142) flX6_31 dX6_howManyFirst_142 rfl k3 hb5 ?_
    refine r_iconst (pc := 145) (v := 0) dX6_howManyFirst_145 (by decide) ?_
    refine r_aload_n (pc := 146) (i := 1) dX6_howManyFirst_146 rfl rfl ?_
    refine r_geti (pc := 147) flX6_40 dX6_howManyFirst_147 (Or.inl rfl) k1 ?_
    obtain ⟨k6, h⟩ := h
    obtain ⟨k7, h⟩ := h
    obtain ⟨y8, y9, y10, y11, y12, h⟩ := h
    refine r_copyl (pc := 150) cokX6_112 k6 k7 y8 y9 y10 y11 y12 (Nat.le_of_ble_eq_true rfl) dX6_howManyFirst_150 ?_
    replace h := h _ rfl
    refine r_iinc (pc := 153) (i := 6) (v := _ + (-1)) dX6_howManyFirst_153 rfl rfl rfl ?_
    refine r_goto (pc := 156) (tgt := 48) dX6_howManyFirst_156 (by decide) ?_
    exact h
  · replace h := h.2 c2
    refine r_aload_n (pc := 65) (i := 0) dX6_howManyFirst_65 rfl rfl ?_
    obtain ⟨k14, h⟩ := h
    obtain ⟨b15, hb15, h⟩ := h
    refine r_getr (pc := 66) flX6_37 dX6_howManyFirst_66 rfl k14 hb15 ?_
    refine r_iload (pc := 69) (i := 7) dX6_howManyFirst_69 rfl ?_
    refine r_lconst (pc := 71) (v := 0) dX6_howManyFirst_71 (by decide) ?_
    obtain ⟨k16, h⟩ := h
    obtain ⟨i17, h⟩ := h
    refine r_last (pc := 72) dX6_howManyFirst_72 k16 i17 ?_
    replace h := h _ rfl
    refine r_iconst (pc := 73) (v := 0) dX6_howManyFirst_73 (by decide) ?_
    refine r_istore (pc := 74) (i := 8) dX6_howManyFirst_74 rfl (Nat.le_of_ble_eq_true rfl) ?_
    exact h
theorem vX6_howManyFirst_76 {G : GG} {d rc rs : Nat} (p0 : Nat) (p1 : Nat) (l2 : Int64) (x4 : Int32) (x5 : Int32) (x6 : Int32) (x7 : Int32) (x8 : Int32)  {M : Mem} {Q : Option Value → Mem → Prop} (h : (x4 ≤ x8 → LX6_howManyFirst_56 G d rc rs p0 p1 l2 x4 x5 x6 (x7 + 1) (some (.int x8)) M Q) ∧ (¬ x4 ≤ x8 → (x_h M p0).1 = 22 ∧ (∃ b3, x_r M p0 8 = some b3 ∧ (x_h M b3).1 = 2 ∧ vp_in x7 (x_h M b3).2 ∧ (∃ b6, x_r M p0 6 = some b6 ∧ ∃ b7, x_r M p0 4 = some b7 ∧ (x_h M b7).1 = 1 ∧ vp_in x6 (x_h M b7).2 ∧ (x_h M p1).1 = 17 ∧ Call G d 0 0 mX1_after [.ref p1, .int x7, .int ((x8 * x4) + (x_i M b7 x6.toNatClampNeg))] M (fun r11 M12 => ∃ v13 : Int32, r11 = some (.int v13) ∧ (x_h M12 b6).1 = 2 ∧ vp_in v13 (x_h M12 b6).2 ∧ Call G d 0 0 mX6_sum [.long (x_l M b3 x7.toNatClampNeg), .long (x_l M12 b6 v13.toNatClampNeg)] M12 (fun r16 M17 => ∃ v18 : Int64, r16 = some (.long v18) ∧ (x_h M17 b3).1 = 2 ∧ vp_in x7 (x_h M17 b3).2 ∧ (∀ M21, M21 = x_sl M17 b3 x7.toNatClampNeg v18 → LX6_howManyFirst_76 G d rc rs p0 p1 l2 x4 x5 x6 x7 (x8 + 1) M21 Q))))))) : LX6_howManyFirst_76 G d rc rs p0 p1 l2 x4 x5 x6 x7 x8 M Q := by
  show Wk G (d + 1) rc rs mX6_howManyFirst 76 _ _ M Q
  refine r_iload (pc := 76) (i := 8) dX6_howManyFirst_76 rfl ?_
  refine r_iload (pc := 78) (i := 4) dX6_howManyFirst_78 rfl ?_
  refine r_icmp_ge (pc := 80) (tgt := 130) dX6_howManyFirst_80 (by decide) (fun c1 => ?_) (fun c1 => ?_)
  · replace h := h.1 c1
    refine r_iinc (pc := 130) (i := 7) (v := _ + 1) dX6_howManyFirst_130 rfl rfl rfl ?_
    refine r_goto (pc := 133) (tgt := 56) dX6_howManyFirst_133 (by decide) ?_
    exact h
  · replace h := h.2 c1
    refine r_aload_n (pc := 83) (i := 0) dX6_howManyFirst_83 rfl rfl ?_
    obtain ⟨k2, h⟩ := h
    obtain ⟨b3, hb3, h⟩ := h
    refine r_getr (pc := 84) flX6_37 dX6_howManyFirst_84 rfl k2 hb3 ?_
    refine r_iload (pc := 87) (i := 7) dX6_howManyFirst_87 rfl ?_
    refine r_aload_n (pc := 89) (i := 0) dX6_howManyFirst_89 rfl rfl ?_
    refine r_getr (pc := 90) flX6_37 dX6_howManyFirst_90 rfl k2 hb3 ?_
    refine r_iload (pc := 93) (i := 7) dX6_howManyFirst_93 rfl ?_
    obtain ⟨k4, h⟩ := h
    obtain ⟨i5, h⟩ := h
    refine r_lald (pc := 95) dX6_howManyFirst_95 k4 i5 ?_
    refine r_aload_n (pc := 96) (i := 0) dX6_howManyFirst_96 rfl rfl ?_
    obtain ⟨b6, hb6, h⟩ := h
    refine r_getr (pc := 97) flX6_31 dX6_howManyFirst_97 rfl k2 hb6 ?_
    refine r_aload_n (pc := 100) (i := 1) dX6_howManyFirst_100 rfl rfl ?_
    refine r_iload (pc := 101) (i := 7) dX6_howManyFirst_101 rfl ?_
    refine r_iload (pc := 103) (i := 8) dX6_howManyFirst_103 rfl ?_
    refine r_iload (pc := 105) (i := 4) dX6_howManyFirst_105 rfl ?_
    refine r_imul (pc := 107) dX6_howManyFirst_107 ?_
    refine r_aload_n (pc := 108) (i := 0) dX6_howManyFirst_108 rfl rfl ?_
    obtain ⟨b7, hb7, h⟩ := h
    refine r_getr (pc := 109) flX6_25 dX6_howManyFirst_109 rfl k2 hb7 ?_
    refine r_iload (pc := 112) (i := 6) dX6_howManyFirst_112 rfl ?_
    obtain ⟨k8, h⟩ := h
    obtain ⟨i9, h⟩ := h
    refine r_iald (pc := 114) dX6_howManyFirst_114 k8 i9 ?_
    refine r_iadd (pc := 115) dX6_howManyFirst_115 ?_
    obtain ⟨k10, h⟩ := h
    refine r_callV (pc := 116) (ci := 1) (as := [_, _]) (st := [_, _, _, _]) okX1_after lkX6_60 inX1_after seX1_after ⟨_, rfl, rfl⟩ dX6_howManyFirst_116 rfl k10 (Nat.le_of_ble_eq_true rfl) (Nat.zero_le _) (Nat.zero_le _) (Call.mono h (fun r11 M12 h => ?_))
    obtain ⟨v13, rfl, h⟩ := h
    obtain ⟨k14, h⟩ := h
    obtain ⟨i15, h⟩ := h
    refine r_lald (pc := 119) dX6_howManyFirst_119 k14 i15 ?_
    refine r_callS (pc := 120) (as := [_, _]) (st := [_, _]) okX6_sum lkX6_108 stX6_sum dX6_howManyFirst_120 rfl (Nat.le_of_ble_eq_true rfl) (Nat.zero_le _) (Nat.zero_le _) (Call.mono h (fun r16 M17 h => ?_))
    obtain ⟨v18, rfl, h⟩ := h
    obtain ⟨k19, h⟩ := h
    obtain ⟨i20, h⟩ := h
    refine r_last (pc := 123) dX6_howManyFirst_123 k19 i20 ?_
    replace h := h _ rfl
    refine r_iinc (pc := 124) (i := 8) (v := _ + 1) dX6_howManyFirst_124 rfl rfl rfl ?_
    refine r_goto (pc := 127) (tgt := 76) dX6_howManyFirst_127 (by decide) ?_
    exact h
abbrev LX6_countAll_18 (G : GG) (d rc rs : Nat) (p0 : Nat) (p1 : Nat) (x2 : Int32) (x3 : Int32) (l4 : Int64) (x6 : Int32) (z7 : Option Value) (z8 : Option Value) (z9 : Option Value) (M : Mem) (Q : Option Value → Mem → Prop) : Prop := Wk G (d + 1) rc rs mX6_countAll 18 [some (.ref p0), some (.ref p1), some (.int x2), some (.int x3), some (.long l4), none, some (.int x6), z7, z8, z9] [] M Q
abbrev LX6_countAll_28 (G : GG) (d rc rs : Nat) (p0 : Nat) (p1 : Nat) (x2 : Int32) (x3 : Int32) (l4 : Int64) (x6 : Int32) (x7 : Int32) (z8 : Option Value) (z9 : Option Value) (M : Mem) (Q : Option Value → Mem → Prop) : Prop := Wk G (d + 1) rc rs mX6_countAll 28 [some (.ref p0), some (.ref p1), some (.int x2), some (.int x3), some (.long l4), none, some (.int x6), some (.int x7), z8, z9] [] M Q
theorem eX6_countAll {G : GG} {d rc rs : Nat} (o : Nat) (a1 : Nat) (a2 : Int32) (a3 : Int32)  {M : Mem} {Q : Option Value → Mem → Prop} (h : (x_h M o).1 = 22 ∧ (∃ b2, x_r M o 6 = some b2 ∧ (x_h M b2).1 = 2 ∧ vp_in 0 (x_h M b2).2 ∧ Call G d 0 0 mX6_startWays [.ref o, .ref a1, .int a2, .int a3] M (fun r5 M6 => r5 = none ∧ LX6_countAll_18 G d rc rs o a1 a2 a3 (x_l M b2 (0 : Int32).toNatClampNeg) 1 none none none M6 Q))) : Call G (d + 1) rc rs mX6_countAll [.ref o, .ref a1, .int a2, .int a3] M Q := by
  refine call_of (by decide) (Nat.le_of_ble_eq_true rfl) ?_
  show Wk G (d + 1) rc rs mX6_countAll 0 [some (.ref o), some (.ref a1), some (.int a2), some (.int a3), none, none, none, none, none, none] [] M Q
  refine r_aload_n (pc := 0) (i := 0) dX6_countAll_0 rfl rfl ?_
  obtain ⟨k1, h⟩ := h
  obtain ⟨b2, hb2, h⟩ := h
  refine r_getr (pc := 1) flX6_31 dX6_countAll_1 rfl k1 hb2 ?_
  refine r_iconst (pc := 4) (v := 0) dX6_countAll_4 (by decide) ?_
  obtain ⟨k3, h⟩ := h
  obtain ⟨i4, h⟩ := h
  refine r_lald (pc := 5) dX6_countAll_5 k3 i4 ?_
  refine r_lstore (pc := 6) (i := 4) dX6_countAll_6 rfl (Nat.le_of_ble_eq_true rfl) ?_
  refine r_aload_n (pc := 8) (i := 0) dX6_countAll_8 rfl rfl ?_
  refine r_aload_n (pc := 9) (i := 1) dX6_countAll_9 rfl rfl ?_
  refine r_iload_n (pc := 10) (i := 2) dX6_countAll_10 rfl rfl ?_
  refine r_iload_n (pc := 11) (i := 3) dX6_countAll_11 rfl rfl ?_
  refine r_callV (pc := 12) (ci := 6) (as := [_, _, _]) (st := []) okX6_startWays lkX6_118 inX6_startWays seX6_startWays ⟨_, rfl, rfl⟩ dX6_countAll_12 rfl k1 (Nat.le_of_ble_eq_true rfl) (Nat.zero_le _) (Nat.zero_le _) (Call.mono h (fun r5 M6 h => ?_))
  obtain ⟨rfl, h⟩ := h
  refine r_iconst (pc := 15) (v := 1) dX6_countAll_15 (by decide) ?_
  refine r_istore (pc := 16) (i := 6) dX6_countAll_16 rfl (Nat.le_of_ble_eq_true rfl) ?_
  exact h
theorem vX6_countAll_18 {G : GG} {d rc rs : Nat} (p0 : Nat) (p1 : Nat) (x2 : Int32) (x3 : Int32) (l4 : Int64) (x6 : Int32) (z7 : Option Value) (z8 : Option Value) (z9 : Option Value) (hz7 : c1 z7 = true) (hz8 : c1 z8 = true) (hz9 : c1 z9 = true) {M : Mem} {Q : Option Value → Mem → Prop} (h : (80 < x6 → ((lg_cmp l4 4611686018427387904) ≤ 0 → Q (some (.long l4)) M) ∧ (¬ (lg_cmp l4 4611686018427387904) ≤ 0 → Q (some (.long (-3))) M)) ∧ (¬ 80 < x6 → LX6_countAll_28 G d rc rs p0 p1 x2 x3 l4 x6 0 z8 z9 M Q)) : LX6_countAll_18 G d rc rs p0 p1 x2 x3 l4 x6 z7 z8 z9 M Q := by
  show Wk G (d + 1) rc rs mX6_countAll 18 _ _ M Q
  refine r_iload (pc := 18) (i := 6) dX6_countAll_18 rfl ?_
  refine r_bipush (pc := 20) (v := 80) dX6_countAll_20 (by decide) ?_
  refine r_icmp_gt (pc := 22) (tgt := 102) dX6_countAll_22 (by decide) (fun c1 => ?_) (fun c1 => ?_)
  · replace h := h.1 c1
    refine r_lload (pc := 102) (i := 4) dX6_countAll_102 rfl ?_
    refine r_ldc2 (pc := 104) (v := 4611686018427387904) dX6_countAll_104 ww_1017 ?_
    refine r_lcmp (pc := 107) dX6_countAll_107 ?_
    refine r_if_le (pc := 108) (tgt := 117) dX6_countAll_108 (by decide) (fun c2 => ?_) (fun c2 => ?_)
    · replace h := h.1 c2
      refine r_lload (pc := 117) (i := 4) dX6_countAll_117 rfl ?_
      exact r_lret (pc := 119) dX6_countAll_119 rfl h
    · replace h := h.2 c2
      refine r_ldc2 (pc := 111) (v := (-3)) dX6_countAll_111 ww_1018 ?_
      refine r_goto (pc := 114) (tgt := 119) dX6_countAll_114 (by decide) ?_
      exact r_lret (pc := 119) dX6_countAll_119 rfl h
  · replace h := h.2 c1
    refine r_iconst (pc := 25) (v := 0) dX6_countAll_25 (by decide) ?_
    refine r_istore (pc := 26) (i := 7) dX6_countAll_26 rfl (Nat.le_of_ble_eq_true rfl) ?_
    exact h
theorem vX6_countAll_28 {G : GG} {d rc rs : Nat} (p0 : Nat) (p1 : Nat) (x2 : Int32) (x3 : Int32) (l4 : Int64) (x6 : Int32) (x7 : Int32) (z8 : Option Value) (z9 : Option Value) (hz8 : c1 z8 = true) (hz9 : c1 z9 = true) {M : Mem} {Q : Option Value → Mem → Prop} (h : (x_h M p1).1 = 17 ∧ ((x_i M p1 2) ≤ x7 → (x_h M p0).1 = 22 ∧ Call G d 0 0 mX6_stepWays [.ref p0, .ref p1, .int x2, .int x3] M (fun r4 M5 => r4 = none ∧ LX6_countAll_18 G d rc rs p0 p1 x2 x3 l4 (x6 + 1) (some (.int x7)) z8 z9 M5 Q)) ∧ (¬ (x_i M p1 2) ≤ x7 → (x_h M p0).1 = 22 ∧ (∃ b7, x_r M p0 7 = some b7 ∧ (x_h M b7).1 = 2 ∧ vp_in x7 (x_h M b7).2 ∧ (∃ b10, x_r M p0 6 = some b10 ∧ (x_h M b10).1 = 2 ∧ vp_in x7 (x_h M b10).2 ∧ Call G d 0 0 mX6_times [.long (x_l M b7 x7.toNatClampNeg), .long (x_l M b10 x7.toNatClampNeg)] M (fun r13 M14 => ∃ v15 : Int64, r13 = some (.long v15) ∧ ((lg_cmp v15 0) ≤ 0 → Call G d 0 0 mX6_sum [.long l4, .long v15] M14 (fun r17 M18 => ∃ v19 : Int64, r17 = some (.long v19) ∧ LX6_countAll_28 G d rc rs p0 p1 x2 x3 v19 x6 (x7 + 1) (some (.long v15)) none M18 Q)) ∧ (¬ (lg_cmp v15 0) ≤ 0 → (x6 ≤ 40 → Call G d 0 0 mX6_sum [.long l4, .long v15] M14 (fun r21 M22 => ∃ v23 : Int64, r21 = some (.long v23) ∧ LX6_countAll_28 G d rc rs p0 p1 x2 x3 v23 x6 (x7 + 1) (some (.long v15)) none M22 Q)) ∧ (¬ x6 ≤ 40 → Q (some (.long (-1))) M14))))))) : LX6_countAll_28 G d rc rs p0 p1 x2 x3 l4 x6 x7 z8 z9 M Q := by
  show Wk G (d + 1) rc rs mX6_countAll 28 _ _ M Q
  refine r_iload (pc := 28) (i := 7) dX6_countAll_28 rfl ?_
  refine r_aload_n (pc := 30) (i := 1) dX6_countAll_30 rfl rfl ?_
  obtain ⟨k1, h⟩ := h
  refine r_geti (pc := 31) flX6_40 dX6_countAll_31 (Or.inl rfl) k1 ?_
  refine r_icmp_ge (pc := 34) (tgt := 89) dX6_countAll_34 (by decide) (fun c2 => ?_) (fun c2 => ?_)
  · replace h := h.1 c2
    refine r_aload_n (pc := 89) (i := 0) dX6_countAll_89 rfl rfl ?_
    refine r_aload_n (pc := 90) (i := 1) dX6_countAll_90 rfl rfl ?_
    refine r_iload_n (pc := 91) (i := 2) dX6_countAll_91 rfl rfl ?_
    refine r_iload_n (pc := 92) (i := 3) dX6_countAll_92 rfl rfl ?_
    obtain ⟨k3, h⟩ := h
    refine r_callV (pc := 93) (ci := 6) (as := [_, _, _]) (st := []) okX6_stepWays lkX6_125 inX6_stepWays seX6_stepWays ⟨_, rfl, rfl⟩ dX6_countAll_93 rfl k3 (Nat.le_of_ble_eq_true rfl) (Nat.zero_le _) (Nat.zero_le _) (Call.mono h (fun r4 M5 h => ?_))
    obtain ⟨rfl, h⟩ := h
    refine r_iinc (pc := 96) (i := 6) (v := _ + 1) dX6_countAll_96 rfl rfl rfl ?_
    refine r_goto (pc := 99) (tgt := 18) dX6_countAll_99 (by decide) ?_
    exact h
  · replace h := h.2 c2
    refine r_aload_n (pc := 37) (i := 0) dX6_countAll_37 rfl rfl ?_
    obtain ⟨k6, h⟩ := h
    obtain ⟨b7, hb7, h⟩ := h
    refine r_getr (pc := 38) flX6_34 dX6_countAll_38 rfl k6 hb7 ?_
    refine r_iload (pc := 41) (i := 7) dX6_countAll_41 rfl ?_
    obtain ⟨k8, h⟩ := h
    obtain ⟨i9, h⟩ := h
    refine r_lald (pc := 43) dX6_countAll_43 k8 i9 ?_
    refine r_aload_n (pc := 44) (i := 0) dX6_countAll_44 rfl rfl ?_
    obtain ⟨b10, hb10, h⟩ := h
    refine r_getr (pc := 45) flX6_31 dX6_countAll_45 rfl k6 hb10 ?_
    refine r_iload (pc := 48) (i := 7) dX6_countAll_48 rfl ?_
    obtain ⟨k11, h⟩ := h
    obtain ⟨i12, h⟩ := h
    refine r_lald (pc := 50) dX6_countAll_50 k11 i12 ?_
    refine r_callS (pc := 51) (as := [_, _]) (st := []) okX6_times lkX6_122 stX6_times dX6_countAll_51 rfl (Nat.le_of_ble_eq_true rfl) (Nat.zero_le _) (Nat.zero_le _) (Call.mono h (fun r13 M14 h => ?_))
    obtain ⟨v15, rfl, h⟩ := h
    refine r_lstore (pc := 54) (i := 8) dX6_countAll_54 rfl (Nat.le_of_ble_eq_true rfl) ?_
    refine r_lload (pc := 56) (i := 8) dX6_countAll_56 rfl ?_
    refine r_lconst (pc := 58) (v := 0) dX6_countAll_58 (by decide) ?_
    refine r_lcmp (pc := 59) dX6_countAll_59 ?_
    refine r_if_le (pc := 60) (tgt := 74) dX6_countAll_60 (by decide) (fun c16 => ?_) (fun c16 => ?_)
    · replace h := h.1 c16
      refine r_lload (pc := 74) (i := 4) dX6_countAll_74 rfl ?_
      refine r_lload (pc := 76) (i := 8) dX6_countAll_76 rfl ?_
      refine r_callS (pc := 78) (as := [_, _]) (st := []) okX6_sum lkX6_108 stX6_sum dX6_countAll_78 rfl (Nat.le_of_ble_eq_true rfl) (Nat.zero_le _) (Nat.zero_le _) (Call.mono h (fun r17 M18 h => ?_))
      obtain ⟨v19, rfl, h⟩ := h
      refine r_lstore (pc := 81) (i := 4) dX6_countAll_81 rfl (Nat.le_of_ble_eq_true rfl) ?_
      refine r_iinc (pc := 83) (i := 7) (v := _ + 1) dX6_countAll_83 rfl rfl rfl ?_
      refine r_goto (pc := 86) (tgt := 28) dX6_countAll_86 (by decide) ?_
      exact h
    · replace h := h.2 c16
      refine r_iload (pc := 63) (i := 6) dX6_countAll_63 rfl ?_
      refine r_bipush (pc := 65) (v := 40) dX6_countAll_65 (by decide) ?_
      refine r_icmp_le (pc := 67) (tgt := 74) dX6_countAll_67 (by decide) (fun c20 => ?_) (fun c20 => ?_)
      · replace h := h.1 c20
        refine r_lload (pc := 74) (i := 4) dX6_countAll_74 rfl ?_
        refine r_lload (pc := 76) (i := 8) dX6_countAll_76 rfl ?_
        refine r_callS (pc := 78) (as := [_, _]) (st := []) okX6_sum lkX6_108 stX6_sum dX6_countAll_78 rfl (Nat.le_of_ble_eq_true rfl) (Nat.zero_le _) (Nat.zero_le _) (Call.mono h (fun r21 M22 h => ?_))
        obtain ⟨v23, rfl, h⟩ := h
        refine r_lstore (pc := 81) (i := 4) dX6_countAll_81 rfl (Nat.le_of_ble_eq_true rfl) ?_
        refine r_iinc (pc := 83) (i := 7) (v := _ + 1) dX6_countAll_83 rfl rfl rfl ?_
        refine r_goto (pc := 86) (tgt := 28) dX6_countAll_86 (by decide) ?_
        exact h
      · replace h := h.2 c20
        refine r_ldc2 (pc := 70) (v := (-1)) dX6_countAll_70 ww_1025 ?_
        exact r_lret (pc := 73) dX6_countAll_73 rfl h
abbrev LX6_startWays_11 (G : GG) (d rc rs : Nat) (p0 : Nat) (p1 : Nat) (x2 : Int32) (x3 : Int32) (x4 : Int32) (z5 : Option Value) (M : Mem) (Q : Option Value → Mem → Prop) : Prop := Wk G (d + 1) rc rs mX6_startWays 11 [some (.ref p0), some (.ref p1), some (.int x2), some (.int x3), some (.int x4), z5] [] M Q
theorem eX6_startWays {G : GG} {d rc rs : Nat} (o : Nat) (a1 : Nat) (a2 : Int32) (a3 : Int32)  {M : Mem} {Q : Option Value → Mem → Prop} (h : (x_h M o).1 = 22 ∧ (∃ b2, x_r M o 7 = some b2 ∧ Call G d 0 0 mJ7_fill_d0a16 [.ref b2, .long 0] M (fun r3 M4 => r3 = none ∧ LX6_startWays_11 G d rc rs o a1 a2 a3 1 none M4 Q))) : Call G (d + 1) rc rs mX6_startWays [.ref o, .ref a1, .int a2, .int a3] M Q := by
  refine call_of (by decide) (Nat.le_of_ble_eq_true rfl) ?_
  show Wk G (d + 1) rc rs mX6_startWays 0 [some (.ref o), some (.ref a1), some (.int a2), some (.int a3), none, none] [] M Q
  refine r_aload_n (pc := 0) (i := 0) dX6_startWays_0 rfl rfl ?_
  obtain ⟨k1, h⟩ := h
  obtain ⟨b2, hb2, h⟩ := h
  refine r_getr (pc := 1) flX6_34 dX6_startWays_1 rfl k1 hb2 ?_
  refine r_lconst (pc := 4) (v := 0) dX6_startWays_4 (by decide) ?_
  refine r_callS (pc := 5) (as := [_, _]) (st := []) okJ7_fill_d0a16 lkX6_128 stJ7_fill_d0a16 dX6_startWays_5 rfl (Nat.le_of_ble_eq_true rfl) (Nat.zero_le _) (Nat.zero_le _) (Call.mono h (fun r3 M4 h => ?_))
  obtain ⟨rfl, h⟩ := h
  refine r_iconst (pc := 8) (v := 1) dX6_startWays_8 (by decide) ?_
  refine r_istore (pc := 9) (i := 4) dX6_startWays_9 rfl (Nat.le_of_ble_eq_true rfl) ?_
  exact h
theorem vX6_startWays_11 {G : GG} {d rc rs : Nat} (p0 : Nat) (p1 : Nat) (x2 : Int32) (x3 : Int32) (x4 : Int32) (z5 : Option Value) (hz5 : c1 z5 = true) {M : Mem} {Q : Option Value → Mem → Prop} (h : (x3 ≤ x4 → Q none M) ∧ (¬ x3 ≤ x4 → (x_h M p1).1 = 17 ∧ Call G d 0 0 mX1_after [.ref p1, .int 0, .int (x4 * x2)] M (fun r3 M4 => ∃ v5 : Int32, r3 = some (.int v5) ∧ (x_h M4 p0).1 = 22 ∧ (∃ b7, x_r M4 p0 7 = some b7 ∧ (x_h M4 b7).1 = 2 ∧ vp_in v5 (x_h M4 b7).2 ∧ Call G d 0 0 mX6_sum [.long (x_l M4 b7 v5.toNatClampNeg), .long 1] M4 (fun r10 M11 => ∃ v12 : Int64, r10 = some (.long v12) ∧ (x_h M11 b7).1 = 2 ∧ vp_in v5 (x_h M11 b7).2 ∧ (∀ M15, M15 = x_sl M11 b7 v5.toNatClampNeg v12 → LX6_startWays_11 G d rc rs p0 p1 x2 x3 (x4 + 1) (some (.int v5)) M15 Q)))))) : LX6_startWays_11 G d rc rs p0 p1 x2 x3 x4 z5 M Q := by
  show Wk G (d + 1) rc rs mX6_startWays 11 _ _ M Q
  refine r_iload (pc := 11) (i := 4) dX6_startWays_11 rfl ?_
  refine r_iload_n (pc := 13) (i := 3) dX6_startWays_13 rfl rfl ?_
  refine r_icmp_ge (pc := 14) (tgt := 52) dX6_startWays_14 (by decide) (fun c1 => ?_) (fun c1 => ?_)
  · replace h := h.1 c1
    exact r_vret (pc := 52) dX6_startWays_52 rfl h
  · replace h := h.2 c1
    refine r_aload_n (pc := 17) (i := 1) dX6_startWays_17 rfl rfl ?_
    refine r_iconst (pc := 18) (v := 0) dX6_startWays_18 (by decide) ?_
    refine r_iload (pc := 19) (i := 4) dX6_startWays_19 rfl ?_
    refine r_iload_n (pc := 21) (i := 2) dX6_startWays_21 rfl rfl ?_
    refine r_imul (pc := 22) dX6_startWays_22 ?_
    obtain ⟨k2, h⟩ := h
    refine r_callV (pc := 23) (ci := 1) (as := [_, _]) (st := []) okX1_after lkX6_60 inX1_after seX1_after ⟨_, rfl, rfl⟩ dX6_startWays_23 rfl k2 (Nat.le_of_ble_eq_true rfl) (Nat.zero_le _) (Nat.zero_le _) (Call.mono h (fun r3 M4 h => ?_))
    obtain ⟨v5, rfl, h⟩ := h
    refine r_istore (pc := 26) (i := 5) dX6_startWays_26 rfl (Nat.le_of_ble_eq_true rfl) ?_
    refine r_aload_n (pc := 28) (i := 0) dX6_startWays_28 rfl rfl ?_
    obtain ⟨k6, h⟩ := h
    obtain ⟨b7, hb7, h⟩ := h
    refine r_getr (pc := 29) flX6_34 dX6_startWays_29 rfl k6 hb7 ?_
    refine r_iload (pc := 32) (i := 5) dX6_startWays_32 rfl ?_
    refine r_aload_n (pc := 34) (i := 0) dX6_startWays_34 rfl rfl ?_
    refine r_getr (pc := 35) flX6_34 dX6_startWays_35 rfl k6 hb7 ?_
    refine r_iload (pc := 38) (i := 5) dX6_startWays_38 rfl ?_
    obtain ⟨k8, h⟩ := h
    obtain ⟨i9, h⟩ := h
    refine r_lald (pc := 40) dX6_startWays_40 k8 i9 ?_
    refine r_lconst (pc := 41) (v := 1) dX6_startWays_41 (by decide) ?_
    refine r_callS (pc := 42) (as := [_, _]) (st := [_, _]) okX6_sum lkX6_108 stX6_sum dX6_startWays_42 rfl (Nat.le_of_ble_eq_true rfl) (Nat.zero_le _) (Nat.zero_le _) (Call.mono h (fun r10 M11 h => ?_))
    obtain ⟨v12, rfl, h⟩ := h
    obtain ⟨k13, h⟩ := h
    obtain ⟨i14, h⟩ := h
    refine r_last (pc := 45) dX6_startWays_45 k13 i14 ?_
    replace h := h _ rfl
    refine r_iinc (pc := 46) (i := 4) (v := _ + 1) dX6_startWays_46 rfl rfl rfl ?_
    refine r_goto (pc := 49) (tgt := 11) dX6_startWays_49 (by decide) ?_
    exact h
abbrev LX6_stepWays_11 (G : GG) (d rc rs : Nat) (p0 : Nat) (p1 : Nat) (x2 : Int32) (x3 : Int32) (x4 : Int32) (z5 : Option Value) (z6 : Option Value) (M : Mem) (Q : Option Value → Mem → Prop) : Prop := Wk G (d + 1) rc rs mX6_stepWays 11 [some (.ref p0), some (.ref p1), some (.int x2), some (.int x3), some (.int x4), z5, z6] [] M Q
abbrev LX6_stepWays_23 (G : GG) (d rc rs : Nat) (p0 : Nat) (p1 : Nat) (x2 : Int32) (x3 : Int32) (x4 : Int32) (x5 : Int32) (z6 : Option Value) (M : Mem) (Q : Option Value → Mem → Prop) : Prop := Wk G (d + 1) rc rs mX6_stepWays 23 [some (.ref p0), some (.ref p1), some (.int x2), some (.int x3), some (.int x4), some (.int x5), z6] [] M Q
theorem eX6_stepWays {G : GG} {d rc rs : Nat} (o : Nat) (a1 : Nat) (a2 : Int32) (a3 : Int32)  {M : Mem} {Q : Option Value → Mem → Prop} (h : (x_h M o).1 = 22 ∧ (∃ b2, x_r M o 8 = some b2 ∧ Call G d 0 0 mJ7_fill_d0a16 [.ref b2, .long 0] M (fun r3 M4 => r3 = none ∧ LX6_stepWays_11 G d rc rs o a1 a2 a3 0 none none M4 Q))) : Call G (d + 1) rc rs mX6_stepWays [.ref o, .ref a1, .int a2, .int a3] M Q := by
  refine call_of (by decide) (Nat.le_of_ble_eq_true rfl) ?_
  show Wk G (d + 1) rc rs mX6_stepWays 0 [some (.ref o), some (.ref a1), some (.int a2), some (.int a3), none, none, none] [] M Q
  refine r_aload_n (pc := 0) (i := 0) dX6_stepWays_0 rfl rfl ?_
  obtain ⟨k1, h⟩ := h
  obtain ⟨b2, hb2, h⟩ := h
  refine r_getr (pc := 1) flX6_37 dX6_stepWays_1 rfl k1 hb2 ?_
  refine r_lconst (pc := 4) (v := 0) dX6_stepWays_4 (by decide) ?_
  refine r_callS (pc := 5) (as := [_, _]) (st := []) okJ7_fill_d0a16 lkX6_128 stJ7_fill_d0a16 dX6_stepWays_5 rfl (Nat.le_of_ble_eq_true rfl) (Nat.zero_le _) (Nat.zero_le _) (Call.mono h (fun r3 M4 h => ?_))
  obtain ⟨rfl, h⟩ := h
  refine r_iconst (pc := 8) (v := 0) dX6_stepWays_8 (by decide) ?_
  refine r_istore (pc := 9) (i := 4) dX6_stepWays_9 rfl (Nat.le_of_ble_eq_true rfl) ?_
  exact h
theorem vX6_stepWays_11 {G : GG} {d rc rs : Nat} (p0 : Nat) (p1 : Nat) (x2 : Int32) (x3 : Int32) (x4 : Int32) (z5 : Option Value) (z6 : Option Value) (hz5 : c1 z5 = true) (hz6 : c1 z6 = true) {M : Mem} {Q : Option Value → Mem → Prop} (h : (x_h M p1).1 = 17 ∧ ((x_i M p1 2) ≤ x4 → (x_h M p0).1 = 22 ∧ (∃ b4, x_r M p0 8 = some b4 ∧ ∃ b5, x_r M p0 7 = some b5 ∧ (1 ≤ (x_h M b5).1 ∧ (x_h M b5).1 < 8) ∧ (x_h M b5).1 = 2 ∧ (x_h M b4).1 = 2 ∧ ¬ (0 : Int32) < 0 ∧ ¬ (0 : Int32) < 0 ∧ ¬ (nI (x_h M b5).2) < 0 ∧ (0 : Int32).toNatClampNeg + (nI (x_h M b5).2).toNatClampNeg ≤ (x_h M b4).2 ∧ (0 : Int32).toNatClampNeg + (nI (x_h M b5).2).toNatClampNeg ≤ (x_h M b5).2 ∧ (∀ M14, M14 = x_cpl M b4 (0 : Int32).toNatClampNeg b5 (0 : Int32).toNatClampNeg (nI (x_h M b5).2).toNatClampNeg → Q none M14))) ∧ (¬ (x_i M p1 2) ≤ x4 → LX6_stepWays_23 G d rc rs p0 p1 x2 x3 x4 0 z6 M Q)) : LX6_stepWays_11 G d rc rs p0 p1 x2 x3 x4 z5 z6 M Q := by
  show Wk G (d + 1) rc rs mX6_stepWays 11 _ _ M Q
  refine r_iload (pc := 11) (i := 4) dX6_stepWays_11 rfl ?_
  refine r_aload_n (pc := 13) (i := 1) dX6_stepWays_13 rfl rfl ?_
  obtain ⟨k1, h⟩ := h
  refine r_geti (pc := 14) flX6_40 dX6_stepWays_14 (Or.inl rfl) k1 ?_
  refine r_icmp_ge (pc := 17) (tgt := 77) dX6_stepWays_17 (by decide) (fun c2 => ?_) (fun c2 => ?_)
  · replace h := h.1 c2
    refine r_aload_n (pc := 77) (i := 0) dX6_stepWays_77 rfl rfl ?_
    obtain ⟨k3, h⟩ := h
    obtain ⟨b4, hb4, h⟩ := h
    refine r_getr (pc := 78) flX6_37 dX6_stepWays_78 rfl k3 hb4 ?_
    refine r_iconst (pc := 81) (v := 0) dX6_stepWays_81 (by decide) ?_
    refine r_aload_n (pc := 82) (i := 0) dX6_stepWays_82 rfl rfl ?_
    obtain ⟨b5, hb5, h⟩ := h
    refine r_getr (pc := 83) flX6_34 dX6_stepWays_83 rfl k3 hb5 ?_
    refine r_iconst (pc := 86) (v := 0) dX6_stepWays_86 (by decide) ?_
    refine r_aload_n (pc := 87) (i := 0) dX6_stepWays_87 rfl rfl ?_
    refine r_getr (pc := 88) flX6_34 dX6_stepWays_88 rfl k3 hb5 ?_
    obtain ⟨k6, h⟩ := h
    refine r_alen (pc := 91) dX6_stepWays_91 rfl k6 ?_
    obtain ⟨k7, h⟩ := h
    obtain ⟨k8, h⟩ := h
    obtain ⟨y9, y10, y11, y12, y13, h⟩ := h
    refine r_copyl (pc := 92) cokX6_112 k7 k8 y9 y10 y11 y12 y13 (Nat.le_of_ble_eq_true rfl) dX6_stepWays_92 ?_
    replace h := h _ rfl
    exact r_vret (pc := 95) dX6_stepWays_95 rfl h
  · replace h := h.2 c2
    refine r_iconst (pc := 20) (v := 0) dX6_stepWays_20 (by decide) ?_
    refine r_istore (pc := 21) (i := 5) dX6_stepWays_21 rfl (Nat.le_of_ble_eq_true rfl) ?_
    exact h
theorem vX6_stepWays_23 {G : GG} {d rc rs : Nat} (p0 : Nat) (p1 : Nat) (x2 : Int32) (x3 : Int32) (x4 : Int32) (x5 : Int32) (z6 : Option Value) (hz6 : c1 z6 = true) {M : Mem} {Q : Option Value → Mem → Prop} (h : (x3 ≤ x5 → LX6_stepWays_11 G d rc rs p0 p1 x2 x3 (x4 + 1) (some (.int x5)) z6 M Q) ∧ (¬ x3 ≤ x5 → (x_h M p1).1 = 17 ∧ Call G d 0 0 mX1_after [.ref p1, .int x4, .int (x5 * x2)] M (fun r3 M4 => ∃ v5 : Int32, r3 = some (.int v5) ∧ (x_h M4 p0).1 = 22 ∧ (∃ b7, x_r M4 p0 8 = some b7 ∧ (x_h M4 b7).1 = 2 ∧ vp_in v5 (x_h M4 b7).2 ∧ (∃ b10, x_r M4 p0 7 = some b10 ∧ (x_h M4 b10).1 = 2 ∧ vp_in x4 (x_h M4 b10).2 ∧ Call G d 0 0 mX6_sum [.long (x_l M4 b7 v5.toNatClampNeg), .long (x_l M4 b10 x4.toNatClampNeg)] M4 (fun r13 M14 => ∃ v15 : Int64, r13 = some (.long v15) ∧ (x_h M14 b7).1 = 2 ∧ vp_in v5 (x_h M14 b7).2 ∧ (∀ M18, M18 = x_sl M14 b7 v5.toNatClampNeg v15 → LX6_stepWays_23 G d rc rs p0 p1 x2 x3 x4 (x5 + 1) (some (.int v5)) M18 Q))))))) : LX6_stepWays_23 G d rc rs p0 p1 x2 x3 x4 x5 z6 M Q := by
  show Wk G (d + 1) rc rs mX6_stepWays 23 _ _ M Q
  refine r_iload (pc := 23) (i := 5) dX6_stepWays_23 rfl ?_
  refine r_iload_n (pc := 25) (i := 3) dX6_stepWays_25 rfl rfl ?_
  refine r_icmp_ge (pc := 26) (tgt := 71) dX6_stepWays_26 (by decide) (fun c1 => ?_) (fun c1 => ?_)
  · replace h := h.1 c1
    refine r_iinc (pc := 71) (i := 4) (v := _ + 1) dX6_stepWays_71 rfl rfl rfl ?_
    refine r_goto (pc := 74) (tgt := 11) dX6_stepWays_74 (by decide) ?_
    exact h
  · replace h := h.2 c1
    refine r_aload_n (pc := 29) (i := 1) dX6_stepWays_29 rfl rfl ?_
    refine r_iload (pc := 30) (i := 4) dX6_stepWays_30 rfl ?_
    refine r_iload (pc := 32) (i := 5) dX6_stepWays_32 rfl ?_
    refine r_iload_n (pc := 34) (i := 2) dX6_stepWays_34 rfl rfl ?_
    refine r_imul (pc := 35) dX6_stepWays_35 ?_
    obtain ⟨k2, h⟩ := h
    refine r_callV (pc := 36) (ci := 1) (as := [_, _]) (st := []) okX1_after lkX6_60 inX1_after seX1_after ⟨_, rfl, rfl⟩ dX6_stepWays_36 rfl k2 (Nat.le_of_ble_eq_true rfl) (Nat.zero_le _) (Nat.zero_le _) (Call.mono h (fun r3 M4 h => ?_))
    obtain ⟨v5, rfl, h⟩ := h
    refine r_istore (pc := 39) (i := 6) dX6_stepWays_39 rfl (Nat.le_of_ble_eq_true rfl) ?_
    refine r_aload_n (pc := 41) (i := 0) dX6_stepWays_41 rfl rfl ?_
    obtain ⟨k6, h⟩ := h
    obtain ⟨b7, hb7, h⟩ := h
    refine r_getr (pc := 42) flX6_37 dX6_stepWays_42 rfl k6 hb7 ?_
    refine r_iload (pc := 45) (i := 6) dX6_stepWays_45 rfl ?_
    refine r_aload_n (pc := 47) (i := 0) dX6_stepWays_47 rfl rfl ?_
    refine r_getr (pc := 48) flX6_37 dX6_stepWays_48 rfl k6 hb7 ?_
    refine r_iload (pc := 51) (i := 6) dX6_stepWays_51 rfl ?_
    obtain ⟨k8, h⟩ := h
    obtain ⟨i9, h⟩ := h
    refine r_lald (pc := 53) dX6_stepWays_53 k8 i9 ?_
    refine r_aload_n (pc := 54) (i := 0) dX6_stepWays_54 rfl rfl ?_
    obtain ⟨b10, hb10, h⟩ := h
    refine r_getr (pc := 55) flX6_34 dX6_stepWays_55 rfl k6 hb10 ?_
    refine r_iload (pc := 58) (i := 4) dX6_stepWays_58 rfl ?_
    obtain ⟨k11, h⟩ := h
    obtain ⟨i12, h⟩ := h
    refine r_lald (pc := 60) dX6_stepWays_60 k11 i12 ?_
    refine r_callS (pc := 61) (as := [_, _]) (st := [_, _]) okX6_sum lkX6_108 stX6_sum dX6_stepWays_61 rfl (Nat.le_of_ble_eq_true rfl) (Nat.zero_le _) (Nat.zero_le _) (Call.mono h (fun r13 M14 h => ?_))
    obtain ⟨v15, rfl, h⟩ := h
    obtain ⟨k16, h⟩ := h
    obtain ⟨i17, h⟩ := h
    refine r_last (pc := 64) dX6_stepWays_64 k16 i17 ?_
    replace h := h _ rfl
    refine r_iinc (pc := 65) (i := 5) (v := _ + 1) dX6_stepWays_65 rfl rfl rfl ?_
    refine r_goto (pc := 68) (tgt := 23) dX6_stepWays_68 (by decide) ?_
    exact h
