/-! EndlessRowsModel: decode rows and verification conditions, by program -/
theorem dX12_joins_0 : decode cX12_joins 0 = .ok (.aload_n 0, 1) := by decide +kernel
theorem dX12_joins_1 : decode cX12_joins 1 = .ok (.getfield 107, 3) := by decide +kernel
theorem dX12_joins_4 : decode cX12_joins 4 = .ok (.iload_n 1, 1) := by decide +kernel
theorem dX12_joins_5 : decode cX12_joins 5 = .ok (.iaload, 1) := by decide +kernel
theorem dX12_joins_6 : decode cX12_joins 6 = .ok (.istore_n 2, 1) := by decide +kernel
theorem dX12_joins_7 : decode cX12_joins 7 = .ok (.aload_n 0, 1) := by decide +kernel
theorem dX12_joins_8 : decode cX12_joins 8 = .ok (.getfield 110, 3) := by decide +kernel
theorem dX12_joins_11 : decode cX12_joins 11 = .ok (.iload_n 1, 1) := by decide +kernel
theorem dX12_joins_12 : decode cX12_joins 12 = .ok (.iaload, 1) := by decide +kernel
theorem dX12_joins_13 : decode cX12_joins 13 = .ok (.istore_n 3, 1) := by decide +kernel
theorem dX12_joins_14 : decode cX12_joins 14 = .ok (.aload_n 0, 1) := by decide +kernel
theorem dX12_joins_15 : decode cX12_joins 15 = .ok (.getfield 119, 3) := by decide +kernel
theorem dX12_joins_18 : decode cX12_joins 18 = .ok (.iload_n 1, 1) := by decide +kernel
theorem dX12_joins_19 : decode cX12_joins 19 = .ok (.iaload, 1) := by decide +kernel
theorem dX12_joins_20 : decode cX12_joins 20 = .ok (.istore 4, 2) := by decide +kernel
theorem dX12_joins_22 : decode cX12_joins 22 = .ok (.aload_n 0, 1) := by decide +kernel
theorem dX12_joins_23 : decode cX12_joins 23 = .ok (.invokevirtual 279, 3) := by decide +kernel
theorem dX12_joins_26 : decode cX12_joins 26 = .ok (.aload_n 0, 1) := by decide +kernel
theorem dX12_joins_27 : decode cX12_joins 27 = .ok (.aload_n 0, 1) := by decide +kernel
theorem dX12_joins_28 : decode cX12_joins 28 = .ok (.iload 4, 2) := by decide +kernel
theorem dX12_joins_30 : decode cX12_joins 30 = .ok (.invokevirtual 417, 3) := by decide +kernel
theorem dX12_joins_33 : decode cX12_joins 33 = .ok (.putfield 226, 3) := by decide +kernel
theorem dX12_joins_36 : decode cX12_joins 36 = .ok (.iconst 0, 1) := by decide +kernel
theorem dX12_joins_37 : decode cX12_joins 37 = .ok (.istore 5, 2) := by decide +kernel
theorem dX12_joins_39 : decode cX12_joins 39 = .ok (.iload 5, 2) := by decide +kernel
theorem dX12_joins_41 : decode cX12_joins 41 = .ok (.aload_n 0, 1) := by decide +kernel
theorem dX12_joins_42 : decode cX12_joins 42 = .ok (.getfield 234, 3) := by decide +kernel
theorem dX12_joins_45 : decode cX12_joins 45 = .ok (.if_icmp .ge 224, 3) := by decide +kernel
theorem dX12_joins_48 : decode cX12_joins 48 = .ok (.aload_n 0, 1) := by decide +kernel
theorem dX12_joins_49 : decode cX12_joins 49 = .ok (.getfield 165, 3) := by decide +kernel
theorem dX12_joins_52 : decode cX12_joins 52 = .ok (.bipush 40, 2) := by decide +kernel
theorem dX12_joins_54 : decode cX12_joins 54 = .ok (.iload_n 2, 1) := by decide +kernel
theorem dX12_joins_55 : decode cX12_joins 55 = .ok (.imul, 1) := by decide +kernel
theorem dX12_joins_56 : decode cX12_joins 56 = .ok (.aload_n 0, 1) := by decide +kernel
theorem dX12_joins_57 : decode cX12_joins 57 = .ok (.getfield 98, 3) := by decide +kernel
theorem dX12_joins_60 : decode cX12_joins 60 = .ok (.iload 5, 2) := by decide +kernel
theorem dX12_joins_62 : decode cX12_joins 62 = .ok (.iaload, 1) := by decide +kernel
theorem dX12_joins_63 : decode cX12_joins 63 = .ok (.iadd, 1) := by decide +kernel
theorem dX12_joins_64 : decode cX12_joins 64 = .ok (.baload, 1) := by decide +kernel
theorem dX12_joins_65 : decode cX12_joins 65 = .ok (.istore 6, 2) := by decide +kernel
theorem dX12_joins_67 : decode cX12_joins 67 = .ok (.aload_n 0, 1) := by decide +kernel
theorem dX12_joins_68 : decode cX12_joins 68 = .ok (.getfield 165, 3) := by decide +kernel
theorem dX12_joins_71 : decode cX12_joins 71 = .ok (.bipush 40, 2) := by decide +kernel
theorem dX12_joins_73 : decode cX12_joins 73 = .ok (.iload_n 3, 1) := by decide +kernel
theorem dX12_joins_74 : decode cX12_joins 74 = .ok (.imul, 1) := by decide +kernel
theorem dX12_joins_75 : decode cX12_joins 75 = .ok (.aload_n 0, 1) := by decide +kernel
theorem dX12_joins_76 : decode cX12_joins 76 = .ok (.getfield 101, 3) := by decide +kernel
theorem dX12_joins_79 : decode cX12_joins 79 = .ok (.iload 5, 2) := by decide +kernel
theorem dX12_joins_81 : decode cX12_joins 81 = .ok (.iaload, 1) := by decide +kernel
theorem dX12_joins_82 : decode cX12_joins 82 = .ok (.iadd, 1) := by decide +kernel
theorem dX12_joins_83 : decode cX12_joins 83 = .ok (.baload, 1) := by decide +kernel
theorem dX12_joins_84 : decode cX12_joins 84 = .ok (.istore 7, 2) := by decide +kernel
theorem dX12_joins_86 : decode cX12_joins 86 = .ok (.aload_n 0, 1) := by decide +kernel
theorem dX12_joins_87 : decode cX12_joins 87 = .ok (.getfield 104, 3) := by decide +kernel
theorem dX12_joins_90 : decode cX12_joins 90 = .ok (.iload_n 1, 1) := by decide +kernel
theorem dX12_joins_91 : decode cX12_joins 91 = .ok (.iaload, 1) := by decide +kernel
theorem dX12_joins_92 : decode cX12_joins 92 = .ok (.iconst 3, 1) := by decide +kernel
theorem dX12_joins_93 : decode cX12_joins 93 = .ok (.if_icmp .ne 21, 3) := by decide +kernel
theorem dX12_joins_96 : decode cX12_joins 96 = .ok (.iload 6, 2) := by decide +kernel
theorem dX12_joins_98 : decode cX12_joins 98 = .ok (.ifCond .eq 12, 3) := by decide +kernel
theorem dX12_joins_101 : decode cX12_joins 101 = .ok (.iload 7, 2) := by decide +kernel
theorem dX12_joins_103 : decode cX12_joins 103 = .ok (.ifCond .eq 7, 3) := by decide +kernel
theorem dX12_joins_106 : decode cX12_joins 106 = .ok (.iconst 1, 1) := by decide +kernel
theorem dX12_joins_107 : decode cX12_joins 107 = .ok (.goto 50, 3) := by decide +kernel
theorem dX12_joins_110 : decode cX12_joins 110 = .ok (.iconst 0, 1) := by decide +kernel
theorem dX12_joins_111 : decode cX12_joins 111 = .ok (.goto 46, 3) := by decide +kernel
theorem dX12_joins_114 : decode cX12_joins 114 = .ok (.aload_n 0, 1) := by decide +kernel
theorem dX12_joins_115 : decode cX12_joins 115 = .ok (.getfield 104, 3) := by decide +kernel
theorem dX12_joins_118 : decode cX12_joins 118 = .ok (.iload_n 1, 1) := by decide +kernel
theorem dX12_joins_119 : decode cX12_joins 119 = .ok (.iaload, 1) := by decide +kernel
theorem dX12_joins_120 : decode cX12_joins 120 = .ok (.iconst 4, 1) := by decide +kernel
theorem dX12_joins_121 : decode cX12_joins 121 = .ok (.if_icmp .ne 21, 3) := by decide +kernel
theorem dX12_joins_124 : decode cX12_joins 124 = .ok (.iload 6, 2) := by decide +kernel
theorem dX12_joins_126 : decode cX12_joins 126 = .ok (.ifCond .ne 8, 3) := by decide +kernel
theorem dX12_joins_129 : decode cX12_joins 129 = .ok (.iload 7, 2) := by decide +kernel
theorem dX12_joins_131 : decode cX12_joins 131 = .ok (.ifCond .eq 7, 3) := by decide +kernel
theorem dX12_joins_134 : decode cX12_joins 134 = .ok (.iconst 1, 1) := by decide +kernel
theorem dX12_joins_135 : decode cX12_joins 135 = .ok (.goto 22, 3) := by decide +kernel
theorem dX12_joins_138 : decode cX12_joins 138 = .ok (.iconst 0, 1) := by decide +kernel
theorem dX12_joins_139 : decode cX12_joins 139 = .ok (.goto 18, 3) := by decide +kernel
theorem dX12_joins_142 : decode cX12_joins 142 = .ok (.iload 6, 2) := by decide +kernel
theorem dX12_joins_144 : decode cX12_joins 144 = .ok (.ifCond .eq 8, 3) := by decide +kernel
theorem dX12_joins_147 : decode cX12_joins 147 = .ok (.iload 7, 2) := by decide +kernel
theorem dX12_joins_149 : decode cX12_joins 149 = .ok (.ifCond .eq 7, 3) := by decide +kernel
theorem dX12_joins_152 : decode cX12_joins 152 = .ok (.iconst 1, 1) := by decide +kernel
theorem dX12_joins_153 : decode cX12_joins 153 = .ok (.goto 4, 3) := by decide +kernel
theorem dX12_joins_156 : decode cX12_joins 156 = .ok (.iconst 0, 1) := by decide +kernel
theorem dX12_joins_157 : decode cX12_joins 157 = .ok (.istore 8, 2) := by decide +kernel
theorem dX12_joins_159 : decode cX12_joins 159 = .ok (.aload_n 0, 1) := by decide +kernel
theorem dX12_joins_160 : decode cX12_joins 160 = .ok (.getfield 76, 3) := by decide +kernel
theorem dX12_joins_163 : decode cX12_joins 163 = .ok (.iload 5, 2) := by decide +kernel
theorem dX12_joins_165 : decode cX12_joins 165 = .ok (.iload 8, 2) := by decide +kernel
theorem dX12_joins_167 : decode cX12_joins 167 = .ok (.ifCond .eq 7, 3) := by decide +kernel
theorem dX12_joins_170 : decode cX12_joins 170 = .ok (.iconst 1, 1) := by decide +kernel
theorem dX12_joins_171 : decode cX12_joins 171 = .ok (.goto 4, 3) := by decide +kernel
theorem dX12_joins_174 : decode cX12_joins 174 = .ok (.iconst 0, 1) := by decide +kernel
theorem dX12_joins_175 : decode cX12_joins 175 = .ok (.iastore, 1) := by decide +kernel
theorem dX12_joins_176 : decode cX12_joins 176 = .ok (.iconst 0, 1) := by decide +kernel
theorem dX12_joins_177 : decode cX12_joins 177 = .ok (.istore 9, 2) := by decide +kernel
theorem dX12_joins_179 : decode cX12_joins 179 = .ok (.iload 9, 2) := by decide +kernel
theorem dX12_joins_181 : decode cX12_joins 181 = .ok (.aload_n 0, 1) := by decide +kernel
theorem dX12_joins_182 : decode cX12_joins 182 = .ok (.getfield 226, 3) := by decide +kernel
theorem dX12_joins_185 : decode cX12_joins 185 = .ok (.if_icmp .ge 78, 3) := by decide +kernel
theorem dX12_joins_188 : decode cX12_joins 188 = .ok (.aload_n 0, 1) := by decide +kernel
theorem dX12_joins_189 : decode cX12_joins 189 = .ok (.getfield 73, 3) := by decide +kernel
theorem dX12_joins_192 : decode cX12_joins 192 = .ok (.bipush 27, 2) := by decide +kernel
theorem dX12_joins_194 : decode cX12_joins 194 = .ok (.iload 5, 2) := by decide +kernel
theorem dX12_joins_196 : decode cX12_joins 196 = .ok (.imul, 1) := by decide +kernel
theorem dX12_joins_197 : decode cX12_joins 197 = .ok (.iload 9, 2) := by decide +kernel
theorem dX12_joins_199 : decode cX12_joins 199 = .ok (.iadd, 1) := by decide +kernel
theorem dX12_joins_200 : decode cX12_joins 200 = .ok (.aload_n 0, 1) := by decide +kernel
theorem dX12_joins_201 : decode cX12_joins 201 = .ok (.aload_n 0, 1) := by decide +kernel
theorem dX12_joins_202 : decode cX12_joins 202 = .ok (.iload_n 2, 1) := by decide +kernel
theorem dX12_joins_203 : decode cX12_joins 203 = .ok (.aload_n 0, 1) := by decide +kernel
theorem dX12_joins_204 : decode cX12_joins 204 = .ok (.getfield 98, 3) := by decide +kernel
theorem dX12_joins_207 : decode cX12_joins 207 = .ok (.iload 5, 2) := by decide +kernel
theorem dX12_joins_209 : decode cX12_joins 209 = .ok (.iaload, 1) := by decide +kernel
theorem dX12_joins_210 : decode cX12_joins 210 = .ok (.aload_n 0, 1) := by decide +kernel
theorem dX12_joins_211 : decode cX12_joins 211 = .ok (.iload 9, 2) := by decide +kernel
theorem dX12_joins_213 : decode cX12_joins 213 = .ok (.iload 4, 2) := by decide +kernel
theorem dX12_joins_215 : decode cX12_joins 215 = .ok (.aload_n 0, 1) := by decide +kernel
theorem dX12_joins_216 : decode cX12_joins 216 = .ok (.getfield 119, 3) := by decide +kernel
theorem dX12_joins_219 : decode cX12_joins 219 = .ok (.iload_n 2, 1) := by decide +kernel
theorem dX12_joins_220 : decode cX12_joins 220 = .ok (.iaload, 1) := by decide +kernel
theorem dX12_joins_221 : decode cX12_joins 221 = .ok (.invokevirtual 423, 3) := by decide +kernel
theorem dX12_joins_224 : decode cX12_joins 224 = .ok (.invokevirtual 426, 3) := by decide +kernel
theorem dX12_joins_227 : decode cX12_joins 227 = .ok (.aload_n 0, 1) := by decide +kernel
theorem dX12_joins_228 : decode cX12_joins 228 = .ok (.iload_n 3, 1) := by decide +kernel
theorem dX12_joins_229 : decode cX12_joins 229 = .ok (.aload_n 0, 1) := by decide +kernel
theorem dX12_joins_230 : decode cX12_joins 230 = .ok (.getfield 101, 3) := by decide +kernel
theorem dX12_joins_233 : decode cX12_joins 233 = .ok (.iload 5, 2) := by decide +kernel
theorem dX12_joins_235 : decode cX12_joins 235 = .ok (.iaload, 1) := by decide +kernel
theorem dX12_joins_236 : decode cX12_joins 236 = .ok (.aload_n 0, 1) := by decide +kernel
theorem dX12_joins_237 : decode cX12_joins 237 = .ok (.iload 9, 2) := by decide +kernel
theorem dX12_joins_239 : decode cX12_joins 239 = .ok (.iload 4, 2) := by decide +kernel
theorem dX12_joins_241 : decode cX12_joins 241 = .ok (.aload_n 0, 1) := by decide +kernel
theorem dX12_joins_242 : decode cX12_joins 242 = .ok (.getfield 119, 3) := by decide +kernel
theorem dX12_joins_245 : decode cX12_joins 245 = .ok (.iload_n 3, 1) := by decide +kernel
theorem dX12_joins_246 : decode cX12_joins 246 = .ok (.iaload, 1) := by decide +kernel
theorem dX12_joins_247 : decode cX12_joins 247 = .ok (.invokevirtual 423, 3) := by decide +kernel
theorem dX12_joins_250 : decode cX12_joins 250 = .ok (.invokevirtual 426, 3) := by decide +kernel
theorem dX12_joins_253 : decode cX12_joins 253 = .ok (.invokevirtual 272, 3) := by decide +kernel
theorem dX12_joins_256 : decode cX12_joins 256 = .ok (.iastore, 1) := by decide +kernel
theorem dX12_joins_257 : decode cX12_joins 257 = .ok (.iinc 9 1, 3) := by decide +kernel
theorem dX12_joins_260 : decode cX12_joins 260 = .ok (.goto (-81), 3) := by decide +kernel
theorem dX12_joins_263 : decode cX12_joins 263 = .ok (.iinc 5 1, 3) := by decide +kernel
theorem dX12_joins_266 : decode cX12_joins 266 = .ok (.goto (-227), 3) := by decide +kernel
theorem dX12_joins_269 : decode cX12_joins 269 = .ok (.aload_n 0, 1) := by decide +kernel
theorem dX12_joins_270 : decode cX12_joins 270 = .ok (.iload_n 1, 1) := by decide +kernel
theorem dX12_joins_271 : decode cX12_joins 271 = .ok (.invokevirtual 429, 3) := by decide +kernel
theorem dX12_joins_274 : decode cX12_joins 274 = .ok (.ireturn, 1) := by decide +kernel
theorem dX12_copy_0 : decode cX12_copy 0 = .ok (.aload_n 0, 1) := by decide +kernel
theorem dX12_copy_1 : decode cX12_copy 1 = .ok (.aload_n 0, 1) := by decide +kernel
theorem dX12_copy_2 : decode cX12_copy 2 = .ok (.getfield 158, 3) := by decide +kernel
theorem dX12_copy_5 : decode cX12_copy 5 = .ok (.iload_n 1, 1) := by decide +kernel
theorem dX12_copy_6 : decode cX12_copy 6 = .ok (.iaload, 1) := by decide +kernel
theorem dX12_copy_7 : decode cX12_copy 7 = .ok (.putfield 234, 3) := by decide +kernel
theorem dX12_copy_10 : decode cX12_copy 10 = .ok (.aload_n 0, 1) := by decide +kernel
theorem dX12_copy_11 : decode cX12_copy 11 = .ok (.aload_n 0, 1) := by decide +kernel
theorem dX12_copy_12 : decode cX12_copy 12 = .ok (.aload_n 0, 1) := by decide +kernel
theorem dX12_copy_13 : decode cX12_copy 13 = .ok (.getfield 119, 3) := by decide +kernel
theorem dX12_copy_16 : decode cX12_copy 16 = .ok (.iload_n 1, 1) := by decide +kernel
theorem dX12_copy_17 : decode cX12_copy 17 = .ok (.iaload, 1) := by decide +kernel
theorem dX12_copy_18 : decode cX12_copy 18 = .ok (.invokevirtual 417, 3) := by decide +kernel
theorem dX12_copy_21 : decode cX12_copy 21 = .ok (.putfield 226, 3) := by decide +kernel
theorem dX12_copy_24 : decode cX12_copy 24 = .ok (.iconst 0, 1) := by decide +kernel
theorem dX12_copy_25 : decode cX12_copy 25 = .ok (.istore_n 3, 1) := by decide +kernel
theorem dX12_copy_26 : decode cX12_copy 26 = .ok (.iload_n 3, 1) := by decide +kernel
theorem dX12_copy_27 : decode cX12_copy 27 = .ok (.aload_n 0, 1) := by decide +kernel
theorem dX12_copy_28 : decode cX12_copy 28 = .ok (.getfield 234, 3) := by decide +kernel
theorem dX12_copy_31 : decode cX12_copy 31 = .ok (.if_icmp .ge 73, 3) := by decide +kernel
theorem dX12_copy_34 : decode cX12_copy 34 = .ok (.aload_n 0, 1) := by decide +kernel
theorem dX12_copy_35 : decode cX12_copy 35 = .ok (.getfield 76, 3) := by decide +kernel
theorem dX12_copy_38 : decode cX12_copy 38 = .ok (.iload_n 3, 1) := by decide +kernel
theorem dX12_copy_39 : decode cX12_copy 39 = .ok (.aload_n 0, 1) := by decide +kernel
theorem dX12_copy_40 : decode cX12_copy 40 = .ok (.getfield 165, 3) := by decide +kernel
theorem dX12_copy_43 : decode cX12_copy 43 = .ok (.bipush 40, 2) := by decide +kernel
theorem dX12_copy_45 : decode cX12_copy 45 = .ok (.iload_n 1, 1) := by decide +kernel
theorem dX12_copy_46 : decode cX12_copy 46 = .ok (.imul, 1) := by decide +kernel
theorem dX12_copy_47 : decode cX12_copy 47 = .ok (.iload_n 3, 1) := by decide +kernel
theorem dX12_copy_48 : decode cX12_copy 48 = .ok (.iadd, 1) := by decide +kernel
theorem dX12_copy_49 : decode cX12_copy 49 = .ok (.baload, 1) := by decide +kernel
theorem dX12_copy_50 : decode cX12_copy 50 = .ok (.iload_n 2, 1) := by decide +kernel
theorem dX12_copy_51 : decode cX12_copy 51 = .ok (.if_icmp .eq 7, 3) := by decide +kernel
theorem dX12_copy_54 : decode cX12_copy 54 = .ok (.iconst 1, 1) := by decide +kernel
theorem dX12_copy_55 : decode cX12_copy 55 = .ok (.goto 4, 3) := by decide +kernel
theorem dX12_copy_58 : decode cX12_copy 58 = .ok (.iconst 0, 1) := by decide +kernel
theorem dX12_copy_59 : decode cX12_copy 59 = .ok (.iastore, 1) := by decide +kernel
theorem dX12_copy_60 : decode cX12_copy 60 = .ok (.iconst 0, 1) := by decide +kernel
theorem dX12_copy_61 : decode cX12_copy 61 = .ok (.istore 4, 2) := by decide +kernel
theorem dX12_copy_63 : decode cX12_copy 63 = .ok (.iload 4, 2) := by decide +kernel
theorem dX12_copy_65 : decode cX12_copy 65 = .ok (.aload_n 0, 1) := by decide +kernel
theorem dX12_copy_66 : decode cX12_copy 66 = .ok (.getfield 226, 3) := by decide +kernel
theorem dX12_copy_69 : decode cX12_copy 69 = .ok (.if_icmp .ge 29, 3) := by decide +kernel
theorem dX12_copy_72 : decode cX12_copy 72 = .ok (.aload_n 0, 1) := by decide +kernel
theorem dX12_copy_73 : decode cX12_copy 73 = .ok (.getfield 73, 3) := by decide +kernel
theorem dX12_copy_76 : decode cX12_copy 76 = .ok (.bipush 27, 2) := by decide +kernel
theorem dX12_copy_78 : decode cX12_copy 78 = .ok (.iload_n 3, 1) := by decide +kernel
theorem dX12_copy_79 : decode cX12_copy 79 = .ok (.imul, 1) := by decide +kernel
theorem dX12_copy_80 : decode cX12_copy 80 = .ok (.iload 4, 2) := by decide +kernel
theorem dX12_copy_82 : decode cX12_copy 82 = .ok (.iadd, 1) := by decide +kernel
theorem dX12_copy_83 : decode cX12_copy 83 = .ok (.aload_n 0, 1) := by decide +kernel
theorem dX12_copy_84 : decode cX12_copy 84 = .ok (.iload_n 1, 1) := by decide +kernel
theorem dX12_copy_85 : decode cX12_copy 85 = .ok (.iload_n 3, 1) := by decide +kernel
theorem dX12_copy_86 : decode cX12_copy 86 = .ok (.iload 4, 2) := by decide +kernel
theorem dX12_copy_88 : decode cX12_copy 88 = .ok (.invokevirtual 426, 3) := by decide +kernel
theorem dX12_copy_91 : decode cX12_copy 91 = .ok (.iastore, 1) := by decide +kernel
theorem dX12_copy_92 : decode cX12_copy 92 = .ok (.iinc 4 1, 3) := by decide +kernel
theorem dX12_copy_95 : decode cX12_copy 95 = .ok (.goto (-32), 3) := by decide +kernel
theorem dX12_copy_98 : decode cX12_copy 98 = .ok (.iinc 3 1, 3) := by decide +kernel
theorem dX12_copy_101 : decode cX12_copy 101 = .ok (.goto (-75), 3) := by decide +kernel
theorem dX12_copy_104 : decode cX12_copy 104 = .ok (.return_, 1) := by decide +kernel
theorem dX12_setOf_0 : decode cX12_setOf 0 = .ok (.iconst 0, 1) := by decide +kernel
theorem dX12_setOf_1 : decode cX12_setOf 1 = .ok (.istore_n 3, 1) := by decide +kernel
theorem dX12_setOf_2 : decode cX12_setOf 2 = .ok (.iload_n 3, 1) := by decide +kernel
theorem dX12_setOf_3 : decode cX12_setOf 3 = .ok (.aload_n 0, 1) := by decide +kernel
theorem dX12_setOf_4 : decode cX12_setOf 4 = .ok (.getfield 234, 3) := by decide +kernel
theorem dX12_setOf_7 : decode cX12_setOf 7 = .ok (.if_icmp .ge 22, 3) := by decide +kernel
theorem dX12_setOf_10 : decode cX12_setOf 10 = .ok (.aload_n 0, 1) := by decide +kernel
theorem dX12_setOf_11 : decode cX12_setOf 11 = .ok (.getfield 168, 3) := by decide +kernel
theorem dX12_setOf_14 : decode cX12_setOf 14 = .ok (.iload_n 3, 1) := by decide +kernel
theorem dX12_setOf_15 : decode cX12_setOf 15 = .ok (.laload, 1) := by decide +kernel
theorem dX12_setOf_16 : decode cX12_setOf 16 = .ok (.lload_n 1, 1) := by decide +kernel
theorem dX12_setOf_17 : decode cX12_setOf 17 = .ok (.lcmp, 1) := by decide +kernel
theorem dX12_setOf_18 : decode cX12_setOf 18 = .ok (.ifCond .ne 5, 3) := by decide +kernel
theorem dX12_setOf_21 : decode cX12_setOf 21 = .ok (.iload_n 3, 1) := by decide +kernel
theorem dX12_setOf_22 : decode cX12_setOf 22 = .ok (.ireturn, 1) := by decide +kernel
theorem dX12_setOf_23 : decode cX12_setOf 23 = .ok (.iinc 3 1, 3) := by decide +kernel
theorem dX12_setOf_26 : decode cX12_setOf 26 = .ok (.goto (-24), 3) := by decide +kernel
theorem dX12_setOf_29 : decode cX12_setOf 29 = .ok (.aload_n 0, 1) := by decide +kernel
theorem dX12_setOf_30 : decode cX12_setOf 30 = .ok (.getfield 234, 3) := by decide +kernel
theorem dX12_setOf_33 : decode cX12_setOf 33 = .ok (.sipush 300, 3) := by decide +kernel
theorem dX12_setOf_36 : decode cX12_setOf 36 = .ok (.if_icmp .gt 13, 3) := by decide +kernel
theorem dX12_setOf_39 : decode cX12_setOf 39 = .ok (.aload_n 0, 1) := by decide +kernel
theorem dX12_setOf_40 : decode cX12_setOf 40 = .ok (.getfield 168, 3) := by decide +kernel
theorem dX12_setOf_43 : decode cX12_setOf 43 = .ok (.aload_n 0, 1) := by decide +kernel
theorem dX12_setOf_44 : decode cX12_setOf 44 = .ok (.getfield 234, 3) := by decide +kernel
theorem dX12_setOf_47 : decode cX12_setOf 47 = .ok (.lload_n 1, 1) := by decide +kernel
theorem dX12_setOf_48 : decode cX12_setOf 48 = .ok (.lastore, 1) := by decide +kernel
theorem dX12_setOf_49 : decode cX12_setOf 49 = .ok (.aload_n 0, 1) := by decide +kernel
theorem dX12_setOf_50 : decode cX12_setOf 50 = .ok (.dup, 1) := by decide +kernel
theorem dX12_setOf_51 : decode cX12_setOf 51 = .ok (.getfield 234, 3) := by decide +kernel
theorem dX12_setOf_54 : decode cX12_setOf 54 = .ok (.iconst 1, 1) := by decide +kernel
theorem dX12_setOf_55 : decode cX12_setOf 55 = .ok (.iadd, 1) := by decide +kernel
theorem dX12_setOf_56 : decode cX12_setOf 56 = .ok (.putfield 234, 3) := by decide +kernel
theorem dX12_setOf_59 : decode cX12_setOf 59 = .ok (.aload_n 0, 1) := by decide +kernel
theorem dX12_setOf_60 : decode cX12_setOf 60 = .ok (.getfield 234, 3) := by decide +kernel
theorem dX12_setOf_63 : decode cX12_setOf 63 = .ok (.iconst 1, 1) := by decide +kernel
theorem dX12_setOf_64 : decode cX12_setOf 64 = .ok (.isub, 1) := by decide +kernel
theorem dX12_setOf_65 : decode cX12_setOf 65 = .ok (.ireturn, 1) := by decide +kernel
theorem dX12_steps_0 : decode cX12_steps 0 = .ok (.lconst 0, 1) := by decide +kernel
theorem dX12_steps_1 : decode cX12_steps 1 = .ok (.lstore 6, 2) := by decide +kernel
theorem dX12_steps_3 : decode cX12_steps 3 = .ok (.aload_n 0, 1) := by decide +kernel
theorem dX12_steps_4 : decode cX12_steps 4 = .ok (.getfield 119, 3) := by decide +kernel
theorem dX12_steps_7 : decode cX12_steps 7 = .ok (.iload_n 1, 1) := by decide +kernel
theorem dX12_steps_8 : decode cX12_steps 8 = .ok (.iaload, 1) := by decide +kernel
theorem dX12_steps_9 : decode cX12_steps 9 = .ok (.istore 8, 2) := by decide +kernel
theorem dX12_steps_11 : decode cX12_steps 11 = .ok (.iconst 0, 1) := by decide +kernel
theorem dX12_steps_12 : decode cX12_steps 12 = .ok (.istore 9, 2) := by decide +kernel
theorem dX12_steps_14 : decode cX12_steps 14 = .ok (.iload 9, 2) := by decide +kernel
theorem dX12_steps_16 : decode cX12_steps 16 = .ok (.aload_n 0, 1) := by decide +kernel
theorem dX12_steps_17 : decode cX12_steps 17 = .ok (.iload 8, 2) := by decide +kernel
theorem dX12_steps_19 : decode cX12_steps 19 = .ok (.invokevirtual 417, 3) := by decide +kernel
theorem dX12_steps_22 : decode cX12_steps 22 = .ok (.if_icmp .ge 82, 3) := by decide +kernel
theorem dX12_steps_25 : decode cX12_steps 25 = .ok (.aload_n 0, 1) := by decide +kernel
theorem dX12_steps_26 : decode cX12_steps 26 = .ok (.iload 9, 2) := by decide +kernel
theorem dX12_steps_28 : decode cX12_steps 28 = .ok (.iload 8, 2) := by decide +kernel
theorem dX12_steps_30 : decode cX12_steps 30 = .ok (.iload 8, 2) := by decide +kernel
theorem dX12_steps_32 : decode cX12_steps 32 = .ok (.iconst 1, 1) := by decide +kernel
theorem dX12_steps_33 : decode cX12_steps 33 = .ok (.iload 5, 2) := by decide +kernel
theorem dX12_steps_35 : decode cX12_steps 35 = .ok (.ishl, 1) := by decide +kernel
theorem dX12_steps_36 : decode cX12_steps 36 = .ok (.iconst (-1), 1) := by decide +kernel
theorem dX12_steps_37 : decode cX12_steps 37 = .ok (.ixor, 1) := by decide +kernel
theorem dX12_steps_38 : decode cX12_steps 38 = .ok (.iand, 1) := by decide +kernel
theorem dX12_steps_39 : decode cX12_steps 39 = .ok (.invokevirtual 423, 3) := by decide +kernel
theorem dX12_steps_42 : decode cX12_steps 42 = .ok (.iload 4, 2) := by decide +kernel
theorem dX12_steps_44 : decode cX12_steps 44 = .ok (.if_icmp .ne 54, 3) := by decide +kernel
theorem dX12_steps_47 : decode cX12_steps 47 = .ok (.iconst 0, 1) := by decide +kernel
theorem dX12_steps_48 : decode cX12_steps 48 = .ok (.istore 10, 2) := by decide +kernel
theorem dX12_steps_50 : decode cX12_steps 50 = .ok (.iload 10, 2) := by decide +kernel
theorem dX12_steps_52 : decode cX12_steps 52 = .ok (.aload_n 0, 1) := by decide +kernel
theorem dX12_steps_53 : decode cX12_steps 53 = .ok (.getfield 158, 3) := by decide +kernel
theorem dX12_steps_56 : decode cX12_steps 56 = .ok (.iload_n 1, 1) := by decide +kernel
theorem dX12_steps_57 : decode cX12_steps 57 = .ok (.iaload, 1) := by decide +kernel
theorem dX12_steps_58 : decode cX12_steps 58 = .ok (.if_icmp .ge 40, 3) := by decide +kernel
theorem dX12_steps_61 : decode cX12_steps 61 = .ok (.lload 6, 2) := by decide +kernel
theorem dX12_steps_63 : decode cX12_steps 63 = .ok (.lload_n 2, 1) := by decide +kernel
theorem dX12_steps_64 : decode cX12_steps 64 = .ok (.iload 10, 2) := by decide +kernel
theorem dX12_steps_66 : decode cX12_steps 66 = .ok (.lshr, 1) := by decide +kernel
theorem dX12_steps_67 : decode cX12_steps 67 = .ok (.lconst 1, 1) := by decide +kernel
theorem dX12_steps_68 : decode cX12_steps 68 = .ok (.land, 1) := by decide +kernel
theorem dX12_steps_69 : decode cX12_steps 69 = .ok (.lconst 1, 1) := by decide +kernel
theorem dX12_steps_70 : decode cX12_steps 70 = .ok (.lcmp, 1) := by decide +kernel
theorem dX12_steps_71 : decode cX12_steps 71 = .ok (.ifCond .ne 17, 3) := by decide +kernel
theorem dX12_steps_74 : decode cX12_steps 74 = .ok (.lconst 1, 1) := by decide +kernel
theorem dX12_steps_75 : decode cX12_steps 75 = .ok (.aload_n 0, 1) := by decide +kernel
theorem dX12_steps_76 : decode cX12_steps 76 = .ok (.iload_n 1, 1) := by decide +kernel
theorem dX12_steps_77 : decode cX12_steps 77 = .ok (.iload 10, 2) := by decide +kernel
theorem dX12_steps_79 : decode cX12_steps 79 = .ok (.iload 9, 2) := by decide +kernel
theorem dX12_steps_81 : decode cX12_steps 81 = .ok (.invokevirtual 426, 3) := by decide +kernel
theorem dX12_steps_84 : decode cX12_steps 84 = .ok (.lshl, 1) := by decide +kernel
theorem dX12_steps_85 : decode cX12_steps 85 = .ok (.goto 4, 3) := by decide +kernel
theorem dX12_steps_88 : decode cX12_steps 88 = .ok (.lconst 0, 1) := by decide +kernel
theorem dX12_steps_89 : decode cX12_steps 89 = .ok (.lor, 1) := by decide +kernel
theorem dX12_steps_90 : decode cX12_steps 90 = .ok (.lstore 6, 2) := by decide +kernel
theorem dX12_steps_92 : decode cX12_steps 92 = .ok (.iinc 10 1, 3) := by decide +kernel
theorem dX12_steps_95 : decode cX12_steps 95 = .ok (.goto (-45), 3) := by decide +kernel
theorem dX12_steps_98 : decode cX12_steps 98 = .ok (.iinc 9 1, 3) := by decide +kernel
theorem dX12_steps_101 : decode cX12_steps 101 = .ok (.goto (-87), 3) := by decide +kernel
theorem dX12_steps_104 : decode cX12_steps 104 = .ok (.lload 6, 2) := by decide +kernel
theorem dX12_steps_106 : decode cX12_steps 106 = .ok (.lreturn, 1) := by decide +kernel
theorem dX12_bounds_0 : decode cX12_bounds 0 = .ok (.aload_n 0, 1) := by decide +kernel
theorem dX12_bounds_1 : decode cX12_bounds 1 = .ok (.getfield 107, 3) := by decide +kernel
theorem dX12_bounds_4 : decode cX12_bounds 4 = .ok (.iload_n 1, 1) := by decide +kernel
theorem dX12_bounds_5 : decode cX12_bounds 5 = .ok (.iaload, 1) := by decide +kernel
theorem dX12_bounds_6 : decode cX12_bounds 6 = .ok (.istore_n 2, 1) := by decide +kernel
theorem dX12_bounds_7 : decode cX12_bounds 7 = .ok (.aload_n 0, 1) := by decide +kernel
theorem dX12_bounds_8 : decode cX12_bounds 8 = .ok (.getfield 113, 3) := by decide +kernel
theorem dX12_bounds_11 : decode cX12_bounds 11 = .ok (.iload_n 1, 1) := by decide +kernel
theorem dX12_bounds_12 : decode cX12_bounds 12 = .ok (.iaload, 1) := by decide +kernel
theorem dX12_bounds_13 : decode cX12_bounds 13 = .ok (.istore_n 3, 1) := by decide +kernel
theorem dX12_bounds_14 : decode cX12_bounds 14 = .ok (.aload_n 0, 1) := by decide +kernel
theorem dX12_bounds_15 : decode cX12_bounds 15 = .ok (.getfield 119, 3) := by decide +kernel
theorem dX12_bounds_18 : decode cX12_bounds 18 = .ok (.iload_n 2, 1) := by decide +kernel
theorem dX12_bounds_19 : decode cX12_bounds 19 = .ok (.iaload, 1) := by decide +kernel
theorem dX12_bounds_20 : decode cX12_bounds 20 = .ok (.iload_n 3, 1) := by decide +kernel
theorem dX12_bounds_21 : decode cX12_bounds 21 = .ok (.ishr, 1) := by decide +kernel
theorem dX12_bounds_22 : decode cX12_bounds 22 = .ok (.iconst 1, 1) := by decide +kernel
theorem dX12_bounds_23 : decode cX12_bounds 23 = .ok (.iand, 1) := by decide +kernel
theorem dX12_bounds_24 : decode cX12_bounds 24 = .ok (.ifCond .ne 15, 3) := by decide +kernel
theorem dX12_bounds_27 : decode cX12_bounds 27 = .ok (.aload_n 0, 1) := by decide +kernel
theorem dX12_bounds_28 : decode cX12_bounds 28 = .ok (.iload_n 2, 1) := by decide +kernel
theorem dX12_bounds_29 : decode cX12_bounds 29 = .ok (.iconst 0, 1) := by decide +kernel
theorem dX12_bounds_30 : decode cX12_bounds 30 = .ok (.invokevirtual 432, 3) := by decide +kernel
theorem dX12_bounds_33 : decode cX12_bounds 33 = .ok (.aload_n 0, 1) := by decide +kernel
theorem dX12_bounds_34 : decode cX12_bounds 34 = .ok (.iload_n 1, 1) := by decide +kernel
theorem dX12_bounds_35 : decode cX12_bounds 35 = .ok (.invokevirtual 429, 3) := by decide +kernel
theorem dX12_bounds_38 : decode cX12_bounds 38 = .ok (.ireturn, 1) := by decide +kernel
theorem dX12_bounds_39 : decode cX12_bounds 39 = .ok (.lconst 1, 1) := by decide +kernel
theorem dX12_bounds_40 : decode cX12_bounds 40 = .ok (.lstore 4, 2) := by decide +kernel
theorem dX12_bounds_42 : decode cX12_bounds 42 = .ok (.lconst 0, 1) := by decide +kernel
theorem dX12_bounds_43 : decode cX12_bounds 43 = .ok (.lstore 6, 2) := by decide +kernel
theorem dX12_bounds_45 : decode cX12_bounds 45 = .ok (.lload 4, 2) := by decide +kernel
theorem dX12_bounds_47 : decode cX12_bounds 47 = .ok (.lload 6, 2) := by decide +kernel
theorem dX12_bounds_49 : decode cX12_bounds 49 = .ok (.lcmp, 1) := by decide +kernel
theorem dX12_bounds_50 : decode cX12_bounds 50 = .ok (.ifCond .eq 24, 3) := by decide +kernel
theorem dX12_bounds_53 : decode cX12_bounds 53 = .ok (.lload 4, 2) := by decide +kernel
theorem dX12_bounds_55 : decode cX12_bounds 55 = .ok (.lstore 6, 2) := by decide +kernel
theorem dX12_bounds_57 : decode cX12_bounds 57 = .ok (.lload 4, 2) := by decide +kernel
theorem dX12_bounds_59 : decode cX12_bounds 59 = .ok (.aload_n 0, 1) := by decide +kernel
theorem dX12_bounds_60 : decode cX12_bounds 60 = .ok (.iload_n 2, 1) := by decide +kernel
theorem dX12_bounds_61 : decode cX12_bounds 61 = .ok (.lload 4, 2) := by decide +kernel
theorem dX12_bounds_63 : decode cX12_bounds 63 = .ok (.iconst 0, 1) := by decide +kernel
theorem dX12_bounds_64 : decode cX12_bounds 64 = .ok (.iload_n 3, 1) := by decide +kernel
theorem dX12_bounds_65 : decode cX12_bounds 65 = .ok (.invokevirtual 436, 3) := by decide +kernel
theorem dX12_bounds_68 : decode cX12_bounds 68 = .ok (.lor, 1) := by decide +kernel
theorem dX12_bounds_69 : decode cX12_bounds 69 = .ok (.lstore 4, 2) := by decide +kernel
theorem dX12_bounds_71 : decode cX12_bounds 71 = .ok (.goto (-26), 3) := by decide +kernel
theorem dX12_bounds_74 : decode cX12_bounds 74 = .ok (.aload_n 0, 1) := by decide +kernel
theorem dX12_bounds_75 : decode cX12_bounds 75 = .ok (.iconst 0, 1) := by decide +kernel
theorem dX12_bounds_76 : decode cX12_bounds 76 = .ok (.putfield 234, 3) := by decide +kernel
theorem dX12_bounds_79 : decode cX12_bounds 79 = .ok (.aload_n 0, 1) := by decide +kernel
theorem dX12_bounds_80 : decode cX12_bounds 80 = .ok (.lload 4, 2) := by decide +kernel
theorem dX12_bounds_82 : decode cX12_bounds 82 = .ok (.invokevirtual 440, 3) := by decide +kernel
theorem dX12_bounds_85 : decode cX12_bounds 85 = .ok (.pop, 1) := by decide +kernel
theorem dX12_bounds_86 : decode cX12_bounds 86 = .ok (.aload_n 0, 1) := by decide +kernel
theorem dX12_bounds_87 : decode cX12_bounds 87 = .ok (.aload_n 0, 1) := by decide +kernel
theorem dX12_bounds_88 : decode cX12_bounds 88 = .ok (.getfield 119, 3) := by decide +kernel
theorem dX12_bounds_91 : decode cX12_bounds 91 = .ok (.iload_n 1, 1) := by decide +kernel
theorem dX12_bounds_92 : decode cX12_bounds 92 = .ok (.iaload, 1) := by decide +kernel
theorem dX12_bounds_93 : decode cX12_bounds 93 = .ok (.invokevirtual 417, 3) := by decide +kernel
theorem dX12_bounds_96 : decode cX12_bounds 96 = .ok (.istore 8, 2) := by decide +kernel
theorem dX12_bounds_98 : decode cX12_bounds 98 = .ok (.iconst 0, 1) := by decide +kernel
theorem dX12_bounds_99 : decode cX12_bounds 99 = .ok (.istore 9, 2) := by decide +kernel
theorem dX12_bounds_101 : decode cX12_bounds 101 = .ok (.iload 9, 2) := by decide +kernel
theorem dX12_bounds_103 : decode cX12_bounds 103 = .ok (.aload_n 0, 1) := by decide +kernel
theorem dX12_bounds_104 : decode cX12_bounds 104 = .ok (.getfield 234, 3) := by decide +kernel
theorem dX12_bounds_107 : decode cX12_bounds 107 = .ok (.if_icmp .ge 183, 3) := by decide +kernel
theorem dX12_bounds_110 : decode cX12_bounds 110 = .ok (.aload_n 0, 1) := by decide +kernel
theorem dX12_bounds_111 : decode cX12_bounds 111 = .ok (.getfield 234, 3) := by decide +kernel
theorem dX12_bounds_114 : decode cX12_bounds 114 = .ok (.sipush 300, 3) := by decide +kernel
theorem dX12_bounds_117 : decode cX12_bounds 117 = .ok (.if_icmp .gt 173, 3) := by decide +kernel
theorem dX12_bounds_120 : decode cX12_bounds 120 = .ok (.aload_n 0, 1) := by decide +kernel
theorem dX12_bounds_121 : decode cX12_bounds 121 = .ok (.getfield 76, 3) := by decide +kernel
theorem dX12_bounds_124 : decode cX12_bounds 124 = .ok (.iload 9, 2) := by decide +kernel
theorem dX12_bounds_126 : decode cX12_bounds 126 = .ok (.iconst 0, 1) := by decide +kernel
theorem dX12_bounds_127 : decode cX12_bounds 127 = .ok (.iastore, 1) := by decide +kernel
theorem dX12_bounds_128 : decode cX12_bounds 128 = .ok (.iconst 0, 1) := by decide +kernel
theorem dX12_bounds_129 : decode cX12_bounds 129 = .ok (.istore 10, 2) := by decide +kernel
theorem dX12_bounds_131 : decode cX12_bounds 131 = .ok (.iload 10, 2) := by decide +kernel
theorem dX12_bounds_133 : decode cX12_bounds 133 = .ok (.aload_n 0, 1) := by decide +kernel
theorem dX12_bounds_134 : decode cX12_bounds 134 = .ok (.getfield 158, 3) := by decide +kernel
theorem dX12_bounds_137 : decode cX12_bounds 137 = .ok (.iload_n 2, 1) := by decide +kernel
theorem dX12_bounds_138 : decode cX12_bounds 138 = .ok (.iaload, 1) := by decide +kernel
theorem dX12_bounds_139 : decode cX12_bounds 139 = .ok (.if_icmp .ge 87, 3) := by decide +kernel
theorem dX12_bounds_142 : decode cX12_bounds 142 = .ok (.aload_n 0, 1) := by decide +kernel
theorem dX12_bounds_143 : decode cX12_bounds 143 = .ok (.getfield 165, 3) := by decide +kernel
theorem dX12_bounds_146 : decode cX12_bounds 146 = .ok (.bipush 40, 2) := by decide +kernel
theorem dX12_bounds_148 : decode cX12_bounds 148 = .ok (.iload_n 2, 1) := by decide +kernel
theorem dX12_bounds_149 : decode cX12_bounds 149 = .ok (.imul, 1) := by decide +kernel
theorem dX12_bounds_150 : decode cX12_bounds 150 = .ok (.iload 10, 2) := by decide +kernel
theorem dX12_bounds_152 : decode cX12_bounds 152 = .ok (.iadd, 1) := by decide +kernel
theorem dX12_bounds_153 : decode cX12_bounds 153 = .ok (.baload, 1) := by decide +kernel
theorem dX12_bounds_154 : decode cX12_bounds 154 = .ok (.aload_n 0, 1) := by decide +kernel
theorem dX12_bounds_155 : decode cX12_bounds 155 = .ok (.getfield 104, 3) := by decide +kernel
theorem dX12_bounds_158 : decode cX12_bounds 158 = .ok (.iload_n 1, 1) := by decide +kernel
theorem dX12_bounds_159 : decode cX12_bounds 159 = .ok (.iaload, 1) := by decide +kernel
theorem dX12_bounds_160 : decode cX12_bounds 160 = .ok (.bipush 7, 2) := by decide +kernel
theorem dX12_bounds_162 : decode cX12_bounds 162 = .ok (.if_icmp .ne 7, 3) := by decide +kernel
theorem dX12_bounds_165 : decode cX12_bounds 165 = .ok (.iconst 1, 1) := by decide +kernel
theorem dX12_bounds_166 : decode cX12_bounds 166 = .ok (.goto 4, 3) := by decide +kernel
theorem dX12_bounds_169 : decode cX12_bounds 169 = .ok (.iconst 0, 1) := by decide +kernel
theorem dX12_bounds_170 : decode cX12_bounds 170 = .ok (.if_icmp .ne 7, 3) := by decide +kernel
theorem dX12_bounds_173 : decode cX12_bounds 173 = .ok (.iconst 1, 1) := by decide +kernel
theorem dX12_bounds_174 : decode cX12_bounds 174 = .ok (.goto 4, 3) := by decide +kernel
theorem dX12_bounds_177 : decode cX12_bounds 177 = .ok (.iconst 0, 1) := by decide +kernel
theorem dX12_bounds_178 : decode cX12_bounds 178 = .ok (.istore 11, 2) := by decide +kernel
theorem dX12_bounds_180 : decode cX12_bounds 180 = .ok (.aload_n 0, 1) := by decide +kernel
theorem dX12_bounds_181 : decode cX12_bounds 181 = .ok (.getfield 76, 3) := by decide +kernel
theorem dX12_bounds_184 : decode cX12_bounds 184 = .ok (.iload 9, 2) := by decide +kernel
theorem dX12_bounds_186 : decode cX12_bounds 186 = .ok (.aload_n 0, 1) := by decide +kernel
theorem dX12_bounds_187 : decode cX12_bounds 187 = .ok (.getfield 168, 3) := by decide +kernel
theorem dX12_bounds_190 : decode cX12_bounds 190 = .ok (.iload 9, 2) := by decide +kernel
theorem dX12_bounds_192 : decode cX12_bounds 192 = .ok (.laload, 1) := by decide +kernel
theorem dX12_bounds_193 : decode cX12_bounds 193 = .ok (.iload 10, 2) := by decide +kernel
theorem dX12_bounds_195 : decode cX12_bounds 195 = .ok (.lshr, 1) := by decide +kernel
theorem dX12_bounds_196 : decode cX12_bounds 196 = .ok (.lconst 1, 1) := by decide +kernel
theorem dX12_bounds_197 : decode cX12_bounds 197 = .ok (.land, 1) := by decide +kernel
theorem dX12_bounds_198 : decode cX12_bounds 198 = .ok (.lconst 1, 1) := by decide +kernel
theorem dX12_bounds_199 : decode cX12_bounds 199 = .ok (.lcmp, 1) := by decide +kernel
theorem dX12_bounds_200 : decode cX12_bounds 200 = .ok (.ifCond .ne 12, 3) := by decide +kernel
theorem dX12_bounds_203 : decode cX12_bounds 203 = .ok (.iload 11, 2) := by decide +kernel
theorem dX12_bounds_205 : decode cX12_bounds 205 = .ok (.ifCond .eq 7, 3) := by decide +kernel
theorem dX12_bounds_208 : decode cX12_bounds 208 = .ok (.iconst 1, 1) := by decide +kernel
theorem dX12_bounds_209 : decode cX12_bounds 209 = .ok (.goto 10, 3) := by decide +kernel
theorem dX12_bounds_212 : decode cX12_bounds 212 = .ok (.aload_n 0, 1) := by decide +kernel
theorem dX12_bounds_213 : decode cX12_bounds 213 = .ok (.getfield 76, 3) := by decide +kernel
theorem dX12_bounds_216 : decode cX12_bounds 216 = .ok (.iload 9, 2) := by decide +kernel
theorem dX12_bounds_218 : decode cX12_bounds 218 = .ok (.iaload, 1) := by decide +kernel
theorem dX12_bounds_219 : decode cX12_bounds 219 = .ok (.iastore, 1) := by decide +kernel
theorem dX12_bounds_220 : decode cX12_bounds 220 = .ok (.iinc 10 1, 3) := by decide +kernel
theorem dX12_bounds_223 : decode cX12_bounds 223 = .ok (.goto (-92), 3) := by decide +kernel
theorem dX12_bounds_226 : decode cX12_bounds 226 = .ok (.iconst 0, 1) := by decide +kernel
theorem dX12_bounds_227 : decode cX12_bounds 227 = .ok (.istore 10, 2) := by decide +kernel
theorem dX12_bounds_229 : decode cX12_bounds 229 = .ok (.iload 10, 2) := by decide +kernel
theorem dX12_bounds_231 : decode cX12_bounds 231 = .ok (.iload 8, 2) := by decide +kernel
theorem dX12_bounds_233 : decode cX12_bounds 233 = .ok (.if_icmp .ge 51, 3) := by decide +kernel
theorem dX12_bounds_236 : decode cX12_bounds 236 = .ok (.aload_n 0, 1) := by decide +kernel
theorem dX12_bounds_237 : decode cX12_bounds 237 = .ok (.getfield 234, 3) := by decide +kernel
theorem dX12_bounds_240 : decode cX12_bounds 240 = .ok (.sipush 300, 3) := by decide +kernel
theorem dX12_bounds_243 : decode cX12_bounds 243 = .ok (.if_icmp .gt 41, 3) := by decide +kernel
theorem dX12_bounds_246 : decode cX12_bounds 246 = .ok (.aload_n 0, 1) := by decide +kernel
theorem dX12_bounds_247 : decode cX12_bounds 247 = .ok (.getfield 73, 3) := by decide +kernel
theorem dX12_bounds_250 : decode cX12_bounds 250 = .ok (.bipush 27, 2) := by decide +kernel
theorem dX12_bounds_252 : decode cX12_bounds 252 = .ok (.iload 9, 2) := by decide +kernel
theorem dX12_bounds_254 : decode cX12_bounds 254 = .ok (.imul, 1) := by decide +kernel
theorem dX12_bounds_255 : decode cX12_bounds 255 = .ok (.iload 10, 2) := by decide +kernel
theorem dX12_bounds_257 : decode cX12_bounds 257 = .ok (.iadd, 1) := by decide +kernel
theorem dX12_bounds_258 : decode cX12_bounds 258 = .ok (.aload_n 0, 1) := by decide +kernel
theorem dX12_bounds_259 : decode cX12_bounds 259 = .ok (.aload_n 0, 1) := by decide +kernel
theorem dX12_bounds_260 : decode cX12_bounds 260 = .ok (.iload_n 2, 1) := by decide +kernel
theorem dX12_bounds_261 : decode cX12_bounds 261 = .ok (.aload_n 0, 1) := by decide +kernel
theorem dX12_bounds_262 : decode cX12_bounds 262 = .ok (.getfield 168, 3) := by decide +kernel
theorem dX12_bounds_265 : decode cX12_bounds 265 = .ok (.iload 9, 2) := by decide +kernel
theorem dX12_bounds_267 : decode cX12_bounds 267 = .ok (.laload, 1) := by decide +kernel
theorem dX12_bounds_268 : decode cX12_bounds 268 = .ok (.iload 10, 2) := by decide +kernel
theorem dX12_bounds_270 : decode cX12_bounds 270 = .ok (.iload_n 3, 1) := by decide +kernel
theorem dX12_bounds_271 : decode cX12_bounds 271 = .ok (.invokevirtual 436, 3) := by decide +kernel
theorem dX12_bounds_274 : decode cX12_bounds 274 = .ok (.invokevirtual 440, 3) := by decide +kernel
theorem dX12_bounds_277 : decode cX12_bounds 277 = .ok (.iastore, 1) := by decide +kernel
theorem dX12_bounds_278 : decode cX12_bounds 278 = .ok (.iinc 10 1, 3) := by decide +kernel
theorem dX12_bounds_281 : decode cX12_bounds 281 = .ok (.goto (-52), 3) := by decide +kernel
theorem dX12_bounds_284 : decode cX12_bounds 284 = .ok (.iinc 9 1, 3) := by decide +kernel
theorem dX12_bounds_287 : decode cX12_bounds 287 = .ok (.goto (-186), 3) := by decide +kernel
theorem dX12_bounds_290 : decode cX12_bounds 290 = .ok (.aload_n 0, 1) := by decide +kernel
theorem dX12_bounds_291 : decode cX12_bounds 291 = .ok (.getfield 234, 3) := by decide +kernel
theorem dX12_bounds_294 : decode cX12_bounds 294 = .ok (.sipush 300, 3) := by decide +kernel
theorem dX12_bounds_297 : decode cX12_bounds 297 = .ok (.if_icmp .le 5, 3) := by decide +kernel
theorem dX12_bounds_300 : decode cX12_bounds 300 = .ok (.iconst 0, 1) := by decide +kernel
theorem dX12_bounds_301 : decode cX12_bounds 301 = .ok (.ireturn, 1) := by decide +kernel
theorem dX12_bounds_302 : decode cX12_bounds 302 = .ok (.iconst 0, 1) := by decide +kernel
theorem dX12_bounds_303 : decode cX12_bounds 303 = .ok (.istore 9, 2) := by decide +kernel
theorem dX12_bounds_305 : decode cX12_bounds 305 = .ok (.iload 9, 2) := by decide +kernel
theorem dX12_bounds_307 : decode cX12_bounds 307 = .ok (.aload_n 0, 1) := by decide +kernel
theorem dX12_bounds_308 : decode cX12_bounds 308 = .ok (.getfield 234, 3) := by decide +kernel
theorem dX12_bounds_311 : decode cX12_bounds 311 = .ok (.if_icmp .ge 36, 3) := by decide +kernel
theorem dX12_bounds_314 : decode cX12_bounds 314 = .ok (.aload_n 0, 1) := by decide +kernel
theorem dX12_bounds_315 : decode cX12_bounds 315 = .ok (.getfield 104, 3) := by decide +kernel
theorem dX12_bounds_318 : decode cX12_bounds 318 = .ok (.iload_n 1, 1) := by decide +kernel
theorem dX12_bounds_319 : decode cX12_bounds 319 = .ok (.iaload, 1) := by decide +kernel
theorem dX12_bounds_320 : decode cX12_bounds 320 = .ok (.bipush 6, 2) := by decide +kernel
theorem dX12_bounds_322 : decode cX12_bounds 322 = .ok (.if_icmp .ne 25, 3) := by decide +kernel
theorem dX12_bounds_325 : decode cX12_bounds 325 = .ok (.aload_n 0, 1) := by decide +kernel
theorem dX12_bounds_326 : decode cX12_bounds 326 = .ok (.getfield 76, 3) := by decide +kernel
theorem dX12_bounds_329 : decode cX12_bounds 329 = .ok (.iload 9, 2) := by decide +kernel
theorem dX12_bounds_331 : decode cX12_bounds 331 = .ok (.iconst 1, 1) := by decide +kernel
theorem dX12_bounds_332 : decode cX12_bounds 332 = .ok (.aload_n 0, 1) := by decide +kernel
theorem dX12_bounds_333 : decode cX12_bounds 333 = .ok (.getfield 76, 3) := by decide +kernel
theorem dX12_bounds_336 : decode cX12_bounds 336 = .ok (.iload 9, 2) := by decide +kernel
theorem dX12_bounds_338 : decode cX12_bounds 338 = .ok (.iaload, 1) := by decide +kernel
theorem dX12_bounds_339 : decode cX12_bounds 339 = .ok (.isub, 1) := by decide +kernel
theorem dX12_bounds_340 : decode cX12_bounds 340 = .ok (.iastore, 1) := by decide +kernel
theorem dX12_bounds_341 : decode cX12_bounds 341 = .ok (.iinc 9 1, 3) := by decide +kernel
theorem dX12_bounds_344 : decode cX12_bounds 344 = .ok (.goto (-39), 3) := by decide +kernel
theorem dX12_bounds_347 : decode cX12_bounds 347 = .ok (.aload_n 0, 1) := by decide +kernel
theorem dX12_bounds_348 : decode cX12_bounds 348 = .ok (.iload 8, 2) := by decide +kernel
theorem dX12_bounds_350 : decode cX12_bounds 350 = .ok (.putfield 226, 3) := by decide +kernel
theorem dX12_bounds_353 : decode cX12_bounds 353 = .ok (.aload_n 0, 1) := by decide +kernel
theorem dX12_bounds_354 : decode cX12_bounds 354 = .ok (.iload_n 1, 1) := by decide +kernel
theorem dX12_bounds_355 : decode cX12_bounds 355 = .ok (.invokevirtual 429, 3) := by decide +kernel
theorem dX12_bounds_358 : decode cX12_bounds 358 = .ok (.ireturn, 1) := by decide +kernel
theorem dX12_difference_0 : decode cX12_difference 0 = .ok (.lload_n 1, 1) := by decide +kernel
theorem dX12_difference_1 : decode cX12_difference 1 = .ok (.aload_n 0, 1) := by decide +kernel
theorem dX12_difference_2 : decode cX12_difference 2 = .ok (.getfield 444, 3) := by decide +kernel
theorem dX12_difference_5 : decode cX12_difference 5 = .ok (.i2l, 1) := by decide +kernel
theorem dX12_difference_6 : decode cX12_difference 6 = .ok (.lcmp, 1) := by decide +kernel
theorem dX12_difference_7 : decode cX12_difference 7 = .ok (.ifCond .le 13, 3) := by decide +kernel
theorem dX12_difference_10 : decode cX12_difference 10 = .ok (.aload_n 0, 1) := by decide +kernel
theorem dX12_difference_11 : decode cX12_difference 11 = .ok (.getfield 444, 3) := by decide +kernel
theorem dX12_difference_14 : decode cX12_difference 14 = .ok (.i2l, 1) := by decide +kernel
theorem dX12_difference_15 : decode cX12_difference 15 = .ok (.lconst 1, 1) := by decide +kernel
theorem dX12_difference_16 : decode cX12_difference 16 = .ok (.ladd, 1) := by decide +kernel
theorem dX12_difference_17 : decode cX12_difference 17 = .ok (.goto 26, 3) := by decide +kernel
theorem dX12_difference_20 : decode cX12_difference 20 = .ok (.lload_n 1, 1) := by decide +kernel
theorem dX12_difference_21 : decode cX12_difference 21 = .ok (.aload_n 0, 1) := by decide +kernel
theorem dX12_difference_22 : decode cX12_difference 22 = .ok (.getfield 444, 3) := by decide +kernel
theorem dX12_difference_25 : decode cX12_difference 25 = .ok (.ineg, 1) := by decide +kernel
theorem dX12_difference_26 : decode cX12_difference 26 = .ok (.i2l, 1) := by decide +kernel
theorem dX12_difference_27 : decode cX12_difference 27 = .ok (.lcmp, 1) := by decide +kernel
theorem dX12_difference_28 : decode cX12_difference 28 = .ok (.ifCond .ge 14, 3) := by decide +kernel
theorem dX12_difference_31 : decode cX12_difference 31 = .ok (.aload_n 0, 1) := by decide +kernel
theorem dX12_difference_32 : decode cX12_difference 32 = .ok (.getfield 444, 3) := by decide +kernel
theorem dX12_difference_35 : decode cX12_difference 35 = .ok (.ineg, 1) := by decide +kernel
theorem dX12_difference_36 : decode cX12_difference 36 = .ok (.i2l, 1) := by decide +kernel
theorem dX12_difference_37 : decode cX12_difference 37 = .ok (.lconst 1, 1) := by decide +kernel
theorem dX12_difference_38 : decode cX12_difference 38 = .ok (.lsub, 1) := by decide +kernel
theorem dX12_difference_39 : decode cX12_difference 39 = .ok (.goto 4, 3) := by decide +kernel
theorem dX12_difference_42 : decode cX12_difference 42 = .ok (.lload_n 1, 1) := by decide +kernel
theorem dX12_difference_43 : decode cX12_difference 43 = .ok (.l2i, 1) := by decide +kernel
theorem dX12_difference_44 : decode cX12_difference 44 = .ok (.aload_n 0, 1) := by decide +kernel
theorem dX12_difference_45 : decode cX12_difference 45 = .ok (.getfield 444, 3) := by decide +kernel
theorem dX12_difference_48 : decode cX12_difference 48 = .ok (.iadd, 1) := by decide +kernel
theorem dX12_difference_49 : decode cX12_difference 49 = .ok (.iconst 1, 1) := by decide +kernel
theorem dX12_difference_50 : decode cX12_difference 50 = .ok (.iadd, 1) := by decide +kernel
theorem dX12_difference_51 : decode cX12_difference 51 = .ok (.istore_n 3, 1) := by decide +kernel
theorem dX12_difference_52 : decode cX12_difference 52 = .ok (.aload_n 0, 1) := by decide +kernel
theorem dX12_difference_53 : decode cX12_difference 53 = .ok (.getfield 172, 3) := by decide +kernel
theorem dX12_difference_56 : decode cX12_difference 56 = .ok (.iload_n 3, 1) := by decide +kernel
theorem dX12_difference_57 : decode cX12_difference 57 = .ok (.iaload, 1) := by decide +kernel
theorem dX12_difference_58 : decode cX12_difference 58 = .ok (.iconst (-1), 1) := by decide +kernel
theorem dX12_difference_59 : decode cX12_difference 59 = .ok (.if_icmp .ne 40, 3) := by decide +kernel
theorem dX12_difference_62 : decode cX12_difference 62 = .ok (.aload_n 0, 1) := by decide +kernel
theorem dX12_difference_63 : decode cX12_difference 63 = .ok (.getfield 172, 3) := by decide +kernel
theorem dX12_difference_66 : decode cX12_difference 66 = .ok (.iload_n 3, 1) := by decide +kernel
theorem dX12_difference_67 : decode cX12_difference 67 = .ok (.aload_n 0, 1) := by decide +kernel
theorem dX12_difference_68 : decode cX12_difference 68 = .ok (.getfield 234, 3) := by decide +kernel
theorem dX12_difference_71 : decode cX12_difference 71 = .ok (.iastore, 1) := by decide +kernel
theorem dX12_difference_72 : decode cX12_difference 72 = .ok (.aload_n 0, 1) := by decide +kernel
theorem dX12_difference_73 : decode cX12_difference 73 = .ok (.getfield 98, 3) := by decide +kernel
theorem dX12_difference_76 : decode cX12_difference 76 = .ok (.aload_n 0, 1) := by decide +kernel
theorem dX12_difference_77 : decode cX12_difference 77 = .ok (.getfield 234, 3) := by decide +kernel
theorem dX12_difference_80 : decode cX12_difference 80 = .ok (.iload_n 3, 1) := by decide +kernel
theorem dX12_difference_81 : decode cX12_difference 81 = .ok (.aload_n 0, 1) := by decide +kernel
theorem dX12_difference_82 : decode cX12_difference 82 = .ok (.getfield 444, 3) := by decide +kernel
theorem dX12_difference_85 : decode cX12_difference 85 = .ok (.isub, 1) := by decide +kernel
theorem dX12_difference_86 : decode cX12_difference 86 = .ok (.iconst 1, 1) := by decide +kernel
theorem dX12_difference_87 : decode cX12_difference 87 = .ok (.isub, 1) := by decide +kernel
theorem dX12_difference_88 : decode cX12_difference 88 = .ok (.iastore, 1) := by decide +kernel
theorem dX12_difference_89 : decode cX12_difference 89 = .ok (.aload_n 0, 1) := by decide +kernel
theorem dX12_difference_90 : decode cX12_difference 90 = .ok (.dup, 1) := by decide +kernel
theorem dX12_difference_91 : decode cX12_difference 91 = .ok (.getfield 234, 3) := by decide +kernel
theorem dX12_difference_94 : decode cX12_difference 94 = .ok (.iconst 1, 1) := by decide +kernel
theorem dX12_difference_95 : decode cX12_difference 95 = .ok (.iadd, 1) := by decide +kernel
theorem dX12_difference_96 : decode cX12_difference 96 = .ok (.putfield 234, 3) := by decide +kernel
theorem dX12_difference_99 : decode cX12_difference 99 = .ok (.aload_n 0, 1) := by decide +kernel
theorem dX12_difference_100 : decode cX12_difference 100 = .ok (.getfield 172, 3) := by decide +kernel
theorem dX12_difference_103 : decode cX12_difference 103 = .ok (.iload_n 3, 1) := by decide +kernel
theorem dX12_difference_104 : decode cX12_difference 104 = .ok (.iaload, 1) := by decide +kernel
theorem dX12_difference_105 : decode cX12_difference 105 = .ok (.ireturn, 1) := by decide +kernel
theorem dX12_sumsMachine_0 : decode cX12_sumsMachine 0 = .ok (.iconst 0, 1) := by decide +kernel
theorem dX12_sumsMachine_1 : decode cX12_sumsMachine 1 = .ok (.istore_n 2, 1) := by decide +kernel
theorem dX12_sumsMachine_2 : decode cX12_sumsMachine 2 = .ok (.iconst 0, 1) := by decide +kernel
theorem dX12_sumsMachine_3 : decode cX12_sumsMachine 3 = .ok (.istore_n 3, 1) := by decide +kernel
theorem dX12_sumsMachine_4 : decode cX12_sumsMachine 4 = .ok (.iload_n 3, 1) := by decide +kernel
theorem dX12_sumsMachine_5 : decode cX12_sumsMachine 5 = .ok (.bipush 8, 2) := by decide +kernel
theorem dX12_sumsMachine_7 : decode cX12_sumsMachine 7 = .ok (.if_icmp .ge 38, 3) := by decide +kernel
theorem dX12_sumsMachine_10 : decode cX12_sumsMachine 10 = .ok (.aload_n 0, 1) := by decide +kernel
theorem dX12_sumsMachine_11 : decode cX12_sumsMachine 11 = .ok (.getfield 122, 3) := by decide +kernel
theorem dX12_sumsMachine_14 : decode cX12_sumsMachine 14 = .ok (.bipush 8, 2) := by decide +kernel
theorem dX12_sumsMachine_16 : decode cX12_sumsMachine 16 = .ok (.iload_n 1, 1) := by decide +kernel
theorem dX12_sumsMachine_17 : decode cX12_sumsMachine 17 = .ok (.imul, 1) := by decide +kernel
theorem dX12_sumsMachine_18 : decode cX12_sumsMachine 18 = .ok (.iload_n 3, 1) := by decide +kernel
theorem dX12_sumsMachine_19 : decode cX12_sumsMachine 19 = .ok (.iadd, 1) := by decide +kernel
theorem dX12_sumsMachine_20 : decode cX12_sumsMachine 20 = .ok (.iaload, 1) := by decide +kernel
theorem dX12_sumsMachine_21 : decode cX12_sumsMachine 21 = .ok (.istore 4, 2) := by decide +kernel
theorem dX12_sumsMachine_23 : decode cX12_sumsMachine 23 = .ok (.iload_n 2, 1) := by decide +kernel
theorem dX12_sumsMachine_24 : decode cX12_sumsMachine 24 = .ok (.iload 4, 2) := by decide +kernel
theorem dX12_sumsMachine_26 : decode cX12_sumsMachine 26 = .ok (.ifCond .ge 9, 3) := by decide +kernel
theorem dX12_sumsMachine_29 : decode cX12_sumsMachine 29 = .ok (.iload 4, 2) := by decide +kernel
theorem dX12_sumsMachine_31 : decode cX12_sumsMachine 31 = .ok (.ineg, 1) := by decide +kernel
theorem dX12_sumsMachine_32 : decode cX12_sumsMachine 32 = .ok (.goto 5, 3) := by decide +kernel
theorem dX12_sumsMachine_35 : decode cX12_sumsMachine 35 = .ok (.iload 4, 2) := by decide +kernel
theorem dX12_sumsMachine_37 : decode cX12_sumsMachine 37 = .ok (.iadd, 1) := by decide +kernel
theorem dX12_sumsMachine_38 : decode cX12_sumsMachine 38 = .ok (.istore_n 2, 1) := by decide +kernel
theorem dX12_sumsMachine_39 : decode cX12_sumsMachine 39 = .ok (.iinc 3 1, 3) := by decide +kernel
theorem dX12_sumsMachine_42 : decode cX12_sumsMachine 42 = .ok (.goto (-38), 3) := by decide +kernel
theorem dX12_sumsMachine_45 : decode cX12_sumsMachine 45 = .ok (.aload_n 0, 1) := by decide +kernel
theorem dX12_sumsMachine_46 : decode cX12_sumsMachine 46 = .ok (.getfield 125, 3) := by decide +kernel
theorem dX12_sumsMachine_49 : decode cX12_sumsMachine 49 = .ok (.iload_n 1, 1) := by decide +kernel
theorem dX12_sumsMachine_50 : decode cX12_sumsMachine 50 = .ok (.iaload, 1) := by decide +kernel
theorem dX12_sumsMachine_51 : decode cX12_sumsMachine 51 = .ok (.ifCond .ge 13, 3) := by decide +kernel
theorem dX12_sumsMachine_54 : decode cX12_sumsMachine 54 = .ok (.aload_n 0, 1) := by decide +kernel
theorem dX12_sumsMachine_55 : decode cX12_sumsMachine 55 = .ok (.getfield 125, 3) := by decide +kernel
theorem dX12_sumsMachine_58 : decode cX12_sumsMachine 58 = .ok (.iload_n 1, 1) := by decide +kernel
theorem dX12_sumsMachine_59 : decode cX12_sumsMachine 59 = .ok (.iaload, 1) := by decide +kernel
theorem dX12_sumsMachine_60 : decode cX12_sumsMachine 60 = .ok (.ineg, 1) := by decide +kernel
theorem dX12_sumsMachine_61 : decode cX12_sumsMachine 61 = .ok (.goto 9, 3) := by decide +kernel
theorem dX12_sumsMachine_64 : decode cX12_sumsMachine 64 = .ok (.aload_n 0, 1) := by decide +kernel
theorem dX12_sumsMachine_65 : decode cX12_sumsMachine 65 = .ok (.getfield 125, 3) := by decide +kernel
theorem dX12_sumsMachine_68 : decode cX12_sumsMachine 68 = .ok (.iload_n 1, 1) := by decide +kernel
theorem dX12_sumsMachine_69 : decode cX12_sumsMachine 69 = .ok (.iaload, 1) := by decide +kernel
theorem dX12_sumsMachine_70 : decode cX12_sumsMachine 70 = .ok (.istore_n 3, 1) := by decide +kernel
theorem dX12_sumsMachine_71 : decode cX12_sumsMachine 71 = .ok (.aload_n 0, 1) := by decide +kernel
theorem dX12_sumsMachine_72 : decode cX12_sumsMachine 72 = .ok (.iload_n 2, 1) := by decide +kernel
theorem dX12_sumsMachine_73 : decode cX12_sumsMachine 73 = .ok (.iload_n 3, 1) := by decide +kernel
theorem dX12_sumsMachine_74 : decode cX12_sumsMachine 74 = .ok (.if_icmp .le 7, 3) := by decide +kernel
theorem dX12_sumsMachine_77 : decode cX12_sumsMachine 77 = .ok (.iload_n 2, 1) := by decide +kernel
theorem dX12_sumsMachine_78 : decode cX12_sumsMachine 78 = .ok (.goto 4, 3) := by decide +kernel
theorem dX12_sumsMachine_81 : decode cX12_sumsMachine 81 = .ok (.iload_n 3, 1) := by decide +kernel
theorem dX12_sumsMachine_82 : decode cX12_sumsMachine 82 = .ok (.putfield 444, 3) := by decide +kernel
theorem dX12_sumsMachine_85 : decode cX12_sumsMachine 85 = .ok (.iconst 0, 1) := by decide +kernel
theorem dX12_sumsMachine_86 : decode cX12_sumsMachine 86 = .ok (.istore 4, 2) := by decide +kernel
theorem dX12_sumsMachine_88 : decode cX12_sumsMachine 88 = .ok (.iload 4, 2) := by decide +kernel
theorem dX12_sumsMachine_90 : decode cX12_sumsMachine 90 = .ok (.iconst 2, 1) := by decide +kernel
theorem dX12_sumsMachine_91 : decode cX12_sumsMachine 91 = .ok (.aload_n 0, 1) := by decide +kernel
theorem dX12_sumsMachine_92 : decode cX12_sumsMachine 92 = .ok (.getfield 444, 3) := by decide +kernel
theorem dX12_sumsMachine_95 : decode cX12_sumsMachine 95 = .ok (.imul, 1) := by decide +kernel
theorem dX12_sumsMachine_96 : decode cX12_sumsMachine 96 = .ok (.iconst 3, 1) := by decide +kernel
theorem dX12_sumsMachine_97 : decode cX12_sumsMachine 97 = .ok (.iadd, 1) := by decide +kernel
theorem dX12_sumsMachine_98 : decode cX12_sumsMachine 98 = .ok (.if_icmp .ge 17, 3) := by decide +kernel
theorem dX12_sumsMachine_101 : decode cX12_sumsMachine 101 = .ok (.aload_n 0, 1) := by decide +kernel
theorem dX12_sumsMachine_102 : decode cX12_sumsMachine 102 = .ok (.getfield 172, 3) := by decide +kernel
theorem dX12_sumsMachine_105 : decode cX12_sumsMachine 105 = .ok (.iload 4, 2) := by decide +kernel
theorem dX12_sumsMachine_107 : decode cX12_sumsMachine 107 = .ok (.iconst (-1), 1) := by decide +kernel
theorem dX12_sumsMachine_108 : decode cX12_sumsMachine 108 = .ok (.iastore, 1) := by decide +kernel
theorem dX12_sumsMachine_109 : decode cX12_sumsMachine 109 = .ok (.iinc 4 1, 3) := by decide +kernel
theorem dX12_sumsMachine_112 : decode cX12_sumsMachine 112 = .ok (.goto (-24), 3) := by decide +kernel
theorem dX12_sumsMachine_115 : decode cX12_sumsMachine 115 = .ok (.aload_n 0, 1) := by decide +kernel
theorem dX12_sumsMachine_116 : decode cX12_sumsMachine 116 = .ok (.iconst 0, 1) := by decide +kernel
theorem dX12_sumsMachine_117 : decode cX12_sumsMachine 117 = .ok (.putfield 234, 3) := by decide +kernel
theorem dX12_sumsMachine_120 : decode cX12_sumsMachine 120 = .ok (.aload_n 0, 1) := by decide +kernel
theorem dX12_sumsMachine_121 : decode cX12_sumsMachine 121 = .ok (.aload_n 0, 1) := by decide +kernel
theorem dX12_sumsMachine_122 : decode cX12_sumsMachine 122 = .ok (.aload_n 0, 1) := by decide +kernel
theorem dX12_sumsMachine_123 : decode cX12_sumsMachine 123 = .ok (.getfield 119, 3) := by decide +kernel
theorem dX12_sumsMachine_126 : decode cX12_sumsMachine 126 = .ok (.iload_n 1, 1) := by decide +kernel
theorem dX12_sumsMachine_127 : decode cX12_sumsMachine 127 = .ok (.iaload, 1) := by decide +kernel
theorem dX12_sumsMachine_128 : decode cX12_sumsMachine 128 = .ok (.invokevirtual 417, 3) := by decide +kernel
theorem dX12_sumsMachine_131 : decode cX12_sumsMachine 131 = .ok (.putfield 226, 3) := by decide +kernel
theorem dX12_sumsMachine_134 : decode cX12_sumsMachine 134 = .ok (.aload_n 0, 1) := by decide +kernel
theorem dX12_sumsMachine_135 : decode cX12_sumsMachine 135 = .ok (.lconst 0, 1) := by decide +kernel
theorem dX12_sumsMachine_136 : decode cX12_sumsMachine 136 = .ok (.invokevirtual 447, 3) := by decide +kernel
theorem dX12_sumsMachine_139 : decode cX12_sumsMachine 139 = .ok (.pop, 1) := by decide +kernel
theorem dX12_sumsMachine_140 : decode cX12_sumsMachine 140 = .ok (.iconst 0, 1) := by decide +kernel
theorem dX12_sumsMachine_141 : decode cX12_sumsMachine 141 = .ok (.istore 4, 2) := by decide +kernel
theorem dX12_sumsMachine_143 : decode cX12_sumsMachine 143 = .ok (.iload 4, 2) := by decide +kernel
theorem dX12_sumsMachine_145 : decode cX12_sumsMachine 145 = .ok (.aload_n 0, 1) := by decide +kernel
theorem dX12_sumsMachine_146 : decode cX12_sumsMachine 146 = .ok (.getfield 234, 3) := by decide +kernel
theorem dX12_sumsMachine_149 : decode cX12_sumsMachine 149 = .ok (.if_icmp .ge 278, 3) := by decide +kernel
theorem dX12_sumsMachine_152 : decode cX12_sumsMachine 152 = .ok (.aload_n 0, 1) := by decide +kernel
theorem dX12_sumsMachine_153 : decode cX12_sumsMachine 153 = .ok (.getfield 98, 3) := by decide +kernel
theorem dX12_sumsMachine_156 : decode cX12_sumsMachine 156 = .ok (.iload 4, 2) := by decide +kernel
theorem dX12_sumsMachine_158 : decode cX12_sumsMachine 158 = .ok (.iaload, 1) := by decide +kernel
theorem dX12_sumsMachine_159 : decode cX12_sumsMachine 159 = .ok (.istore 5, 2) := by decide +kernel
theorem dX12_sumsMachine_161 : decode cX12_sumsMachine 161 = .ok (.iload 5, 2) := by decide +kernel
theorem dX12_sumsMachine_163 : decode cX12_sumsMachine 163 = .ok (.aload_n 0, 1) := by decide +kernel
theorem dX12_sumsMachine_164 : decode cX12_sumsMachine 164 = .ok (.getfield 125, 3) := by decide +kernel
theorem dX12_sumsMachine_167 : decode cX12_sumsMachine 167 = .ok (.iload_n 1, 1) := by decide +kernel
theorem dX12_sumsMachine_168 : decode cX12_sumsMachine 168 = .ok (.iaload, 1) := by decide +kernel
theorem dX12_sumsMachine_169 : decode cX12_sumsMachine 169 = .ok (.iadd, 1) := by decide +kernel
theorem dX12_sumsMachine_170 : decode cX12_sumsMachine 170 = .ok (.istore 6, 2) := by decide +kernel
theorem dX12_sumsMachine_172 : decode cX12_sumsMachine 172 = .ok (.aload_n 0, 1) := by decide +kernel
theorem dX12_sumsMachine_173 : decode cX12_sumsMachine 173 = .ok (.getfield 76, 3) := by decide +kernel
theorem dX12_sumsMachine_176 : decode cX12_sumsMachine 176 = .ok (.iload 4, 2) := by decide +kernel
theorem dX12_sumsMachine_178 : decode cX12_sumsMachine 178 = .ok (.aload_n 0, 1) := by decide +kernel
theorem dX12_sumsMachine_179 : decode cX12_sumsMachine 179 = .ok (.getfield 128, 3) := by decide +kernel
theorem dX12_sumsMachine_182 : decode cX12_sumsMachine 182 = .ok (.iload_n 1, 1) := by decide +kernel
theorem dX12_sumsMachine_183 : decode cX12_sumsMachine 183 = .ok (.iaload, 1) := by decide +kernel
theorem dX12_sumsMachine_184 : decode cX12_sumsMachine 184 = .ok (.ifCond .ne 16, 3) := by decide +kernel
theorem dX12_sumsMachine_187 : decode cX12_sumsMachine 187 = .ok (.iload 6, 2) := by decide +kernel
theorem dX12_sumsMachine_189 : decode cX12_sumsMachine 189 = .ok (.ifCond .ne 7, 3) := by decide +kernel
theorem dX12_sumsMachine_192 : decode cX12_sumsMachine 192 = .ok (.iconst 1, 1) := by decide +kernel
theorem dX12_sumsMachine_193 : decode cX12_sumsMachine 193 = .ok (.goto 40, 3) := by decide +kernel
theorem dX12_sumsMachine_196 : decode cX12_sumsMachine 196 = .ok (.iconst 0, 1) := by decide +kernel
theorem dX12_sumsMachine_197 : decode cX12_sumsMachine 197 = .ok (.goto 36, 3) := by decide +kernel
theorem dX12_sumsMachine_200 : decode cX12_sumsMachine 200 = .ok (.aload_n 0, 1) := by decide +kernel
theorem dX12_sumsMachine_201 : decode cX12_sumsMachine 201 = .ok (.getfield 128, 3) := by decide +kernel
theorem dX12_sumsMachine_204 : decode cX12_sumsMachine 204 = .ok (.iload_n 1, 1) := by decide +kernel
theorem dX12_sumsMachine_205 : decode cX12_sumsMachine 205 = .ok (.iaload, 1) := by decide +kernel
theorem dX12_sumsMachine_206 : decode cX12_sumsMachine 206 = .ok (.iconst 1, 1) := by decide +kernel
theorem dX12_sumsMachine_207 : decode cX12_sumsMachine 207 = .ok (.if_icmp .ne 16, 3) := by decide +kernel
theorem dX12_sumsMachine_210 : decode cX12_sumsMachine 210 = .ok (.iload 6, 2) := by decide +kernel
theorem dX12_sumsMachine_212 : decode cX12_sumsMachine 212 = .ok (.ifCond .ge 7, 3) := by decide +kernel
theorem dX12_sumsMachine_215 : decode cX12_sumsMachine 215 = .ok (.iconst 1, 1) := by decide +kernel
theorem dX12_sumsMachine_216 : decode cX12_sumsMachine 216 = .ok (.goto 17, 3) := by decide +kernel
theorem dX12_sumsMachine_219 : decode cX12_sumsMachine 219 = .ok (.iconst 0, 1) := by decide +kernel
theorem dX12_sumsMachine_220 : decode cX12_sumsMachine 220 = .ok (.goto 13, 3) := by decide +kernel
theorem dX12_sumsMachine_223 : decode cX12_sumsMachine 223 = .ok (.iload 6, 2) := by decide +kernel
theorem dX12_sumsMachine_225 : decode cX12_sumsMachine 225 = .ok (.ifCond .gt 7, 3) := by decide +kernel
theorem dX12_sumsMachine_228 : decode cX12_sumsMachine 228 = .ok (.iconst 1, 1) := by decide +kernel
theorem dX12_sumsMachine_229 : decode cX12_sumsMachine 229 = .ok (.goto 4, 3) := by decide +kernel
theorem dX12_sumsMachine_232 : decode cX12_sumsMachine 232 = .ok (.iconst 0, 1) := by decide +kernel
theorem dX12_sumsMachine_233 : decode cX12_sumsMachine 233 = .ok (.iastore, 1) := by decide +kernel
theorem dX12_sumsMachine_234 : decode cX12_sumsMachine 234 = .ok (.iload 5, 2) := by decide +kernel
theorem dX12_sumsMachine_236 : decode cX12_sumsMachine 236 = .ok (.aload_n 0, 1) := by decide +kernel
theorem dX12_sumsMachine_237 : decode cX12_sumsMachine 237 = .ok (.getfield 444, 3) := by decide +kernel
theorem dX12_sumsMachine_240 : decode cX12_sumsMachine 240 = .ok (.if_icmp .gt 13, 3) := by decide +kernel
theorem dX12_sumsMachine_243 : decode cX12_sumsMachine 243 = .ok (.iload 5, 2) := by decide +kernel
theorem dX12_sumsMachine_245 : decode cX12_sumsMachine 245 = .ok (.aload_n 0, 1) := by decide +kernel
theorem dX12_sumsMachine_246 : decode cX12_sumsMachine 246 = .ok (.getfield 444, 3) := by decide +kernel
theorem dX12_sumsMachine_249 : decode cX12_sumsMachine 249 = .ok (.ineg, 1) := by decide +kernel
theorem dX12_sumsMachine_250 : decode cX12_sumsMachine 250 = .ok (.if_icmp .ge 29, 3) := by decide +kernel
theorem dX12_sumsMachine_253 : decode cX12_sumsMachine 253 = .ok (.aload_n 0, 1) := by decide +kernel
theorem dX12_sumsMachine_254 : decode cX12_sumsMachine 254 = .ok (.getfield 76, 3) := by decide +kernel
theorem dX12_sumsMachine_257 : decode cX12_sumsMachine 257 = .ok (.iload 4, 2) := by decide +kernel
theorem dX12_sumsMachine_259 : decode cX12_sumsMachine 259 = .ok (.iload 5, 2) := by decide +kernel
theorem dX12_sumsMachine_261 : decode cX12_sumsMachine 261 = .ok (.ifCond .ge 16, 3) := by decide +kernel
theorem dX12_sumsMachine_264 : decode cX12_sumsMachine 264 = .ok (.aload_n 0, 1) := by decide +kernel
theorem dX12_sumsMachine_265 : decode cX12_sumsMachine 265 = .ok (.getfield 128, 3) := by decide +kernel
theorem dX12_sumsMachine_268 : decode cX12_sumsMachine 268 = .ok (.iload_n 1, 1) := by decide +kernel
theorem dX12_sumsMachine_269 : decode cX12_sumsMachine 269 = .ok (.iaload, 1) := by decide +kernel
theorem dX12_sumsMachine_270 : decode cX12_sumsMachine 270 = .ok (.ifCond .le 7, 3) := by decide +kernel
theorem dX12_sumsMachine_273 : decode cX12_sumsMachine 273 = .ok (.iconst 1, 1) := by decide +kernel
theorem dX12_sumsMachine_274 : decode cX12_sumsMachine 274 = .ok (.goto 4, 3) := by decide +kernel
theorem dX12_sumsMachine_277 : decode cX12_sumsMachine 277 = .ok (.iconst 0, 1) := by decide +kernel
theorem dX12_sumsMachine_278 : decode cX12_sumsMachine 278 = .ok (.iastore, 1) := by decide +kernel
theorem dX12_sumsMachine_279 : decode cX12_sumsMachine 279 = .ok (.iconst 0, 1) := by decide +kernel
theorem dX12_sumsMachine_280 : decode cX12_sumsMachine 280 = .ok (.istore 7, 2) := by decide +kernel
theorem dX12_sumsMachine_282 : decode cX12_sumsMachine 282 = .ok (.iload 7, 2) := by decide +kernel
theorem dX12_sumsMachine_284 : decode cX12_sumsMachine 284 = .ok (.aload_n 0, 1) := by decide +kernel
theorem dX12_sumsMachine_285 : decode cX12_sumsMachine 285 = .ok (.getfield 226, 3) := by decide +kernel
theorem dX12_sumsMachine_288 : decode cX12_sumsMachine 288 = .ok (.if_icmp .ge 133, 3) := by decide +kernel
theorem dX12_sumsMachine_291 : decode cX12_sumsMachine 291 = .ok (.iconst 0, 1) := by decide +kernel
theorem dX12_sumsMachine_292 : decode cX12_sumsMachine 292 = .ok (.istore 8, 2) := by decide +kernel
theorem dX12_sumsMachine_294 : decode cX12_sumsMachine 294 = .ok (.iconst 0, 1) := by decide +kernel
theorem dX12_sumsMachine_295 : decode cX12_sumsMachine 295 = .ok (.istore 9, 2) := by decide +kernel
theorem dX12_sumsMachine_297 : decode cX12_sumsMachine 297 = .ok (.iload 9, 2) := by decide +kernel
theorem dX12_sumsMachine_299 : decode cX12_sumsMachine 299 = .ok (.bipush 8, 2) := by decide +kernel
theorem dX12_sumsMachine_301 : decode cX12_sumsMachine 301 = .ok (.if_icmp .ge 60, 3) := by decide +kernel
theorem dX12_sumsMachine_304 : decode cX12_sumsMachine 304 = .ok (.iload 8, 2) := by decide +kernel
theorem dX12_sumsMachine_306 : decode cX12_sumsMachine 306 = .ok (.aload_n 0, 1) := by decide +kernel
theorem dX12_sumsMachine_307 : decode cX12_sumsMachine 307 = .ok (.getfield 119, 3) := by decide +kernel
theorem dX12_sumsMachine_310 : decode cX12_sumsMachine 310 = .ok (.iload_n 1, 1) := by decide +kernel
theorem dX12_sumsMachine_311 : decode cX12_sumsMachine 311 = .ok (.iaload, 1) := by decide +kernel
theorem dX12_sumsMachine_312 : decode cX12_sumsMachine 312 = .ok (.iload 9, 2) := by decide +kernel
theorem dX12_sumsMachine_314 : decode cX12_sumsMachine 314 = .ok (.ishr, 1) := by decide +kernel
theorem dX12_sumsMachine_315 : decode cX12_sumsMachine 315 = .ok (.iconst 1, 1) := by decide +kernel
theorem dX12_sumsMachine_316 : decode cX12_sumsMachine 316 = .ok (.iand, 1) := by decide +kernel
theorem dX12_sumsMachine_317 : decode cX12_sumsMachine 317 = .ok (.iconst 1, 1) := by decide +kernel
theorem dX12_sumsMachine_318 : decode cX12_sumsMachine 318 = .ok (.if_icmp .ne 33, 3) := by decide +kernel
theorem dX12_sumsMachine_321 : decode cX12_sumsMachine 321 = .ok (.aload_n 0, 1) := by decide +kernel
theorem dX12_sumsMachine_322 : decode cX12_sumsMachine 322 = .ok (.getfield 122, 3) := by decide +kernel
theorem dX12_sumsMachine_325 : decode cX12_sumsMachine 325 = .ok (.bipush 8, 2) := by decide +kernel
theorem dX12_sumsMachine_327 : decode cX12_sumsMachine 327 = .ok (.iload_n 1, 1) := by decide +kernel
theorem dX12_sumsMachine_328 : decode cX12_sumsMachine 328 = .ok (.imul, 1) := by decide +kernel
theorem dX12_sumsMachine_329 : decode cX12_sumsMachine 329 = .ok (.iload 9, 2) := by decide +kernel
theorem dX12_sumsMachine_331 : decode cX12_sumsMachine 331 = .ok (.iadd, 1) := by decide +kernel
theorem dX12_sumsMachine_332 : decode cX12_sumsMachine 332 = .ok (.iaload, 1) := by decide +kernel
theorem dX12_sumsMachine_333 : decode cX12_sumsMachine 333 = .ok (.aload_n 0, 1) := by decide +kernel
theorem dX12_sumsMachine_334 : decode cX12_sumsMachine 334 = .ok (.iload 7, 2) := by decide +kernel
theorem dX12_sumsMachine_336 : decode cX12_sumsMachine 336 = .ok (.aload_n 0, 1) := by decide +kernel
theorem dX12_sumsMachine_337 : decode cX12_sumsMachine 337 = .ok (.getfield 119, 3) := by decide +kernel
theorem dX12_sumsMachine_340 : decode cX12_sumsMachine 340 = .ok (.iload_n 1, 1) := by decide +kernel
theorem dX12_sumsMachine_341 : decode cX12_sumsMachine 341 = .ok (.iaload, 1) := by decide +kernel
theorem dX12_sumsMachine_342 : decode cX12_sumsMachine 342 = .ok (.iload 9, 2) := by decide +kernel
theorem dX12_sumsMachine_344 : decode cX12_sumsMachine 344 = .ok (.invokevirtual 420, 3) := by decide +kernel
theorem dX12_sumsMachine_347 : decode cX12_sumsMachine 347 = .ok (.imul, 1) := by decide +kernel
theorem dX12_sumsMachine_348 : decode cX12_sumsMachine 348 = .ok (.goto 4, 3) := by decide +kernel
theorem dX12_sumsMachine_351 : decode cX12_sumsMachine 351 = .ok (.iconst 0, 1) := by decide +kernel
theorem dX12_sumsMachine_352 : decode cX12_sumsMachine 352 = .ok (.iadd, 1) := by decide +kernel
theorem dX12_sumsMachine_353 : decode cX12_sumsMachine 353 = .ok (.istore 8, 2) := by decide +kernel
theorem dX12_sumsMachine_355 : decode cX12_sumsMachine 355 = .ok (.iinc 9 1, 3) := by decide +kernel
theorem dX12_sumsMachine_358 : decode cX12_sumsMachine 358 = .ok (.goto (-61), 3) := by decide +kernel
theorem dX12_sumsMachine_361 : decode cX12_sumsMachine 361 = .ok (.aload_n 0, 1) := by decide +kernel
theorem dX12_sumsMachine_362 : decode cX12_sumsMachine 362 = .ok (.getfield 73, 3) := by decide +kernel
theorem dX12_sumsMachine_365 : decode cX12_sumsMachine 365 = .ok (.bipush 27, 2) := by decide +kernel
theorem dX12_sumsMachine_367 : decode cX12_sumsMachine 367 = .ok (.iload 4, 2) := by decide +kernel
theorem dX12_sumsMachine_369 : decode cX12_sumsMachine 369 = .ok (.imul, 1) := by decide +kernel
theorem dX12_sumsMachine_370 : decode cX12_sumsMachine 370 = .ok (.iload 7, 2) := by decide +kernel
theorem dX12_sumsMachine_372 : decode cX12_sumsMachine 372 = .ok (.iadd, 1) := by decide +kernel
theorem dX12_sumsMachine_373 : decode cX12_sumsMachine 373 = .ok (.iload 5, 2) := by decide +kernel
theorem dX12_sumsMachine_375 : decode cX12_sumsMachine 375 = .ok (.aload_n 0, 1) := by decide +kernel
theorem dX12_sumsMachine_376 : decode cX12_sumsMachine 376 = .ok (.getfield 444, 3) := by decide +kernel
theorem dX12_sumsMachine_379 : decode cX12_sumsMachine 379 = .ok (.if_icmp .gt 13, 3) := by decide +kernel
theorem dX12_sumsMachine_382 : decode cX12_sumsMachine 382 = .ok (.iload 5, 2) := by decide +kernel
theorem dX12_sumsMachine_384 : decode cX12_sumsMachine 384 = .ok (.aload_n 0, 1) := by decide +kernel
theorem dX12_sumsMachine_385 : decode cX12_sumsMachine 385 = .ok (.getfield 444, 3) := by decide +kernel
theorem dX12_sumsMachine_388 : decode cX12_sumsMachine 388 = .ok (.ineg, 1) := by decide +kernel
theorem dX12_sumsMachine_389 : decode cX12_sumsMachine 389 = .ok (.if_icmp .ge 8, 3) := by decide +kernel
theorem dX12_sumsMachine_392 : decode cX12_sumsMachine 392 = .ok (.iload 4, 2) := by decide +kernel
theorem dX12_sumsMachine_394 : decode cX12_sumsMachine 394 = .ok (.goto 20, 3) := by decide +kernel
theorem dX12_sumsMachine_397 : decode cX12_sumsMachine 397 = .ok (.aload_n 0, 1) := by decide +kernel
theorem dX12_sumsMachine_398 : decode cX12_sumsMachine 398 = .ok (.aload_n 0, 1) := by decide +kernel
theorem dX12_sumsMachine_399 : decode cX12_sumsMachine 399 = .ok (.getfield 7, 3) := by decide +kernel
theorem dX12_sumsMachine_402 : decode cX12_sumsMachine 402 = .ok (.i2l, 1) := by decide +kernel
theorem dX12_sumsMachine_403 : decode cX12_sumsMachine 403 = .ok (.iload 5, 2) := by decide +kernel
theorem dX12_sumsMachine_405 : decode cX12_sumsMachine 405 = .ok (.i2l, 1) := by decide +kernel
theorem dX12_sumsMachine_406 : decode cX12_sumsMachine 406 = .ok (.lmul, 1) := by decide +kernel
theorem dX12_sumsMachine_407 : decode cX12_sumsMachine 407 = .ok (.iload 8, 2) := by decide +kernel
theorem dX12_sumsMachine_409 : decode cX12_sumsMachine 409 = .ok (.i2l, 1) := by decide +kernel
theorem dX12_sumsMachine_410 : decode cX12_sumsMachine 410 = .ok (.ladd, 1) := by decide +kernel
theorem dX12_sumsMachine_411 : decode cX12_sumsMachine 411 = .ok (.invokevirtual 447, 3) := by decide +kernel
theorem dX12_sumsMachine_414 : decode cX12_sumsMachine 414 = .ok (.iastore, 1) := by decide +kernel
theorem dX12_sumsMachine_415 : decode cX12_sumsMachine 415 = .ok (.iinc 7 1, 3) := by decide +kernel
theorem dX12_sumsMachine_418 : decode cX12_sumsMachine 418 = .ok (.goto (-136), 3) := by decide +kernel
theorem dX12_sumsMachine_421 : decode cX12_sumsMachine 421 = .ok (.iinc 4 1, 3) := by decide +kernel
theorem dX12_sumsMachine_424 : decode cX12_sumsMachine 424 = .ok (.goto (-281), 3) := by decide +kernel
theorem dX12_sumsMachine_427 : decode cX12_sumsMachine 427 = .ok (.aload_n 0, 1) := by decide +kernel
theorem dX12_sumsMachine_428 : decode cX12_sumsMachine 428 = .ok (.iload_n 1, 1) := by decide +kernel
theorem dX12_sumsMachine_429 : decode cX12_sumsMachine 429 = .ok (.invokevirtual 429, 3) := by decide +kernel
theorem dX12_sumsMachine_432 : decode cX12_sumsMachine 432 = .ok (.ireturn, 1) := by decide +kernel
theorem dX12_tupleOf_0 : decode cX12_tupleOf 0 = .ok (.iconst 0, 1) := by decide +kernel
theorem dX12_tupleOf_1 : decode cX12_tupleOf 1 = .ok (.istore_n 2, 1) := by decide +kernel
theorem dX12_tupleOf_2 : decode cX12_tupleOf 2 = .ok (.iload_n 2, 1) := by decide +kernel
theorem dX12_tupleOf_3 : decode cX12_tupleOf 3 = .ok (.aload_n 0, 1) := by decide +kernel
theorem dX12_tupleOf_4 : decode cX12_tupleOf 4 = .ok (.getfield 234, 3) := by decide +kernel
theorem dX12_tupleOf_7 : decode cX12_tupleOf 7 = .ok (.if_icmp .ge 63, 3) := by decide +kernel
theorem dX12_tupleOf_10 : decode cX12_tupleOf 10 = .ok (.iconst 1, 1) := by decide +kernel
theorem dX12_tupleOf_11 : decode cX12_tupleOf 11 = .ok (.istore_n 3, 1) := by decide +kernel
theorem dX12_tupleOf_12 : decode cX12_tupleOf 12 = .ok (.iconst 0, 1) := by decide +kernel
theorem dX12_tupleOf_13 : decode cX12_tupleOf 13 = .ok (.istore 4, 2) := by decide +kernel
theorem dX12_tupleOf_15 : decode cX12_tupleOf 15 = .ok (.iload 4, 2) := by decide +kernel
theorem dX12_tupleOf_17 : decode cX12_tupleOf 17 = .ok (.iload_n 1, 1) := by decide +kernel
theorem dX12_tupleOf_18 : decode cX12_tupleOf 18 = .ok (.if_icmp .ge 40, 3) := by decide +kernel
theorem dX12_tupleOf_21 : decode cX12_tupleOf 21 = .ok (.iload_n 3, 1) := by decide +kernel
theorem dX12_tupleOf_22 : decode cX12_tupleOf 22 = .ok (.ifCond .eq 28, 3) := by decide +kernel
theorem dX12_tupleOf_25 : decode cX12_tupleOf 25 = .ok (.aload_n 0, 1) := by decide +kernel
theorem dX12_tupleOf_26 : decode cX12_tupleOf 26 = .ok (.getfield 185, 3) := by decide +kernel
theorem dX12_tupleOf_29 : decode cX12_tupleOf 29 = .ok (.iconst 4, 1) := by decide +kernel
theorem dX12_tupleOf_30 : decode cX12_tupleOf 30 = .ok (.iload_n 2, 1) := by decide +kernel
theorem dX12_tupleOf_31 : decode cX12_tupleOf 31 = .ok (.imul, 1) := by decide +kernel
theorem dX12_tupleOf_32 : decode cX12_tupleOf 32 = .ok (.iload 4, 2) := by decide +kernel
theorem dX12_tupleOf_34 : decode cX12_tupleOf 34 = .ok (.iadd, 1) := by decide +kernel
theorem dX12_tupleOf_35 : decode cX12_tupleOf 35 = .ok (.iaload, 1) := by decide +kernel
theorem dX12_tupleOf_36 : decode cX12_tupleOf 36 = .ok (.aload_n 0, 1) := by decide +kernel
theorem dX12_tupleOf_37 : decode cX12_tupleOf 37 = .ok (.getfield 188, 3) := by decide +kernel
theorem dX12_tupleOf_40 : decode cX12_tupleOf 40 = .ok (.iload 4, 2) := by decide +kernel
theorem dX12_tupleOf_42 : decode cX12_tupleOf 42 = .ok (.iaload, 1) := by decide +kernel
theorem dX12_tupleOf_43 : decode cX12_tupleOf 43 = .ok (.if_icmp .ne 7, 3) := by decide +kernel
theorem dX12_tupleOf_46 : decode cX12_tupleOf 46 = .ok (.iconst 1, 1) := by decide +kernel
theorem dX12_tupleOf_47 : decode cX12_tupleOf 47 = .ok (.goto 4, 3) := by decide +kernel
theorem dX12_tupleOf_50 : decode cX12_tupleOf 50 = .ok (.iconst 0, 1) := by decide +kernel
theorem dX12_tupleOf_51 : decode cX12_tupleOf 51 = .ok (.istore_n 3, 1) := by decide +kernel
theorem dX12_tupleOf_52 : decode cX12_tupleOf 52 = .ok (.iinc 4 1, 3) := by decide +kernel
theorem dX12_tupleOf_55 : decode cX12_tupleOf 55 = .ok (.goto (-40), 3) := by decide +kernel
theorem dX12_tupleOf_58 : decode cX12_tupleOf 58 = .ok (.iload_n 3, 1) := by decide +kernel
theorem dX12_tupleOf_59 : decode cX12_tupleOf 59 = .ok (.ifCond .eq 5, 3) := by decide +kernel
theorem dX12_tupleOf_62 : decode cX12_tupleOf 62 = .ok (.iload_n 2, 1) := by decide +kernel
theorem dX12_tupleOf_63 : decode cX12_tupleOf 63 = .ok (.ireturn, 1) := by decide +kernel
theorem dX12_tupleOf_64 : decode cX12_tupleOf 64 = .ok (.iinc 2 1, 3) := by decide +kernel
theorem dX12_tupleOf_67 : decode cX12_tupleOf 67 = .ok (.goto (-65), 3) := by decide +kernel
theorem dX12_tupleOf_70 : decode cX12_tupleOf 70 = .ok (.iconst 0, 1) := by decide +kernel
theorem dX12_tupleOf_71 : decode cX12_tupleOf 71 = .ok (.istore_n 2, 1) := by decide +kernel
theorem dX12_tupleOf_72 : decode cX12_tupleOf 72 = .ok (.iload_n 2, 1) := by decide +kernel
theorem dX12_tupleOf_73 : decode cX12_tupleOf 73 = .ok (.iload_n 1, 1) := by decide +kernel
theorem dX12_tupleOf_74 : decode cX12_tupleOf 74 = .ok (.if_icmp .ge 28, 3) := by decide +kernel
theorem dX12_tupleOf_77 : decode cX12_tupleOf 77 = .ok (.aload_n 0, 1) := by decide +kernel
theorem dX12_tupleOf_78 : decode cX12_tupleOf 78 = .ok (.getfield 185, 3) := by decide +kernel
theorem dX12_tupleOf_81 : decode cX12_tupleOf 81 = .ok (.iconst 4, 1) := by decide +kernel
theorem dX12_tupleOf_82 : decode cX12_tupleOf 82 = .ok (.aload_n 0, 1) := by decide +kernel
theorem dX12_tupleOf_83 : decode cX12_tupleOf 83 = .ok (.getfield 234, 3) := by decide +kernel
theorem dX12_tupleOf_86 : decode cX12_tupleOf 86 = .ok (.imul, 1) := by decide +kernel
theorem dX12_tupleOf_87 : decode cX12_tupleOf 87 = .ok (.iload_n 2, 1) := by decide +kernel
theorem dX12_tupleOf_88 : decode cX12_tupleOf 88 = .ok (.iadd, 1) := by decide +kernel
theorem dX12_tupleOf_89 : decode cX12_tupleOf 89 = .ok (.aload_n 0, 1) := by decide +kernel
theorem dX12_tupleOf_90 : decode cX12_tupleOf 90 = .ok (.getfield 188, 3) := by decide +kernel
theorem dX12_tupleOf_93 : decode cX12_tupleOf 93 = .ok (.iload_n 2, 1) := by decide +kernel
theorem dX12_tupleOf_94 : decode cX12_tupleOf 94 = .ok (.iaload, 1) := by decide +kernel
theorem dX12_tupleOf_95 : decode cX12_tupleOf 95 = .ok (.iastore, 1) := by decide +kernel
theorem dX12_tupleOf_96 : decode cX12_tupleOf 96 = .ok (.iinc 2 1, 3) := by decide +kernel
theorem dX12_tupleOf_99 : decode cX12_tupleOf 99 = .ok (.goto (-27), 3) := by decide +kernel
theorem dX12_tupleOf_102 : decode cX12_tupleOf 102 = .ok (.aload_n 0, 1) := by decide +kernel
theorem dX12_tupleOf_103 : decode cX12_tupleOf 103 = .ok (.dup, 1) := by decide +kernel
theorem dX12_tupleOf_104 : decode cX12_tupleOf 104 = .ok (.getfield 234, 3) := by decide +kernel
theorem dX12_tupleOf_107 : decode cX12_tupleOf 107 = .ok (.iconst 1, 1) := by decide +kernel
theorem dX12_tupleOf_108 : decode cX12_tupleOf 108 = .ok (.iadd, 1) := by decide +kernel
theorem dX12_tupleOf_109 : decode cX12_tupleOf 109 = .ok (.putfield 234, 3) := by decide +kernel
theorem dX12_tupleOf_112 : decode cX12_tupleOf 112 = .ok (.aload_n 0, 1) := by decide +kernel
theorem dX12_tupleOf_113 : decode cX12_tupleOf 113 = .ok (.getfield 234, 3) := by decide +kernel
theorem dX12_tupleOf_116 : decode cX12_tupleOf 116 = .ok (.iconst 1, 1) := by decide +kernel
theorem dX12_tupleOf_117 : decode cX12_tupleOf 117 = .ok (.isub, 1) := by decide +kernel
theorem dX12_tupleOf_118 : decode cX12_tupleOf 118 = .ok (.ireturn, 1) := by decide +kernel
theorem dX12_nameSet_0 : decode cX12_nameSet 0 = .ok (.iconst 1, 1) := by decide +kernel
theorem dX12_nameSet_1 : decode cX12_nameSet 1 = .ok (.iload_n 0, 1) := by decide +kernel
theorem dX12_nameSet_2 : decode cX12_nameSet 2 = .ok (.ishl, 1) := by decide +kernel
theorem dX12_nameSet_3 : decode cX12_nameSet 3 = .ok (.iload_n 1, 1) := by decide +kernel
theorem dX12_nameSet_4 : decode cX12_nameSet 4 = .ok (.iconst (-1), 1) := by decide +kernel
theorem dX12_nameSet_5 : decode cX12_nameSet 5 = .ok (.if_icmp .ne 7, 3) := by decide +kernel
theorem dX12_nameSet_8 : decode cX12_nameSet 8 = .ok (.iconst 0, 1) := by decide +kernel
theorem dX12_nameSet_9 : decode cX12_nameSet 9 = .ok (.goto 6, 3) := by decide +kernel
theorem dX12_nameSet_12 : decode cX12_nameSet 12 = .ok (.iconst 1, 1) := by decide +kernel
theorem dX12_nameSet_13 : decode cX12_nameSet 13 = .ok (.iload_n 1, 1) := by decide +kernel
theorem dX12_nameSet_14 : decode cX12_nameSet 14 = .ok (.ishl, 1) := by decide +kernel
theorem dX12_nameSet_15 : decode cX12_nameSet 15 = .ok (.ior, 1) := by decide +kernel
theorem dX12_nameSet_16 : decode cX12_nameSet 16 = .ok (.ireturn, 1) := by decide +kernel
theorem dX12_side_0 : decode cX12_side 0 = .ok (.iload_n 3, 1) := by decide +kernel
theorem dX12_side_1 : decode cX12_side 1 = .ok (.iload 4, 2) := by decide +kernel
theorem dX12_side_3 : decode cX12_side 3 = .ok (.invokestatic 450, 3) := by decide +kernel
theorem dX12_side_6 : decode cX12_side 6 = .ok (.istore 6, 2) := by decide +kernel
theorem dX12_side_8 : decode cX12_side 8 = .ok (.iload 4, 2) := by decide +kernel
theorem dX12_side_10 : decode cX12_side 10 = .ok (.iconst (-1), 1) := by decide +kernel
theorem dX12_side_11 : decode cX12_side 11 = .ok (.if_icmp .eq 7, 3) := by decide +kernel
theorem dX12_side_14 : decode cX12_side 14 = .ok (.iconst 2, 1) := by decide +kernel
theorem dX12_side_15 : decode cX12_side 15 = .ok (.goto 7, 3) := by decide +kernel
theorem dX12_side_18 : decode cX12_side 18 = .ok (.iload 5, 2) := by decide +kernel
theorem dX12_side_20 : decode cX12_side 20 = .ok (.iconst 1, 1) := by decide +kernel
theorem dX12_side_21 : decode cX12_side 21 = .ok (.iadd, 1) := by decide +kernel
theorem dX12_side_22 : decode cX12_side 22 = .ok (.istore 7, 2) := by decide +kernel
theorem dX12_side_24 : decode cX12_side 24 = .ok (.aload_n 0, 1) := by decide +kernel
theorem dX12_side_25 : decode cX12_side 25 = .ok (.iconst 0, 1) := by decide +kernel
theorem dX12_side_26 : decode cX12_side 26 = .ok (.putfield 234, 3) := by decide +kernel
theorem dX12_side_29 : decode cX12_side 29 = .ok (.aload_n 0, 1) := by decide +kernel
theorem dX12_side_30 : decode cX12_side 30 = .ok (.aload_n 0, 1) := by decide +kernel
theorem dX12_side_31 : decode cX12_side 31 = .ok (.iload 6, 2) := by decide +kernel
theorem dX12_side_33 : decode cX12_side 33 = .ok (.invokevirtual 417, 3) := by decide +kernel
theorem dX12_side_36 : decode cX12_side 36 = .ok (.putfield 226, 3) := by decide +kernel
theorem dX12_side_39 : decode cX12_side 39 = .ok (.iconst 0, 1) := by decide +kernel
theorem dX12_side_40 : decode cX12_side 40 = .ok (.istore 8, 2) := by decide +kernel
theorem dX12_side_42 : decode cX12_side 42 = .ok (.iload 8, 2) := by decide +kernel
theorem dX12_side_44 : decode cX12_side 44 = .ok (.iload 7, 2) := by decide +kernel
theorem dX12_side_46 : decode cX12_side 46 = .ok (.if_icmp .ge 79, 3) := by decide +kernel
theorem dX12_side_49 : decode cX12_side 49 = .ok (.iconst 0, 1) := by decide +kernel
theorem dX12_side_50 : decode cX12_side 50 = .ok (.istore 9, 2) := by decide +kernel
theorem dX12_side_52 : decode cX12_side 52 = .ok (.iload 8, 2) := by decide +kernel
theorem dX12_side_54 : decode cX12_side 54 = .ok (.aload_n 0, 1) := by decide +kernel
theorem dX12_side_55 : decode cX12_side 55 = .ok (.getfield 7, 3) := by decide +kernel
theorem dX12_side_58 : decode cX12_side 58 = .ok (.if_icmp .lt 32, 3) := by decide +kernel
theorem dX12_side_61 : decode cX12_side 61 = .ok (.aload_n 0, 1) := by decide +kernel
theorem dX12_side_62 : decode cX12_side 62 = .ok (.iload_n 2, 1) := by decide +kernel
theorem dX12_side_63 : decode cX12_side 63 = .ok (.aload_n 0, 1) := by decide +kernel
theorem dX12_side_64 : decode cX12_side 64 = .ok (.iload_n 2, 1) := by decide +kernel
theorem dX12_side_65 : decode cX12_side 65 = .ok (.iload 9, 2) := by decide +kernel
theorem dX12_side_67 : decode cX12_side 67 = .ok (.iload 8, 2) := by decide +kernel
theorem dX12_side_69 : decode cX12_side 69 = .ok (.aload_n 0, 1) := by decide +kernel
theorem dX12_side_70 : decode cX12_side 70 = .ok (.getfield 7, 3) := by decide +kernel
theorem dX12_side_73 : decode cX12_side 73 = .ok (.idiv, 1) := by decide +kernel
theorem dX12_side_74 : decode cX12_side 74 = .ok (.invokevirtual 282, 3) := by decide +kernel
theorem dX12_side_77 : decode cX12_side 77 = .ok (.iload 8, 2) := by decide +kernel
theorem dX12_side_79 : decode cX12_side 79 = .ok (.aload_n 0, 1) := by decide +kernel
theorem dX12_side_80 : decode cX12_side 80 = .ok (.getfield 7, 3) := by decide +kernel
theorem dX12_side_83 : decode cX12_side 83 = .ok (.irem, 1) := by decide +kernel
theorem dX12_side_84 : decode cX12_side 84 = .ok (.invokevirtual 282, 3) := by decide +kernel
theorem dX12_side_87 : decode cX12_side 87 = .ok (.goto 21, 3) := by decide +kernel
theorem dX12_side_90 : decode cX12_side 90 = .ok (.iload 8, 2) := by decide +kernel
theorem dX12_side_92 : decode cX12_side 92 = .ok (.ifCond .le 15, 3) := by decide +kernel
theorem dX12_side_95 : decode cX12_side 95 = .ok (.aload_n 0, 1) := by decide +kernel
theorem dX12_side_96 : decode cX12_side 96 = .ok (.iload_n 2, 1) := by decide +kernel
theorem dX12_side_97 : decode cX12_side 97 = .ok (.iload 9, 2) := by decide +kernel
theorem dX12_side_99 : decode cX12_side 99 = .ok (.iload 8, 2) := by decide +kernel
theorem dX12_side_101 : decode cX12_side 101 = .ok (.invokevirtual 282, 3) := by decide +kernel
theorem dX12_side_104 : decode cX12_side 104 = .ok (.goto 4, 3) := by decide +kernel
theorem dX12_side_107 : decode cX12_side 107 = .ok (.iconst 0, 1) := by decide +kernel
theorem dX12_side_108 : decode cX12_side 108 = .ok (.istore 9, 2) := by decide +kernel
theorem dX12_side_110 : decode cX12_side 110 = .ok (.aload_n 0, 1) := by decide +kernel
theorem dX12_side_111 : decode cX12_side 111 = .ok (.getfield 188, 3) := by decide +kernel
theorem dX12_side_114 : decode cX12_side 114 = .ok (.iload 8, 2) := by decide +kernel
theorem dX12_side_116 : decode cX12_side 116 = .ok (.iload 9, 2) := by decide +kernel
theorem dX12_side_118 : decode cX12_side 118 = .ok (.iastore, 1) := by decide +kernel
theorem dX12_side_119 : decode cX12_side 119 = .ok (.iinc 8 1, 3) := by decide +kernel
theorem dX12_side_122 : decode cX12_side 122 = .ok (.goto (-80), 3) := by decide +kernel
theorem dX12_side_125 : decode cX12_side 125 = .ok (.aload_n 0, 1) := by decide +kernel
theorem dX12_side_126 : decode cX12_side 126 = .ok (.iload 7, 2) := by decide +kernel
theorem dX12_side_128 : decode cX12_side 128 = .ok (.invokevirtual 453, 3) := by decide +kernel
theorem dX12_side_131 : decode cX12_side 131 = .ok (.pop, 1) := by decide +kernel
theorem dX12_side_132 : decode cX12_side 132 = .ok (.iconst 0, 1) := by decide +kernel
theorem dX12_side_133 : decode cX12_side 133 = .ok (.istore 8, 2) := by decide +kernel
theorem dX12_side_135 : decode cX12_side 135 = .ok (.iload 8, 2) := by decide +kernel
theorem dX12_side_137 : decode cX12_side 137 = .ok (.aload_n 0, 1) := by decide +kernel
theorem dX12_side_138 : decode cX12_side 138 = .ok (.getfield 234, 3) := by decide +kernel
theorem dX12_side_141 : decode cX12_side 141 = .ok (.if_icmp .ge 175, 3) := by decide +kernel
theorem dX12_side_144 : decode cX12_side 144 = .ok (.aload_n 0, 1) := by decide +kernel
theorem dX12_side_145 : decode cX12_side 145 = .ok (.getfield 76, 3) := by decide +kernel
theorem dX12_side_148 : decode cX12_side 148 = .ok (.iload 8, 2) := by decide +kernel
theorem dX12_side_150 : decode cX12_side 150 = .ok (.aload_n 0, 1) := by decide +kernel
theorem dX12_side_151 : decode cX12_side 151 = .ok (.getfield 23, 3) := by decide +kernel
theorem dX12_side_154 : decode cX12_side 154 = .ok (.bipush 60, 2) := by decide +kernel
theorem dX12_side_156 : decode cX12_side 156 = .ok (.iload_n 2, 1) := by decide +kernel
theorem dX12_side_157 : decode cX12_side 157 = .ok (.imul, 1) := by decide +kernel
theorem dX12_side_158 : decode cX12_side 158 = .ok (.aload_n 0, 1) := by decide +kernel
theorem dX12_side_159 : decode cX12_side 159 = .ok (.getfield 185, 3) := by decide +kernel
theorem dX12_side_162 : decode cX12_side 162 = .ok (.iconst 4, 1) := by decide +kernel
theorem dX12_side_163 : decode cX12_side 163 = .ok (.iload 8, 2) := by decide +kernel
theorem dX12_side_165 : decode cX12_side 165 = .ok (.imul, 1) := by decide +kernel
theorem dX12_side_166 : decode cX12_side 166 = .ok (.iload 4, 2) := by decide +kernel
theorem dX12_side_168 : decode cX12_side 168 = .ok (.iconst (-1), 1) := by decide +kernel
theorem dX12_side_169 : decode cX12_side 169 = .ok (.if_icmp .eq 7, 3) := by decide +kernel
theorem dX12_side_172 : decode cX12_side 172 = .ok (.iconst 0, 1) := by decide +kernel
theorem dX12_side_173 : decode cX12_side 173 = .ok (.goto 5, 3) := by decide +kernel
theorem dX12_side_176 : decode cX12_side 176 = .ok (.iload 5, 2) := by decide +kernel
theorem dX12_side_178 : decode cX12_side 178 = .ok (.iadd, 1) := by decide +kernel
theorem dX12_side_179 : decode cX12_side 179 = .ok (.iaload, 1) := by decide +kernel
theorem dX12_side_180 : decode cX12_side 180 = .ok (.iadd, 1) := by decide +kernel
theorem dX12_side_181 : decode cX12_side 181 = .ok (.iaload, 1) := by decide +kernel
theorem dX12_side_182 : decode cX12_side 182 = .ok (.iastore, 1) := by decide +kernel
theorem dX12_side_183 : decode cX12_side 183 = .ok (.iconst 0, 1) := by decide +kernel
theorem dX12_side_184 : decode cX12_side 184 = .ok (.istore 9, 2) := by decide +kernel
theorem dX12_side_186 : decode cX12_side 186 = .ok (.iload 9, 2) := by decide +kernel
theorem dX12_side_188 : decode cX12_side 188 = .ok (.aload_n 0, 1) := by decide +kernel
theorem dX12_side_189 : decode cX12_side 189 = .ok (.getfield 226, 3) := by decide +kernel
theorem dX12_side_192 : decode cX12_side 192 = .ok (.if_icmp .ge 118, 3) := by decide +kernel
theorem dX12_side_195 : decode cX12_side 195 = .ok (.aload_n 0, 1) := by decide +kernel
theorem dX12_side_196 : decode cX12_side 196 = .ok (.iload 9, 2) := by decide +kernel
theorem dX12_side_198 : decode cX12_side 198 = .ok (.iload 6, 2) := by decide +kernel
theorem dX12_side_200 : decode cX12_side 200 = .ok (.iload_n 3, 1) := by decide +kernel
theorem dX12_side_201 : decode cX12_side 201 = .ok (.invokevirtual 420, 3) := by decide +kernel
theorem dX12_side_204 : decode cX12_side 204 = .ok (.iload 4, 2) := by decide +kernel
theorem dX12_side_206 : decode cX12_side 206 = .ok (.iconst (-1), 1) := by decide +kernel
theorem dX12_side_207 : decode cX12_side 207 = .ok (.if_icmp .ne 7, 3) := by decide +kernel
theorem dX12_side_210 : decode cX12_side 210 = .ok (.iconst 0, 1) := by decide +kernel
theorem dX12_side_211 : decode cX12_side 211 = .ok (.goto 13, 3) := by decide +kernel
theorem dX12_side_214 : decode cX12_side 214 = .ok (.aload_n 0, 1) := by decide +kernel
theorem dX12_side_215 : decode cX12_side 215 = .ok (.iload 9, 2) := by decide +kernel
theorem dX12_side_217 : decode cX12_side 217 = .ok (.iload 6, 2) := by decide +kernel
theorem dX12_side_219 : decode cX12_side 219 = .ok (.iload 4, 2) := by decide +kernel
theorem dX12_side_221 : decode cX12_side 221 = .ok (.invokevirtual 420, 3) := by decide +kernel
theorem dX12_side_224 : decode cX12_side 224 = .ok (.iadd, 1) := by decide +kernel
theorem dX12_side_225 : decode cX12_side 225 = .ok (.istore 10, 2) := by decide +kernel
theorem dX12_side_227 : decode cX12_side 227 = .ok (.iconst 0, 1) := by decide +kernel
theorem dX12_side_228 : decode cX12_side 228 = .ok (.istore 11, 2) := by decide +kernel
theorem dX12_side_230 : decode cX12_side 230 = .ok (.iload 11, 2) := by decide +kernel
theorem dX12_side_232 : decode cX12_side 232 = .ok (.iload 7, 2) := by decide +kernel
theorem dX12_side_234 : decode cX12_side 234 = .ok (.if_icmp .ge 51, 3) := by decide +kernel
theorem dX12_side_237 : decode cX12_side 237 = .ok (.aload_n 0, 1) := by decide +kernel
theorem dX12_side_238 : decode cX12_side 238 = .ok (.getfield 188, 3) := by decide +kernel
theorem dX12_side_241 : decode cX12_side 241 = .ok (.iload 11, 2) := by decide +kernel
theorem dX12_side_243 : decode cX12_side 243 = .ok (.aload_n 0, 1) := by decide +kernel
theorem dX12_side_244 : decode cX12_side 244 = .ok (.iload_n 2, 1) := by decide +kernel
theorem dX12_side_245 : decode cX12_side 245 = .ok (.aload_n 0, 1) := by decide +kernel
theorem dX12_side_246 : decode cX12_side 246 = .ok (.getfield 185, 3) := by decide +kernel
theorem dX12_side_249 : decode cX12_side 249 = .ok (.iconst 4, 1) := by decide +kernel
theorem dX12_side_250 : decode cX12_side 250 = .ok (.iload 8, 2) := by decide +kernel
theorem dX12_side_252 : decode cX12_side 252 = .ok (.imul, 1) := by decide +kernel
theorem dX12_side_253 : decode cX12_side 253 = .ok (.iload 10, 2) := by decide +kernel
theorem dX12_side_255 : decode cX12_side 255 = .ok (.iload 11, 2) := by decide +kernel
theorem dX12_side_257 : decode cX12_side 257 = .ok (.iadd, 1) := by decide +kernel
theorem dX12_side_258 : decode cX12_side 258 = .ok (.aload_n 0, 1) := by decide +kernel
theorem dX12_side_259 : decode cX12_side 259 = .ok (.getfield 7, 3) := by decide +kernel
theorem dX12_side_262 : decode cX12_side 262 = .ok (.idiv, 1) := by decide +kernel
theorem dX12_side_263 : decode cX12_side 263 = .ok (.iadd, 1) := by decide +kernel
theorem dX12_side_264 : decode cX12_side 264 = .ok (.iaload, 1) := by decide +kernel
theorem dX12_side_265 : decode cX12_side 265 = .ok (.iload 10, 2) := by decide +kernel
theorem dX12_side_267 : decode cX12_side 267 = .ok (.iload 11, 2) := by decide +kernel
theorem dX12_side_269 : decode cX12_side 269 = .ok (.iadd, 1) := by decide +kernel
theorem dX12_side_270 : decode cX12_side 270 = .ok (.aload_n 0, 1) := by decide +kernel
theorem dX12_side_271 : decode cX12_side 271 = .ok (.getfield 7, 3) := by decide +kernel
theorem dX12_side_274 : decode cX12_side 274 = .ok (.irem, 1) := by decide +kernel
theorem dX12_side_275 : decode cX12_side 275 = .ok (.invokevirtual 282, 3) := by decide +kernel
theorem dX12_side_278 : decode cX12_side 278 = .ok (.iastore, 1) := by decide +kernel
theorem dX12_side_279 : decode cX12_side 279 = .ok (.iinc 11 1, 3) := by decide +kernel
theorem dX12_side_282 : decode cX12_side 282 = .ok (.goto (-52), 3) := by decide +kernel
theorem dX12_side_285 : decode cX12_side 285 = .ok (.aload_n 0, 1) := by decide +kernel
theorem dX12_side_286 : decode cX12_side 286 = .ok (.getfield 73, 3) := by decide +kernel
theorem dX12_side_289 : decode cX12_side 289 = .ok (.bipush 27, 2) := by decide +kernel
theorem dX12_side_291 : decode cX12_side 291 = .ok (.iload 8, 2) := by decide +kernel
theorem dX12_side_293 : decode cX12_side 293 = .ok (.imul, 1) := by decide +kernel
theorem dX12_side_294 : decode cX12_side 294 = .ok (.iload 9, 2) := by decide +kernel
theorem dX12_side_296 : decode cX12_side 296 = .ok (.iadd, 1) := by decide +kernel
theorem dX12_side_297 : decode cX12_side 297 = .ok (.aload_n 0, 1) := by decide +kernel
theorem dX12_side_298 : decode cX12_side 298 = .ok (.iload 7, 2) := by decide +kernel
theorem dX12_side_300 : decode cX12_side 300 = .ok (.invokevirtual 453, 3) := by decide +kernel
theorem dX12_side_303 : decode cX12_side 303 = .ok (.iastore, 1) := by decide +kernel
theorem dX12_side_304 : decode cX12_side 304 = .ok (.iinc 9 1, 3) := by decide +kernel
theorem dX12_side_307 : decode cX12_side 307 = .ok (.goto (-121), 3) := by decide +kernel
theorem dX12_side_310 : decode cX12_side 310 = .ok (.iinc 8 1, 3) := by decide +kernel
theorem dX12_side_313 : decode cX12_side 313 = .ok (.goto (-178), 3) := by decide +kernel
theorem dX12_side_316 : decode cX12_side 316 = .ok (.aload_n 0, 1) := by decide +kernel
theorem dX12_side_317 : decode cX12_side 317 = .ok (.invokevirtual 266, 3) := by decide +kernel
theorem dX12_side_320 : decode cX12_side 320 = .ok (.aload_n 0, 1) := by decide +kernel
theorem dX12_side_321 : decode cX12_side 321 = .ok (.getfield 243, 3) := by decide +kernel
theorem dX12_side_324 : decode cX12_side 324 = .ok (.bipush 40, 2) := by decide +kernel
theorem dX12_side_326 : decode cX12_side 326 = .ok (.if_icmp .le 5, 3) := by decide +kernel
theorem dX12_side_329 : decode cX12_side 329 = .ok (.iconst 0, 1) := by decide +kernel
theorem dX12_side_330 : decode cX12_side 330 = .ok (.ireturn, 1) := by decide +kernel
theorem dX12_side_331 : decode cX12_side 331 = .ok (.aload_n 0, 1) := by decide +kernel
theorem dX12_side_332 : decode cX12_side 332 = .ok (.getfield 181, 3) := by decide +kernel
theorem dX12_side_335 : decode cX12_side 335 = .ok (.iload_n 1, 1) := by decide +kernel
theorem dX12_side_336 : decode cX12_side 336 = .ok (.aload_n 0, 1) := by decide +kernel
theorem dX12_side_337 : decode cX12_side 337 = .ok (.getfield 243, 3) := by decide +kernel
theorem dX12_side_340 : decode cX12_side 340 = .ok (.iastore, 1) := by decide +kernel
theorem dX12_side_341 : decode cX12_side 341 = .ok (.iconst 0, 1) := by decide +kernel
theorem dX12_side_342 : decode cX12_side 342 = .ok (.istore 8, 2) := by decide +kernel
theorem dX12_side_344 : decode cX12_side 344 = .ok (.iload 8, 2) := by decide +kernel
theorem dX12_side_346 : decode cX12_side 346 = .ok (.aload_n 0, 1) := by decide +kernel
theorem dX12_side_347 : decode cX12_side 347 = .ok (.getfield 243, 3) := by decide +kernel
theorem dX12_side_350 : decode cX12_side 350 = .ok (.if_icmp .ge 77, 3) := by decide +kernel
theorem dX12_side_353 : decode cX12_side 353 = .ok (.aload_n 0, 1) := by decide +kernel
theorem dX12_side_354 : decode cX12_side 354 = .ok (.getfield 178, 3) := by decide +kernel
theorem dX12_side_357 : decode cX12_side 357 = .ok (.bipush 40, 2) := by decide +kernel
theorem dX12_side_359 : decode cX12_side 359 = .ok (.iload_n 1, 1) := by decide +kernel
theorem dX12_side_360 : decode cX12_side 360 = .ok (.imul, 1) := by decide +kernel
theorem dX12_side_361 : decode cX12_side 361 = .ok (.iload 8, 2) := by decide +kernel
theorem dX12_side_363 : decode cX12_side 363 = .ok (.iadd, 1) := by decide +kernel
theorem dX12_side_364 : decode cX12_side 364 = .ok (.aload_n 0, 1) := by decide +kernel
theorem dX12_side_365 : decode cX12_side 365 = .ok (.getfield 76, 3) := by decide +kernel
theorem dX12_side_368 : decode cX12_side 368 = .ok (.aload_n 0, 1) := by decide +kernel
theorem dX12_side_369 : decode cX12_side 369 = .ok (.getfield 89, 3) := by decide +kernel
theorem dX12_side_372 : decode cX12_side 372 = .ok (.iload 8, 2) := by decide +kernel
theorem dX12_side_374 : decode cX12_side 374 = .ok (.iaload, 1) := by decide +kernel
theorem dX12_side_375 : decode cX12_side 375 = .ok (.iaload, 1) := by decide +kernel
theorem dX12_side_376 : decode cX12_side 376 = .ok (.iastore, 1) := by decide +kernel
theorem dX12_side_377 : decode cX12_side 377 = .ok (.iconst 0, 1) := by decide +kernel
theorem dX12_side_378 : decode cX12_side 378 = .ok (.istore 9, 2) := by decide +kernel
theorem dX12_side_380 : decode cX12_side 380 = .ok (.iload 9, 2) := by decide +kernel
theorem dX12_side_382 : decode cX12_side 382 = .ok (.aload_n 0, 1) := by decide +kernel
theorem dX12_side_383 : decode cX12_side 383 = .ok (.getfield 226, 3) := by decide +kernel
theorem dX12_side_386 : decode cX12_side 386 = .ok (.if_icmp .ge 35, 3) := by decide +kernel
theorem dX12_side_389 : decode cX12_side 389 = .ok (.aload_n 0, 1) := by decide +kernel
theorem dX12_side_390 : decode cX12_side 390 = .ok (.getfield 175, 3) := by decide +kernel
theorem dX12_side_393 : decode cX12_side 393 = .ok (.bipush 27, 2) := by decide +kernel
theorem dX12_side_395 : decode cX12_side 395 = .ok (.bipush 40, 2) := by decide +kernel
theorem dX12_side_397 : decode cX12_side 397 = .ok (.iload_n 1, 1) := by decide +kernel
theorem dX12_side_398 : decode cX12_side 398 = .ok (.imul, 1) := by decide +kernel
theorem dX12_side_399 : decode cX12_side 399 = .ok (.iload 8, 2) := by decide +kernel
theorem dX12_side_401 : decode cX12_side 401 = .ok (.iadd, 1) := by decide +kernel
theorem dX12_side_402 : decode cX12_side 402 = .ok (.imul, 1) := by decide +kernel
theorem dX12_side_403 : decode cX12_side 403 = .ok (.iload 9, 2) := by decide +kernel
theorem dX12_side_405 : decode cX12_side 405 = .ok (.iadd, 1) := by decide +kernel
theorem dX12_side_406 : decode cX12_side 406 = .ok (.aload_n 0, 1) := by decide +kernel
theorem dX12_side_407 : decode cX12_side 407 = .ok (.iload 8, 2) := by decide +kernel
theorem dX12_side_409 : decode cX12_side 409 = .ok (.iload 9, 2) := by decide +kernel
theorem dX12_side_411 : decode cX12_side 411 = .ok (.invokevirtual 246, 3) := by decide +kernel
theorem dX12_side_414 : decode cX12_side 414 = .ok (.iastore, 1) := by decide +kernel
theorem dX12_side_415 : decode cX12_side 415 = .ok (.iinc 9 1, 3) := by decide +kernel
theorem dX12_side_418 : decode cX12_side 418 = .ok (.goto (-38), 3) := by decide +kernel
theorem dX12_side_421 : decode cX12_side 421 = .ok (.iinc 8 1, 3) := by decide +kernel
theorem dX12_side_424 : decode cX12_side 424 = .ok (.goto (-80), 3) := by decide +kernel
theorem dX12_side_427 : decode cX12_side 427 = .ok (.iconst 1, 1) := by decide +kernel
theorem dX12_side_428 : decode cX12_side 428 = .ok (.ireturn, 1) := by decide +kernel
theorem dX12_lettersMachine_0 : decode cX12_lettersMachine 0 = .ok (.aload_n 0, 1) := by decide +kernel
theorem dX12_lettersMachine_1 : decode cX12_lettersMachine 1 = .ok (.getfield 143, 3) := by decide +kernel
theorem dX12_lettersMachine_4 : decode cX12_lettersMachine 4 = .ok (.iload_n 1, 1) := by decide +kernel
theorem dX12_lettersMachine_5 : decode cX12_lettersMachine 5 = .ok (.iaload, 1) := by decide +kernel
theorem dX12_lettersMachine_6 : decode cX12_lettersMachine 6 = .ok (.istore_n 2, 1) := by decide +kernel
theorem dX12_lettersMachine_7 : decode cX12_lettersMachine 7 = .ok (.aload_n 0, 1) := by decide +kernel
theorem dX12_lettersMachine_8 : decode cX12_lettersMachine 8 = .ok (.iconst 0, 1) := by decide +kernel
theorem dX12_lettersMachine_9 : decode cX12_lettersMachine 9 = .ok (.aload_n 0, 1) := by decide +kernel
theorem dX12_lettersMachine_10 : decode cX12_lettersMachine 10 = .ok (.getfield 131, 3) := by decide +kernel
theorem dX12_lettersMachine_13 : decode cX12_lettersMachine 13 = .ok (.iload_n 1, 1) := by decide +kernel
theorem dX12_lettersMachine_14 : decode cX12_lettersMachine 14 = .ok (.iaload, 1) := by decide +kernel
theorem dX12_lettersMachine_15 : decode cX12_lettersMachine 15 = .ok (.aload_n 0, 1) := by decide +kernel
theorem dX12_lettersMachine_16 : decode cX12_lettersMachine 16 = .ok (.getfield 134, 3) := by decide +kernel
theorem dX12_lettersMachine_19 : decode cX12_lettersMachine 19 = .ok (.iload_n 1, 1) := by decide +kernel
theorem dX12_lettersMachine_20 : decode cX12_lettersMachine 20 = .ok (.iaload, 1) := by decide +kernel
theorem dX12_lettersMachine_21 : decode cX12_lettersMachine 21 = .ok (.aload_n 0, 1) := by decide +kernel
theorem dX12_lettersMachine_22 : decode cX12_lettersMachine 22 = .ok (.getfield 137, 3) := by decide +kernel
theorem dX12_lettersMachine_25 : decode cX12_lettersMachine 25 = .ok (.iload_n 1, 1) := by decide +kernel
theorem dX12_lettersMachine_26 : decode cX12_lettersMachine 26 = .ok (.iaload, 1) := by decide +kernel
theorem dX12_lettersMachine_27 : decode cX12_lettersMachine 27 = .ok (.aload_n 0, 1) := by decide +kernel
theorem dX12_lettersMachine_28 : decode cX12_lettersMachine 28 = .ok (.getfield 140, 3) := by decide +kernel
theorem dX12_lettersMachine_31 : decode cX12_lettersMachine 31 = .ok (.iload_n 1, 1) := by decide +kernel
theorem dX12_lettersMachine_32 : decode cX12_lettersMachine 32 = .ok (.iaload, 1) := by decide +kernel
theorem dX12_lettersMachine_33 : decode cX12_lettersMachine 33 = .ok (.invokevirtual 456, 3) := by decide +kernel
theorem dX12_lettersMachine_36 : decode cX12_lettersMachine 36 = .ok (.ifCond .ne 5, 3) := by decide +kernel
theorem dX12_lettersMachine_39 : decode cX12_lettersMachine 39 = .ok (.iconst 0, 1) := by decide +kernel
theorem dX12_lettersMachine_40 : decode cX12_lettersMachine 40 = .ok (.ireturn, 1) := by decide +kernel
theorem dX12_lettersMachine_41 : decode cX12_lettersMachine 41 = .ok (.iload_n 2, 1) := by decide +kernel
theorem dX12_lettersMachine_42 : decode cX12_lettersMachine 42 = .ok (.iconst (-1), 1) := by decide +kernel
theorem dX12_lettersMachine_43 : decode cX12_lettersMachine 43 = .ok (.if_icmp .eq 32, 3) := by decide +kernel
theorem dX12_lettersMachine_46 : decode cX12_lettersMachine 46 = .ok (.aload_n 0, 1) := by decide +kernel
theorem dX12_lettersMachine_47 : decode cX12_lettersMachine 47 = .ok (.iconst 1, 1) := by decide +kernel
theorem dX12_lettersMachine_48 : decode cX12_lettersMachine 48 = .ok (.iload_n 2, 1) := by decide +kernel
theorem dX12_lettersMachine_49 : decode cX12_lettersMachine 49 = .ok (.aload_n 0, 1) := by decide +kernel
theorem dX12_lettersMachine_50 : decode cX12_lettersMachine 50 = .ok (.getfield 146, 3) := by decide +kernel
theorem dX12_lettersMachine_53 : decode cX12_lettersMachine 53 = .ok (.iload_n 1, 1) := by decide +kernel
theorem dX12_lettersMachine_54 : decode cX12_lettersMachine 54 = .ok (.iaload, 1) := by decide +kernel
theorem dX12_lettersMachine_55 : decode cX12_lettersMachine 55 = .ok (.aload_n 0, 1) := by decide +kernel
theorem dX12_lettersMachine_56 : decode cX12_lettersMachine 56 = .ok (.getfield 149, 3) := by decide +kernel
theorem dX12_lettersMachine_59 : decode cX12_lettersMachine 59 = .ok (.iload_n 1, 1) := by decide +kernel
theorem dX12_lettersMachine_60 : decode cX12_lettersMachine 60 = .ok (.iaload, 1) := by decide +kernel
theorem dX12_lettersMachine_61 : decode cX12_lettersMachine 61 = .ok (.aload_n 0, 1) := by decide +kernel
theorem dX12_lettersMachine_62 : decode cX12_lettersMachine 62 = .ok (.getfield 152, 3) := by decide +kernel
theorem dX12_lettersMachine_65 : decode cX12_lettersMachine 65 = .ok (.iload_n 1, 1) := by decide +kernel
theorem dX12_lettersMachine_66 : decode cX12_lettersMachine 66 = .ok (.iaload, 1) := by decide +kernel
theorem dX12_lettersMachine_67 : decode cX12_lettersMachine 67 = .ok (.invokevirtual 456, 3) := by decide +kernel
theorem dX12_lettersMachine_70 : decode cX12_lettersMachine 70 = .ok (.ifCond .ne 5, 3) := by decide +kernel
theorem dX12_lettersMachine_73 : decode cX12_lettersMachine 73 = .ok (.iconst 0, 1) := by decide +kernel
theorem dX12_lettersMachine_74 : decode cX12_lettersMachine 74 = .ok (.ireturn, 1) := by decide +kernel
theorem dX12_lettersMachine_75 : decode cX12_lettersMachine 75 = .ok (.aload_n 0, 1) := by decide +kernel
theorem dX12_lettersMachine_76 : decode cX12_lettersMachine 76 = .ok (.getfield 119, 3) := by decide +kernel
theorem dX12_lettersMachine_79 : decode cX12_lettersMachine 79 = .ok (.iload_n 1, 1) := by decide +kernel
theorem dX12_lettersMachine_80 : decode cX12_lettersMachine 80 = .ok (.iaload, 1) := by decide +kernel
theorem dX12_lettersMachine_81 : decode cX12_lettersMachine 81 = .ok (.istore_n 3, 1) := by decide +kernel
theorem dX12_lettersMachine_82 : decode cX12_lettersMachine 82 = .ok (.aload_n 0, 1) := by decide +kernel
theorem dX12_lettersMachine_83 : decode cX12_lettersMachine 83 = .ok (.getfield 134, 3) := by decide +kernel
theorem dX12_lettersMachine_86 : decode cX12_lettersMachine 86 = .ok (.iload_n 1, 1) := by decide +kernel
theorem dX12_lettersMachine_87 : decode cX12_lettersMachine 87 = .ok (.iaload, 1) := by decide +kernel
theorem dX12_lettersMachine_88 : decode cX12_lettersMachine 88 = .ok (.aload_n 0, 1) := by decide +kernel
theorem dX12_lettersMachine_89 : decode cX12_lettersMachine 89 = .ok (.getfield 137, 3) := by decide +kernel
theorem dX12_lettersMachine_92 : decode cX12_lettersMachine 92 = .ok (.iload_n 1, 1) := by decide +kernel
theorem dX12_lettersMachine_93 : decode cX12_lettersMachine 93 = .ok (.iaload, 1) := by decide +kernel
theorem dX12_lettersMachine_94 : decode cX12_lettersMachine 94 = .ok (.invokestatic 450, 3) := by decide +kernel
theorem dX12_lettersMachine_97 : decode cX12_lettersMachine 97 = .ok (.istore 4, 2) := by decide +kernel
theorem dX12_lettersMachine_99 : decode cX12_lettersMachine 99 = .ok (.iload_n 2, 1) := by decide +kernel
theorem dX12_lettersMachine_100 : decode cX12_lettersMachine 100 = .ok (.iconst (-1), 1) := by decide +kernel
theorem dX12_lettersMachine_101 : decode cX12_lettersMachine 101 = .ok (.if_icmp .ne 7, 3) := by decide +kernel
theorem dX12_lettersMachine_104 : decode cX12_lettersMachine 104 = .ok (.iconst 0, 1) := by decide +kernel
theorem dX12_lettersMachine_105 : decode cX12_lettersMachine 105 = .ok (.goto 18, 3) := by decide +kernel
theorem dX12_lettersMachine_108 : decode cX12_lettersMachine 108 = .ok (.aload_n 0, 1) := by decide +kernel
theorem dX12_lettersMachine_109 : decode cX12_lettersMachine 109 = .ok (.getfield 146, 3) := by decide +kernel
theorem dX12_lettersMachine_112 : decode cX12_lettersMachine 112 = .ok (.iload_n 1, 1) := by decide +kernel
theorem dX12_lettersMachine_113 : decode cX12_lettersMachine 113 = .ok (.iaload, 1) := by decide +kernel
theorem dX12_lettersMachine_114 : decode cX12_lettersMachine 114 = .ok (.aload_n 0, 1) := by decide +kernel
theorem dX12_lettersMachine_115 : decode cX12_lettersMachine 115 = .ok (.getfield 149, 3) := by decide +kernel
theorem dX12_lettersMachine_118 : decode cX12_lettersMachine 118 = .ok (.iload_n 1, 1) := by decide +kernel
theorem dX12_lettersMachine_119 : decode cX12_lettersMachine 119 = .ok (.iaload, 1) := by decide +kernel
theorem dX12_lettersMachine_120 : decode cX12_lettersMachine 120 = .ok (.invokestatic 450, 3) := by decide +kernel
theorem dX12_lettersMachine_123 : decode cX12_lettersMachine 123 = .ok (.istore 5, 2) := by decide +kernel
theorem dX12_lettersMachine_125 : decode cX12_lettersMachine 125 = .ok (.aload_n 0, 1) := by decide +kernel
theorem dX12_lettersMachine_126 : decode cX12_lettersMachine 126 = .ok (.invokevirtual 279, 3) := by decide +kernel
theorem dX12_lettersMachine_129 : decode cX12_lettersMachine 129 = .ok (.aload_n 0, 1) := by decide +kernel
theorem dX12_lettersMachine_130 : decode cX12_lettersMachine 130 = .ok (.aload_n 0, 1) := by decide +kernel
theorem dX12_lettersMachine_131 : decode cX12_lettersMachine 131 = .ok (.iload_n 3, 1) := by decide +kernel
theorem dX12_lettersMachine_132 : decode cX12_lettersMachine 132 = .ok (.invokevirtual 417, 3) := by decide +kernel
theorem dX12_lettersMachine_135 : decode cX12_lettersMachine 135 = .ok (.putfield 226, 3) := by decide +kernel
theorem dX12_lettersMachine_138 : decode cX12_lettersMachine 138 = .ok (.iconst 0, 1) := by decide +kernel
theorem dX12_lettersMachine_139 : decode cX12_lettersMachine 139 = .ok (.istore 6, 2) := by decide +kernel
theorem dX12_lettersMachine_141 : decode cX12_lettersMachine 141 = .ok (.iload 6, 2) := by decide +kernel
theorem dX12_lettersMachine_143 : decode cX12_lettersMachine 143 = .ok (.aload_n 0, 1) := by decide +kernel
theorem dX12_lettersMachine_144 : decode cX12_lettersMachine 144 = .ok (.getfield 234, 3) := by decide +kernel
theorem dX12_lettersMachine_147 : decode cX12_lettersMachine 147 = .ok (.if_icmp .ge 178, 3) := by decide +kernel
theorem dX12_lettersMachine_150 : decode cX12_lettersMachine 150 = .ok (.aload_n 0, 1) := by decide +kernel
theorem dX12_lettersMachine_151 : decode cX12_lettersMachine 151 = .ok (.getfield 178, 3) := by decide +kernel
theorem dX12_lettersMachine_154 : decode cX12_lettersMachine 154 = .ok (.aload_n 0, 1) := by decide +kernel
theorem dX12_lettersMachine_155 : decode cX12_lettersMachine 155 = .ok (.getfield 98, 3) := by decide +kernel
theorem dX12_lettersMachine_158 : decode cX12_lettersMachine 158 = .ok (.iload 6, 2) := by decide +kernel
theorem dX12_lettersMachine_160 : decode cX12_lettersMachine 160 = .ok (.iaload, 1) := by decide +kernel
theorem dX12_lettersMachine_161 : decode cX12_lettersMachine 161 = .ok (.iaload, 1) := by decide +kernel
theorem dX12_lettersMachine_162 : decode cX12_lettersMachine 162 = .ok (.istore 7, 2) := by decide +kernel
theorem dX12_lettersMachine_164 : decode cX12_lettersMachine 164 = .ok (.iload_n 2, 1) := by decide +kernel
theorem dX12_lettersMachine_165 : decode cX12_lettersMachine 165 = .ok (.iconst (-1), 1) := by decide +kernel
theorem dX12_lettersMachine_166 : decode cX12_lettersMachine 166 = .ok (.if_icmp .ne 12, 3) := by decide +kernel
theorem dX12_lettersMachine_169 : decode cX12_lettersMachine 169 = .ok (.aload_n 0, 1) := by decide +kernel
theorem dX12_lettersMachine_170 : decode cX12_lettersMachine 170 = .ok (.getfield 152, 3) := by decide +kernel
theorem dX12_lettersMachine_173 : decode cX12_lettersMachine 173 = .ok (.iload_n 1, 1) := by decide +kernel
theorem dX12_lettersMachine_174 : decode cX12_lettersMachine 174 = .ok (.iaload, 1) := by decide +kernel
theorem dX12_lettersMachine_175 : decode cX12_lettersMachine 175 = .ok (.goto 18, 3) := by decide +kernel
theorem dX12_lettersMachine_178 : decode cX12_lettersMachine 178 = .ok (.aload_n 0, 1) := by decide +kernel
theorem dX12_lettersMachine_179 : decode cX12_lettersMachine 179 = .ok (.getfield 178, 3) := by decide +kernel
theorem dX12_lettersMachine_182 : decode cX12_lettersMachine 182 = .ok (.bipush 40, 2) := by decide +kernel
theorem dX12_lettersMachine_184 : decode cX12_lettersMachine 184 = .ok (.aload_n 0, 1) := by decide +kernel
theorem dX12_lettersMachine_185 : decode cX12_lettersMachine 185 = .ok (.getfield 101, 3) := by decide +kernel
theorem dX12_lettersMachine_188 : decode cX12_lettersMachine 188 = .ok (.iload 6, 2) := by decide +kernel
theorem dX12_lettersMachine_190 : decode cX12_lettersMachine 190 = .ok (.iaload, 1) := by decide +kernel
theorem dX12_lettersMachine_191 : decode cX12_lettersMachine 191 = .ok (.iadd, 1) := by decide +kernel
theorem dX12_lettersMachine_192 : decode cX12_lettersMachine 192 = .ok (.iaload, 1) := by decide +kernel
theorem dX12_lettersMachine_193 : decode cX12_lettersMachine 193 = .ok (.istore 8, 2) := by decide +kernel
theorem dX12_lettersMachine_195 : decode cX12_lettersMachine 195 = .ok (.aload_n 0, 1) := by decide +kernel
theorem dX12_lettersMachine_196 : decode cX12_lettersMachine 196 = .ok (.getfield 76, 3) := by decide +kernel
theorem dX12_lettersMachine_199 : decode cX12_lettersMachine 199 = .ok (.iload 6, 2) := by decide +kernel
theorem dX12_lettersMachine_201 : decode cX12_lettersMachine 201 = .ok (.iload 7, 2) := by decide +kernel
theorem dX12_lettersMachine_203 : decode cX12_lettersMachine 203 = .ok (.iload 8, 2) := by decide +kernel
theorem dX12_lettersMachine_205 : decode cX12_lettersMachine 205 = .ok (.if_icmp .ne 7, 3) := by decide +kernel
theorem dX12_lettersMachine_208 : decode cX12_lettersMachine 208 = .ok (.iconst 1, 1) := by decide +kernel
theorem dX12_lettersMachine_209 : decode cX12_lettersMachine 209 = .ok (.goto 4, 3) := by decide +kernel
theorem dX12_lettersMachine_212 : decode cX12_lettersMachine 212 = .ok (.iconst 0, 1) := by decide +kernel
theorem dX12_lettersMachine_213 : decode cX12_lettersMachine 213 = .ok (.iastore, 1) := by decide +kernel
theorem dX12_lettersMachine_214 : decode cX12_lettersMachine 214 = .ok (.iconst 0, 1) := by decide +kernel
theorem dX12_lettersMachine_215 : decode cX12_lettersMachine 215 = .ok (.istore 9, 2) := by decide +kernel
theorem dX12_lettersMachine_217 : decode cX12_lettersMachine 217 = .ok (.iload 9, 2) := by decide +kernel
theorem dX12_lettersMachine_219 : decode cX12_lettersMachine 219 = .ok (.aload_n 0, 1) := by decide +kernel
theorem dX12_lettersMachine_220 : decode cX12_lettersMachine 220 = .ok (.getfield 226, 3) := by decide +kernel
theorem dX12_lettersMachine_223 : decode cX12_lettersMachine 223 = .ok (.if_icmp .ge 96, 3) := by decide +kernel
theorem dX12_lettersMachine_226 : decode cX12_lettersMachine 226 = .ok (.aload_n 0, 1) := by decide +kernel
theorem dX12_lettersMachine_227 : decode cX12_lettersMachine 227 = .ok (.getfield 175, 3) := by decide +kernel
theorem dX12_lettersMachine_230 : decode cX12_lettersMachine 230 = .ok (.bipush 27, 2) := by decide +kernel
theorem dX12_lettersMachine_232 : decode cX12_lettersMachine 232 = .ok (.aload_n 0, 1) := by decide +kernel
theorem dX12_lettersMachine_233 : decode cX12_lettersMachine 233 = .ok (.getfield 98, 3) := by decide +kernel
theorem dX12_lettersMachine_236 : decode cX12_lettersMachine 236 = .ok (.iload 6, 2) := by decide +kernel
theorem dX12_lettersMachine_238 : decode cX12_lettersMachine 238 = .ok (.iaload, 1) := by decide +kernel
theorem dX12_lettersMachine_239 : decode cX12_lettersMachine 239 = .ok (.imul, 1) := by decide +kernel
theorem dX12_lettersMachine_240 : decode cX12_lettersMachine 240 = .ok (.aload_n 0, 1) := by decide +kernel
theorem dX12_lettersMachine_241 : decode cX12_lettersMachine 241 = .ok (.iload 9, 2) := by decide +kernel
theorem dX12_lettersMachine_243 : decode cX12_lettersMachine 243 = .ok (.iload_n 3, 1) := by decide +kernel
theorem dX12_lettersMachine_244 : decode cX12_lettersMachine 244 = .ok (.iload 4, 2) := by decide +kernel
theorem dX12_lettersMachine_246 : decode cX12_lettersMachine 246 = .ok (.invokevirtual 423, 3) := by decide +kernel
theorem dX12_lettersMachine_249 : decode cX12_lettersMachine 249 = .ok (.iadd, 1) := by decide +kernel
theorem dX12_lettersMachine_250 : decode cX12_lettersMachine 250 = .ok (.iaload, 1) := by decide +kernel
theorem dX12_lettersMachine_251 : decode cX12_lettersMachine 251 = .ok (.istore 10, 2) := by decide +kernel
theorem dX12_lettersMachine_253 : decode cX12_lettersMachine 253 = .ok (.iload_n 2, 1) := by decide +kernel
theorem dX12_lettersMachine_254 : decode cX12_lettersMachine 254 = .ok (.iconst (-1), 1) := by decide +kernel
theorem dX12_lettersMachine_255 : decode cX12_lettersMachine 255 = .ok (.if_icmp .ne 7, 3) := by decide +kernel
theorem dX12_lettersMachine_258 : decode cX12_lettersMachine 258 = .ok (.iconst 0, 1) := by decide +kernel
theorem dX12_lettersMachine_259 : decode cX12_lettersMachine 259 = .ok (.goto 31, 3) := by decide +kernel
theorem dX12_lettersMachine_262 : decode cX12_lettersMachine 262 = .ok (.aload_n 0, 1) := by decide +kernel
theorem dX12_lettersMachine_263 : decode cX12_lettersMachine 263 = .ok (.getfield 175, 3) := by decide +kernel
theorem dX12_lettersMachine_266 : decode cX12_lettersMachine 266 = .ok (.bipush 27, 2) := by decide +kernel
theorem dX12_lettersMachine_268 : decode cX12_lettersMachine 268 = .ok (.bipush 40, 2) := by decide +kernel
theorem dX12_lettersMachine_270 : decode cX12_lettersMachine 270 = .ok (.aload_n 0, 1) := by decide +kernel
theorem dX12_lettersMachine_271 : decode cX12_lettersMachine 271 = .ok (.getfield 101, 3) := by decide +kernel
theorem dX12_lettersMachine_274 : decode cX12_lettersMachine 274 = .ok (.iload 6, 2) := by decide +kernel
theorem dX12_lettersMachine_276 : decode cX12_lettersMachine 276 = .ok (.iaload, 1) := by decide +kernel
theorem dX12_lettersMachine_277 : decode cX12_lettersMachine 277 = .ok (.iadd, 1) := by decide +kernel
theorem dX12_lettersMachine_278 : decode cX12_lettersMachine 278 = .ok (.imul, 1) := by decide +kernel
theorem dX12_lettersMachine_279 : decode cX12_lettersMachine 279 = .ok (.aload_n 0, 1) := by decide +kernel
theorem dX12_lettersMachine_280 : decode cX12_lettersMachine 280 = .ok (.iload 9, 2) := by decide +kernel
theorem dX12_lettersMachine_282 : decode cX12_lettersMachine 282 = .ok (.iload_n 3, 1) := by decide +kernel
theorem dX12_lettersMachine_283 : decode cX12_lettersMachine 283 = .ok (.iload 5, 2) := by decide +kernel
theorem dX12_lettersMachine_285 : decode cX12_lettersMachine 285 = .ok (.invokevirtual 423, 3) := by decide +kernel
theorem dX12_lettersMachine_288 : decode cX12_lettersMachine 288 = .ok (.iadd, 1) := by decide +kernel
theorem dX12_lettersMachine_289 : decode cX12_lettersMachine 289 = .ok (.iaload, 1) := by decide +kernel
theorem dX12_lettersMachine_290 : decode cX12_lettersMachine 290 = .ok (.istore 11, 2) := by decide +kernel
theorem dX12_lettersMachine_292 : decode cX12_lettersMachine 292 = .ok (.aload_n 0, 1) := by decide +kernel
theorem dX12_lettersMachine_293 : decode cX12_lettersMachine 293 = .ok (.getfield 73, 3) := by decide +kernel
theorem dX12_lettersMachine_296 : decode cX12_lettersMachine 296 = .ok (.bipush 27, 2) := by decide +kernel
theorem dX12_lettersMachine_298 : decode cX12_lettersMachine 298 = .ok (.iload 6, 2) := by decide +kernel
theorem dX12_lettersMachine_300 : decode cX12_lettersMachine 300 = .ok (.imul, 1) := by decide +kernel
theorem dX12_lettersMachine_301 : decode cX12_lettersMachine 301 = .ok (.iload 9, 2) := by decide +kernel
theorem dX12_lettersMachine_303 : decode cX12_lettersMachine 303 = .ok (.iadd, 1) := by decide +kernel
theorem dX12_lettersMachine_304 : decode cX12_lettersMachine 304 = .ok (.aload_n 0, 1) := by decide +kernel
theorem dX12_lettersMachine_305 : decode cX12_lettersMachine 305 = .ok (.iload 10, 2) := by decide +kernel
theorem dX12_lettersMachine_307 : decode cX12_lettersMachine 307 = .ok (.iload 11, 2) := by decide +kernel
theorem dX12_lettersMachine_309 : decode cX12_lettersMachine 309 = .ok (.invokevirtual 272, 3) := by decide +kernel
theorem dX12_lettersMachine_312 : decode cX12_lettersMachine 312 = .ok (.iastore, 1) := by decide +kernel
theorem dX12_lettersMachine_313 : decode cX12_lettersMachine 313 = .ok (.iinc 9 1, 3) := by decide +kernel
theorem dX12_lettersMachine_316 : decode cX12_lettersMachine 316 = .ok (.goto (-99), 3) := by decide +kernel
theorem dX12_lettersMachine_319 : decode cX12_lettersMachine 319 = .ok (.iinc 6 1, 3) := by decide +kernel
theorem dX12_lettersMachine_322 : decode cX12_lettersMachine 322 = .ok (.goto (-181), 3) := by decide +kernel
theorem dX12_lettersMachine_325 : decode cX12_lettersMachine 325 = .ok (.aload_n 0, 1) := by decide +kernel
theorem dX12_lettersMachine_326 : decode cX12_lettersMachine 326 = .ok (.iload_n 1, 1) := by decide +kernel
theorem dX12_lettersMachine_327 : decode cX12_lettersMachine 327 = .ok (.invokevirtual 429, 3) := by decide +kernel
theorem dX12_lettersMachine_330 : decode cX12_lettersMachine 330 = .ok (.ireturn, 1) := by decide +kernel
theorem dX12_machineOf_0 : decode cX12_machineOf 0 = .ok (.aload_n 0, 1) := by decide +kernel
theorem dX12_machineOf_1 : decode cX12_machineOf 1 = .ok (.getfield 104, 3) := by decide +kernel
theorem dX12_machineOf_4 : decode cX12_machineOf 4 = .ok (.iload_n 1, 1) := by decide +kernel
theorem dX12_machineOf_5 : decode cX12_machineOf 5 = .ok (.iaload, 1) := by decide +kernel
theorem dX12_machineOf_6 : decode cX12_machineOf 6 = .ok (.tableswitch 81 0 7 #[46, 52, 58, 81, 81, 81, 75, 75], 46) := by decide +kernel
theorem dX12_machineOf_52 : decode cX12_machineOf 52 = .ok (.aload_n 0, 1) := by decide +kernel
theorem dX12_machineOf_53 : decode cX12_machineOf 53 = .ok (.iload_n 1, 1) := by decide +kernel
theorem dX12_machineOf_54 : decode cX12_machineOf 54 = .ok (.invokevirtual 460, 3) := by decide +kernel
theorem dX12_machineOf_57 : decode cX12_machineOf 57 = .ok (.ireturn, 1) := by decide +kernel
theorem dX12_machineOf_58 : decode cX12_machineOf 58 = .ok (.aload_n 0, 1) := by decide +kernel
theorem dX12_machineOf_59 : decode cX12_machineOf 59 = .ok (.iload_n 1, 1) := by decide +kernel
theorem dX12_machineOf_60 : decode cX12_machineOf 60 = .ok (.invokevirtual 463, 3) := by decide +kernel
theorem dX12_machineOf_63 : decode cX12_machineOf 63 = .ok (.ireturn, 1) := by decide +kernel
theorem dX12_machineOf_64 : decode cX12_machineOf 64 = .ok (.aload_n 0, 1) := by decide +kernel
theorem dX12_machineOf_65 : decode cX12_machineOf 65 = .ok (.aload_n 0, 1) := by decide +kernel
theorem dX12_machineOf_66 : decode cX12_machineOf 66 = .ok (.getfield 107, 3) := by decide +kernel
theorem dX12_machineOf_69 : decode cX12_machineOf 69 = .ok (.iload_n 1, 1) := by decide +kernel
theorem dX12_machineOf_70 : decode cX12_machineOf 70 = .ok (.iaload, 1) := by decide +kernel
theorem dX12_machineOf_71 : decode cX12_machineOf 71 = .ok (.iconst 1, 1) := by decide +kernel
theorem dX12_machineOf_72 : decode cX12_machineOf 72 = .ok (.invokevirtual 432, 3) := by decide +kernel
theorem dX12_machineOf_75 : decode cX12_machineOf 75 = .ok (.aload_n 0, 1) := by decide +kernel
theorem dX12_machineOf_76 : decode cX12_machineOf 76 = .ok (.iload_n 1, 1) := by decide +kernel
theorem dX12_machineOf_77 : decode cX12_machineOf 77 = .ok (.invokevirtual 429, 3) := by decide +kernel
theorem dX12_machineOf_80 : decode cX12_machineOf 80 = .ok (.ireturn, 1) := by decide +kernel
theorem dX12_machineOf_81 : decode cX12_machineOf 81 = .ok (.aload_n 0, 1) := by decide +kernel
theorem dX12_machineOf_82 : decode cX12_machineOf 82 = .ok (.iload_n 1, 1) := by decide +kernel
theorem dX12_machineOf_83 : decode cX12_machineOf 83 = .ok (.invokevirtual 466, 3) := by decide +kernel
theorem dX12_machineOf_86 : decode cX12_machineOf 86 = .ok (.ireturn, 1) := by decide +kernel
theorem dX12_machineOf_87 : decode cX12_machineOf 87 = .ok (.aload_n 0, 1) := by decide +kernel
theorem dX12_machineOf_88 : decode cX12_machineOf 88 = .ok (.iload_n 1, 1) := by decide +kernel
theorem dX12_machineOf_89 : decode cX12_machineOf 89 = .ok (.invokevirtual 469, 3) := by decide +kernel
theorem dX12_machineOf_92 : decode cX12_machineOf 92 = .ok (.ireturn, 1) := by decide +kernel
theorem dX12_question_0 : decode cX12_question 0 = .ok (.aload_n 0, 1) := by decide +kernel
theorem dX12_question_1 : decode cX12_question 1 = .ok (.getfield 256, 3) := by decide +kernel
theorem dX12_question_4 : decode cX12_question 4 = .ok (.bipush 10, 2) := by decide +kernel
theorem dX12_question_6 : decode cX12_question 6 = .ok (.if_icmp .ne 14, 3) := by decide +kernel
theorem dX12_question_9 : decode cX12_question 9 = .ok (.aload_n 0, 1) := by decide +kernel
theorem dX12_question_10 : decode cX12_question 10 = .ok (.iconst 0, 1) := by decide +kernel
theorem dX12_question_11 : decode cX12_question 11 = .ok (.putfield 289, 3) := by decide +kernel
theorem dX12_question_14 : decode cX12_question 14 = .ok (.aload_n 0, 1) := by decide +kernel
theorem dX12_question_15 : decode cX12_question 15 = .ok (.iconst 2, 1) := by decide +kernel
theorem dX12_question_16 : decode cX12_question 16 = .ok (.invokevirtual 253, 3) := by decide +kernel
theorem dX12_question_19 : decode cX12_question 19 = .ok (.ireturn, 1) := by decide +kernel
theorem dX12_question_20 : decode cX12_question 20 = .ok (.aload_n 0, 1) := by decide +kernel
theorem dX12_question_21 : decode cX12_question 21 = .ok (.getfield 256, 3) := by decide +kernel
theorem dX12_question_24 : decode cX12_question 24 = .ok (.istore_n 1, 1) := by decide +kernel
theorem dX12_question_25 : decode cX12_question 25 = .ok (.aload_n 0, 1) := by decide +kernel
theorem dX12_question_26 : decode cX12_question 26 = .ok (.dup, 1) := by decide +kernel
theorem dX12_question_27 : decode cX12_question 27 = .ok (.getfield 256, 3) := by decide +kernel
theorem dX12_question_30 : decode cX12_question 30 = .ok (.iconst 1, 1) := by decide +kernel
theorem dX12_question_31 : decode cX12_question 31 = .ok (.iadd, 1) := by decide +kernel
theorem dX12_question_32 : decode cX12_question 32 = .ok (.putfield 256, 3) := by decide +kernel
theorem dX12_question_35 : decode cX12_question 35 = .ok (.aload_n 0, 1) := by decide +kernel
theorem dX12_question_36 : decode cX12_question 36 = .ok (.invokevirtual 472, 3) := by decide +kernel
theorem dX12_question_39 : decode cX12_question 39 = .ok (.aload_n 0, 1) := by decide +kernel
theorem dX12_question_40 : decode cX12_question 40 = .ok (.iconst 0, 1) := by decide +kernel
theorem dX12_question_41 : decode cX12_question 41 = .ok (.putfield 289, 3) := by decide +kernel
theorem dX12_question_44 : decode cX12_question 44 = .ok (.aload_n 0, 1) := by decide +kernel
theorem dX12_question_45 : decode cX12_question 45 = .ok (.getfield 29, 3) := by decide +kernel
theorem dX12_question_48 : decode cX12_question 48 = .ok (.iload_n 1, 1) := by decide +kernel
theorem dX12_question_49 : decode cX12_question 49 = .ok (.aload_n 0, 1) := by decide +kernel
theorem dX12_question_50 : decode cX12_question 50 = .ok (.getfield 298, 3) := by decide +kernel
theorem dX12_question_53 : decode cX12_question 53 = .ok (.iastore, 1) := by decide +kernel
theorem dX12_question_54 : decode cX12_question 54 = .ok (.aload_n 0, 1) := by decide +kernel
theorem dX12_question_55 : decode cX12_question 55 = .ok (.getfield 32, 3) := by decide +kernel
theorem dX12_question_58 : decode cX12_question 58 = .ok (.iload_n 1, 1) := by decide +kernel
theorem dX12_question_59 : decode cX12_question 59 = .ok (.aload_n 0, 1) := by decide +kernel
theorem dX12_question_60 : decode cX12_question 60 = .ok (.getfield 304, 3) := by decide +kernel
theorem dX12_question_63 : decode cX12_question 63 = .ok (.iastore, 1) := by decide +kernel
theorem dX12_question_64 : decode cX12_question 64 = .ok (.aload_n 0, 1) := by decide +kernel
theorem dX12_question_65 : decode cX12_question 65 = .ok (.getfield 35, 3) := by decide +kernel
theorem dX12_question_68 : decode cX12_question 68 = .ok (.iload_n 1, 1) := by decide +kernel
theorem dX12_question_69 : decode cX12_question 69 = .ok (.iconst (-1), 1) := by decide +kernel
theorem dX12_question_70 : decode cX12_question 70 = .ok (.iastore, 1) := by decide +kernel
theorem dX12_question_71 : decode cX12_question 71 = .ok (.aload_n 0, 1) := by decide +kernel
theorem dX12_question_72 : decode cX12_question 72 = .ok (.getfield 41, 3) := by decide +kernel
theorem dX12_question_75 : decode cX12_question 75 = .ok (.iload_n 1, 1) := by decide +kernel
theorem dX12_question_76 : decode cX12_question 76 = .ok (.aload_n 0, 1) := by decide +kernel
theorem dX12_question_77 : decode cX12_question 77 = .ok (.getfield 343, 3) := by decide +kernel
theorem dX12_question_80 : decode cX12_question 80 = .ok (.iastore, 1) := by decide +kernel
theorem dX12_question_81 : decode cX12_question 81 = .ok (.aload_n 0, 1) := by decide +kernel
theorem dX12_question_82 : decode cX12_question 82 = .ok (.getfield 44, 3) := by decide +kernel
theorem dX12_question_85 : decode cX12_question 85 = .ok (.iload_n 1, 1) := by decide +kernel
theorem dX12_question_86 : decode cX12_question 86 = .ok (.iconst 0, 1) := by decide +kernel
theorem dX12_question_87 : decode cX12_question 87 = .ok (.iastore, 1) := by decide +kernel
theorem dX12_question_88 : decode cX12_question 88 = .ok (.aload_n 0, 1) := by decide +kernel
theorem dX12_question_89 : decode cX12_question 89 = .ok (.getfield 298, 3) := by decide +kernel
theorem dX12_question_92 : decode cX12_question 92 = .ok (.ifCond .eq 9, 3) := by decide +kernel
theorem dX12_question_95 : decode cX12_question 95 = .ok (.aload_n 0, 1) := by decide +kernel
theorem dX12_question_96 : decode cX12_question 96 = .ok (.iload_n 1, 1) := by decide +kernel
theorem dX12_question_97 : decode cX12_question 97 = .ok (.invokevirtual 250, 3) := by decide +kernel
theorem dX12_question_100 : decode cX12_question 100 = .ok (.ireturn, 1) := by decide +kernel
theorem dX12_question_101 : decode cX12_question 101 = .ok (.aload_n 0, 1) := by decide +kernel
theorem dX12_question_102 : decode cX12_question 102 = .ok (.getfield 38, 3) := by decide +kernel
theorem dX12_question_105 : decode cX12_question 105 = .ok (.iload_n 1, 1) := by decide +kernel
theorem dX12_question_106 : decode cX12_question 106 = .ok (.aload_n 0, 1) := by decide +kernel
theorem dX12_question_107 : decode cX12_question 107 = .ok (.getfield 119, 3) := by decide +kernel
theorem dX12_question_110 : decode cX12_question 110 = .ok (.aload_n 0, 1) := by decide +kernel
theorem dX12_question_111 : decode cX12_question 111 = .ok (.getfield 343, 3) := by decide +kernel
theorem dX12_question_114 : decode cX12_question 114 = .ok (.iconst 1, 1) := by decide +kernel
theorem dX12_question_115 : decode cX12_question 115 = .ok (.isub, 1) := by decide +kernel
theorem dX12_question_116 : decode cX12_question 116 = .ok (.iaload, 1) := by decide +kernel
theorem dX12_question_117 : decode cX12_question 117 = .ok (.iastore, 1) := by decide +kernel
theorem dX12_question_118 : decode cX12_question 118 = .ok (.iconst 0, 1) := by decide +kernel
theorem dX12_question_119 : decode cX12_question 119 = .ok (.istore_n 2, 1) := by decide +kernel
theorem dX12_question_120 : decode cX12_question 120 = .ok (.iload_n 2, 1) := by decide +kernel
theorem dX12_question_121 : decode cX12_question 121 = .ok (.aload_n 0, 1) := by decide +kernel
theorem dX12_question_122 : decode cX12_question 122 = .ok (.getfield 343, 3) := by decide +kernel
theorem dX12_question_125 : decode cX12_question 125 = .ok (.if_icmp .ge 73, 3) := by decide +kernel
theorem dX12_question_128 : decode cX12_question 128 = .ok (.aload_n 0, 1) := by decide +kernel
theorem dX12_question_129 : decode cX12_question 129 = .ok (.getfield 104, 3) := by decide +kernel
theorem dX12_question_132 : decode cX12_question 132 = .ok (.iload_n 2, 1) := by decide +kernel
theorem dX12_question_133 : decode cX12_question 133 = .ok (.iaload, 1) := by decide +kernel
theorem dX12_question_134 : decode cX12_question 134 = .ok (.iconst 1, 1) := by decide +kernel
theorem dX12_question_135 : decode cX12_question 135 = .ok (.if_icmp .ne 7, 3) := by decide +kernel
theorem dX12_question_138 : decode cX12_question 138 = .ok (.iconst 1, 1) := by decide +kernel
theorem dX12_question_139 : decode cX12_question 139 = .ok (.goto 4, 3) := by decide +kernel
theorem dX12_question_142 : decode cX12_question 142 = .ok (.iconst 0, 1) := by decide +kernel
theorem dX12_question_143 : decode cX12_question 143 = .ok (.istore_n 3, 1) := by decide +kernel
theorem dX12_question_144 : decode cX12_question 144 = .ok (.aload_n 0, 1) := by decide +kernel
theorem dX12_question_145 : decode cX12_question 145 = .ok (.getfield 44, 3) := by decide +kernel
theorem dX12_question_148 : decode cX12_question 148 = .ok (.iload_n 1, 1) := by decide +kernel
theorem dX12_question_149 : decode cX12_question 149 = .ok (.dup2, 1) := by decide +kernel
theorem dX12_question_150 : decode cX12_question 150 = .ok (.iaload, 1) := by decide +kernel
theorem dX12_question_151 : decode cX12_question 151 = .ok (.iload_n 3, 1) := by decide +kernel
theorem dX12_question_152 : decode cX12_question 152 = .ok (.ifCond .eq 37, 3) := by decide +kernel
theorem dX12_question_155 : decode cX12_question 155 = .ok (.iconst 1, 1) := by decide +kernel
theorem dX12_question_156 : decode cX12_question 156 = .ok (.aload_n 0, 1) := by decide +kernel
theorem dX12_question_157 : decode cX12_question 157 = .ok (.getfield 131, 3) := by decide +kernel
theorem dX12_question_160 : decode cX12_question 160 = .ok (.iload_n 2, 1) := by decide +kernel
theorem dX12_question_161 : decode cX12_question 161 = .ok (.iaload, 1) := by decide +kernel
theorem dX12_question_162 : decode cX12_question 162 = .ok (.ishl, 1) := by decide +kernel
theorem dX12_question_163 : decode cX12_question 163 = .ok (.aload_n 0, 1) := by decide +kernel
theorem dX12_question_164 : decode cX12_question 164 = .ok (.getfield 143, 3) := by decide +kernel
theorem dX12_question_167 : decode cX12_question 167 = .ok (.iload_n 2, 1) := by decide +kernel
theorem dX12_question_168 : decode cX12_question 168 = .ok (.iaload, 1) := by decide +kernel
theorem dX12_question_169 : decode cX12_question 169 = .ok (.iconst (-1), 1) := by decide +kernel
theorem dX12_question_170 : decode cX12_question 170 = .ok (.if_icmp .ne 7, 3) := by decide +kernel
theorem dX12_question_173 : decode cX12_question 173 = .ok (.iconst 0, 1) := by decide +kernel
theorem dX12_question_174 : decode cX12_question 174 = .ok (.goto 11, 3) := by decide +kernel
theorem dX12_question_177 : decode cX12_question 177 = .ok (.iconst 1, 1) := by decide +kernel
theorem dX12_question_178 : decode cX12_question 178 = .ok (.aload_n 0, 1) := by decide +kernel
theorem dX12_question_179 : decode cX12_question 179 = .ok (.getfield 143, 3) := by decide +kernel
theorem dX12_question_182 : decode cX12_question 182 = .ok (.iload_n 2, 1) := by decide +kernel
theorem dX12_question_183 : decode cX12_question 183 = .ok (.iaload, 1) := by decide +kernel
theorem dX12_question_184 : decode cX12_question 184 = .ok (.ishl, 1) := by decide +kernel
theorem dX12_question_185 : decode cX12_question 185 = .ok (.ior, 1) := by decide +kernel
theorem dX12_question_186 : decode cX12_question 186 = .ok (.goto 4, 3) := by decide +kernel
theorem dX12_question_189 : decode cX12_question 189 = .ok (.iconst 0, 1) := by decide +kernel
theorem dX12_question_190 : decode cX12_question 190 = .ok (.ior, 1) := by decide +kernel
theorem dX12_question_191 : decode cX12_question 191 = .ok (.iastore, 1) := by decide +kernel
theorem dX12_question_192 : decode cX12_question 192 = .ok (.iinc 2 1, 3) := by decide +kernel
theorem dX12_question_195 : decode cX12_question 195 = .ok (.goto (-75), 3) := by decide +kernel
theorem dX12_question_198 : decode cX12_question 198 = .ok (.iconst 0, 1) := by decide +kernel
theorem dX12_question_199 : decode cX12_question 199 = .ok (.istore_n 2, 1) := by decide +kernel
theorem dX12_question_200 : decode cX12_question 200 = .ok (.iload_n 2, 1) := by decide +kernel
theorem dX12_question_201 : decode cX12_question 201 = .ok (.aload_n 0, 1) := by decide +kernel
theorem dX12_question_202 : decode cX12_question 202 = .ok (.getfield 343, 3) := by decide +kernel
theorem dX12_question_205 : decode cX12_question 205 = .ok (.if_icmp .ge 43, 3) := by decide +kernel
theorem dX12_question_208 : decode cX12_question 208 = .ok (.aload_n 0, 1) := by decide +kernel
theorem dX12_question_209 : decode cX12_question 209 = .ok (.getfield 35, 3) := by decide +kernel
theorem dX12_question_212 : decode cX12_question 212 = .ok (.iload_n 1, 1) := by decide +kernel
theorem dX12_question_213 : decode cX12_question 213 = .ok (.iaload, 1) := by decide +kernel
theorem dX12_question_214 : decode cX12_question 214 = .ok (.iconst (-1), 1) := by decide +kernel
theorem dX12_question_215 : decode cX12_question 215 = .ok (.if_icmp .ne 33, 3) := by decide +kernel
theorem dX12_question_218 : decode cX12_question 218 = .ok (.aload_n 0, 1) := by decide +kernel
theorem dX12_question_219 : decode cX12_question 219 = .ok (.getfield 35, 3) := by decide +kernel
theorem dX12_question_222 : decode cX12_question 222 = .ok (.iload_n 1, 1) := by decide +kernel
theorem dX12_question_223 : decode cX12_question 223 = .ok (.aload_n 0, 1) := by decide +kernel
theorem dX12_question_224 : decode cX12_question 224 = .ok (.iload_n 2, 1) := by decide +kernel
theorem dX12_question_225 : decode cX12_question 225 = .ok (.invokevirtual 475, 3) := by decide +kernel
theorem dX12_question_228 : decode cX12_question 228 = .ok (.ifCond .eq 7, 3) := by decide +kernel
theorem dX12_question_231 : decode cX12_question 231 = .ok (.iconst (-1), 1) := by decide +kernel
theorem dX12_question_232 : decode cX12_question 232 = .ok (.goto 9, 3) := by decide +kernel
theorem dX12_question_235 : decode cX12_question 235 = .ok (.aload_n 0, 1) := by decide +kernel
theorem dX12_question_236 : decode cX12_question 236 = .ok (.getfield 116, 3) := by decide +kernel
theorem dX12_question_239 : decode cX12_question 239 = .ok (.iload_n 2, 1) := by decide +kernel
theorem dX12_question_240 : decode cX12_question 240 = .ok (.iaload, 1) := by decide +kernel
theorem dX12_question_241 : decode cX12_question 241 = .ok (.iastore, 1) := by decide +kernel
theorem dX12_question_242 : decode cX12_question 242 = .ok (.iinc 2 1, 3) := by decide +kernel
theorem dX12_question_245 : decode cX12_question 245 = .ok (.goto (-45), 3) := by decide +kernel
theorem dX12_question_248 : decode cX12_question 248 = .ok (.aload_n 0, 1) := by decide +kernel
theorem dX12_question_249 : decode cX12_question 249 = .ok (.getfield 343, 3) := by decide +kernel
theorem dX12_question_252 : decode cX12_question 252 = .ok (.iconst 1, 1) := by decide +kernel
theorem dX12_question_253 : decode cX12_question 253 = .ok (.isub, 1) := by decide +kernel
theorem dX12_question_254 : decode cX12_question 254 = .ok (.istore_n 2, 1) := by decide +kernel
theorem dX12_question_255 : decode cX12_question 255 = .ok (.aload_n 0, 1) := by decide +kernel
theorem dX12_question_256 : decode cX12_question 256 = .ok (.getfield 47, 3) := by decide +kernel
theorem dX12_question_259 : decode cX12_question 259 = .ok (.iload_n 1, 1) := by decide +kernel
theorem dX12_question_260 : decode cX12_question 260 = .ok (.aload_n 0, 1) := by decide +kernel
theorem dX12_question_261 : decode cX12_question 261 = .ok (.getfield 158, 3) := by decide +kernel
theorem dX12_question_264 : decode cX12_question 264 = .ok (.iload_n 2, 1) := by decide +kernel
theorem dX12_question_265 : decode cX12_question 265 = .ok (.iaload, 1) := by decide +kernel
theorem dX12_question_266 : decode cX12_question 266 = .ok (.iastore, 1) := by decide +kernel
theorem dX12_question_267 : decode cX12_question 267 = .ok (.iconst 0, 1) := by decide +kernel
theorem dX12_question_268 : decode cX12_question 268 = .ok (.istore_n 3, 1) := by decide +kernel
theorem dX12_question_269 : decode cX12_question 269 = .ok (.iload_n 3, 1) := by decide +kernel
theorem dX12_question_270 : decode cX12_question 270 = .ok (.aload_n 0, 1) := by decide +kernel
theorem dX12_question_271 : decode cX12_question 271 = .ok (.getfield 158, 3) := by decide +kernel
theorem dX12_question_274 : decode cX12_question 274 = .ok (.iload_n 2, 1) := by decide +kernel
theorem dX12_question_275 : decode cX12_question 275 = .ok (.iaload, 1) := by decide +kernel
theorem dX12_question_276 : decode cX12_question 276 = .ok (.if_icmp .ge 82, 3) := by decide +kernel
theorem dX12_question_279 : decode cX12_question 279 = .ok (.aload_n 0, 1) := by decide +kernel
theorem dX12_question_280 : decode cX12_question 280 = .ok (.getfield 35, 3) := by decide +kernel
theorem dX12_question_283 : decode cX12_question 283 = .ok (.iload_n 1, 1) := by decide +kernel
theorem dX12_question_284 : decode cX12_question 284 = .ok (.iaload, 1) := by decide +kernel
theorem dX12_question_285 : decode cX12_question 285 = .ok (.iconst (-1), 1) := by decide +kernel
theorem dX12_question_286 : decode cX12_question 286 = .ok (.if_icmp .ne 72, 3) := by decide +kernel
theorem dX12_question_289 : decode cX12_question 289 = .ok (.aload_n 0, 1) := by decide +kernel
theorem dX12_question_290 : decode cX12_question 290 = .ok (.getfield 53, 3) := by decide +kernel
theorem dX12_question_293 : decode cX12_question 293 = .ok (.bipush 40, 2) := by decide +kernel
theorem dX12_question_295 : decode cX12_question 295 = .ok (.iload_n 1, 1) := by decide +kernel
theorem dX12_question_296 : decode cX12_question 296 = .ok (.imul, 1) := by decide +kernel
theorem dX12_question_297 : decode cX12_question 297 = .ok (.iload_n 3, 1) := by decide +kernel
theorem dX12_question_298 : decode cX12_question 298 = .ok (.iadd, 1) := by decide +kernel
theorem dX12_question_299 : decode cX12_question 299 = .ok (.aload_n 0, 1) := by decide +kernel
theorem dX12_question_300 : decode cX12_question 300 = .ok (.getfield 165, 3) := by decide +kernel
theorem dX12_question_303 : decode cX12_question 303 = .ok (.bipush 40, 2) := by decide +kernel
theorem dX12_question_305 : decode cX12_question 305 = .ok (.iload_n 2, 1) := by decide +kernel
theorem dX12_question_306 : decode cX12_question 306 = .ok (.imul, 1) := by decide +kernel
theorem dX12_question_307 : decode cX12_question 307 = .ok (.iload_n 3, 1) := by decide +kernel
theorem dX12_question_308 : decode cX12_question 308 = .ok (.iadd, 1) := by decide +kernel
theorem dX12_question_309 : decode cX12_question 309 = .ok (.baload, 1) := by decide +kernel
theorem dX12_question_310 : decode cX12_question 310 = .ok (.bastore, 1) := by decide +kernel
theorem dX12_question_311 : decode cX12_question 311 = .ok (.iconst 0, 1) := by decide +kernel
theorem dX12_question_312 : decode cX12_question 312 = .ok (.istore 4, 2) := by decide +kernel
theorem dX12_question_314 : decode cX12_question 314 = .ok (.iload 4, 2) := by decide +kernel
theorem dX12_question_316 : decode cX12_question 316 = .ok (.bipush 27, 2) := by decide +kernel
theorem dX12_question_318 : decode cX12_question 318 = .ok (.if_icmp .ge 34, 3) := by decide +kernel
theorem dX12_question_321 : decode cX12_question 321 = .ok (.aload_n 0, 1) := by decide +kernel
theorem dX12_question_322 : decode cX12_question 322 = .ok (.getfield 50, 3) := by decide +kernel
theorem dX12_question_325 : decode cX12_question 325 = .ok (.bipush 27, 2) := by decide +kernel
theorem dX12_question_327 : decode cX12_question 327 = .ok (.bipush 40, 2) := by decide +kernel
theorem dX12_question_329 : decode cX12_question 329 = .ok (.iload_n 1, 1) := by decide +kernel
theorem dX12_question_330 : decode cX12_question 330 = .ok (.imul, 1) := by decide +kernel
theorem dX12_question_331 : decode cX12_question 331 = .ok (.iload_n 3, 1) := by decide +kernel
theorem dX12_question_332 : decode cX12_question 332 = .ok (.iadd, 1) := by decide +kernel
theorem dX12_question_333 : decode cX12_question 333 = .ok (.imul, 1) := by decide +kernel
theorem dX12_question_334 : decode cX12_question 334 = .ok (.iload 4, 2) := by decide +kernel
theorem dX12_question_336 : decode cX12_question 336 = .ok (.iadd, 1) := by decide +kernel
theorem dX12_question_337 : decode cX12_question 337 = .ok (.aload_n 0, 1) := by decide +kernel
theorem dX12_question_338 : decode cX12_question 338 = .ok (.iload_n 2, 1) := by decide +kernel
theorem dX12_question_339 : decode cX12_question 339 = .ok (.iload_n 3, 1) := by decide +kernel
theorem dX12_question_340 : decode cX12_question 340 = .ok (.iload 4, 2) := by decide +kernel
theorem dX12_question_342 : decode cX12_question 342 = .ok (.invokevirtual 426, 3) := by decide +kernel
theorem dX12_question_345 : decode cX12_question 345 = .ok (.iastore, 1) := by decide +kernel
theorem dX12_question_346 : decode cX12_question 346 = .ok (.iinc 4 1, 3) := by decide +kernel
theorem dX12_question_349 : decode cX12_question 349 = .ok (.goto (-35), 3) := by decide +kernel
theorem dX12_question_352 : decode cX12_question 352 = .ok (.iinc 3 1, 3) := by decide +kernel
theorem dX12_question_355 : decode cX12_question 355 = .ok (.goto (-86), 3) := by decide +kernel
theorem dX12_question_358 : decode cX12_question 358 = .ok (.aload_n 0, 1) := by decide +kernel
theorem dX12_question_359 : decode cX12_question 359 = .ok (.iload_n 1, 1) := by decide +kernel
theorem dX12_question_360 : decode cX12_question 360 = .ok (.invokevirtual 250, 3) := by decide +kernel
theorem dX12_question_363 : decode cX12_question 363 = .ok (.ireturn, 1) := by decide +kernel
theorem dX12_count_0 : decode cX12_count 0 = .ok (.iload_n 1, 1) := by decide +kernel
theorem dX12_count_1 : decode cX12_count 1 = .ok (.ifCond .ne 10, 3) := by decide +kernel
theorem dX12_count_4 : decode cX12_count 4 = .ok (.aload_n 0, 1) := by decide +kernel
theorem dX12_count_5 : decode cX12_count 5 = .ok (.getfield 215, 3) := by decide +kernel
theorem dX12_count_8 : decode cX12_count 8 = .ok (.goto 52, 3) := by decide +kernel
theorem dX12_count_11 : decode cX12_count 11 = .ok (.iload_n 1, 1) := by decide +kernel
theorem dX12_count_12 : decode cX12_count 12 = .ok (.iconst 1, 1) := by decide +kernel
theorem dX12_count_13 : decode cX12_count 13 = .ok (.if_icmp .ne 10, 3) := by decide +kernel
theorem dX12_count_16 : decode cX12_count 16 = .ok (.aload_n 0, 1) := by decide +kernel
theorem dX12_count_17 : decode cX12_count 17 = .ok (.getfield 256, 3) := by decide +kernel
theorem dX12_count_20 : decode cX12_count 20 = .ok (.goto 40, 3) := by decide +kernel
theorem dX12_count_23 : decode cX12_count 23 = .ok (.iload_n 1, 1) := by decide +kernel
theorem dX12_count_24 : decode cX12_count 24 = .ok (.iconst 2, 1) := by decide +kernel
theorem dX12_count_25 : decode cX12_count 25 = .ok (.if_icmp .ne 10, 3) := by decide +kernel
theorem dX12_count_28 : decode cX12_count 28 = .ok (.aload_n 0, 1) := by decide +kernel
theorem dX12_count_29 : decode cX12_count 29 = .ok (.getfield 289, 3) := by decide +kernel
theorem dX12_count_32 : decode cX12_count 32 = .ok (.goto 28, 3) := by decide +kernel
theorem dX12_count_35 : decode cX12_count 35 = .ok (.iload_n 1, 1) := by decide +kernel
theorem dX12_count_36 : decode cX12_count 36 = .ok (.iconst 3, 1) := by decide +kernel
theorem dX12_count_37 : decode cX12_count 37 = .ok (.if_icmp .ne 10, 3) := by decide +kernel
theorem dX12_count_40 : decode cX12_count 40 = .ok (.aload_n 0, 1) := by decide +kernel
theorem dX12_count_41 : decode cX12_count 41 = .ok (.getfield 7, 3) := by decide +kernel
theorem dX12_count_44 : decode cX12_count 44 = .ok (.goto 16, 3) := by decide +kernel
theorem dX12_count_47 : decode cX12_count 47 = .ok (.iload_n 1, 1) := by decide +kernel
theorem dX12_count_48 : decode cX12_count 48 = .ok (.iconst 4, 1) := by decide +kernel
theorem dX12_count_49 : decode cX12_count 49 = .ok (.if_icmp .ne 10, 3) := by decide +kernel
theorem dX12_count_52 : decode cX12_count 52 = .ok (.aload_n 0, 1) := by decide +kernel
theorem dX12_count_53 : decode cX12_count 53 = .ok (.getfield 478, 3) := by decide +kernel
theorem dX12_count_56 : decode cX12_count 56 = .ok (.goto 4, 3) := by decide +kernel
theorem dX12_count_59 : decode cX12_count 59 = .ok (.iconst (-1), 1) := by decide +kernel
theorem dX12_count_60 : decode cX12_count 60 = .ok (.ireturn, 1) := by decide +kernel
theorem dX12_kind_0 : decode cX12_kind 0 = .ok (.aload_n 0, 1) := by decide +kernel
theorem dX12_kind_1 : decode cX12_kind 1 = .ok (.iload_n 1, 1) := by decide +kernel
theorem dX12_kind_2 : decode cX12_kind 2 = .ok (.invokevirtual 275, 3) := by decide +kernel
theorem dX12_kind_5 : decode cX12_kind 5 = .ok (.ifCond .eq 12, 3) := by decide +kernel
theorem dX12_kind_8 : decode cX12_kind 8 = .ok (.aload_n 0, 1) := by decide +kernel
theorem dX12_kind_9 : decode cX12_kind 9 = .ok (.getfield 13, 3) := by decide +kernel
theorem dX12_kind_12 : decode cX12_kind 12 = .ok (.iload_n 1, 1) := by decide +kernel
theorem dX12_kind_13 : decode cX12_kind 13 = .ok (.iaload, 1) := by decide +kernel
theorem dX12_kind_14 : decode cX12_kind 14 = .ok (.goto 4, 3) := by decide +kernel
theorem dX12_kind_17 : decode cX12_kind 17 = .ok (.iconst (-1), 1) := by decide +kernel
theorem dX12_kind_18 : decode cX12_kind 18 = .ok (.ireturn, 1) := by decide +kernel
theorem dX12_digitsOf_0 : decode cX12_digitsOf 0 = .ok (.lload_n 2, 1) := by decide +kernel
theorem dX12_digitsOf_1 : decode cX12_digitsOf 1 = .ok (.lstore 5, 2) := by decide +kernel
theorem dX12_digitsOf_3 : decode cX12_digitsOf 3 = .ok (.iload 4, 2) := by decide +kernel
theorem dX12_digitsOf_5 : decode cX12_digitsOf 5 = .ok (.iconst 1, 1) := by decide +kernel
theorem dX12_digitsOf_6 : decode cX12_digitsOf 6 = .ok (.isub, 1) := by decide +kernel
theorem dX12_digitsOf_7 : decode cX12_digitsOf 7 = .ok (.istore 7, 2) := by decide +kernel
theorem dX12_digitsOf_9 : decode cX12_digitsOf 9 = .ok (.iload 7, 2) := by decide +kernel
theorem dX12_digitsOf_11 : decode cX12_digitsOf 11 = .ok (.ifCond .lt 40, 3) := by decide +kernel
theorem dX12_digitsOf_14 : decode cX12_digitsOf 14 = .ok (.aload_n 0, 1) := by decide +kernel
theorem dX12_digitsOf_15 : decode cX12_digitsOf 15 = .ok (.getfield 191, 3) := by decide +kernel
theorem dX12_digitsOf_18 : decode cX12_digitsOf 18 = .ok (.bipush 110, 2) := by decide +kernel
theorem dX12_digitsOf_20 : decode cX12_digitsOf 20 = .ok (.iload_n 1, 1) := by decide +kernel
theorem dX12_digitsOf_21 : decode cX12_digitsOf 21 = .ok (.imul, 1) := by decide +kernel
theorem dX12_digitsOf_22 : decode cX12_digitsOf 22 = .ok (.iload 7, 2) := by decide +kernel
theorem dX12_digitsOf_24 : decode cX12_digitsOf 24 = .ok (.iadd, 1) := by decide +kernel
theorem dX12_digitsOf_25 : decode cX12_digitsOf 25 = .ok (.lload 5, 2) := by decide +kernel
theorem dX12_digitsOf_27 : decode cX12_digitsOf 27 = .ok (.aload_n 0, 1) := by decide +kernel
theorem dX12_digitsOf_28 : decode cX12_digitsOf 28 = .ok (.getfield 7, 3) := by decide +kernel
theorem dX12_digitsOf_31 : decode cX12_digitsOf 31 = .ok (.i2l, 1) := by decide +kernel
theorem dX12_digitsOf_32 : decode cX12_digitsOf 32 = .ok (.lrem, 1) := by decide +kernel
theorem dX12_digitsOf_33 : decode cX12_digitsOf 33 = .ok (.l2i, 1) := by decide +kernel
theorem dX12_digitsOf_34 : decode cX12_digitsOf 34 = .ok (.iastore, 1) := by decide +kernel
theorem dX12_digitsOf_35 : decode cX12_digitsOf 35 = .ok (.lload 5, 2) := by decide +kernel
theorem dX12_digitsOf_37 : decode cX12_digitsOf 37 = .ok (.aload_n 0, 1) := by decide +kernel
theorem dX12_digitsOf_38 : decode cX12_digitsOf 38 = .ok (.getfield 7, 3) := by decide +kernel
theorem dX12_digitsOf_41 : decode cX12_digitsOf 41 = .ok (.i2l, 1) := by decide +kernel
theorem dX12_digitsOf_42 : decode cX12_digitsOf 42 = .ok (.ldiv, 1) := by decide +kernel
theorem dX12_digitsOf_43 : decode cX12_digitsOf 43 = .ok (.lstore 5, 2) := by decide +kernel
theorem dX12_digitsOf_45 : decode cX12_digitsOf 45 = .ok (.iinc 7 (-1), 3) := by decide +kernel
theorem dX12_digitsOf_48 : decode cX12_digitsOf 48 = .ok (.goto (-39), 3) := by decide +kernel
theorem dX12_digitsOf_51 : decode cX12_digitsOf 51 = .ok (.return_, 1) := by decide +kernel
theorem dX12_isOutside_0 : decode cX12_isOutside 0 = .ok (.lload_n 0, 1) := by decide +kernel
theorem dX12_isOutside_1 : decode cX12_isOutside 1 = .ok (.lload_n 2, 1) := by decide +kernel
theorem dX12_isOutside_2 : decode cX12_isOutside 2 = .ok (.lcmp, 1) := by decide +kernel
theorem dX12_isOutside_3 : decode cX12_isOutside 3 = .ok (.ifCond .lt 10, 3) := by decide +kernel
theorem dX12_isOutside_6 : decode cX12_isOutside 6 = .ok (.lload_n 0, 1) := by decide +kernel
theorem dX12_isOutside_7 : decode cX12_isOutside 7 = .ok (.lload 4, 2) := by decide +kernel
theorem dX12_isOutside_9 : decode cX12_isOutside 9 = .ok (.lcmp, 1) := by decide +kernel
theorem dX12_isOutside_10 : decode cX12_isOutside 10 = .ok (.ifCond .le 7, 3) := by decide +kernel
theorem dX12_isOutside_13 : decode cX12_isOutside 13 = .ok (.iconst 1, 1) := by decide +kernel
theorem dX12_isOutside_14 : decode cX12_isOutside 14 = .ok (.goto 4, 3) := by decide +kernel
theorem dX12_isOutside_17 : decode cX12_isOutside 17 = .ok (.iconst 0, 1) := by decide +kernel
theorem dX12_isOutside_18 : decode cX12_isOutside 18 = .ok (.ireturn, 1) := by decide +kernel
theorem dX12_letter_0 : decode cX12_letter 0 = .ok (.aload_n 0, 1) := by decide +kernel
theorem dX12_letter_1 : decode cX12_letter 1 = .ok (.iload_n 1, 1) := by decide +kernel
theorem dX12_letter_2 : decode cX12_letter 2 = .ok (.invokevirtual 275, 3) := by decide +kernel
theorem dX12_letter_5 : decode cX12_letter 5 = .ok (.ifCond .eq 14, 3) := by decide +kernel
theorem dX12_letter_8 : decode cX12_letter 8 = .ok (.lload_n 2, 1) := by decide +kernel
theorem dX12_letter_9 : decode cX12_letter 9 = .ok (.lconst 0, 1) := by decide +kernel
theorem dX12_letter_10 : decode cX12_letter 10 = .ok (.ldc2_w 481, 3) := by decide +kernel
theorem dX12_letter_13 : decode cX12_letter 13 = .ok (.invokestatic 483, 3) := by decide +kernel
theorem dX12_letter_16 : decode cX12_letter 16 = .ok (.ifCond .eq 5, 3) := by decide +kernel
theorem dX12_letter_19 : decode cX12_letter 19 = .ok (.iconst (-1), 1) := by decide +kernel
theorem dX12_letter_20 : decode cX12_letter 20 = .ok (.ireturn, 1) := by decide +kernel
theorem dX12_letter_21 : decode cX12_letter 21 = .ok (.aload_n 0, 1) := by decide +kernel
theorem dX12_letter_22 : decode cX12_letter 22 = .ok (.iconst 0, 1) := by decide +kernel
theorem dX12_letter_23 : decode cX12_letter 23 = .ok (.lload_n 2, 1) := by decide +kernel
theorem dX12_letter_24 : decode cX12_letter 24 = .ok (.bipush 64, 2) := by decide +kernel
theorem dX12_letter_26 : decode cX12_letter 26 = .ok (.invokevirtual 487, 3) := by decide +kernel
theorem dX12_letter_29 : decode cX12_letter 29 = .ok (.iconst 0, 1) := by decide +kernel
theorem dX12_letter_30 : decode cX12_letter 30 = .ok (.istore 4, 2) := by decide +kernel
theorem dX12_letter_32 : decode cX12_letter 32 = .ok (.iconst 0, 1) := by decide +kernel
theorem dX12_letter_33 : decode cX12_letter 33 = .ok (.istore 5, 2) := by decide +kernel
theorem dX12_letter_35 : decode cX12_letter 35 = .ok (.iload 5, 2) := by decide +kernel
theorem dX12_letter_37 : decode cX12_letter 37 = .ok (.bipush 64, 2) := by decide +kernel
theorem dX12_letter_39 : decode cX12_letter 39 = .ok (.if_icmp .ge 25, 3) := by decide +kernel
theorem dX12_letter_42 : decode cX12_letter 42 = .ok (.aload_n 0, 1) := by decide +kernel
theorem dX12_letter_43 : decode cX12_letter 43 = .ok (.iload_n 1, 1) := by decide +kernel
theorem dX12_letter_44 : decode cX12_letter 44 = .ok (.iload 4, 2) := by decide +kernel
theorem dX12_letter_46 : decode cX12_letter 46 = .ok (.aload_n 0, 1) := by decide +kernel
theorem dX12_letter_47 : decode cX12_letter 47 = .ok (.getfield 191, 3) := by decide +kernel
theorem dX12_letter_50 : decode cX12_letter 50 = .ok (.iload 5, 2) := by decide +kernel
theorem dX12_letter_52 : decode cX12_letter 52 = .ok (.iaload, 1) := by decide +kernel
theorem dX12_letter_53 : decode cX12_letter 53 = .ok (.invokevirtual 282, 3) := by decide +kernel
theorem dX12_letter_56 : decode cX12_letter 56 = .ok (.istore 4, 2) := by decide +kernel
theorem dX12_letter_58 : decode cX12_letter 58 = .ok (.iinc 5 1, 3) := by decide +kernel
theorem dX12_letter_61 : decode cX12_letter 61 = .ok (.goto (-26), 3) := by decide +kernel
theorem dX12_letter_64 : decode cX12_letter 64 = .ok (.aload_n 0, 1) := by decide +kernel
theorem dX12_letter_65 : decode cX12_letter 65 = .ok (.getfield 23, 3) := by decide +kernel
theorem dX12_letter_68 : decode cX12_letter 68 = .ok (.bipush 60, 2) := by decide +kernel
theorem dX12_letter_70 : decode cX12_letter 70 = .ok (.iload_n 1, 1) := by decide +kernel
theorem dX12_letter_71 : decode cX12_letter 71 = .ok (.imul, 1) := by decide +kernel
theorem dX12_letter_72 : decode cX12_letter 72 = .ok (.iload 4, 2) := by decide +kernel
theorem dX12_letter_74 : decode cX12_letter 74 = .ok (.iadd, 1) := by decide +kernel
theorem dX12_letter_75 : decode cX12_letter 75 = .ok (.iaload, 1) := by decide +kernel
theorem dX12_letter_76 : decode cX12_letter 76 = .ok (.ireturn, 1) := by decide +kernel
theorem dX12_width_0 : decode cX12_width 0 = .ok (.aload_n 0, 1) := by decide +kernel
theorem dX12_width_1 : decode cX12_width 1 = .ok (.iload_n 1, 1) := by decide +kernel
theorem dX12_width_2 : decode cX12_width 2 = .ok (.invokevirtual 275, 3) := by decide +kernel
theorem dX12_width_5 : decode cX12_width 5 = .ok (.ifCond .eq 12, 3) := by decide +kernel
theorem dX12_width_8 : decode cX12_width 8 = .ok (.aload_n 0, 1) := by decide +kernel
theorem dX12_width_9 : decode cX12_width 9 = .ok (.getfield 17, 3) := by decide +kernel
theorem dX12_width_12 : decode cX12_width 12 = .ok (.iload_n 1, 1) := by decide +kernel
theorem dX12_width_13 : decode cX12_width 13 = .ok (.iaload, 1) := by decide +kernel
theorem dX12_width_14 : decode cX12_width 14 = .ok (.goto 4, 3) := by decide +kernel
theorem dX12_width_17 : decode cX12_width 17 = .ok (.iconst (-1), 1) := by decide +kernel
theorem dX12_width_18 : decode cX12_width 18 = .ok (.ireturn, 1) := by decide +kernel
theorem dX12_longer_0 : decode cX12_longer 0 = .ok (.lload_n 1, 1) := by decide +kernel
theorem dX12_longer_1 : decode cX12_longer 1 = .ok (.ldc2_w 481, 3) := by decide +kernel
theorem dX12_longer_4 : decode cX12_longer 4 = .ok (.iload_n 3, 1) := by decide +kernel
theorem dX12_longer_5 : decode cX12_longer 5 = .ok (.i2l, 1) := by decide +kernel
theorem dX12_longer_6 : decode cX12_longer 6 = .ok (.lsub, 1) := by decide +kernel
theorem dX12_longer_7 : decode cX12_longer 7 = .ok (.aload_n 0, 1) := by decide +kernel
theorem dX12_longer_8 : decode cX12_longer 8 = .ok (.getfield 7, 3) := by decide +kernel
theorem dX12_longer_11 : decode cX12_longer 11 = .ok (.i2l, 1) := by decide +kernel
theorem dX12_longer_12 : decode cX12_longer 12 = .ok (.ldiv, 1) := by decide +kernel
theorem dX12_longer_13 : decode cX12_longer 13 = .ok (.lcmp, 1) := by decide +kernel
theorem dX12_longer_14 : decode cX12_longer 14 = .ok (.ifCond .le 9, 3) := by decide +kernel
theorem dX12_longer_17 : decode cX12_longer 17 = .ok (.ldc2_w 491, 3) := by decide +kernel
theorem dX12_longer_20 : decode cX12_longer 20 = .ok (.goto 13, 3) := by decide +kernel
theorem dX12_longer_23 : decode cX12_longer 23 = .ok (.aload_n 0, 1) := by decide +kernel
theorem dX12_longer_24 : decode cX12_longer 24 = .ok (.getfield 7, 3) := by decide +kernel
theorem dX12_longer_27 : decode cX12_longer 27 = .ok (.i2l, 1) := by decide +kernel
theorem dX12_longer_28 : decode cX12_longer 28 = .ok (.lload_n 1, 1) := by decide +kernel
theorem dX12_longer_29 : decode cX12_longer 29 = .ok (.lmul, 1) := by decide +kernel
theorem dX12_longer_30 : decode cX12_longer 30 = .ok (.iload_n 3, 1) := by decide +kernel
theorem dX12_longer_31 : decode cX12_longer 31 = .ok (.i2l, 1) := by decide +kernel
theorem dX12_longer_32 : decode cX12_longer 32 = .ok (.ladd, 1) := by decide +kernel
theorem dX12_longer_33 : decode cX12_longer 33 = .ok (.lreturn, 1) := by decide +kernel
theorem dX12_differ_0 : decode cX12_differ 0 = .ok (.aload_n 0, 1) := by decide +kernel
theorem dX12_differ_1 : decode cX12_differ 1 = .ok (.iload_n 1, 1) := by decide +kernel
theorem dX12_differ_2 : decode cX12_differ 2 = .ok (.invokevirtual 275, 3) := by decide +kernel
theorem dX12_differ_5 : decode cX12_differ 5 = .ok (.ifCond .eq 11, 3) := by decide +kernel
theorem dX12_differ_8 : decode cX12_differ 8 = .ok (.aload_n 0, 1) := by decide +kernel
theorem dX12_differ_9 : decode cX12_differ 9 = .ok (.iload_n 2, 1) := by decide +kernel
theorem dX12_differ_10 : decode cX12_differ 10 = .ok (.invokevirtual 275, 3) := by decide +kernel
theorem dX12_differ_13 : decode cX12_differ 13 = .ok (.ifCond .ne 7, 3) := by decide +kernel
theorem dX12_differ_16 : decode cX12_differ 16 = .ok (.ldc2_w 493, 3) := by decide +kernel
theorem dX12_differ_19 : decode cX12_differ 19 = .ok (.lreturn, 1) := by decide +kernel
theorem dX12_differ_20 : decode cX12_differ 20 = .ok (.aload_n 0, 1) := by decide +kernel
theorem dX12_differ_21 : decode cX12_differ 21 = .ok (.invokevirtual 279, 3) := by decide +kernel
theorem dX12_differ_24 : decode cX12_differ 24 = .ok (.aload_n 0, 1) := by decide +kernel
theorem dX12_differ_25 : decode cX12_differ 25 = .ok (.getfield 194, 3) := by decide +kernel
theorem dX12_differ_28 : decode cX12_differ 28 = .ok (.iconst 0, 1) := by decide +kernel
theorem dX12_differ_29 : decode cX12_differ 29 = .ok (.lconst 0, 1) := by decide +kernel
theorem dX12_differ_30 : decode cX12_differ 30 = .ok (.lastore, 1) := by decide +kernel
theorem dX12_differ_31 : decode cX12_differ 31 = .ok (.iconst 0, 1) := by decide +kernel
theorem dX12_differ_32 : decode cX12_differ 32 = .ok (.istore_n 3, 1) := by decide +kernel
theorem dX12_differ_33 : decode cX12_differ 33 = .ok (.iload_n 3, 1) := by decide +kernel
theorem dX12_differ_34 : decode cX12_differ 34 = .ok (.aload_n 0, 1) := by decide +kernel
theorem dX12_differ_35 : decode cX12_differ 35 = .ok (.getfield 234, 3) := by decide +kernel
theorem dX12_differ_38 : decode cX12_differ 38 = .ok (.if_icmp .ge 171, 3) := by decide +kernel
theorem dX12_differ_41 : decode cX12_differ 41 = .ok (.aload_n 0, 1) := by decide +kernel
theorem dX12_differ_42 : decode cX12_differ 42 = .ok (.getfield 23, 3) := by decide +kernel
theorem dX12_differ_45 : decode cX12_differ 45 = .ok (.bipush 60, 2) := by decide +kernel
theorem dX12_differ_47 : decode cX12_differ 47 = .ok (.iload_n 1, 1) := by decide +kernel
theorem dX12_differ_48 : decode cX12_differ 48 = .ok (.imul, 1) := by decide +kernel
theorem dX12_differ_49 : decode cX12_differ 49 = .ok (.aload_n 0, 1) := by decide +kernel
theorem dX12_differ_50 : decode cX12_differ 50 = .ok (.getfield 98, 3) := by decide +kernel
theorem dX12_differ_53 : decode cX12_differ 53 = .ok (.iload_n 3, 1) := by decide +kernel
theorem dX12_differ_54 : decode cX12_differ 54 = .ok (.iaload, 1) := by decide +kernel
theorem dX12_differ_55 : decode cX12_differ 55 = .ok (.iadd, 1) := by decide +kernel
theorem dX12_differ_56 : decode cX12_differ 56 = .ok (.iaload, 1) := by decide +kernel
theorem dX12_differ_57 : decode cX12_differ 57 = .ok (.aload_n 0, 1) := by decide +kernel
theorem dX12_differ_58 : decode cX12_differ 58 = .ok (.getfield 23, 3) := by decide +kernel
theorem dX12_differ_61 : decode cX12_differ 61 = .ok (.bipush 60, 2) := by decide +kernel
theorem dX12_differ_63 : decode cX12_differ 63 = .ok (.iload_n 2, 1) := by decide +kernel
theorem dX12_differ_64 : decode cX12_differ 64 = .ok (.imul, 1) := by decide +kernel
theorem dX12_differ_65 : decode cX12_differ 65 = .ok (.aload_n 0, 1) := by decide +kernel
theorem dX12_differ_66 : decode cX12_differ 66 = .ok (.getfield 101, 3) := by decide +kernel
theorem dX12_differ_69 : decode cX12_differ 69 = .ok (.iload_n 3, 1) := by decide +kernel
theorem dX12_differ_70 : decode cX12_differ 70 = .ok (.iaload, 1) := by decide +kernel
theorem dX12_differ_71 : decode cX12_differ 71 = .ok (.iadd, 1) := by decide +kernel
theorem dX12_differ_72 : decode cX12_differ 72 = .ok (.iaload, 1) := by decide +kernel
theorem dX12_differ_73 : decode cX12_differ 73 = .ok (.if_icmp .eq 29, 3) := by decide +kernel
theorem dX12_differ_76 : decode cX12_differ 76 = .ok (.aload_n 0, 1) := by decide +kernel
theorem dX12_differ_77 : decode cX12_differ 77 = .ok (.getfield 194, 3) := by decide +kernel
theorem dX12_differ_80 : decode cX12_differ 80 = .ok (.iload_n 3, 1) := by decide +kernel
theorem dX12_differ_81 : decode cX12_differ 81 = .ok (.laload, 1) := by decide +kernel
theorem dX12_differ_82 : decode cX12_differ 82 = .ok (.ldc2_w 481, 3) := by decide +kernel
theorem dX12_differ_85 : decode cX12_differ 85 = .ok (.lcmp, 1) := by decide +kernel
theorem dX12_differ_86 : decode cX12_differ 86 = .ok (.ifCond .le 9, 3) := by decide +kernel
theorem dX12_differ_89 : decode cX12_differ 89 = .ok (.ldc2_w 495, 3) := by decide +kernel
theorem dX12_differ_92 : decode cX12_differ 92 = .ok (.goto 9, 3) := by decide +kernel
theorem dX12_differ_95 : decode cX12_differ 95 = .ok (.aload_n 0, 1) := by decide +kernel
theorem dX12_differ_96 : decode cX12_differ 96 = .ok (.getfield 194, 3) := by decide +kernel
theorem dX12_differ_99 : decode cX12_differ 99 = .ok (.iload_n 3, 1) := by decide +kernel
theorem dX12_differ_100 : decode cX12_differ 100 = .ok (.laload, 1) := by decide +kernel
theorem dX12_differ_101 : decode cX12_differ 101 = .ok (.lreturn, 1) := by decide +kernel
theorem dX12_differ_102 : decode cX12_differ 102 = .ok (.iload_n 3, 1) := by decide +kernel
theorem dX12_differ_103 : decode cX12_differ 103 = .ok (.ifCond .ne 7, 3) := by decide +kernel
theorem dX12_differ_106 : decode cX12_differ 106 = .ok (.iconst 1, 1) := by decide +kernel
theorem dX12_differ_107 : decode cX12_differ 107 = .ok (.goto 4, 3) := by decide +kernel
theorem dX12_differ_110 : decode cX12_differ 110 = .ok (.iconst 0, 1) := by decide +kernel
theorem dX12_differ_111 : decode cX12_differ 111 = .ok (.istore 4, 2) := by decide +kernel
theorem dX12_differ_113 : decode cX12_differ 113 = .ok (.iload 4, 2) := by decide +kernel
theorem dX12_differ_115 : decode cX12_differ 115 = .ok (.aload_n 0, 1) := by decide +kernel
theorem dX12_differ_116 : decode cX12_differ 116 = .ok (.getfield 7, 3) := by decide +kernel
theorem dX12_differ_119 : decode cX12_differ 119 = .ok (.if_icmp .ge 84, 3) := by decide +kernel
theorem dX12_differ_122 : decode cX12_differ 122 = .ok (.aload_n 0, 1) := by decide +kernel
theorem dX12_differ_123 : decode cX12_differ 123 = .ok (.getfield 234, 3) := by decide +kernel
theorem dX12_differ_126 : decode cX12_differ 126 = .ok (.istore 5, 2) := by decide +kernel
theorem dX12_differ_128 : decode cX12_differ 128 = .ok (.aload_n 0, 1) := by decide +kernel
theorem dX12_differ_129 : decode cX12_differ 129 = .ok (.aload_n 0, 1) := by decide +kernel
theorem dX12_differ_130 : decode cX12_differ 130 = .ok (.iload_n 1, 1) := by decide +kernel
theorem dX12_differ_131 : decode cX12_differ 131 = .ok (.aload_n 0, 1) := by decide +kernel
theorem dX12_differ_132 : decode cX12_differ 132 = .ok (.getfield 98, 3) := by decide +kernel
theorem dX12_differ_135 : decode cX12_differ 135 = .ok (.iload_n 3, 1) := by decide +kernel
theorem dX12_differ_136 : decode cX12_differ 136 = .ok (.iaload, 1) := by decide +kernel
theorem dX12_differ_137 : decode cX12_differ 137 = .ok (.iload 4, 2) := by decide +kernel
theorem dX12_differ_139 : decode cX12_differ 139 = .ok (.invokevirtual 282, 3) := by decide +kernel
theorem dX12_differ_142 : decode cX12_differ 142 = .ok (.aload_n 0, 1) := by decide +kernel
theorem dX12_differ_143 : decode cX12_differ 143 = .ok (.iload_n 2, 1) := by decide +kernel
theorem dX12_differ_144 : decode cX12_differ 144 = .ok (.aload_n 0, 1) := by decide +kernel
theorem dX12_differ_145 : decode cX12_differ 145 = .ok (.getfield 101, 3) := by decide +kernel
theorem dX12_differ_148 : decode cX12_differ 148 = .ok (.iload_n 3, 1) := by decide +kernel
theorem dX12_differ_149 : decode cX12_differ 149 = .ok (.iaload, 1) := by decide +kernel
theorem dX12_differ_150 : decode cX12_differ 150 = .ok (.iload 4, 2) := by decide +kernel
theorem dX12_differ_152 : decode cX12_differ 152 = .ok (.invokevirtual 282, 3) := by decide +kernel
theorem dX12_differ_155 : decode cX12_differ 155 = .ok (.invokevirtual 272, 3) := by decide +kernel
theorem dX12_differ_158 : decode cX12_differ 158 = .ok (.pop, 1) := by decide +kernel
theorem dX12_differ_159 : decode cX12_differ 159 = .ok (.aload_n 0, 1) := by decide +kernel
theorem dX12_differ_160 : decode cX12_differ 160 = .ok (.getfield 194, 3) := by decide +kernel
theorem dX12_differ_163 : decode cX12_differ 163 = .ok (.iload 5, 2) := by decide +kernel
theorem dX12_differ_165 : decode cX12_differ 165 = .ok (.aload_n 0, 1) := by decide +kernel
theorem dX12_differ_166 : decode cX12_differ 166 = .ok (.getfield 234, 3) := by decide +kernel
theorem dX12_differ_169 : decode cX12_differ 169 = .ok (.iload 5, 2) := by decide +kernel
theorem dX12_differ_171 : decode cX12_differ 171 = .ok (.if_icmp .le 18, 3) := by decide +kernel
theorem dX12_differ_174 : decode cX12_differ 174 = .ok (.aload_n 0, 1) := by decide +kernel
theorem dX12_differ_175 : decode cX12_differ 175 = .ok (.aload_n 0, 1) := by decide +kernel
theorem dX12_differ_176 : decode cX12_differ 176 = .ok (.getfield 194, 3) := by decide +kernel
theorem dX12_differ_179 : decode cX12_differ 179 = .ok (.iload_n 3, 1) := by decide +kernel
theorem dX12_differ_180 : decode cX12_differ 180 = .ok (.laload, 1) := by decide +kernel
theorem dX12_differ_181 : decode cX12_differ 181 = .ok (.iload 4, 2) := by decide +kernel
theorem dX12_differ_183 : decode cX12_differ 183 = .ok (.invokevirtual 497, 3) := by decide +kernel
theorem dX12_differ_186 : decode cX12_differ 186 = .ok (.goto 10, 3) := by decide +kernel
theorem dX12_differ_189 : decode cX12_differ 189 = .ok (.aload_n 0, 1) := by decide +kernel
theorem dX12_differ_190 : decode cX12_differ 190 = .ok (.getfield 194, 3) := by decide +kernel
theorem dX12_differ_193 : decode cX12_differ 193 = .ok (.iload 5, 2) := by decide +kernel
theorem dX12_differ_195 : decode cX12_differ 195 = .ok (.laload, 1) := by decide +kernel
theorem dX12_differ_196 : decode cX12_differ 196 = .ok (.lastore, 1) := by decide +kernel
theorem dX12_differ_197 : decode cX12_differ 197 = .ok (.iinc 4 1, 3) := by decide +kernel
theorem dX12_differ_200 : decode cX12_differ 200 = .ok (.goto (-87), 3) := by decide +kernel
theorem dX12_differ_203 : decode cX12_differ 203 = .ok (.iinc 3 1, 3) := by decide +kernel
theorem dX12_differ_206 : decode cX12_differ 206 = .ok (.goto (-173), 3) := by decide +kernel
theorem dX12_differ_209 : decode cX12_differ 209 = .ok (.ldc2_w 501, 3) := by decide +kernel
theorem dX12_differ_212 : decode cX12_differ 212 = .ok (.lreturn, 1) := by decide +kernel
theorem dX12_told_0 : decode cX12_told 0 = .ok (.iload_n 1, 1) := by decide +kernel
theorem dX12_told_1 : decode cX12_told 1 = .ok (.iconst 0, 1) := by decide +kernel
theorem dX12_told_2 : decode cX12_told 2 = .ok (.aload_n 0, 1) := by decide +kernel
theorem dX12_told_3 : decode cX12_told 3 = .ok (.getfield 256, 3) := by decide +kernel
theorem dX12_told_6 : decode cX12_told 6 = .ok (.iconst 1, 1) := by decide +kernel
theorem dX12_told_7 : decode cX12_told 7 = .ok (.isub, 1) := by decide +kernel
theorem dX12_told_8 : decode cX12_told 8 = .ok (.invokestatic 218, 3) := by decide +kernel
theorem dX12_told_11 : decode cX12_told 11 = .ok (.ifCond .eq 13, 3) := by decide +kernel
theorem dX12_told_14 : decode cX12_told 14 = .ok (.iload_n 2, 1) := by decide +kernel
theorem dX12_told_15 : decode cX12_told 15 = .ok (.iconst 0, 1) := by decide +kernel
theorem dX12_told_16 : decode cX12_told 16 = .ok (.bipush 8, 2) := by decide +kernel
theorem dX12_told_18 : decode cX12_told 18 = .ok (.invokestatic 218, 3) := by decide +kernel
theorem dX12_told_21 : decode cX12_told 21 = .ok (.ifCond .ne 5, 3) := by decide +kernel
theorem dX12_told_24 : decode cX12_told 24 = .ok (.iconst (-1), 1) := by decide +kernel
theorem dX12_told_25 : decode cX12_told 25 = .ok (.ireturn, 1) := by decide +kernel
theorem dX12_told_26 : decode cX12_told 26 = .ok (.iload_n 2, 1) := by decide +kernel
theorem dX12_told_27 : decode cX12_told 27 = .ok (.iconst 2, 1) := by decide +kernel
theorem dX12_told_28 : decode cX12_told 28 = .ok (.if_icmp .ge 23, 3) := by decide +kernel
theorem dX12_told_31 : decode cX12_told 31 = .ok (.iload_n 2, 1) := by decide +kernel
theorem dX12_told_32 : decode cX12_told 32 = .ok (.ifCond .ne 12, 3) := by decide +kernel
theorem dX12_told_35 : decode cX12_told 35 = .ok (.aload_n 0, 1) := by decide +kernel
theorem dX12_told_36 : decode cX12_told 36 = .ok (.getfield 29, 3) := by decide +kernel
theorem dX12_told_39 : decode cX12_told 39 = .ok (.iload_n 1, 1) := by decide +kernel
theorem dX12_told_40 : decode cX12_told 40 = .ok (.iaload, 1) := by decide +kernel
theorem dX12_told_41 : decode cX12_told 41 = .ok (.goto 9, 3) := by decide +kernel
theorem dX12_told_44 : decode cX12_told 44 = .ok (.aload_n 0, 1) := by decide +kernel
theorem dX12_told_45 : decode cX12_told 45 = .ok (.getfield 32, 3) := by decide +kernel
theorem dX12_told_48 : decode cX12_told 48 = .ok (.iload_n 1, 1) := by decide +kernel
theorem dX12_told_49 : decode cX12_told 49 = .ok (.iaload, 1) := by decide +kernel
theorem dX12_told_50 : decode cX12_told 50 = .ok (.ireturn, 1) := by decide +kernel
theorem dX12_told_51 : decode cX12_told 51 = .ok (.iload_n 2, 1) := by decide +kernel
theorem dX12_told_52 : decode cX12_told 52 = .ok (.iconst 2, 1) := by decide +kernel
theorem dX12_told_53 : decode cX12_told 53 = .ok (.if_icmp .ne 10, 3) := by decide +kernel
theorem dX12_told_56 : decode cX12_told 56 = .ok (.aload_n 0, 1) := by decide +kernel
theorem dX12_told_57 : decode cX12_told 57 = .ok (.getfield 35, 3) := by decide +kernel
theorem dX12_told_60 : decode cX12_told 60 = .ok (.iload_n 1, 1) := by decide +kernel
theorem dX12_told_61 : decode cX12_told 61 = .ok (.iaload, 1) := by decide +kernel
theorem dX12_told_62 : decode cX12_told 62 = .ok (.ireturn, 1) := by decide +kernel
theorem dX12_told_63 : decode cX12_told 63 = .ok (.aload_n 0, 1) := by decide +kernel
theorem dX12_told_64 : decode cX12_told 64 = .ok (.getfield 29, 3) := by decide +kernel
theorem dX12_told_67 : decode cX12_told 67 = .ok (.iload_n 1, 1) := by decide +kernel
theorem dX12_told_68 : decode cX12_told 68 = .ok (.iaload, 1) := by decide +kernel
theorem dX12_told_69 : decode cX12_told 69 = .ok (.ifCond .eq 6, 3) := by decide +kernel
theorem dX12_told_72 : decode cX12_told 72 = .ok (.bipush (-2), 2) := by decide +kernel
theorem dX12_told_74 : decode cX12_told 74 = .ok (.ireturn, 1) := by decide +kernel
theorem dX12_told_75 : decode cX12_told 75 = .ok (.iload_n 2, 1) := by decide +kernel
theorem dX12_told_76 : decode cX12_told 76 = .ok (.bipush 7, 2) := by decide +kernel
theorem dX12_told_78 : decode cX12_told 78 = .ok (.if_icmp .ne 10, 3) := by decide +kernel
theorem dX12_told_81 : decode cX12_told 81 = .ok (.aload_n 0, 1) := by decide +kernel
theorem dX12_told_82 : decode cX12_told 82 = .ok (.getfield 41, 3) := by decide +kernel
theorem dX12_told_85 : decode cX12_told 85 = .ok (.iload_n 1, 1) := by decide +kernel
theorem dX12_told_86 : decode cX12_told 86 = .ok (.iaload, 1) := by decide +kernel
theorem dX12_told_87 : decode cX12_told 87 = .ok (.ireturn, 1) := by decide +kernel
theorem dX12_told_88 : decode cX12_told 88 = .ok (.iload_n 2, 1) := by decide +kernel
theorem dX12_told_89 : decode cX12_told 89 = .ok (.bipush 8, 2) := by decide +kernel
theorem dX12_told_91 : decode cX12_told 91 = .ok (.if_icmp .ne 25, 3) := by decide +kernel
theorem dX12_told_94 : decode cX12_told 94 = .ok (.aload_n 0, 1) := by decide +kernel
theorem dX12_told_95 : decode cX12_told 95 = .ok (.getfield 35, 3) := by decide +kernel
theorem dX12_told_98 : decode cX12_told 98 = .ok (.iload_n 1, 1) := by decide +kernel
theorem dX12_told_99 : decode cX12_told 99 = .ok (.iaload, 1) := by decide +kernel
theorem dX12_told_100 : decode cX12_told 100 = .ok (.iconst (-1), 1) := by decide +kernel
theorem dX12_told_101 : decode cX12_told 101 = .ok (.if_icmp .eq 8, 3) := by decide +kernel
theorem dX12_told_104 : decode cX12_told 104 = .ok (.bipush (-2), 2) := by decide +kernel
theorem dX12_told_106 : decode cX12_told 106 = .ok (.goto 9, 3) := by decide +kernel
theorem dX12_told_109 : decode cX12_told 109 = .ok (.aload_n 0, 1) := by decide +kernel
theorem dX12_told_110 : decode cX12_told 110 = .ok (.getfield 47, 3) := by decide +kernel
theorem dX12_told_113 : decode cX12_told 113 = .ok (.iload_n 1, 1) := by decide +kernel
theorem dX12_told_114 : decode cX12_told 114 = .ok (.iaload, 1) := by decide +kernel
theorem dX12_told_115 : decode cX12_told 115 = .ok (.ireturn, 1) := by decide +kernel
theorem dX12_told_116 : decode cX12_told 116 = .ok (.iload_n 2, 1) := by decide +kernel
theorem dX12_told_117 : decode cX12_told 117 = .ok (.iconst 3, 1) := by decide +kernel
theorem dX12_told_118 : decode cX12_told 118 = .ok (.if_icmp .ne 15, 3) := by decide +kernel
theorem dX12_told_121 : decode cX12_told 121 = .ok (.aload_n 0, 1) := by decide +kernel
theorem dX12_told_122 : decode cX12_told 122 = .ok (.getfield 38, 3) := by decide +kernel
theorem dX12_told_125 : decode cX12_told 125 = .ok (.iload_n 1, 1) := by decide +kernel
theorem dX12_told_126 : decode cX12_told 126 = .ok (.iaload, 1) := by decide +kernel
theorem dX12_told_127 : decode cX12_told 127 = .ok (.invokestatic 222, 3) := by decide +kernel
theorem dX12_told_130 : decode cX12_told 130 = .ok (.goto 15, 3) := by decide +kernel
theorem dX12_told_133 : decode cX12_told 133 = .ok (.aload_n 0, 1) := by decide +kernel
theorem dX12_told_134 : decode cX12_told 134 = .ok (.getfield 38, 3) := by decide +kernel
theorem dX12_told_137 : decode cX12_told 137 = .ok (.iload_n 1, 1) := by decide +kernel
theorem dX12_told_138 : decode cX12_told 138 = .ok (.iaload, 1) := by decide +kernel
theorem dX12_told_139 : decode cX12_told 139 = .ok (.iload_n 2, 1) := by decide +kernel
theorem dX12_told_140 : decode cX12_told 140 = .ok (.iconst 4, 1) := by decide +kernel
theorem dX12_told_141 : decode cX12_told 141 = .ok (.isub, 1) := by decide +kernel
theorem dX12_told_142 : decode cX12_told 142 = .ok (.invokestatic 503, 3) := by decide +kernel
theorem dX12_told_145 : decode cX12_told 145 = .ok (.ireturn, 1) := by decide +kernel
theorem dX12_nameOf_0 : decode cX12_nameOf 0 = .ok (.iload_n 1, 1) := by decide +kernel
theorem dX12_nameOf_1 : decode cX12_nameOf 1 = .ok (.istore_n 2, 1) := by decide +kernel
theorem dX12_nameOf_2 : decode cX12_nameOf 2 = .ok (.iconst 0, 1) := by decide +kernel
theorem dX12_nameOf_3 : decode cX12_nameOf 3 = .ok (.istore_n 3, 1) := by decide +kernel
theorem dX12_nameOf_4 : decode cX12_nameOf 4 = .ok (.iload_n 3, 1) := by decide +kernel
theorem dX12_nameOf_5 : decode cX12_nameOf 5 = .ok (.bipush 8, 2) := by decide +kernel
theorem dX12_nameOf_7 : decode cX12_nameOf 7 = .ok (.if_icmp .ge 27, 3) := by decide +kernel
theorem dX12_nameOf_10 : decode cX12_nameOf 10 = .ok (.iload_n 0, 1) := by decide +kernel
theorem dX12_nameOf_11 : decode cX12_nameOf 11 = .ok (.iload_n 3, 1) := by decide +kernel
theorem dX12_nameOf_12 : decode cX12_nameOf 12 = .ok (.ishr, 1) := by decide +kernel
theorem dX12_nameOf_13 : decode cX12_nameOf 13 = .ok (.iconst 1, 1) := by decide +kernel
theorem dX12_nameOf_14 : decode cX12_nameOf 14 = .ok (.iand, 1) := by decide +kernel
theorem dX12_nameOf_15 : decode cX12_nameOf 15 = .ok (.iconst 1, 1) := by decide +kernel
theorem dX12_nameOf_16 : decode cX12_nameOf 16 = .ok (.if_icmp .ne 12, 3) := by decide +kernel
theorem dX12_nameOf_19 : decode cX12_nameOf 19 = .ok (.iload_n 2, 1) := by decide +kernel
theorem dX12_nameOf_20 : decode cX12_nameOf 20 = .ok (.ifCond .ne 5, 3) := by decide +kernel
theorem dX12_nameOf_23 : decode cX12_nameOf 23 = .ok (.iload_n 3, 1) := by decide +kernel
theorem dX12_nameOf_24 : decode cX12_nameOf 24 = .ok (.ireturn, 1) := by decide +kernel
theorem dX12_nameOf_25 : decode cX12_nameOf 25 = .ok (.iinc 2 (-1), 3) := by decide +kernel
theorem dX12_nameOf_28 : decode cX12_nameOf 28 = .ok (.iinc 3 1, 3) := by decide +kernel
theorem dX12_nameOf_31 : decode cX12_nameOf 31 = .ok (.goto (-27), 3) := by decide +kernel
theorem dX12_nameOf_34 : decode cX12_nameOf 34 = .ok (.iconst (-1), 1) := by decide +kernel
theorem dX12_nameOf_35 : decode cX12_nameOf 35 = .ok (.ireturn, 1) := by decide +kernel
theorem dX12_to_0 : decode cX12_to 0 = .ok (.aload_n 0, 1) := by decide +kernel
theorem dX12_to_1 : decode cX12_to 1 = .ok (.getfield 50, 3) := by decide +kernel
theorem dX12_to_4 : decode cX12_to 4 = .ok (.bipush 27, 2) := by decide +kernel
theorem dX12_to_6 : decode cX12_to 6 = .ok (.bipush 40, 2) := by decide +kernel
theorem dX12_to_8 : decode cX12_to 8 = .ok (.iload_n 1, 1) := by decide +kernel
theorem dX12_to_9 : decode cX12_to 9 = .ok (.imul, 1) := by decide +kernel
theorem dX12_to_10 : decode cX12_to 10 = .ok (.iload_n 2, 1) := by decide +kernel
theorem dX12_to_11 : decode cX12_to 11 = .ok (.iadd, 1) := by decide +kernel
theorem dX12_to_12 : decode cX12_to 12 = .ok (.imul, 1) := by decide +kernel
theorem dX12_to_13 : decode cX12_to 13 = .ok (.iload_n 3, 1) := by decide +kernel
theorem dX12_to_14 : decode cX12_to 14 = .ok (.iadd, 1) := by decide +kernel
theorem dX12_to_15 : decode cX12_to 15 = .ok (.iaload, 1) := by decide +kernel
theorem dX12_to_16 : decode cX12_to 16 = .ok (.ireturn, 1) := by decide +kernel
theorem dX12_step_0 : decode cX12_step 0 = .ok (.aload_n 0, 1) := by decide +kernel
theorem dX12_step_1 : decode cX12_step 1 = .ok (.iload_n 1, 1) := by decide +kernel
theorem dX12_step_2 : decode cX12_step 2 = .ok (.invokevirtual 286, 3) := by decide +kernel
theorem dX12_step_5 : decode cX12_step 5 = .ok (.ifCond .eq 19, 3) := by decide +kernel
theorem dX12_step_8 : decode cX12_step 8 = .ok (.iload_n 2, 1) := by decide +kernel
theorem dX12_step_9 : decode cX12_step 9 = .ok (.iconst 0, 1) := by decide +kernel
theorem dX12_step_10 : decode cX12_step 10 = .ok (.aload_n 0, 1) := by decide +kernel
theorem dX12_step_11 : decode cX12_step 11 = .ok (.getfield 47, 3) := by decide +kernel
theorem dX12_step_14 : decode cX12_step 14 = .ok (.iload_n 1, 1) := by decide +kernel
theorem dX12_step_15 : decode cX12_step 15 = .ok (.iaload, 1) := by decide +kernel
theorem dX12_step_16 : decode cX12_step 16 = .ok (.iconst 1, 1) := by decide +kernel
theorem dX12_step_17 : decode cX12_step 17 = .ok (.isub, 1) := by decide +kernel
theorem dX12_step_18 : decode cX12_step 18 = .ok (.invokestatic 218, 3) := by decide +kernel
theorem dX12_step_21 : decode cX12_step 21 = .ok (.ifCond .ne 5, 3) := by decide +kernel
theorem dX12_step_24 : decode cX12_step 24 = .ok (.iconst (-1), 1) := by decide +kernel
theorem dX12_step_25 : decode cX12_step 25 = .ok (.ireturn, 1) := by decide +kernel
theorem dX12_step_26 : decode cX12_step 26 = .ok (.iload_n 3, 1) := by decide +kernel
theorem dX12_step_27 : decode cX12_step 27 = .ok (.iconst 0, 1) := by decide +kernel
theorem dX12_step_28 : decode cX12_step 28 = .ok (.aload_n 0, 1) := by decide +kernel
theorem dX12_step_29 : decode cX12_step 29 = .ok (.aload_n 0, 1) := by decide +kernel
theorem dX12_step_30 : decode cX12_step 30 = .ok (.getfield 38, 3) := by decide +kernel
theorem dX12_step_33 : decode cX12_step 33 = .ok (.iload_n 1, 1) := by decide +kernel
theorem dX12_step_34 : decode cX12_step 34 = .ok (.iaload, 1) := by decide +kernel
theorem dX12_step_35 : decode cX12_step 35 = .ok (.invokevirtual 417, 3) := by decide +kernel
theorem dX12_step_38 : decode cX12_step 38 = .ok (.iconst 1, 1) := by decide +kernel
theorem dX12_step_39 : decode cX12_step 39 = .ok (.isub, 1) := by decide +kernel
theorem dX12_step_40 : decode cX12_step 40 = .ok (.invokestatic 218, 3) := by decide +kernel
theorem dX12_step_43 : decode cX12_step 43 = .ok (.ifCond .eq 13, 3) := by decide +kernel
theorem dX12_step_46 : decode cX12_step 46 = .ok (.aload_n 0, 1) := by decide +kernel
theorem dX12_step_47 : decode cX12_step 47 = .ok (.iload_n 1, 1) := by decide +kernel
theorem dX12_step_48 : decode cX12_step 48 = .ok (.iload_n 2, 1) := by decide +kernel
theorem dX12_step_49 : decode cX12_step 49 = .ok (.iload_n 3, 1) := by decide +kernel
theorem dX12_step_50 : decode cX12_step 50 = .ok (.invokevirtual 506, 3) := by decide +kernel
theorem dX12_step_53 : decode cX12_step 53 = .ok (.goto 4, 3) := by decide +kernel
theorem dX12_step_56 : decode cX12_step 56 = .ok (.iconst (-1), 1) := by decide +kernel
theorem dX12_step_57 : decode cX12_step 57 = .ok (.ireturn, 1) := by decide +kernel
theorem dX12_takes_0 : decode cX12_takes 0 = .ok (.aload_n 0, 1) := by decide +kernel
theorem dX12_takes_1 : decode cX12_takes 1 = .ok (.iload_n 1, 1) := by decide +kernel
theorem dX12_takes_2 : decode cX12_takes 2 = .ok (.invokevirtual 286, 3) := by decide +kernel
theorem dX12_takes_5 : decode cX12_takes 5 = .ok (.ifCond .eq 41, 3) := by decide +kernel
theorem dX12_takes_8 : decode cX12_takes 8 = .ok (.iload_n 2, 1) := by decide +kernel
theorem dX12_takes_9 : decode cX12_takes 9 = .ok (.iconst 0, 1) := by decide +kernel
theorem dX12_takes_10 : decode cX12_takes 10 = .ok (.aload_n 0, 1) := by decide +kernel
theorem dX12_takes_11 : decode cX12_takes 11 = .ok (.getfield 47, 3) := by decide +kernel
theorem dX12_takes_14 : decode cX12_takes 14 = .ok (.iload_n 1, 1) := by decide +kernel
theorem dX12_takes_15 : decode cX12_takes 15 = .ok (.iaload, 1) := by decide +kernel
theorem dX12_takes_16 : decode cX12_takes 16 = .ok (.iconst 1, 1) := by decide +kernel
theorem dX12_takes_17 : decode cX12_takes 17 = .ok (.isub, 1) := by decide +kernel
theorem dX12_takes_18 : decode cX12_takes 18 = .ok (.invokestatic 218, 3) := by decide +kernel
theorem dX12_takes_21 : decode cX12_takes 21 = .ok (.ifCond .eq 25, 3) := by decide +kernel
theorem dX12_takes_24 : decode cX12_takes 24 = .ok (.aload_n 0, 1) := by decide +kernel
theorem dX12_takes_25 : decode cX12_takes 25 = .ok (.getfield 53, 3) := by decide +kernel
theorem dX12_takes_28 : decode cX12_takes 28 = .ok (.bipush 40, 2) := by decide +kernel
theorem dX12_takes_30 : decode cX12_takes 30 = .ok (.iload_n 1, 1) := by decide +kernel
theorem dX12_takes_31 : decode cX12_takes 31 = .ok (.imul, 1) := by decide +kernel
theorem dX12_takes_32 : decode cX12_takes 32 = .ok (.iload_n 2, 1) := by decide +kernel
theorem dX12_takes_33 : decode cX12_takes 33 = .ok (.iadd, 1) := by decide +kernel
theorem dX12_takes_34 : decode cX12_takes 34 = .ok (.baload, 1) := by decide +kernel
theorem dX12_takes_35 : decode cX12_takes 35 = .ok (.ifCond .eq 7, 3) := by decide +kernel
theorem dX12_takes_38 : decode cX12_takes 38 = .ok (.iconst 1, 1) := by decide +kernel
theorem dX12_takes_39 : decode cX12_takes 39 = .ok (.goto 8, 3) := by decide +kernel
theorem dX12_takes_42 : decode cX12_takes 42 = .ok (.iconst 0, 1) := by decide +kernel
theorem dX12_takes_43 : decode cX12_takes 43 = .ok (.goto 4, 3) := by decide +kernel
theorem dX12_takes_46 : decode cX12_takes 46 = .ok (.iconst (-1), 1) := by decide +kernel
theorem dX12_takes_47 : decode cX12_takes 47 = .ok (.ireturn, 1) := by decide +kernel
theorem dX12_holds_0 : decode cX12_holds 0 = .ok (.aload_n 0, 1) := by decide +kernel
theorem dX12_holds_1 : decode cX12_holds 1 = .ok (.iload_n 1, 1) := by decide +kernel
theorem dX12_holds_2 : decode cX12_holds 2 = .ok (.invokevirtual 286, 3) := by decide +kernel
theorem dX12_holds_5 : decode cX12_holds 5 = .ok (.ifCond .ne 5, 3) := by decide +kernel
theorem dX12_holds_8 : decode cX12_holds 8 = .ok (.iconst (-1), 1) := by decide +kernel
theorem dX12_holds_9 : decode cX12_holds 9 = .ok (.ireturn, 1) := by decide +kernel
theorem dX12_holds_10 : decode cX12_holds 10 = .ok (.aload_n 0, 1) := by decide +kernel
theorem dX12_holds_11 : decode cX12_holds 11 = .ok (.getfield 38, 3) := by decide +kernel
theorem dX12_holds_14 : decode cX12_holds 14 = .ok (.iload_n 1, 1) := by decide +kernel
theorem dX12_holds_15 : decode cX12_holds 15 = .ok (.iaload, 1) := by decide +kernel
theorem dX12_holds_16 : decode cX12_holds 16 = .ok (.invokestatic 222, 3) := by decide +kernel
theorem dX12_holds_19 : decode cX12_holds 19 = .ok (.istore 8, 2) := by decide +kernel
theorem dX12_holds_21 : decode cX12_holds 21 = .ok (.iload 8, 2) := by decide +kernel
theorem dX12_holds_23 : decode cX12_holds 23 = .ok (.ifCond .le 14, 3) := by decide +kernel
theorem dX12_holds_26 : decode cX12_holds 26 = .ok (.lload_n 2, 1) := by decide +kernel
theorem dX12_holds_27 : decode cX12_holds 27 = .ok (.lconst 0, 1) := by decide +kernel
theorem dX12_holds_28 : decode cX12_holds 28 = .ok (.ldc2_w 481, 3) := by decide +kernel
theorem dX12_holds_31 : decode cX12_holds 31 = .ok (.invokestatic 483, 3) := by decide +kernel
theorem dX12_holds_34 : decode cX12_holds 34 = .ok (.ifCond .ne 39, 3) := by decide +kernel
theorem dX12_holds_37 : decode cX12_holds 37 = .ok (.iload 8, 2) := by decide +kernel
theorem dX12_holds_39 : decode cX12_holds 39 = .ok (.iconst 1, 1) := by decide +kernel
theorem dX12_holds_40 : decode cX12_holds 40 = .ok (.if_icmp .le 15, 3) := by decide +kernel
theorem dX12_holds_43 : decode cX12_holds 43 = .ok (.lload 4, 2) := by decide +kernel
theorem dX12_holds_45 : decode cX12_holds 45 = .ok (.lconst 0, 1) := by decide +kernel
theorem dX12_holds_46 : decode cX12_holds 46 = .ok (.ldc2_w 481, 3) := by decide +kernel
theorem dX12_holds_49 : decode cX12_holds 49 = .ok (.invokestatic 483, 3) := by decide +kernel
theorem dX12_holds_52 : decode cX12_holds 52 = .ok (.ifCond .ne 21, 3) := by decide +kernel
theorem dX12_holds_55 : decode cX12_holds 55 = .ok (.iload 8, 2) := by decide +kernel
theorem dX12_holds_57 : decode cX12_holds 57 = .ok (.iconst 2, 1) := by decide +kernel
theorem dX12_holds_58 : decode cX12_holds 58 = .ok (.if_icmp .le 19, 3) := by decide +kernel
theorem dX12_holds_61 : decode cX12_holds 61 = .ok (.lload 6, 2) := by decide +kernel
theorem dX12_holds_63 : decode cX12_holds 63 = .ok (.lconst 0, 1) := by decide +kernel
theorem dX12_holds_64 : decode cX12_holds 64 = .ok (.ldc2_w 481, 3) := by decide +kernel
theorem dX12_holds_67 : decode cX12_holds 67 = .ok (.invokestatic 483, 3) := by decide +kernel
theorem dX12_holds_70 : decode cX12_holds 70 = .ok (.ifCond .eq 7, 3) := by decide +kernel
theorem dX12_holds_73 : decode cX12_holds 73 = .ok (.iconst 1, 1) := by decide +kernel
theorem dX12_holds_74 : decode cX12_holds 74 = .ok (.goto 4, 3) := by decide +kernel
theorem dX12_holds_77 : decode cX12_holds 77 = .ok (.iconst 0, 1) := by decide +kernel
theorem dX12_holds_78 : decode cX12_holds 78 = .ok (.istore 9, 2) := by decide +kernel
theorem dX12_holds_80 : decode cX12_holds 80 = .ok (.iload 9, 2) := by decide +kernel
theorem dX12_holds_82 : decode cX12_holds 82 = .ok (.ifCond .eq 5, 3) := by decide +kernel
theorem dX12_holds_85 : decode cX12_holds 85 = .ok (.iconst (-1), 1) := by decide +kernel
theorem dX12_holds_86 : decode cX12_holds 86 = .ok (.ireturn, 1) := by decide +kernel
theorem dX12_holds_87 : decode cX12_holds 87 = .ok (.aload_n 0, 1) := by decide +kernel
theorem dX12_holds_88 : decode cX12_holds 88 = .ok (.iconst 0, 1) := by decide +kernel
theorem dX12_holds_89 : decode cX12_holds 89 = .ok (.iload 8, 2) := by decide +kernel
theorem dX12_holds_91 : decode cX12_holds 91 = .ok (.ifCond .le 7, 3) := by decide +kernel
theorem dX12_holds_94 : decode cX12_holds 94 = .ok (.lload_n 2, 1) := by decide +kernel
theorem dX12_holds_95 : decode cX12_holds 95 = .ok (.goto 4, 3) := by decide +kernel
theorem dX12_holds_98 : decode cX12_holds 98 = .ok (.lconst 0, 1) := by decide +kernel
theorem dX12_holds_99 : decode cX12_holds 99 = .ok (.bipush 64, 2) := by decide +kernel
theorem dX12_holds_101 : decode cX12_holds 101 = .ok (.invokevirtual 487, 3) := by decide +kernel
theorem dX12_holds_104 : decode cX12_holds 104 = .ok (.aload_n 0, 1) := by decide +kernel
theorem dX12_holds_105 : decode cX12_holds 105 = .ok (.iconst 1, 1) := by decide +kernel
theorem dX12_holds_106 : decode cX12_holds 106 = .ok (.iload 8, 2) := by decide +kernel
theorem dX12_holds_108 : decode cX12_holds 108 = .ok (.iconst 1, 1) := by decide +kernel
theorem dX12_holds_109 : decode cX12_holds 109 = .ok (.if_icmp .le 8, 3) := by decide +kernel
theorem dX12_holds_112 : decode cX12_holds 112 = .ok (.lload 4, 2) := by decide +kernel
theorem dX12_holds_114 : decode cX12_holds 114 = .ok (.goto 4, 3) := by decide +kernel
theorem dX12_holds_117 : decode cX12_holds 117 = .ok (.lconst 0, 1) := by decide +kernel
theorem dX12_holds_118 : decode cX12_holds 118 = .ok (.bipush 64, 2) := by decide +kernel
theorem dX12_holds_120 : decode cX12_holds 120 = .ok (.invokevirtual 487, 3) := by decide +kernel
theorem dX12_holds_123 : decode cX12_holds 123 = .ok (.aload_n 0, 1) := by decide +kernel
theorem dX12_holds_124 : decode cX12_holds 124 = .ok (.iconst 2, 1) := by decide +kernel
theorem dX12_holds_125 : decode cX12_holds 125 = .ok (.iload 8, 2) := by decide +kernel
theorem dX12_holds_127 : decode cX12_holds 127 = .ok (.iconst 2, 1) := by decide +kernel
theorem dX12_holds_128 : decode cX12_holds 128 = .ok (.if_icmp .le 8, 3) := by decide +kernel
theorem dX12_holds_131 : decode cX12_holds 131 = .ok (.lload 6, 2) := by decide +kernel
theorem dX12_holds_133 : decode cX12_holds 133 = .ok (.goto 4, 3) := by decide +kernel
theorem dX12_holds_136 : decode cX12_holds 136 = .ok (.lconst 0, 1) := by decide +kernel
theorem dX12_holds_137 : decode cX12_holds 137 = .ok (.bipush 64, 2) := by decide +kernel
theorem dX12_holds_139 : decode cX12_holds 139 = .ok (.invokevirtual 487, 3) := by decide +kernel
theorem dX12_holds_142 : decode cX12_holds 142 = .ok (.iconst 0, 1) := by decide +kernel
theorem dX12_holds_143 : decode cX12_holds 143 = .ok (.istore 10, 2) := by decide +kernel
theorem dX12_holds_145 : decode cX12_holds 145 = .ok (.iconst 0, 1) := by decide +kernel
theorem dX12_holds_146 : decode cX12_holds 146 = .ok (.istore 11, 2) := by decide +kernel
theorem dX12_holds_148 : decode cX12_holds 148 = .ok (.iload 11, 2) := by decide +kernel
theorem dX12_holds_150 : decode cX12_holds 150 = .ok (.bipush 64, 2) := by decide +kernel
theorem dX12_holds_152 : decode cX12_holds 152 = .ok (.if_icmp .ge 62, 3) := by decide +kernel
theorem dX12_holds_155 : decode cX12_holds 155 = .ok (.iconst 0, 1) := by decide +kernel
theorem dX12_holds_156 : decode cX12_holds 156 = .ok (.istore 12, 2) := by decide +kernel
theorem dX12_holds_158 : decode cX12_holds 158 = .ok (.iconst 0, 1) := by decide +kernel
theorem dX12_holds_159 : decode cX12_holds 159 = .ok (.istore 13, 2) := by decide +kernel
theorem dX12_holds_161 : decode cX12_holds 161 = .ok (.iload 13, 2) := by decide +kernel
theorem dX12_holds_163 : decode cX12_holds 163 = .ok (.iload 8, 2) := by decide +kernel
theorem dX12_holds_165 : decode cX12_holds 165 = .ok (.if_icmp .ge 32, 3) := by decide +kernel
theorem dX12_holds_168 : decode cX12_holds 168 = .ok (.aload_n 0, 1) := by decide +kernel
theorem dX12_holds_169 : decode cX12_holds 169 = .ok (.getfield 7, 3) := by decide +kernel
theorem dX12_holds_172 : decode cX12_holds 172 = .ok (.iload 12, 2) := by decide +kernel
theorem dX12_holds_174 : decode cX12_holds 174 = .ok (.imul, 1) := by decide +kernel
theorem dX12_holds_175 : decode cX12_holds 175 = .ok (.aload_n 0, 1) := by decide +kernel
theorem dX12_holds_176 : decode cX12_holds 176 = .ok (.getfield 191, 3) := by decide +kernel
theorem dX12_holds_179 : decode cX12_holds 179 = .ok (.bipush 110, 2) := by decide +kernel
theorem dX12_holds_181 : decode cX12_holds 181 = .ok (.iload 13, 2) := by decide +kernel
theorem dX12_holds_183 : decode cX12_holds 183 = .ok (.imul, 1) := by decide +kernel
theorem dX12_holds_184 : decode cX12_holds 184 = .ok (.iload 11, 2) := by decide +kernel
theorem dX12_holds_186 : decode cX12_holds 186 = .ok (.iadd, 1) := by decide +kernel
theorem dX12_holds_187 : decode cX12_holds 187 = .ok (.iaload, 1) := by decide +kernel
theorem dX12_holds_188 : decode cX12_holds 188 = .ok (.iadd, 1) := by decide +kernel
theorem dX12_holds_189 : decode cX12_holds 189 = .ok (.istore 12, 2) := by decide +kernel
theorem dX12_holds_191 : decode cX12_holds 191 = .ok (.iinc 13 1, 3) := by decide +kernel
theorem dX12_holds_194 : decode cX12_holds 194 = .ok (.goto (-33), 3) := by decide +kernel
theorem dX12_holds_197 : decode cX12_holds 197 = .ok (.aload_n 0, 1) := by decide +kernel
theorem dX12_holds_198 : decode cX12_holds 198 = .ok (.iload_n 1, 1) := by decide +kernel
theorem dX12_holds_199 : decode cX12_holds 199 = .ok (.iload 10, 2) := by decide +kernel
theorem dX12_holds_201 : decode cX12_holds 201 = .ok (.iload 12, 2) := by decide +kernel
theorem dX12_holds_203 : decode cX12_holds 203 = .ok (.invokevirtual 506, 3) := by decide +kernel
theorem dX12_holds_206 : decode cX12_holds 206 = .ok (.istore 10, 2) := by decide +kernel
theorem dX12_holds_208 : decode cX12_holds 208 = .ok (.iinc 11 1, 3) := by decide +kernel
theorem dX12_holds_211 : decode cX12_holds 211 = .ok (.goto (-63), 3) := by decide +kernel
theorem dX12_holds_214 : decode cX12_holds 214 = .ok (.aload_n 0, 1) := by decide +kernel
theorem dX12_holds_215 : decode cX12_holds 215 = .ok (.getfield 53, 3) := by decide +kernel
theorem dX12_holds_218 : decode cX12_holds 218 = .ok (.bipush 40, 2) := by decide +kernel
theorem dX12_holds_220 : decode cX12_holds 220 = .ok (.iload_n 1, 1) := by decide +kernel
theorem dX12_holds_221 : decode cX12_holds 221 = .ok (.imul, 1) := by decide +kernel
theorem dX12_holds_222 : decode cX12_holds 222 = .ok (.iload 10, 2) := by decide +kernel
theorem dX12_holds_224 : decode cX12_holds 224 = .ok (.iadd, 1) := by decide +kernel
theorem dX12_holds_225 : decode cX12_holds 225 = .ok (.baload, 1) := by decide +kernel
theorem dX12_holds_226 : decode cX12_holds 226 = .ok (.ifCond .eq 7, 3) := by decide +kernel
theorem dX12_holds_229 : decode cX12_holds 229 = .ok (.iconst 1, 1) := by decide +kernel
theorem dX12_holds_230 : decode cX12_holds 230 = .ok (.goto 4, 3) := by decide +kernel
theorem dX12_holds_233 : decode cX12_holds 233 = .ok (.iconst 0, 1) := by decide +kernel
theorem dX12_holds_234 : decode cX12_holds 234 = .ok (.ireturn, 1) := by decide +kernel
theorem dX12_leadsAll_0 : decode cX12_leadsAll 0 = .ok (.iconst 0, 1) := by decide +kernel
theorem dX12_leadsAll_1 : decode cX12_leadsAll 1 = .ok (.istore_n 2, 1) := by decide +kernel
theorem dX12_leadsAll_2 : decode cX12_leadsAll 2 = .ok (.iload_n 2, 1) := by decide +kernel
theorem dX12_leadsAll_3 : decode cX12_leadsAll 3 = .ok (.aload_n 0, 1) := by decide +kernel
theorem dX12_leadsAll_4 : decode cX12_leadsAll 4 = .ok (.getfield 47, 3) := by decide +kernel
theorem dX12_leadsAll_7 : decode cX12_leadsAll 7 = .ok (.iload_n 1, 1) := by decide +kernel
theorem dX12_leadsAll_8 : decode cX12_leadsAll 8 = .ok (.iaload, 1) := by decide +kernel
theorem dX12_leadsAll_9 : decode cX12_leadsAll 9 = .ok (.if_icmp .ge 26, 3) := by decide +kernel
theorem dX12_leadsAll_12 : decode cX12_leadsAll 12 = .ok (.aload_n 0, 1) := by decide +kernel
theorem dX12_leadsAll_13 : decode cX12_leadsAll 13 = .ok (.getfield 197, 3) := by decide +kernel
theorem dX12_leadsAll_16 : decode cX12_leadsAll 16 = .ok (.iload_n 2, 1) := by decide +kernel
theorem dX12_leadsAll_17 : decode cX12_leadsAll 17 = .ok (.aload_n 0, 1) := by decide +kernel
theorem dX12_leadsAll_18 : decode cX12_leadsAll 18 = .ok (.getfield 53, 3) := by decide +kernel
theorem dX12_leadsAll_21 : decode cX12_leadsAll 21 = .ok (.bipush 40, 2) := by decide +kernel
theorem dX12_leadsAll_23 : decode cX12_leadsAll 23 = .ok (.iload_n 1, 1) := by decide +kernel
theorem dX12_leadsAll_24 : decode cX12_leadsAll 24 = .ok (.imul, 1) := by decide +kernel
theorem dX12_leadsAll_25 : decode cX12_leadsAll 25 = .ok (.iload_n 2, 1) := by decide +kernel
theorem dX12_leadsAll_26 : decode cX12_leadsAll 26 = .ok (.iadd, 1) := by decide +kernel
theorem dX12_leadsAll_27 : decode cX12_leadsAll 27 = .ok (.baload, 1) := by decide +kernel
theorem dX12_leadsAll_28 : decode cX12_leadsAll 28 = .ok (.bastore, 1) := by decide +kernel
theorem dX12_leadsAll_29 : decode cX12_leadsAll 29 = .ok (.iinc 2 1, 3) := by decide +kernel
theorem dX12_leadsAll_32 : decode cX12_leadsAll 32 = .ok (.goto (-30), 3) := by decide +kernel
theorem dX12_leadsAll_35 : decode cX12_leadsAll 35 = .ok (.iconst 1, 1) := by decide +kernel
theorem dX12_leadsAll_36 : decode cX12_leadsAll 36 = .ok (.istore_n 2, 1) := by decide +kernel
theorem dX12_leadsAll_37 : decode cX12_leadsAll 37 = .ok (.iload_n 2, 1) := by decide +kernel
theorem dX12_leadsAll_38 : decode cX12_leadsAll 38 = .ok (.bipush 110, 2) := by decide +kernel
theorem dX12_leadsAll_40 : decode cX12_leadsAll 40 = .ok (.if_icmp .gt 110, 3) := by decide +kernel
theorem dX12_leadsAll_43 : decode cX12_leadsAll 43 = .ok (.iconst 0, 1) := by decide +kernel
theorem dX12_leadsAll_44 : decode cX12_leadsAll 44 = .ok (.istore_n 3, 1) := by decide +kernel
theorem dX12_leadsAll_45 : decode cX12_leadsAll 45 = .ok (.iload_n 3, 1) := by decide +kernel
theorem dX12_leadsAll_46 : decode cX12_leadsAll 46 = .ok (.aload_n 0, 1) := by decide +kernel
theorem dX12_leadsAll_47 : decode cX12_leadsAll 47 = .ok (.getfield 47, 3) := by decide +kernel
theorem dX12_leadsAll_50 : decode cX12_leadsAll 50 = .ok (.iload_n 1, 1) := by decide +kernel
theorem dX12_leadsAll_51 : decode cX12_leadsAll 51 = .ok (.iaload, 1) := by decide +kernel
theorem dX12_leadsAll_52 : decode cX12_leadsAll 52 = .ok (.if_icmp .ge 92, 3) := by decide +kernel
theorem dX12_leadsAll_55 : decode cX12_leadsAll 55 = .ok (.aload_n 0, 1) := by decide +kernel
theorem dX12_leadsAll_56 : decode cX12_leadsAll 56 = .ok (.getfield 197, 3) := by decide +kernel
theorem dX12_leadsAll_59 : decode cX12_leadsAll 59 = .ok (.bipush 40, 2) := by decide +kernel
theorem dX12_leadsAll_61 : decode cX12_leadsAll 61 = .ok (.iload_n 2, 1) := by decide +kernel
theorem dX12_leadsAll_62 : decode cX12_leadsAll 62 = .ok (.imul, 1) := by decide +kernel
theorem dX12_leadsAll_63 : decode cX12_leadsAll 63 = .ok (.iload_n 3, 1) := by decide +kernel
theorem dX12_leadsAll_64 : decode cX12_leadsAll 64 = .ok (.iadd, 1) := by decide +kernel
theorem dX12_leadsAll_65 : decode cX12_leadsAll 65 = .ok (.iconst 0, 1) := by decide +kernel
theorem dX12_leadsAll_66 : decode cX12_leadsAll 66 = .ok (.bastore, 1) := by decide +kernel
theorem dX12_leadsAll_67 : decode cX12_leadsAll 67 = .ok (.iconst 0, 1) := by decide +kernel
theorem dX12_leadsAll_68 : decode cX12_leadsAll 68 = .ok (.istore 4, 2) := by decide +kernel
theorem dX12_leadsAll_70 : decode cX12_leadsAll 70 = .ok (.iload 4, 2) := by decide +kernel
theorem dX12_leadsAll_72 : decode cX12_leadsAll 72 = .ok (.aload_n 0, 1) := by decide +kernel
theorem dX12_leadsAll_73 : decode cX12_leadsAll 73 = .ok (.getfield 7, 3) := by decide +kernel
theorem dX12_leadsAll_76 : decode cX12_leadsAll 76 = .ok (.if_icmp .ge 62, 3) := by decide +kernel
theorem dX12_leadsAll_79 : decode cX12_leadsAll 79 = .ok (.aload_n 0, 1) := by decide +kernel
theorem dX12_leadsAll_80 : decode cX12_leadsAll 80 = .ok (.getfield 197, 3) := by decide +kernel
theorem dX12_leadsAll_83 : decode cX12_leadsAll 83 = .ok (.bipush 40, 2) := by decide +kernel
theorem dX12_leadsAll_85 : decode cX12_leadsAll 85 = .ok (.iload_n 2, 1) := by decide +kernel
theorem dX12_leadsAll_86 : decode cX12_leadsAll 86 = .ok (.imul, 1) := by decide +kernel
theorem dX12_leadsAll_87 : decode cX12_leadsAll 87 = .ok (.iload_n 3, 1) := by decide +kernel
theorem dX12_leadsAll_88 : decode cX12_leadsAll 88 = .ok (.iadd, 1) := by decide +kernel
theorem dX12_leadsAll_89 : decode cX12_leadsAll 89 = .ok (.aload_n 0, 1) := by decide +kernel
theorem dX12_leadsAll_90 : decode cX12_leadsAll 90 = .ok (.getfield 197, 3) := by decide +kernel
theorem dX12_leadsAll_93 : decode cX12_leadsAll 93 = .ok (.bipush 40, 2) := by decide +kernel
theorem dX12_leadsAll_95 : decode cX12_leadsAll 95 = .ok (.iload_n 2, 1) := by decide +kernel
theorem dX12_leadsAll_96 : decode cX12_leadsAll 96 = .ok (.imul, 1) := by decide +kernel
theorem dX12_leadsAll_97 : decode cX12_leadsAll 97 = .ok (.iload_n 3, 1) := by decide +kernel
theorem dX12_leadsAll_98 : decode cX12_leadsAll 98 = .ok (.iadd, 1) := by decide +kernel
theorem dX12_leadsAll_99 : decode cX12_leadsAll 99 = .ok (.baload, 1) := by decide +kernel
theorem dX12_leadsAll_100 : decode cX12_leadsAll 100 = .ok (.ifCond .ne 26, 3) := by decide +kernel
theorem dX12_leadsAll_103 : decode cX12_leadsAll 103 = .ok (.aload_n 0, 1) := by decide +kernel
theorem dX12_leadsAll_104 : decode cX12_leadsAll 104 = .ok (.getfield 197, 3) := by decide +kernel
theorem dX12_leadsAll_107 : decode cX12_leadsAll 107 = .ok (.bipush 40, 2) := by decide +kernel
theorem dX12_leadsAll_109 : decode cX12_leadsAll 109 = .ok (.iload_n 2, 1) := by decide +kernel
theorem dX12_leadsAll_110 : decode cX12_leadsAll 110 = .ok (.iconst 1, 1) := by decide +kernel
theorem dX12_leadsAll_111 : decode cX12_leadsAll 111 = .ok (.isub, 1) := by decide +kernel
theorem dX12_leadsAll_112 : decode cX12_leadsAll 112 = .ok (.imul, 1) := by decide +kernel
theorem dX12_leadsAll_113 : decode cX12_leadsAll 113 = .ok (.aload_n 0, 1) := by decide +kernel
theorem dX12_leadsAll_114 : decode cX12_leadsAll 114 = .ok (.iload_n 1, 1) := by decide +kernel
theorem dX12_leadsAll_115 : decode cX12_leadsAll 115 = .ok (.iload_n 3, 1) := by decide +kernel
theorem dX12_leadsAll_116 : decode cX12_leadsAll 116 = .ok (.iload 4, 2) := by decide +kernel
theorem dX12_leadsAll_118 : decode cX12_leadsAll 118 = .ok (.invokevirtual 506, 3) := by decide +kernel
theorem dX12_leadsAll_121 : decode cX12_leadsAll 121 = .ok (.iadd, 1) := by decide +kernel
theorem dX12_leadsAll_122 : decode cX12_leadsAll 122 = .ok (.baload, 1) := by decide +kernel
theorem dX12_leadsAll_123 : decode cX12_leadsAll 123 = .ok (.ifCond .eq 7, 3) := by decide +kernel
theorem dX12_leadsAll_126 : decode cX12_leadsAll 126 = .ok (.iconst 1, 1) := by decide +kernel
theorem dX12_leadsAll_127 : decode cX12_leadsAll 127 = .ok (.goto 4, 3) := by decide +kernel
theorem dX12_leadsAll_130 : decode cX12_leadsAll 130 = .ok (.iconst 0, 1) := by decide +kernel
theorem dX12_leadsAll_131 : decode cX12_leadsAll 131 = .ok (.bastore, 1) := by decide +kernel
theorem dX12_leadsAll_132 : decode cX12_leadsAll 132 = .ok (.iinc 4 1, 3) := by decide +kernel
theorem dX12_leadsAll_135 : decode cX12_leadsAll 135 = .ok (.goto (-65), 3) := by decide +kernel
theorem dX12_leadsAll_138 : decode cX12_leadsAll 138 = .ok (.iinc 3 1, 3) := by decide +kernel
theorem dX12_leadsAll_141 : decode cX12_leadsAll 141 = .ok (.goto (-96), 3) := by decide +kernel
theorem dX12_leadsAll_144 : decode cX12_leadsAll 144 = .ok (.iinc 2 1, 3) := by decide +kernel
theorem dX12_leadsAll_147 : decode cX12_leadsAll 147 = .ok (.goto (-110), 3) := by decide +kernel
theorem dX12_leadsAll_150 : decode cX12_leadsAll 150 = .ok (.return_, 1) := by decide +kernel
abbrev LX12_joins_39 (G : GG) (d rc rs : Nat) (p0 : Nat) (x1 : Int32) (x2 : Int32) (x3 : Int32) (x4 : Int32) (x5 : Int32) (z6 : Option Value) (z7 : Option Value) (z8 : Option Value) (z9 : Option Value) (M : Mem) (Q : Option Value → Mem → Prop) : Prop := Wk G (d + 1) rc rs mX12_joins 39 [some (.ref p0), some (.int x1), some (.int x2), some (.int x3), some (.int x4), some (.int x5), z6, z7, z8, z9] [] M Q
abbrev LX12_joins_179 (G : GG) (d rc rs : Nat) (p0 : Nat) (x1 : Int32) (x2 : Int32) (x3 : Int32) (x4 : Int32) (x5 : Int32) (x6 : Int32) (x7 : Int32) (x8 : Int32) (x9 : Int32) (M : Mem) (Q : Option Value → Mem → Prop) : Prop := Wk G (d + 1) rc rs mX12_joins 179 [some (.ref p0), some (.int x1), some (.int x2), some (.int x3), some (.int x4), some (.int x5), some (.int x6), some (.int x7), some (.int x8), some (.int x9)] [] M Q
theorem eX12_joins {G : GG} {d rc rs : Nat} (o : Nat) (a1 : Int32)  {M : Mem} {Q : Option Value → Mem → Prop} (h : (x_h M o).1 = 28 ∧ (∃ b2, x_r M o 49 = some b2 ∧ (x_h M b2).1 = 1 ∧ vp_in a1 (x_h M b2).2 ∧ (∃ b5, x_r M o 50 = some b5 ∧ (x_h M b5).1 = 1 ∧ vp_in a1 (x_h M b5).2 ∧ (∃ b8, x_r M o 53 = some b8 ∧ (x_h M b8).1 = 1 ∧ vp_in a1 (x_h M b8).2 ∧ Call G d 0 0 mX12_noPairs [.ref o] M (fun r11 M12 => r11 = none ∧ (x_h M12 o).1 = 28 ∧ Call G d 0 0 mX12_across [.ref o, .int (x_i M b8 a1.toNatClampNeg)] M12 (fun r14 M15 => ∃ v16 : Int32, r14 = some (.int v16) ∧ (x_h M15 o).1 = 28 ∧ (∀ M18, M18 = x_si M15 o 26 v16 → LX12_joins_39 G d rc rs o a1 (x_i M b2 a1.toNatClampNeg) (x_i M b5 a1.toNatClampNeg) (x_i M b8 a1.toNatClampNeg) 0 none none none none M18 Q))))))) : Call G (d + 1) rc rs mX12_joins [.ref o, .int a1] M Q := by
  refine call_of (by decide) (Nat.le_of_ble_eq_true rfl) ?_
  show Wk G (d + 1) rc rs mX12_joins 0 [some (.ref o), some (.int a1), none, none, none, none, none, none, none, none] [] M Q
  refine r_aload_n (pc := 0) (i := 0) dX12_joins_0 rfl rfl ?_
  obtain ⟨k1, h⟩ := h
  obtain ⟨b2, hb2, h⟩ := h
  refine r_getr (pc := 1) flX12_107 dX12_joins_1 rfl k1 hb2 ?_
  refine r_iload_n (pc := 4) (i := 1) dX12_joins_4 rfl rfl ?_
  obtain ⟨k3, h⟩ := h
  obtain ⟨i4, h⟩ := h
  refine r_iald (pc := 5) dX12_joins_5 k3 i4 ?_
  refine r_istore_n (pc := 6) (i := 2) dX12_joins_6 rfl rfl (Nat.le_of_ble_eq_true rfl) ?_
  refine r_aload_n (pc := 7) (i := 0) dX12_joins_7 rfl rfl ?_
  obtain ⟨b5, hb5, h⟩ := h
  refine r_getr (pc := 8) flX12_110 dX12_joins_8 rfl k1 hb5 ?_
  refine r_iload_n (pc := 11) (i := 1) dX12_joins_11 rfl rfl ?_
  obtain ⟨k6, h⟩ := h
  obtain ⟨i7, h⟩ := h
  refine r_iald (pc := 12) dX12_joins_12 k6 i7 ?_
  refine r_istore_n (pc := 13) (i := 3) dX12_joins_13 rfl rfl (Nat.le_of_ble_eq_true rfl) ?_
  refine r_aload_n (pc := 14) (i := 0) dX12_joins_14 rfl rfl ?_
  obtain ⟨b8, hb8, h⟩ := h
  refine r_getr (pc := 15) flX12_119 dX12_joins_15 rfl k1 hb8 ?_
  refine r_iload_n (pc := 18) (i := 1) dX12_joins_18 rfl rfl ?_
  obtain ⟨k9, h⟩ := h
  obtain ⟨i10, h⟩ := h
  refine r_iald (pc := 19) dX12_joins_19 k9 i10 ?_
  refine r_istore (pc := 20) (i := 4) dX12_joins_20 rfl (Nat.le_of_ble_eq_true rfl) ?_
  refine r_aload_n (pc := 22) (i := 0) dX12_joins_22 rfl rfl ?_
  refine r_callV (pc := 23) (ci := 12) (as := []) (st := []) okX12_noPairs lkX12_279 inX12_noPairs seX12_noPairs ⟨_, rfl, rfl⟩ dX12_joins_23 rfl k1 (Nat.le_of_ble_eq_true rfl) (Nat.zero_le _) (Nat.zero_le _) (Call.mono h (fun r11 M12 h => ?_))
  obtain ⟨rfl, h⟩ := h
  refine r_aload_n (pc := 26) (i := 0) dX12_joins_26 rfl rfl ?_
  refine r_aload_n (pc := 27) (i := 0) dX12_joins_27 rfl rfl ?_
  refine r_iload (pc := 28) (i := 4) dX12_joins_28 rfl ?_
  obtain ⟨k13, h⟩ := h
  refine r_callV (pc := 30) (ci := 12) (as := [_]) (st := [_]) okX12_across lkX12_417 inX12_across seX12_across ⟨_, rfl, rfl⟩ dX12_joins_30 rfl k13 (Nat.le_of_ble_eq_true rfl) (Nat.zero_le _) (Nat.zero_le _) (Call.mono h (fun r14 M15 h => ?_))
  obtain ⟨v16, rfl, h⟩ := h
  obtain ⟨k17, h⟩ := h
  refine r_puti (pc := 33) flX12_226 dX12_joins_33 (Or.inl rfl) (fun q hq => by cases hq; rfl) k17 ?_
  replace h := h _ rfl
  refine r_iconst (pc := 36) (v := 0) dX12_joins_36 (by decide) ?_
  refine r_istore (pc := 37) (i := 5) dX12_joins_37 rfl (Nat.le_of_ble_eq_true rfl) ?_
  exact h
theorem vX12_joins_39 {G : GG} {d rc rs : Nat} (p0 : Nat) (x1 : Int32) (x2 : Int32) (x3 : Int32) (x4 : Int32) (x5 : Int32) (z6 : Option Value) (z7 : Option Value) (z8 : Option Value) (z9 : Option Value) (hz6 : c1 z6 = true) (hz7 : c1 z7 = true) (hz8 : c1 z8 = true) (hz9 : c1 z9 = true) {M : Mem} {Q : Option Value → Mem → Prop} (h : (x_h M p0).1 = 28 ∧ ((x_i M p0 25) ≤ x5 → Call G d 0 0 mX12_becomes [.ref p0, .int x1] M (fun r3 M4 => ∃ v5 : Int32, r3 = some (.int v5) ∧ (v5 = 0 ∨ v5 = 1) ∧ Q (some (.int v5)) M4)) ∧ (¬ (x_i M p0 25) ≤ x5 → ∃ b6, x_r M p0 75 = some b6 ∧ ∃ b7, x_r M p0 36 = some b7 ∧ (x_h M b7).1 = 1 ∧ vp_in x5 (x_h M b7).2 ∧ (x_h M b6).1 = 3 ∧ vp_in ((40 * x2) + (x_i M b7 x5.toNatClampNeg)) (x_h M b6).2 ∧ (∃ b12, x_r M p0 37 = some b12 ∧ (x_h M b12).1 = 1 ∧ vp_in x5 (x_h M b12).2 ∧ vp_in ((40 * x3) + (x_i M b12 x5.toNatClampNeg)) (x_h M b6).2 ∧ (∃ b16, x_r M p0 48 = some b16 ∧ (x_h M b16).1 = 1 ∧ vp_in x1 (x_h M b16).2 ∧ (¬ (x_i M b16 x1.toNatClampNeg) = 3 → (¬ (x_i M b16 x1.toNatClampNeg) = 4 → ((x_i M b6 ((40 * x2) + (x_i M b7 x5.toNatClampNeg)).toNatClampNeg) = 0 → ∃ b22, x_r M p0 28 = some b22 ∧ ((1 : Int32) = 0 → (x_h M b22).1 = 1 ∧ vp_in x5 (x_h M b22).2 ∧ (∀ M26, M26 = x_si M b22 x5.toNatClampNeg 0 → LX12_joins_179 G d rc rs p0 x1 x2 x3 x4 x5 (x_i M b6 ((40 * x2) + (x_i M b7 x5.toNatClampNeg)).toNatClampNeg) (x_i M b6 ((40 * x3) + (x_i M b12 x5.toNatClampNeg)).toNatClampNeg) 1 0 M26 Q)) ∧ (¬ (1 : Int32) = 0 → (x_h M b22).1 = 1 ∧ vp_in x5 (x_h M b22).2 ∧ (∀ M29, M29 = x_si M b22 x5.toNatClampNeg 1 → LX12_joins_179 G d rc rs p0 x1 x2 x3 x4 x5 (x_i M b6 ((40 * x2) + (x_i M b7 x5.toNatClampNeg)).toNatClampNeg) (x_i M b6 ((40 * x3) + (x_i M b12 x5.toNatClampNeg)).toNatClampNeg) 1 0 M29 Q))) ∧ (¬ (x_i M b6 ((40 * x2) + (x_i M b7 x5.toNatClampNeg)).toNatClampNeg) = 0 → ((x_i M b6 ((40 * x3) + (x_i M b12 x5.toNatClampNeg)).toNatClampNeg) = 0 → ∃ b31, x_r M p0 28 = some b31 ∧ ((0 : Int32) = 0 → (x_h M b31).1 = 1 ∧ vp_in x5 (x_h M b31).2 ∧ (∀ M35, M35 = x_si M b31 x5.toNatClampNeg 0 → LX12_joins_179 G d rc rs p0 x1 x2 x3 x4 x5 (x_i M b6 ((40 * x2) + (x_i M b7 x5.toNatClampNeg)).toNatClampNeg) (x_i M b6 ((40 * x3) + (x_i M b12 x5.toNatClampNeg)).toNatClampNeg) 0 0 M35 Q)) ∧ (¬ (0 : Int32) = 0 → (x_h M b31).1 = 1 ∧ vp_in x5 (x_h M b31).2 ∧ (∀ M38, M38 = x_si M b31 x5.toNatClampNeg 1 → LX12_joins_179 G d rc rs p0 x1 x2 x3 x4 x5 (x_i M b6 ((40 * x2) + (x_i M b7 x5.toNatClampNeg)).toNatClampNeg) (x_i M b6 ((40 * x3) + (x_i M b12 x5.toNatClampNeg)).toNatClampNeg) 0 0 M38 Q))) ∧ (¬ (x_i M b6 ((40 * x3) + (x_i M b12 x5.toNatClampNeg)).toNatClampNeg) = 0 → ∃ b39, x_r M p0 28 = some b39 ∧ ((1 : Int32) = 0 → (x_h M b39).1 = 1 ∧ vp_in x5 (x_h M b39).2 ∧ (∀ M43, M43 = x_si M b39 x5.toNatClampNeg 0 → LX12_joins_179 G d rc rs p0 x1 x2 x3 x4 x5 (x_i M b6 ((40 * x2) + (x_i M b7 x5.toNatClampNeg)).toNatClampNeg) (x_i M b6 ((40 * x3) + (x_i M b12 x5.toNatClampNeg)).toNatClampNeg) 1 0 M43 Q)) ∧ (¬ (1 : Int32) = 0 → (x_h M b39).1 = 1 ∧ vp_in x5 (x_h M b39).2 ∧ (∀ M46, M46 = x_si M b39 x5.toNatClampNeg 1 → LX12_joins_179 G d rc rs p0 x1 x2 x3 x4 x5 (x_i M b6 ((40 * x2) + (x_i M b7 x5.toNatClampNeg)).toNatClampNeg) (x_i M b6 ((40 * x3) + (x_i M b12 x5.toNatClampNeg)).toNatClampNeg) 1 0 M46 Q))))) ∧ ((x_i M b16 x1.toNatClampNeg) = 4 → (¬ (x_i M b6 ((40 * x2) + (x_i M b7 x5.toNatClampNeg)).toNatClampNeg) = 0 → ∃ b48, x_r M p0 28 = some b48 ∧ ((1 : Int32) = 0 → (x_h M b48).1 = 1 ∧ vp_in x5 (x_h M b48).2 ∧ (∀ M52, M52 = x_si M b48 x5.toNatClampNeg 0 → LX12_joins_179 G d rc rs p0 x1 x2 x3 x4 x5 (x_i M b6 ((40 * x2) + (x_i M b7 x5.toNatClampNeg)).toNatClampNeg) (x_i M b6 ((40 * x3) + (x_i M b12 x5.toNatClampNeg)).toNatClampNeg) 1 0 M52 Q)) ∧ (¬ (1 : Int32) = 0 → (x_h M b48).1 = 1 ∧ vp_in x5 (x_h M b48).2 ∧ (∀ M55, M55 = x_si M b48 x5.toNatClampNeg 1 → LX12_joins_179 G d rc rs p0 x1 x2 x3 x4 x5 (x_i M b6 ((40 * x2) + (x_i M b7 x5.toNatClampNeg)).toNatClampNeg) (x_i M b6 ((40 * x3) + (x_i M b12 x5.toNatClampNeg)).toNatClampNeg) 1 0 M55 Q))) ∧ ((x_i M b6 ((40 * x2) + (x_i M b7 x5.toNatClampNeg)).toNatClampNeg) = 0 → ((x_i M b6 ((40 * x3) + (x_i M b12 x5.toNatClampNeg)).toNatClampNeg) = 0 → ∃ b57, x_r M p0 28 = some b57 ∧ ((0 : Int32) = 0 → (x_h M b57).1 = 1 ∧ vp_in x5 (x_h M b57).2 ∧ (∀ M61, M61 = x_si M b57 x5.toNatClampNeg 0 → LX12_joins_179 G d rc rs p0 x1 x2 x3 x4 x5 (x_i M b6 ((40 * x2) + (x_i M b7 x5.toNatClampNeg)).toNatClampNeg) (x_i M b6 ((40 * x3) + (x_i M b12 x5.toNatClampNeg)).toNatClampNeg) 0 0 M61 Q)) ∧ (¬ (0 : Int32) = 0 → (x_h M b57).1 = 1 ∧ vp_in x5 (x_h M b57).2 ∧ (∀ M64, M64 = x_si M b57 x5.toNatClampNeg 1 → LX12_joins_179 G d rc rs p0 x1 x2 x3 x4 x5 (x_i M b6 ((40 * x2) + (x_i M b7 x5.toNatClampNeg)).toNatClampNeg) (x_i M b6 ((40 * x3) + (x_i M b12 x5.toNatClampNeg)).toNatClampNeg) 0 0 M64 Q))) ∧ (¬ (x_i M b6 ((40 * x3) + (x_i M b12 x5.toNatClampNeg)).toNatClampNeg) = 0 → ∃ b65, x_r M p0 28 = some b65 ∧ ((1 : Int32) = 0 → (x_h M b65).1 = 1 ∧ vp_in x5 (x_h M b65).2 ∧ (∀ M69, M69 = x_si M b65 x5.toNatClampNeg 0 → LX12_joins_179 G d rc rs p0 x1 x2 x3 x4 x5 (x_i M b6 ((40 * x2) + (x_i M b7 x5.toNatClampNeg)).toNatClampNeg) (x_i M b6 ((40 * x3) + (x_i M b12 x5.toNatClampNeg)).toNatClampNeg) 1 0 M69 Q)) ∧ (¬ (1 : Int32) = 0 → (x_h M b65).1 = 1 ∧ vp_in x5 (x_h M b65).2 ∧ (∀ M72, M72 = x_si M b65 x5.toNatClampNeg 1 → LX12_joins_179 G d rc rs p0 x1 x2 x3 x4 x5 (x_i M b6 ((40 * x2) + (x_i M b7 x5.toNatClampNeg)).toNatClampNeg) (x_i M b6 ((40 * x3) + (x_i M b12 x5.toNatClampNeg)).toNatClampNeg) 1 0 M72 Q)))))) ∧ ((x_i M b16 x1.toNatClampNeg) = 3 → ((x_i M b6 ((40 * x2) + (x_i M b7 x5.toNatClampNeg)).toNatClampNeg) = 0 → ∃ b74, x_r M p0 28 = some b74 ∧ ((0 : Int32) = 0 → (x_h M b74).1 = 1 ∧ vp_in x5 (x_h M b74).2 ∧ (∀ M78, M78 = x_si M b74 x5.toNatClampNeg 0 → LX12_joins_179 G d rc rs p0 x1 x2 x3 x4 x5 (x_i M b6 ((40 * x2) + (x_i M b7 x5.toNatClampNeg)).toNatClampNeg) (x_i M b6 ((40 * x3) + (x_i M b12 x5.toNatClampNeg)).toNatClampNeg) 0 0 M78 Q)) ∧ (¬ (0 : Int32) = 0 → (x_h M b74).1 = 1 ∧ vp_in x5 (x_h M b74).2 ∧ (∀ M81, M81 = x_si M b74 x5.toNatClampNeg 1 → LX12_joins_179 G d rc rs p0 x1 x2 x3 x4 x5 (x_i M b6 ((40 * x2) + (x_i M b7 x5.toNatClampNeg)).toNatClampNeg) (x_i M b6 ((40 * x3) + (x_i M b12 x5.toNatClampNeg)).toNatClampNeg) 0 0 M81 Q))) ∧ (¬ (x_i M b6 ((40 * x2) + (x_i M b7 x5.toNatClampNeg)).toNatClampNeg) = 0 → ((x_i M b6 ((40 * x3) + (x_i M b12 x5.toNatClampNeg)).toNatClampNeg) = 0 → ∃ b83, x_r M p0 28 = some b83 ∧ ((0 : Int32) = 0 → (x_h M b83).1 = 1 ∧ vp_in x5 (x_h M b83).2 ∧ (∀ M87, M87 = x_si M b83 x5.toNatClampNeg 0 → LX12_joins_179 G d rc rs p0 x1 x2 x3 x4 x5 (x_i M b6 ((40 * x2) + (x_i M b7 x5.toNatClampNeg)).toNatClampNeg) (x_i M b6 ((40 * x3) + (x_i M b12 x5.toNatClampNeg)).toNatClampNeg) 0 0 M87 Q)) ∧ (¬ (0 : Int32) = 0 → (x_h M b83).1 = 1 ∧ vp_in x5 (x_h M b83).2 ∧ (∀ M90, M90 = x_si M b83 x5.toNatClampNeg 1 → LX12_joins_179 G d rc rs p0 x1 x2 x3 x4 x5 (x_i M b6 ((40 * x2) + (x_i M b7 x5.toNatClampNeg)).toNatClampNeg) (x_i M b6 ((40 * x3) + (x_i M b12 x5.toNatClampNeg)).toNatClampNeg) 0 0 M90 Q))) ∧ (¬ (x_i M b6 ((40 * x3) + (x_i M b12 x5.toNatClampNeg)).toNatClampNeg) = 0 → ∃ b91, x_r M p0 28 = some b91 ∧ ((1 : Int32) = 0 → (x_h M b91).1 = 1 ∧ vp_in x5 (x_h M b91).2 ∧ (∀ M95, M95 = x_si M b91 x5.toNatClampNeg 0 → LX12_joins_179 G d rc rs p0 x1 x2 x3 x4 x5 (x_i M b6 ((40 * x2) + (x_i M b7 x5.toNatClampNeg)).toNatClampNeg) (x_i M b6 ((40 * x3) + (x_i M b12 x5.toNatClampNeg)).toNatClampNeg) 1 0 M95 Q)) ∧ (¬ (1 : Int32) = 0 → (x_h M b91).1 = 1 ∧ vp_in x5 (x_h M b91).2 ∧ (∀ M98, M98 = x_si M b91 x5.toNatClampNeg 1 → LX12_joins_179 G d rc rs p0 x1 x2 x3 x4 x5 (x_i M b6 ((40 * x2) + (x_i M b7 x5.toNatClampNeg)).toNatClampNeg) (x_i M b6 ((40 * x3) + (x_i M b12 x5.toNatClampNeg)).toNatClampNeg) 1 0 M98 Q))))))))) : LX12_joins_39 G d rc rs p0 x1 x2 x3 x4 x5 z6 z7 z8 z9 M Q := by
  show Wk G (d + 1) rc rs mX12_joins 39 _ _ M Q
  refine r_iload (pc := 39) (i := 5) dX12_joins_39 rfl ?_
  refine r_aload_n (pc := 41) (i := 0) dX12_joins_41 rfl rfl ?_
  obtain ⟨k1, h⟩ := h
  refine r_geti (pc := 42) flX12_234 dX12_joins_42 (Or.inl rfl) k1 ?_
  refine r_icmp_ge (pc := 45) (tgt := 269) dX12_joins_45 (by decide) (fun c2 => ?_) (fun c2 => ?_)
  · replace h := h.1 c2
    refine r_aload_n (pc := 269) (i := 0) dX12_joins_269 rfl rfl ?_
    refine r_iload_n (pc := 270) (i := 1) dX12_joins_270 rfl rfl ?_
    refine r_callV (pc := 271) (ci := 12) (as := [_]) (st := []) okX12_becomes lkX12_429 inX12_becomes seX12_becomes ⟨_, rfl, rfl⟩ dX12_joins_271 rfl k1 (Nat.le_of_ble_eq_true rfl) (Nat.zero_le _) (Nat.zero_le _) (Call.mono h (fun r3 M4 h => ?_))
    obtain ⟨v5, rfl, h⟩ := h
    exact r_zret (pc := 274) dX12_joins_274 rfl h.1 h.2
  · replace h := h.2 c2
    refine r_aload_n (pc := 48) (i := 0) dX12_joins_48 rfl rfl ?_
    obtain ⟨b6, hb6, h⟩ := h
    refine r_getr (pc := 49) flX12_165 dX12_joins_49 rfl k1 hb6 ?_
    refine r_bipush (pc := 52) (v := 40) dX12_joins_52 (by decide) ?_
    refine r_iload_n (pc := 54) (i := 2) dX12_joins_54 rfl rfl ?_
    refine r_imul (pc := 55) dX12_joins_55 ?_
    refine r_aload_n (pc := 56) (i := 0) dX12_joins_56 rfl rfl ?_
    obtain ⟨b7, hb7, h⟩ := h
    refine r_getr (pc := 57) flX12_98 dX12_joins_57 rfl k1 hb7 ?_
    refine r_iload (pc := 60) (i := 5) dX12_joins_60 rfl ?_
    obtain ⟨k8, h⟩ := h
    obtain ⟨i9, h⟩ := h
    refine r_iald (pc := 62) dX12_joins_62 k8 i9 ?_
    refine r_iadd (pc := 63) dX12_joins_63 ?_
    obtain ⟨k10, h⟩ := h
    obtain ⟨i11, h⟩ := h
    refine r_zald (pc := 64) dX12_joins_64 k10 i11 ?_
    refine r_istore (pc := 65) (i := 6) dX12_joins_65 rfl (Nat.le_of_ble_eq_true rfl) ?_
    refine r_aload_n (pc := 67) (i := 0) dX12_joins_67 rfl rfl ?_
    refine r_getr (pc := 68) flX12_165 dX12_joins_68 rfl k1 hb6 ?_
    refine r_bipush (pc := 71) (v := 40) dX12_joins_71 (by decide) ?_
    refine r_iload_n (pc := 73) (i := 3) dX12_joins_73 rfl rfl ?_
    refine r_imul (pc := 74) dX12_joins_74 ?_
    refine r_aload_n (pc := 75) (i := 0) dX12_joins_75 rfl rfl ?_
    obtain ⟨b12, hb12, h⟩ := h
    refine r_getr (pc := 76) flX12_101 dX12_joins_76 rfl k1 hb12 ?_
    refine r_iload (pc := 79) (i := 5) dX12_joins_79 rfl ?_
    obtain ⟨k13, h⟩ := h
    obtain ⟨i14, h⟩ := h
    refine r_iald (pc := 81) dX12_joins_81 k13 i14 ?_
    refine r_iadd (pc := 82) dX12_joins_82 ?_
    obtain ⟨i15, h⟩ := h
    refine r_zald (pc := 83) dX12_joins_83 k10 i15 ?_
    refine r_istore (pc := 84) (i := 7) dX12_joins_84 rfl (Nat.le_of_ble_eq_true rfl) ?_
    refine r_aload_n (pc := 86) (i := 0) dX12_joins_86 rfl rfl ?_
    obtain ⟨b16, hb16, h⟩ := h
    refine r_getr (pc := 87) flX12_104 dX12_joins_87 rfl k1 hb16 ?_
    refine r_iload_n (pc := 90) (i := 1) dX12_joins_90 rfl rfl ?_
    obtain ⟨k17, h⟩ := h
    obtain ⟨i18, h⟩ := h
    refine r_iald (pc := 91) dX12_joins_91 k17 i18 ?_
    refine r_iconst (pc := 92) (v := 3) dX12_joins_92 (by decide) ?_
    refine r_icmp_ne (pc := 93) (tgt := 114) dX12_joins_93 (by decide) (fun c19 => ?_) (fun c19 => ?_)
    · replace h := h.1 c19
      refine r_aload_n (pc := 114) (i := 0) dX12_joins_114 rfl rfl ?_
      refine r_getr (pc := 115) flX12_104 dX12_joins_115 rfl k1 hb16 ?_
      refine r_iload_n (pc := 118) (i := 1) dX12_joins_118 rfl rfl ?_
      refine r_iald (pc := 119) dX12_joins_119 k17 i18 ?_
      refine r_iconst (pc := 120) (v := 4) dX12_joins_120 (by decide) ?_
      refine r_icmp_ne (pc := 121) (tgt := 142) dX12_joins_121 (by decide) (fun c20 => ?_) (fun c20 => ?_)
      · replace h := h.1 c20
        refine r_iload (pc := 142) (i := 6) dX12_joins_142 rfl ?_
        refine r_if_eq (pc := 144) (tgt := 152) dX12_joins_144 (by decide) (fun c21 => ?_) (fun c21 => ?_)
        · replace h := h.1 c21
          refine r_iconst (pc := 152) (v := 1) dX12_joins_152 (by decide) ?_
          refine r_goto (pc := 153) (tgt := 157) dX12_joins_153 (by decide) ?_
          refine r_istore (pc := 157) (i := 8) dX12_joins_157 rfl (Nat.le_of_ble_eq_true rfl) ?_
          refine r_aload_n (pc := 159) (i := 0) dX12_joins_159 rfl rfl ?_
          obtain ⟨b22, hb22, h⟩ := h
          refine r_getr (pc := 160) flX12_76 dX12_joins_160 rfl k1 hb22 ?_
          refine r_iload (pc := 163) (i := 5) dX12_joins_163 rfl ?_
          refine r_iload (pc := 165) (i := 8) dX12_joins_165 rfl ?_
          refine r_if_eq (pc := 167) (tgt := 174) dX12_joins_167 (by decide) (fun c23 => ?_) (fun c23 => ?_)
          · replace h := h.1 c23
            refine r_iconst (pc := 174) (v := 0) dX12_joins_174 (by decide) ?_
            obtain ⟨k24, h⟩ := h
            obtain ⟨i25, h⟩ := h
            refine r_iast (pc := 175) dX12_joins_175 k24 i25 ?_
            replace h := h _ rfl
            refine r_iconst (pc := 176) (v := 0) dX12_joins_176 (by decide) ?_
            refine r_istore (pc := 177) (i := 9) dX12_joins_177 rfl (Nat.le_of_ble_eq_true rfl) ?_
            exact h
          · replace h := h.2 c23
            refine r_iconst (pc := 170) (v := 1) dX12_joins_170 (by decide) ?_
            refine r_goto (pc := 171) (tgt := 175) dX12_joins_171 (by decide) ?_
            obtain ⟨k27, h⟩ := h
            obtain ⟨i28, h⟩ := h
            refine r_iast (pc := 175) dX12_joins_175 k27 i28 ?_
            replace h := h _ rfl
            refine r_iconst (pc := 176) (v := 0) dX12_joins_176 (by decide) ?_
            refine r_istore (pc := 177) (i := 9) dX12_joins_177 rfl (Nat.le_of_ble_eq_true rfl) ?_
            exact h
        · replace h := h.2 c21
          refine r_iload (pc := 147) (i := 7) dX12_joins_147 rfl ?_
          refine r_if_eq (pc := 149) (tgt := 156) dX12_joins_149 (by decide) (fun c30 => ?_) (fun c30 => ?_)
          · replace h := h.1 c30
            refine r_iconst (pc := 156) (v := 0) dX12_joins_156 (by decide) ?_
            refine r_istore (pc := 157) (i := 8) dX12_joins_157 rfl (Nat.le_of_ble_eq_true rfl) ?_
            refine r_aload_n (pc := 159) (i := 0) dX12_joins_159 rfl rfl ?_
            obtain ⟨b31, hb31, h⟩ := h
            refine r_getr (pc := 160) flX12_76 dX12_joins_160 rfl k1 hb31 ?_
            refine r_iload (pc := 163) (i := 5) dX12_joins_163 rfl ?_
            refine r_iload (pc := 165) (i := 8) dX12_joins_165 rfl ?_
            refine r_if_eq (pc := 167) (tgt := 174) dX12_joins_167 (by decide) (fun c32 => ?_) (fun c32 => ?_)
            · replace h := h.1 c32
              refine r_iconst (pc := 174) (v := 0) dX12_joins_174 (by decide) ?_
              obtain ⟨k33, h⟩ := h
              obtain ⟨i34, h⟩ := h
              refine r_iast (pc := 175) dX12_joins_175 k33 i34 ?_
              replace h := h _ rfl
              refine r_iconst (pc := 176) (v := 0) dX12_joins_176 (by decide) ?_
              refine r_istore (pc := 177) (i := 9) dX12_joins_177 rfl (Nat.le_of_ble_eq_true rfl) ?_
              exact h
            · replace h := h.2 c32
              refine r_iconst (pc := 170) (v := 1) dX12_joins_170 (by decide) ?_
              refine r_goto (pc := 171) (tgt := 175) dX12_joins_171 (by decide) ?_
              obtain ⟨k36, h⟩ := h
              obtain ⟨i37, h⟩ := h
              refine r_iast (pc := 175) dX12_joins_175 k36 i37 ?_
              replace h := h _ rfl
              refine r_iconst (pc := 176) (v := 0) dX12_joins_176 (by decide) ?_
              refine r_istore (pc := 177) (i := 9) dX12_joins_177 rfl (Nat.le_of_ble_eq_true rfl) ?_
              exact h
          · replace h := h.2 c30
            refine r_iconst (pc := 152) (v := 1) dX12_joins_152 (by decide) ?_
            refine r_goto (pc := 153) (tgt := 157) dX12_joins_153 (by decide) ?_
            refine r_istore (pc := 157) (i := 8) dX12_joins_157 rfl (Nat.le_of_ble_eq_true rfl) ?_
            refine r_aload_n (pc := 159) (i := 0) dX12_joins_159 rfl rfl ?_
            obtain ⟨b39, hb39, h⟩ := h
            refine r_getr (pc := 160) flX12_76 dX12_joins_160 rfl k1 hb39 ?_
            refine r_iload (pc := 163) (i := 5) dX12_joins_163 rfl ?_
            refine r_iload (pc := 165) (i := 8) dX12_joins_165 rfl ?_
            refine r_if_eq (pc := 167) (tgt := 174) dX12_joins_167 (by decide) (fun c40 => ?_) (fun c40 => ?_)
            · replace h := h.1 c40
              refine r_iconst (pc := 174) (v := 0) dX12_joins_174 (by decide) ?_
              obtain ⟨k41, h⟩ := h
              obtain ⟨i42, h⟩ := h
              refine r_iast (pc := 175) dX12_joins_175 k41 i42 ?_
              replace h := h _ rfl
              refine r_iconst (pc := 176) (v := 0) dX12_joins_176 (by decide) ?_
              refine r_istore (pc := 177) (i := 9) dX12_joins_177 rfl (Nat.le_of_ble_eq_true rfl) ?_
              exact h
            · replace h := h.2 c40
              refine r_iconst (pc := 170) (v := 1) dX12_joins_170 (by decide) ?_
              refine r_goto (pc := 171) (tgt := 175) dX12_joins_171 (by decide) ?_
              obtain ⟨k44, h⟩ := h
              obtain ⟨i45, h⟩ := h
              refine r_iast (pc := 175) dX12_joins_175 k44 i45 ?_
              replace h := h _ rfl
              refine r_iconst (pc := 176) (v := 0) dX12_joins_176 (by decide) ?_
              refine r_istore (pc := 177) (i := 9) dX12_joins_177 rfl (Nat.le_of_ble_eq_true rfl) ?_
              exact h
      · replace h := h.2 c20
        refine r_iload (pc := 124) (i := 6) dX12_joins_124 rfl ?_
        refine r_if_ne (pc := 126) (tgt := 134) dX12_joins_126 (by decide) (fun c47 => ?_) (fun c47 => ?_)
        · replace h := h.1 c47
          refine r_iconst (pc := 134) (v := 1) dX12_joins_134 (by decide) ?_
          refine r_goto (pc := 135) (tgt := 157) dX12_joins_135 (by decide) ?_
          refine r_istore (pc := 157) (i := 8) dX12_joins_157 rfl (Nat.le_of_ble_eq_true rfl) ?_
          refine r_aload_n (pc := 159) (i := 0) dX12_joins_159 rfl rfl ?_
          obtain ⟨b48, hb48, h⟩ := h
          refine r_getr (pc := 160) flX12_76 dX12_joins_160 rfl k1 hb48 ?_
          refine r_iload (pc := 163) (i := 5) dX12_joins_163 rfl ?_
          refine r_iload (pc := 165) (i := 8) dX12_joins_165 rfl ?_
          refine r_if_eq (pc := 167) (tgt := 174) dX12_joins_167 (by decide) (fun c49 => ?_) (fun c49 => ?_)
          · replace h := h.1 c49
            refine r_iconst (pc := 174) (v := 0) dX12_joins_174 (by decide) ?_
            obtain ⟨k50, h⟩ := h
            obtain ⟨i51, h⟩ := h
            refine r_iast (pc := 175) dX12_joins_175 k50 i51 ?_
            replace h := h _ rfl
            refine r_iconst (pc := 176) (v := 0) dX12_joins_176 (by decide) ?_
            refine r_istore (pc := 177) (i := 9) dX12_joins_177 rfl (Nat.le_of_ble_eq_true rfl) ?_
            exact h
          · replace h := h.2 c49
            refine r_iconst (pc := 170) (v := 1) dX12_joins_170 (by decide) ?_
            refine r_goto (pc := 171) (tgt := 175) dX12_joins_171 (by decide) ?_
            obtain ⟨k53, h⟩ := h
            obtain ⟨i54, h⟩ := h
            refine r_iast (pc := 175) dX12_joins_175 k53 i54 ?_
            replace h := h _ rfl
            refine r_iconst (pc := 176) (v := 0) dX12_joins_176 (by decide) ?_
            refine r_istore (pc := 177) (i := 9) dX12_joins_177 rfl (Nat.le_of_ble_eq_true rfl) ?_
            exact h
        · replace h := h.2 c47
          refine r_iload (pc := 129) (i := 7) dX12_joins_129 rfl ?_
          refine r_if_eq (pc := 131) (tgt := 138) dX12_joins_131 (by decide) (fun c56 => ?_) (fun c56 => ?_)
          · replace h := h.1 c56
            refine r_iconst (pc := 138) (v := 0) dX12_joins_138 (by decide) ?_
            refine r_goto (pc := 139) (tgt := 157) dX12_joins_139 (by decide) ?_
            refine r_istore (pc := 157) (i := 8) dX12_joins_157 rfl (Nat.le_of_ble_eq_true rfl) ?_
            refine r_aload_n (pc := 159) (i := 0) dX12_joins_159 rfl rfl ?_
            obtain ⟨b57, hb57, h⟩ := h
            refine r_getr (pc := 160) flX12_76 dX12_joins_160 rfl k1 hb57 ?_
            refine r_iload (pc := 163) (i := 5) dX12_joins_163 rfl ?_
            refine r_iload (pc := 165) (i := 8) dX12_joins_165 rfl ?_
            refine r_if_eq (pc := 167) (tgt := 174) dX12_joins_167 (by decide) (fun c58 => ?_) (fun c58 => ?_)
            · replace h := h.1 c58
              refine r_iconst (pc := 174) (v := 0) dX12_joins_174 (by decide) ?_
              obtain ⟨k59, h⟩ := h
              obtain ⟨i60, h⟩ := h
              refine r_iast (pc := 175) dX12_joins_175 k59 i60 ?_
              replace h := h _ rfl
              refine r_iconst (pc := 176) (v := 0) dX12_joins_176 (by decide) ?_
              refine r_istore (pc := 177) (i := 9) dX12_joins_177 rfl (Nat.le_of_ble_eq_true rfl) ?_
              exact h
            · replace h := h.2 c58
              refine r_iconst (pc := 170) (v := 1) dX12_joins_170 (by decide) ?_
              refine r_goto (pc := 171) (tgt := 175) dX12_joins_171 (by decide) ?_
              obtain ⟨k62, h⟩ := h
              obtain ⟨i63, h⟩ := h
              refine r_iast (pc := 175) dX12_joins_175 k62 i63 ?_
              replace h := h _ rfl
              refine r_iconst (pc := 176) (v := 0) dX12_joins_176 (by decide) ?_
              refine r_istore (pc := 177) (i := 9) dX12_joins_177 rfl (Nat.le_of_ble_eq_true rfl) ?_
              exact h
          · replace h := h.2 c56
            refine r_iconst (pc := 134) (v := 1) dX12_joins_134 (by decide) ?_
            refine r_goto (pc := 135) (tgt := 157) dX12_joins_135 (by decide) ?_
            refine r_istore (pc := 157) (i := 8) dX12_joins_157 rfl (Nat.le_of_ble_eq_true rfl) ?_
            refine r_aload_n (pc := 159) (i := 0) dX12_joins_159 rfl rfl ?_
            obtain ⟨b65, hb65, h⟩ := h
            refine r_getr (pc := 160) flX12_76 dX12_joins_160 rfl k1 hb65 ?_
            refine r_iload (pc := 163) (i := 5) dX12_joins_163 rfl ?_
            refine r_iload (pc := 165) (i := 8) dX12_joins_165 rfl ?_
            refine r_if_eq (pc := 167) (tgt := 174) dX12_joins_167 (by decide) (fun c66 => ?_) (fun c66 => ?_)
            · replace h := h.1 c66
              refine r_iconst (pc := 174) (v := 0) dX12_joins_174 (by decide) ?_
              obtain ⟨k67, h⟩ := h
              obtain ⟨i68, h⟩ := h
              refine r_iast (pc := 175) dX12_joins_175 k67 i68 ?_
              replace h := h _ rfl
              refine r_iconst (pc := 176) (v := 0) dX12_joins_176 (by decide) ?_
              refine r_istore (pc := 177) (i := 9) dX12_joins_177 rfl (Nat.le_of_ble_eq_true rfl) ?_
              exact h
            · replace h := h.2 c66
              refine r_iconst (pc := 170) (v := 1) dX12_joins_170 (by decide) ?_
              refine r_goto (pc := 171) (tgt := 175) dX12_joins_171 (by decide) ?_
              obtain ⟨k70, h⟩ := h
              obtain ⟨i71, h⟩ := h
              refine r_iast (pc := 175) dX12_joins_175 k70 i71 ?_
              replace h := h _ rfl
              refine r_iconst (pc := 176) (v := 0) dX12_joins_176 (by decide) ?_
              refine r_istore (pc := 177) (i := 9) dX12_joins_177 rfl (Nat.le_of_ble_eq_true rfl) ?_
              exact h
    · replace h := h.2 c19
      refine r_iload (pc := 96) (i := 6) dX12_joins_96 rfl ?_
      refine r_if_eq (pc := 98) (tgt := 110) dX12_joins_98 (by decide) (fun c73 => ?_) (fun c73 => ?_)
      · replace h := h.1 c73
        refine r_iconst (pc := 110) (v := 0) dX12_joins_110 (by decide) ?_
        refine r_goto (pc := 111) (tgt := 157) dX12_joins_111 (by decide) ?_
        refine r_istore (pc := 157) (i := 8) dX12_joins_157 rfl (Nat.le_of_ble_eq_true rfl) ?_
        refine r_aload_n (pc := 159) (i := 0) dX12_joins_159 rfl rfl ?_
        obtain ⟨b74, hb74, h⟩ := h
        refine r_getr (pc := 160) flX12_76 dX12_joins_160 rfl k1 hb74 ?_
        refine r_iload (pc := 163) (i := 5) dX12_joins_163 rfl ?_
        refine r_iload (pc := 165) (i := 8) dX12_joins_165 rfl ?_
        refine r_if_eq (pc := 167) (tgt := 174) dX12_joins_167 (by decide) (fun c75 => ?_) (fun c75 => ?_)
        · replace h := h.1 c75
          refine r_iconst (pc := 174) (v := 0) dX12_joins_174 (by decide) ?_
          obtain ⟨k76, h⟩ := h
          obtain ⟨i77, h⟩ := h
          refine r_iast (pc := 175) dX12_joins_175 k76 i77 ?_
          replace h := h _ rfl
          refine r_iconst (pc := 176) (v := 0) dX12_joins_176 (by decide) ?_
          refine r_istore (pc := 177) (i := 9) dX12_joins_177 rfl (Nat.le_of_ble_eq_true rfl) ?_
          exact h
        · replace h := h.2 c75
          refine r_iconst (pc := 170) (v := 1) dX12_joins_170 (by decide) ?_
          refine r_goto (pc := 171) (tgt := 175) dX12_joins_171 (by decide) ?_
          obtain ⟨k79, h⟩ := h
          obtain ⟨i80, h⟩ := h
          refine r_iast (pc := 175) dX12_joins_175 k79 i80 ?_
          replace h := h _ rfl
          refine r_iconst (pc := 176) (v := 0) dX12_joins_176 (by decide) ?_
          refine r_istore (pc := 177) (i := 9) dX12_joins_177 rfl (Nat.le_of_ble_eq_true rfl) ?_
          exact h
      · replace h := h.2 c73
        refine r_iload (pc := 101) (i := 7) dX12_joins_101 rfl ?_
        refine r_if_eq (pc := 103) (tgt := 110) dX12_joins_103 (by decide) (fun c82 => ?_) (fun c82 => ?_)
        · replace h := h.1 c82
          refine r_iconst (pc := 110) (v := 0) dX12_joins_110 (by decide) ?_
          refine r_goto (pc := 111) (tgt := 157) dX12_joins_111 (by decide) ?_
          refine r_istore (pc := 157) (i := 8) dX12_joins_157 rfl (Nat.le_of_ble_eq_true rfl) ?_
          refine r_aload_n (pc := 159) (i := 0) dX12_joins_159 rfl rfl ?_
          obtain ⟨b83, hb83, h⟩ := h
          refine r_getr (pc := 160) flX12_76 dX12_joins_160 rfl k1 hb83 ?_
          refine r_iload (pc := 163) (i := 5) dX12_joins_163 rfl ?_
          refine r_iload (pc := 165) (i := 8) dX12_joins_165 rfl ?_
          refine r_if_eq (pc := 167) (tgt := 174) dX12_joins_167 (by decide) (fun c84 => ?_) (fun c84 => ?_)
          · replace h := h.1 c84
            refine r_iconst (pc := 174) (v := 0) dX12_joins_174 (by decide) ?_
            obtain ⟨k85, h⟩ := h
            obtain ⟨i86, h⟩ := h
            refine r_iast (pc := 175) dX12_joins_175 k85 i86 ?_
            replace h := h _ rfl
            refine r_iconst (pc := 176) (v := 0) dX12_joins_176 (by decide) ?_
            refine r_istore (pc := 177) (i := 9) dX12_joins_177 rfl (Nat.le_of_ble_eq_true rfl) ?_
            exact h
          · replace h := h.2 c84
            refine r_iconst (pc := 170) (v := 1) dX12_joins_170 (by decide) ?_
            refine r_goto (pc := 171) (tgt := 175) dX12_joins_171 (by decide) ?_
            obtain ⟨k88, h⟩ := h
            obtain ⟨i89, h⟩ := h
            refine r_iast (pc := 175) dX12_joins_175 k88 i89 ?_
            replace h := h _ rfl
            refine r_iconst (pc := 176) (v := 0) dX12_joins_176 (by decide) ?_
            refine r_istore (pc := 177) (i := 9) dX12_joins_177 rfl (Nat.le_of_ble_eq_true rfl) ?_
            exact h
        · replace h := h.2 c82
          refine r_iconst (pc := 106) (v := 1) dX12_joins_106 (by decide) ?_
          refine r_goto (pc := 107) (tgt := 157) dX12_joins_107 (by decide) ?_
          refine r_istore (pc := 157) (i := 8) dX12_joins_157 rfl (Nat.le_of_ble_eq_true rfl) ?_
          refine r_aload_n (pc := 159) (i := 0) dX12_joins_159 rfl rfl ?_
          obtain ⟨b91, hb91, h⟩ := h
          refine r_getr (pc := 160) flX12_76 dX12_joins_160 rfl k1 hb91 ?_
          refine r_iload (pc := 163) (i := 5) dX12_joins_163 rfl ?_
          refine r_iload (pc := 165) (i := 8) dX12_joins_165 rfl ?_
          refine r_if_eq (pc := 167) (tgt := 174) dX12_joins_167 (by decide) (fun c92 => ?_) (fun c92 => ?_)
          · replace h := h.1 c92
            refine r_iconst (pc := 174) (v := 0) dX12_joins_174 (by decide) ?_
            obtain ⟨k93, h⟩ := h
            obtain ⟨i94, h⟩ := h
            refine r_iast (pc := 175) dX12_joins_175 k93 i94 ?_
            replace h := h _ rfl
            refine r_iconst (pc := 176) (v := 0) dX12_joins_176 (by decide) ?_
            refine r_istore (pc := 177) (i := 9) dX12_joins_177 rfl (Nat.le_of_ble_eq_true rfl) ?_
            exact h
          · replace h := h.2 c92
            refine r_iconst (pc := 170) (v := 1) dX12_joins_170 (by decide) ?_
            refine r_goto (pc := 171) (tgt := 175) dX12_joins_171 (by decide) ?_
            obtain ⟨k96, h⟩ := h
            obtain ⟨i97, h⟩ := h
            refine r_iast (pc := 175) dX12_joins_175 k96 i97 ?_
            replace h := h _ rfl
            refine r_iconst (pc := 176) (v := 0) dX12_joins_176 (by decide) ?_
            refine r_istore (pc := 177) (i := 9) dX12_joins_177 rfl (Nat.le_of_ble_eq_true rfl) ?_
            exact h
theorem vX12_joins_179 {G : GG} {d rc rs : Nat} (p0 : Nat) (x1 : Int32) (x2 : Int32) (x3 : Int32) (x4 : Int32) (x5 : Int32) (x6 : Int32) (x7 : Int32) (x8 : Int32) (x9 : Int32)  {M : Mem} {Q : Option Value → Mem → Prop} (h : (x_h M p0).1 = 28 ∧ ((x_i M p0 26) ≤ x9 → LX12_joins_39 G d rc rs p0 x1 x2 x3 x4 (x5 + 1) (some (.int x6)) (some (.int x7)) (some (.int x8)) (some (.int x9)) M Q) ∧ (¬ (x_i M p0 26) ≤ x9 → ∃ b3, x_r M p0 27 = some b3 ∧ ∃ b4, x_r M p0 36 = some b4 ∧ (x_h M b4).1 = 1 ∧ vp_in x5 (x_h M b4).2 ∧ (∃ b7, x_r M p0 53 = some b7 ∧ (x_h M b7).1 = 1 ∧ vp_in x2 (x_h M b7).2 ∧ Call G d 0 0 mX12_within [.ref p0, .int x9, .int x4, .int (x_i M b7 x2.toNatClampNeg)] M (fun r10 M11 => ∃ v12 : Int32, r10 = some (.int v12) ∧ (x_h M11 p0).1 = 28 ∧ Call G d 0 0 mX12_pTo [.ref p0, .int x2, .int (x_i M b4 x5.toNatClampNeg), .int v12] M11 (fun r14 M15 => ∃ v16 : Int32, r14 = some (.int v16) ∧ (x_h M15 p0).1 = 28 ∧ (∃ b18, x_r M15 p0 37 = some b18 ∧ (x_h M15 b18).1 = 1 ∧ vp_in x5 (x_h M15 b18).2 ∧ (∃ b21, x_r M15 p0 53 = some b21 ∧ (x_h M15 b21).1 = 1 ∧ vp_in x3 (x_h M15 b21).2 ∧ Call G d 0 0 mX12_within [.ref p0, .int x9, .int x4, .int (x_i M15 b21 x3.toNatClampNeg)] M15 (fun r24 M25 => ∃ v26 : Int32, r24 = some (.int v26) ∧ (x_h M25 p0).1 = 28 ∧ Call G d 0 0 mX12_pTo [.ref p0, .int x3, .int (x_i M15 b18 x5.toNatClampNeg), .int v26] M25 (fun r28 M29 => ∃ v30 : Int32, r28 = some (.int v30) ∧ (x_h M29 p0).1 = 28 ∧ Call G d 0 0 mX12_paired [.ref p0, .int v16, .int v30] M29 (fun r32 M33 => ∃ v34 : Int32, r32 = some (.int v34) ∧ (x_h M33 b3).1 = 1 ∧ vp_in ((27 * x5) + x9) (x_h M33 b3).2 ∧ (∀ M37, M37 = x_si M33 b3 ((27 * x5) + x9).toNatClampNeg v34 → LX12_joins_179 G d rc rs p0 x1 x2 x3 x4 x5 x6 x7 x8 (x9 + 1) M37 Q))))))))))) : LX12_joins_179 G d rc rs p0 x1 x2 x3 x4 x5 x6 x7 x8 x9 M Q := by
  show Wk G (d + 1) rc rs mX12_joins 179 _ _ M Q
  refine r_iload (pc := 179) (i := 9) dX12_joins_179 rfl ?_
  refine r_aload_n (pc := 181) (i := 0) dX12_joins_181 rfl rfl ?_
  obtain ⟨k1, h⟩ := h
  refine r_geti (pc := 182) flX12_226 dX12_joins_182 (Or.inl rfl) k1 ?_
  refine r_icmp_ge (pc := 185) (tgt := 263) dX12_joins_185 (by decide) (fun c2 => ?_) (fun c2 => ?_)
  · replace h := h.1 c2
    refine r_iinc (pc := 263) (i := 5) (v := _ + 1) dX12_joins_263 rfl rfl rfl ?_
    refine r_goto (pc := 266) (tgt := 39) dX12_joins_266 (by decide) ?_
    exact h
  · replace h := h.2 c2
    refine r_aload_n (pc := 188) (i := 0) dX12_joins_188 rfl rfl ?_
    obtain ⟨b3, hb3, h⟩ := h
    refine r_getr (pc := 189) flX12_73 dX12_joins_189 rfl k1 hb3 ?_
    refine r_bipush (pc := 192) (v := 27) dX12_joins_192 (by decide) ?_
    refine r_iload (pc := 194) (i := 5) dX12_joins_194 rfl ?_
    refine r_imul (pc := 196) dX12_joins_196 ?_
    refine r_iload (pc := 197) (i := 9) dX12_joins_197 rfl ?_
    refine r_iadd (pc := 199) dX12_joins_199 ?_
    refine r_aload_n (pc := 200) (i := 0) dX12_joins_200 rfl rfl ?_
    refine r_aload_n (pc := 201) (i := 0) dX12_joins_201 rfl rfl ?_
    refine r_iload_n (pc := 202) (i := 2) dX12_joins_202 rfl rfl ?_
    refine r_aload_n (pc := 203) (i := 0) dX12_joins_203 rfl rfl ?_
    obtain ⟨b4, hb4, h⟩ := h
    refine r_getr (pc := 204) flX12_98 dX12_joins_204 rfl k1 hb4 ?_
    refine r_iload (pc := 207) (i := 5) dX12_joins_207 rfl ?_
    obtain ⟨k5, h⟩ := h
    obtain ⟨i6, h⟩ := h
    refine r_iald (pc := 209) dX12_joins_209 k5 i6 ?_
    refine r_aload_n (pc := 210) (i := 0) dX12_joins_210 rfl rfl ?_
    refine r_iload (pc := 211) (i := 9) dX12_joins_211 rfl ?_
    refine r_iload (pc := 213) (i := 4) dX12_joins_213 rfl ?_
    refine r_aload_n (pc := 215) (i := 0) dX12_joins_215 rfl rfl ?_
    obtain ⟨b7, hb7, h⟩ := h
    refine r_getr (pc := 216) flX12_119 dX12_joins_216 rfl k1 hb7 ?_
    refine r_iload_n (pc := 219) (i := 2) dX12_joins_219 rfl rfl ?_
    obtain ⟨k8, h⟩ := h
    obtain ⟨i9, h⟩ := h
    refine r_iald (pc := 220) dX12_joins_220 k8 i9 ?_
    refine r_callV (pc := 221) (ci := 12) (as := [_, _, _]) (st := [_, _, _, _, _, _]) okX12_within lkX12_423 inX12_within seX12_within ⟨_, rfl, rfl⟩ dX12_joins_221 rfl k1 (Nat.le_of_ble_eq_true rfl) (Nat.zero_le _) (Nat.zero_le _) (Call.mono h (fun r10 M11 h => ?_))
    obtain ⟨v12, rfl, h⟩ := h
    obtain ⟨k13, h⟩ := h
    refine r_callV (pc := 224) (ci := 12) (as := [_, _, _]) (st := [_, _, _]) okX12_pTo lkX12_426 inX12_pTo seX12_pTo ⟨_, rfl, rfl⟩ dX12_joins_224 rfl k13 (Nat.le_of_ble_eq_true rfl) (Nat.zero_le _) (Nat.zero_le _) (Call.mono h (fun r14 M15 h => ?_))
    obtain ⟨v16, rfl, h⟩ := h
    refine r_aload_n (pc := 227) (i := 0) dX12_joins_227 rfl rfl ?_
    refine r_iload_n (pc := 228) (i := 3) dX12_joins_228 rfl rfl ?_
    refine r_aload_n (pc := 229) (i := 0) dX12_joins_229 rfl rfl ?_
    obtain ⟨k17, h⟩ := h
    obtain ⟨b18, hb18, h⟩ := h
    refine r_getr (pc := 230) flX12_101 dX12_joins_230 rfl k17 hb18 ?_
    refine r_iload (pc := 233) (i := 5) dX12_joins_233 rfl ?_
    obtain ⟨k19, h⟩ := h
    obtain ⟨i20, h⟩ := h
    refine r_iald (pc := 235) dX12_joins_235 k19 i20 ?_
    refine r_aload_n (pc := 236) (i := 0) dX12_joins_236 rfl rfl ?_
    refine r_iload (pc := 237) (i := 9) dX12_joins_237 rfl ?_
    refine r_iload (pc := 239) (i := 4) dX12_joins_239 rfl ?_
    refine r_aload_n (pc := 241) (i := 0) dX12_joins_241 rfl rfl ?_
    obtain ⟨b21, hb21, h⟩ := h
    refine r_getr (pc := 242) flX12_119 dX12_joins_242 rfl k17 hb21 ?_
    refine r_iload_n (pc := 245) (i := 3) dX12_joins_245 rfl rfl ?_
    obtain ⟨k22, h⟩ := h
    obtain ⟨i23, h⟩ := h
    refine r_iald (pc := 246) dX12_joins_246 k22 i23 ?_
    refine r_callV (pc := 247) (ci := 12) (as := [_, _, _]) (st := [_, _, _, _, _, _, _]) okX12_within lkX12_423 inX12_within seX12_within ⟨_, rfl, rfl⟩ dX12_joins_247 rfl k17 (Nat.le_of_ble_eq_true rfl) (Nat.zero_le _) (Nat.zero_le _) (Call.mono h (fun r24 M25 h => ?_))
    obtain ⟨v26, rfl, h⟩ := h
    obtain ⟨k27, h⟩ := h
    refine r_callV (pc := 250) (ci := 12) (as := [_, _, _]) (st := [_, _, _, _]) okX12_pTo lkX12_426 inX12_pTo seX12_pTo ⟨_, rfl, rfl⟩ dX12_joins_250 rfl k27 (Nat.le_of_ble_eq_true rfl) (Nat.zero_le _) (Nat.zero_le _) (Call.mono h (fun r28 M29 h => ?_))
    obtain ⟨v30, rfl, h⟩ := h
    obtain ⟨k31, h⟩ := h
    refine r_callV (pc := 253) (ci := 12) (as := [_, _]) (st := [_, _]) okX12_paired lkX12_272 inX12_paired seX12_paired ⟨_, rfl, rfl⟩ dX12_joins_253 rfl k31 (Nat.le_of_ble_eq_true rfl) (Nat.zero_le _) (Nat.zero_le _) (Call.mono h (fun r32 M33 h => ?_))
    obtain ⟨v34, rfl, h⟩ := h
    obtain ⟨k35, h⟩ := h
    obtain ⟨i36, h⟩ := h
    refine r_iast (pc := 256) dX12_joins_256 k35 i36 ?_
    replace h := h _ rfl
    refine r_iinc (pc := 257) (i := 9) (v := _ + 1) dX12_joins_257 rfl rfl rfl ?_
    refine r_goto (pc := 260) (tgt := 179) dX12_joins_260 (by decide) ?_
    exact h
abbrev LX12_copy_26 (G : GG) (d rc rs : Nat) (p0 : Nat) (x1 : Int32) (x2 : Int32) (x3 : Int32) (z4 : Option Value) (M : Mem) (Q : Option Value → Mem → Prop) : Prop := Wk G (d + 1) rc rs mX12_copy 26 [some (.ref p0), some (.int x1), some (.int x2), some (.int x3), z4] [] M Q
abbrev LX12_copy_63 (G : GG) (d rc rs : Nat) (p0 : Nat) (x1 : Int32) (x2 : Int32) (x3 : Int32) (x4 : Int32) (M : Mem) (Q : Option Value → Mem → Prop) : Prop := Wk G (d + 1) rc rs mX12_copy 63 [some (.ref p0), some (.int x1), some (.int x2), some (.int x3), some (.int x4)] [] M Q
theorem eX12_copy {G : GG} {d rc rs : Nat} (o : Nat) (a1 : Int32) (a2 : Int32)  {M : Mem} {Q : Option Value → Mem → Prop} (h : (x_h M o).1 = 28 ∧ (∃ b2, x_r M o 73 = some b2 ∧ (x_h M b2).1 = 1 ∧ vp_in a1 (x_h M b2).2 ∧ (∀ M5, M5 = x_si M o 25 (x_i M b2 a1.toNatClampNeg) → ∃ b6, x_r M5 o 53 = some b6 ∧ (x_h M b6).1 = 1 ∧ vp_in a1 (x_h M b6).2 ∧ Call G d 0 0 mX12_across [.ref o, .int (x_i M5 b6 a1.toNatClampNeg)] M5 (fun r9 M10 => ∃ v11 : Int32, r9 = some (.int v11) ∧ (x_h M10 o).1 = 28 ∧ (∀ M13, M13 = x_si M10 o 26 v11 → LX12_copy_26 G d rc rs o a1 a2 0 none M13 Q))))) : Call G (d + 1) rc rs mX12_copy [.ref o, .int a1, .int a2] M Q := by
  refine call_of (by decide) (Nat.le_of_ble_eq_true rfl) ?_
  show Wk G (d + 1) rc rs mX12_copy 0 [some (.ref o), some (.int a1), some (.int a2), none, none] [] M Q
  refine r_aload_n (pc := 0) (i := 0) dX12_copy_0 rfl rfl ?_
  refine r_aload_n (pc := 1) (i := 0) dX12_copy_1 rfl rfl ?_
  obtain ⟨k1, h⟩ := h
  obtain ⟨b2, hb2, h⟩ := h
  refine r_getr (pc := 2) flX12_158 dX12_copy_2 rfl k1 hb2 ?_
  refine r_iload_n (pc := 5) (i := 1) dX12_copy_5 rfl rfl ?_
  obtain ⟨k3, h⟩ := h
  obtain ⟨i4, h⟩ := h
  refine r_iald (pc := 6) dX12_copy_6 k3 i4 ?_
  refine r_puti (pc := 7) flX12_234 dX12_copy_7 (Or.inl rfl) (fun q hq => by cases hq; rfl) k1 ?_
  replace h := h _ rfl
  refine r_aload_n (pc := 10) (i := 0) dX12_copy_10 rfl rfl ?_
  refine r_aload_n (pc := 11) (i := 0) dX12_copy_11 rfl rfl ?_
  refine r_aload_n (pc := 12) (i := 0) dX12_copy_12 rfl rfl ?_
  obtain ⟨b6, hb6, h⟩ := h
  refine r_getr (pc := 13) flX12_119 dX12_copy_13 rfl k1 hb6 ?_
  refine r_iload_n (pc := 16) (i := 1) dX12_copy_16 rfl rfl ?_
  obtain ⟨k7, h⟩ := h
  obtain ⟨i8, h⟩ := h
  refine r_iald (pc := 17) dX12_copy_17 k7 i8 ?_
  refine r_callV (pc := 18) (ci := 12) (as := [_]) (st := [_]) okX12_across lkX12_417 inX12_across seX12_across ⟨_, rfl, rfl⟩ dX12_copy_18 rfl k1 (Nat.le_of_ble_eq_true rfl) (Nat.zero_le _) (Nat.zero_le _) (Call.mono h (fun r9 M10 h => ?_))
  obtain ⟨v11, rfl, h⟩ := h
  obtain ⟨k12, h⟩ := h
  refine r_puti (pc := 21) flX12_226 dX12_copy_21 (Or.inl rfl) (fun q hq => by cases hq; rfl) k12 ?_
  replace h := h _ rfl
  refine r_iconst (pc := 24) (v := 0) dX12_copy_24 (by decide) ?_
  refine r_istore_n (pc := 25) (i := 3) dX12_copy_25 rfl rfl (Nat.le_of_ble_eq_true rfl) ?_
  exact h
theorem vX12_copy_26 {G : GG} {d rc rs : Nat} (p0 : Nat) (x1 : Int32) (x2 : Int32) (x3 : Int32) (z4 : Option Value) (hz4 : c1 z4 = true) {M : Mem} {Q : Option Value → Mem → Prop} (h : (x_h M p0).1 = 28 ∧ ((x_i M p0 25) ≤ x3 → Q none M) ∧ (¬ (x_i M p0 25) ≤ x3 → ∃ b3, x_r M p0 28 = some b3 ∧ ∃ b4, x_r M p0 75 = some b4 ∧ (x_h M b4).1 = 3 ∧ vp_in ((40 * x1) + x3) (x_h M b4).2 ∧ ((x_i M b4 ((40 * x1) + x3).toNatClampNeg) = x2 → (x_h M b3).1 = 1 ∧ vp_in x3 (x_h M b3).2 ∧ (∀ M10, M10 = x_si M b3 x3.toNatClampNeg 0 → LX12_copy_63 G d rc rs p0 x1 x2 x3 0 M10 Q)) ∧ (¬ (x_i M b4 ((40 * x1) + x3).toNatClampNeg) = x2 → (x_h M b3).1 = 1 ∧ vp_in x3 (x_h M b3).2 ∧ (∀ M13, M13 = x_si M b3 x3.toNatClampNeg 1 → LX12_copy_63 G d rc rs p0 x1 x2 x3 0 M13 Q)))) : LX12_copy_26 G d rc rs p0 x1 x2 x3 z4 M Q := by
  show Wk G (d + 1) rc rs mX12_copy 26 _ _ M Q
  refine r_iload_n (pc := 26) (i := 3) dX12_copy_26 rfl rfl ?_
  refine r_aload_n (pc := 27) (i := 0) dX12_copy_27 rfl rfl ?_
  obtain ⟨k1, h⟩ := h
  refine r_geti (pc := 28) flX12_234 dX12_copy_28 (Or.inl rfl) k1 ?_
  refine r_icmp_ge (pc := 31) (tgt := 104) dX12_copy_31 (by decide) (fun c2 => ?_) (fun c2 => ?_)
  · replace h := h.1 c2
    exact r_vret (pc := 104) dX12_copy_104 rfl h
  · replace h := h.2 c2
    refine r_aload_n (pc := 34) (i := 0) dX12_copy_34 rfl rfl ?_
    obtain ⟨b3, hb3, h⟩ := h
    refine r_getr (pc := 35) flX12_76 dX12_copy_35 rfl k1 hb3 ?_
    refine r_iload_n (pc := 38) (i := 3) dX12_copy_38 rfl rfl ?_
    refine r_aload_n (pc := 39) (i := 0) dX12_copy_39 rfl rfl ?_
    obtain ⟨b4, hb4, h⟩ := h
    refine r_getr (pc := 40) flX12_165 dX12_copy_40 rfl k1 hb4 ?_
    refine r_bipush (pc := 43) (v := 40) dX12_copy_43 (by decide) ?_
    refine r_iload_n (pc := 45) (i := 1) dX12_copy_45 rfl rfl ?_
    refine r_imul (pc := 46) dX12_copy_46 ?_
    refine r_iload_n (pc := 47) (i := 3) dX12_copy_47 rfl rfl ?_
    refine r_iadd (pc := 48) dX12_copy_48 ?_
    obtain ⟨k5, h⟩ := h
    obtain ⟨i6, h⟩ := h
    refine r_zald (pc := 49) dX12_copy_49 k5 i6 ?_
    refine r_iload_n (pc := 50) (i := 2) dX12_copy_50 rfl rfl ?_
    refine r_icmp_eq (pc := 51) (tgt := 58) dX12_copy_51 (by decide) (fun c7 => ?_) (fun c7 => ?_)
    · replace h := h.1 c7
      refine r_iconst (pc := 58) (v := 0) dX12_copy_58 (by decide) ?_
      obtain ⟨k8, h⟩ := h
      obtain ⟨i9, h⟩ := h
      refine r_iast (pc := 59) dX12_copy_59 k8 i9 ?_
      replace h := h _ rfl
      refine r_iconst (pc := 60) (v := 0) dX12_copy_60 (by decide) ?_
      refine r_istore (pc := 61) (i := 4) dX12_copy_61 rfl (Nat.le_of_ble_eq_true rfl) ?_
      exact h
    · replace h := h.2 c7
      refine r_iconst (pc := 54) (v := 1) dX12_copy_54 (by decide) ?_
      refine r_goto (pc := 55) (tgt := 59) dX12_copy_55 (by decide) ?_
      obtain ⟨k11, h⟩ := h
      obtain ⟨i12, h⟩ := h
      refine r_iast (pc := 59) dX12_copy_59 k11 i12 ?_
      replace h := h _ rfl
      refine r_iconst (pc := 60) (v := 0) dX12_copy_60 (by decide) ?_
      refine r_istore (pc := 61) (i := 4) dX12_copy_61 rfl (Nat.le_of_ble_eq_true rfl) ?_
      exact h
theorem vX12_copy_63 {G : GG} {d rc rs : Nat} (p0 : Nat) (x1 : Int32) (x2 : Int32) (x3 : Int32) (x4 : Int32)  {M : Mem} {Q : Option Value → Mem → Prop} (h : (x_h M p0).1 = 28 ∧ ((x_i M p0 26) ≤ x4 → LX12_copy_26 G d rc rs p0 x1 x2 (x3 + 1) (some (.int x4)) M Q) ∧ (¬ (x_i M p0 26) ≤ x4 → ∃ b3, x_r M p0 27 = some b3 ∧ Call G d 0 0 mX12_pTo [.ref p0, .int x1, .int x3, .int x4] M (fun r4 M5 => ∃ v6 : Int32, r4 = some (.int v6) ∧ (x_h M5 b3).1 = 1 ∧ vp_in ((27 * x3) + x4) (x_h M5 b3).2 ∧ (∀ M9, M9 = x_si M5 b3 ((27 * x3) + x4).toNatClampNeg v6 → LX12_copy_63 G d rc rs p0 x1 x2 x3 (x4 + 1) M9 Q)))) : LX12_copy_63 G d rc rs p0 x1 x2 x3 x4 M Q := by
  show Wk G (d + 1) rc rs mX12_copy 63 _ _ M Q
  refine r_iload (pc := 63) (i := 4) dX12_copy_63 rfl ?_
  refine r_aload_n (pc := 65) (i := 0) dX12_copy_65 rfl rfl ?_
  obtain ⟨k1, h⟩ := h
  refine r_geti (pc := 66) flX12_226 dX12_copy_66 (Or.inl rfl) k1 ?_
  refine r_icmp_ge (pc := 69) (tgt := 98) dX12_copy_69 (by decide) (fun c2 => ?_) (fun c2 => ?_)
  · replace h := h.1 c2
    refine r_iinc (pc := 98) (i := 3) (v := _ + 1) dX12_copy_98 rfl rfl rfl ?_
    refine r_goto (pc := 101) (tgt := 26) dX12_copy_101 (by decide) ?_
    exact h
  · replace h := h.2 c2
    refine r_aload_n (pc := 72) (i := 0) dX12_copy_72 rfl rfl ?_
    obtain ⟨b3, hb3, h⟩ := h
    refine r_getr (pc := 73) flX12_73 dX12_copy_73 rfl k1 hb3 ?_
    refine r_bipush (pc := 76) (v := 27) dX12_copy_76 (by decide) ?_
    refine r_iload_n (pc := 78) (i := 3) dX12_copy_78 rfl rfl ?_
    refine r_imul (pc := 79) dX12_copy_79 ?_
    refine r_iload (pc := 80) (i := 4) dX12_copy_80 rfl ?_
    refine r_iadd (pc := 82) dX12_copy_82 ?_
    refine r_aload_n (pc := 83) (i := 0) dX12_copy_83 rfl rfl ?_
    refine r_iload_n (pc := 84) (i := 1) dX12_copy_84 rfl rfl ?_
    refine r_iload_n (pc := 85) (i := 3) dX12_copy_85 rfl rfl ?_
    refine r_iload (pc := 86) (i := 4) dX12_copy_86 rfl ?_
    refine r_callV (pc := 88) (ci := 12) (as := [_, _, _]) (st := [_, _]) okX12_pTo lkX12_426 inX12_pTo seX12_pTo ⟨_, rfl, rfl⟩ dX12_copy_88 rfl k1 (Nat.le_of_ble_eq_true rfl) (Nat.zero_le _) (Nat.zero_le _) (Call.mono h (fun r4 M5 h => ?_))
    obtain ⟨v6, rfl, h⟩ := h
    obtain ⟨k7, h⟩ := h
    obtain ⟨i8, h⟩ := h
    refine r_iast (pc := 91) dX12_copy_91 k7 i8 ?_
    replace h := h _ rfl
    refine r_iinc (pc := 92) (i := 4) (v := _ + 1) dX12_copy_92 rfl rfl rfl ?_
    refine r_goto (pc := 95) (tgt := 63) dX12_copy_95 (by decide) ?_
    exact h
abbrev LX12_setOf_2 (G : GG) (d rc rs : Nat) (p0 : Nat) (l1 : Int64) (x3 : Int32) (M : Mem) (Q : Option Value → Mem → Prop) : Prop := Wk G (d + 1) rc rs mX12_setOf 2 [some (.ref p0), some (.long l1), none, some (.int x3)] [] M Q
theorem eX12_setOf {G : GG} {d rc rs : Nat} (o : Nat) (a1 : Int64)  {M : Mem} {Q : Option Value → Mem → Prop} (h : LX12_setOf_2 G d rc rs o a1 0 M Q) : Call G (d + 1) rc rs mX12_setOf [.ref o, .long a1] M Q := by
  refine call_of (by decide) (Nat.le_of_ble_eq_true rfl) ?_
  show Wk G (d + 1) rc rs mX12_setOf 0 [some (.ref o), some (.long a1), none, none] [] M Q
  refine r_iconst (pc := 0) (v := 0) dX12_setOf_0 (by decide) ?_
  refine r_istore_n (pc := 1) (i := 3) dX12_setOf_1 rfl rfl (Nat.le_of_ble_eq_true rfl) ?_
  exact h
theorem vX12_setOf_2 {G : GG} {d rc rs : Nat} (p0 : Nat) (l1 : Int64) (x3 : Int32)  {M : Mem} {Q : Option Value → Mem → Prop} (h : (x_h M p0).1 = 28 ∧ ((x_i M p0 25) ≤ x3 → (300 < (x_i M p0 25) → ∀ M4, M4 = x_si M p0 25 ((x_i M p0 25) + 1) → Q (some (.int ((x_i M4 p0 25) - 1))) M4) ∧ (¬ 300 < (x_i M p0 25) → ∃ b5, x_r M p0 76 = some b5 ∧ (x_h M b5).1 = 2 ∧ vp_in (x_i M p0 25) (x_h M b5).2 ∧ (∀ M8, M8 = x_sl M b5 (x_i M p0 25).toNatClampNeg l1 → ∀ M9, M9 = x_si M8 p0 25 ((x_i M8 p0 25) + 1) → Q (some (.int ((x_i M9 p0 25) - 1))) M9))) ∧ (¬ (x_i M p0 25) ≤ x3 → ∃ b10, x_r M p0 76 = some b10 ∧ (x_h M b10).1 = 2 ∧ vp_in x3 (x_h M b10).2 ∧ (¬ (lg_cmp (x_l M b10 x3.toNatClampNeg) l1) = 0 → LX12_setOf_2 G d rc rs p0 l1 (x3 + 1) M Q) ∧ ((lg_cmp (x_l M b10 x3.toNatClampNeg) l1) = 0 → Q (some (.int x3)) M))) : LX12_setOf_2 G d rc rs p0 l1 x3 M Q := by
  show Wk G (d + 1) rc rs mX12_setOf 2 _ _ M Q
  refine r_iload_n (pc := 2) (i := 3) dX12_setOf_2 rfl rfl ?_
  refine r_aload_n (pc := 3) (i := 0) dX12_setOf_3 rfl rfl ?_
  obtain ⟨k1, h⟩ := h
  refine r_geti (pc := 4) flX12_234 dX12_setOf_4 (Or.inl rfl) k1 ?_
  refine r_icmp_ge (pc := 7) (tgt := 29) dX12_setOf_7 (by decide) (fun c2 => ?_) (fun c2 => ?_)
  · replace h := h.1 c2
    refine r_aload_n (pc := 29) (i := 0) dX12_setOf_29 rfl rfl ?_
    refine r_geti (pc := 30) flX12_234 dX12_setOf_30 (Or.inl rfl) k1 ?_
    refine r_sipush (pc := 33) (v := 300) dX12_setOf_33 (by decide) ?_
    refine r_icmp_gt (pc := 36) (tgt := 49) dX12_setOf_36 (by decide) (fun c3 => ?_) (fun c3 => ?_)
    · replace h := h.1 c3
      refine r_aload_n (pc := 49) (i := 0) dX12_setOf_49 rfl rfl ?_
      refine r_dup (pc := 50) dX12_setOf_50 rfl ?_
      refine r_geti (pc := 51) flX12_234 dX12_setOf_51 (Or.inl rfl) k1 ?_
      refine r_iconst (pc := 54) (v := 1) dX12_setOf_54 (by decide) ?_
      refine r_iadd (pc := 55) dX12_setOf_55 ?_
      refine r_puti (pc := 56) flX12_234 dX12_setOf_56 (Or.inl rfl) (fun q hq => by cases hq; rfl) k1 ?_
      replace h := h _ rfl
      refine r_aload_n (pc := 59) (i := 0) dX12_setOf_59 rfl rfl ?_
      refine r_geti (pc := 60) flX12_234 dX12_setOf_60 (Or.inl rfl) k1 ?_
      refine r_iconst (pc := 63) (v := 1) dX12_setOf_63 (by decide) ?_
      refine r_isub (pc := 64) dX12_setOf_64 ?_
      exact r_iret (pc := 65) dX12_setOf_65 rfl h
    · replace h := h.2 c3
      refine r_aload_n (pc := 39) (i := 0) dX12_setOf_39 rfl rfl ?_
      obtain ⟨b5, hb5, h⟩ := h
      refine r_getr (pc := 40) flX12_168 dX12_setOf_40 rfl k1 hb5 ?_
      refine r_aload_n (pc := 43) (i := 0) dX12_setOf_43 rfl rfl ?_
      refine r_geti (pc := 44) flX12_234 dX12_setOf_44 (Or.inl rfl) k1 ?_
      refine r_lload_n (pc := 47) (i := 1) dX12_setOf_47 rfl rfl ?_
      obtain ⟨k6, h⟩ := h
      obtain ⟨i7, h⟩ := h
      refine r_last (pc := 48) dX12_setOf_48 k6 i7 ?_
      replace h := h _ rfl
      refine r_aload_n (pc := 49) (i := 0) dX12_setOf_49 rfl rfl ?_
      refine r_dup (pc := 50) dX12_setOf_50 rfl ?_
      refine r_geti (pc := 51) flX12_234 dX12_setOf_51 (Or.inl rfl) k1 ?_
      refine r_iconst (pc := 54) (v := 1) dX12_setOf_54 (by decide) ?_
      refine r_iadd (pc := 55) dX12_setOf_55 ?_
      refine r_puti (pc := 56) flX12_234 dX12_setOf_56 (Or.inl rfl) (fun q hq => by cases hq; rfl) k1 ?_
      replace h := h _ rfl
      refine r_aload_n (pc := 59) (i := 0) dX12_setOf_59 rfl rfl ?_
      refine r_geti (pc := 60) flX12_234 dX12_setOf_60 (Or.inl rfl) k1 ?_
      refine r_iconst (pc := 63) (v := 1) dX12_setOf_63 (by decide) ?_
      refine r_isub (pc := 64) dX12_setOf_64 ?_
      exact r_iret (pc := 65) dX12_setOf_65 rfl h
  · replace h := h.2 c2
    refine r_aload_n (pc := 10) (i := 0) dX12_setOf_10 rfl rfl ?_
    obtain ⟨b10, hb10, h⟩ := h
    refine r_getr (pc := 11) flX12_168 dX12_setOf_11 rfl k1 hb10 ?_
    refine r_iload_n (pc := 14) (i := 3) dX12_setOf_14 rfl rfl ?_
    obtain ⟨k11, h⟩ := h
    obtain ⟨i12, h⟩ := h
    refine r_lald (pc := 15) dX12_setOf_15 k11 i12 ?_
    refine r_lload_n (pc := 16) (i := 1) dX12_setOf_16 rfl rfl ?_
    refine r_lcmp (pc := 17) dX12_setOf_17 ?_
    refine r_if_ne (pc := 18) (tgt := 23) dX12_setOf_18 (by decide) (fun c13 => ?_) (fun c13 => ?_)
    · replace h := h.1 c13
      refine r_iinc (pc := 23) (i := 3) (v := _ + 1) dX12_setOf_23 rfl rfl rfl ?_
      refine r_goto (pc := 26) (tgt := 2) dX12_setOf_26 (by decide) ?_
      exact h
    · replace h := h.2 c13
      refine r_iload_n (pc := 21) (i := 3) dX12_setOf_21 rfl rfl ?_
      exact r_iret (pc := 22) dX12_setOf_22 rfl h
abbrev LX12_steps_14 (G : GG) (d rc rs : Nat) (p0 : Nat) (x1 : Int32) (l2 : Int64) (x4 : Int32) (x5 : Int32) (l6 : Int64) (x8 : Int32) (x9 : Int32) (z10 : Option Value) (M : Mem) (Q : Option Value → Mem → Prop) : Prop := Wk G (d + 1) rc rs mX12_steps 14 [some (.ref p0), some (.int x1), some (.long l2), none, some (.int x4), some (.int x5), some (.long l6), none, some (.int x8), some (.int x9), z10] [] M Q
abbrev LX12_steps_50 (G : GG) (d rc rs : Nat) (p0 : Nat) (x1 : Int32) (l2 : Int64) (x4 : Int32) (x5 : Int32) (l6 : Int64) (x8 : Int32) (x9 : Int32) (x10 : Int32) (M : Mem) (Q : Option Value → Mem → Prop) : Prop := Wk G (d + 1) rc rs mX12_steps 50 [some (.ref p0), some (.int x1), some (.long l2), none, some (.int x4), some (.int x5), some (.long l6), none, some (.int x8), some (.int x9), some (.int x10)] [] M Q
theorem eX12_steps {G : GG} {d rc rs : Nat} (o : Nat) (a1 : Int32) (a2 : Int64) (a3 : Int32) (a4 : Int32)  {M : Mem} {Q : Option Value → Mem → Prop} (h : (x_h M o).1 = 28 ∧ (∃ b2, x_r M o 53 = some b2 ∧ (x_h M b2).1 = 1 ∧ vp_in a1 (x_h M b2).2 ∧ LX12_steps_14 G d rc rs o a1 a2 a3 a4 0 (x_i M b2 a1.toNatClampNeg) 0 none M Q)) : Call G (d + 1) rc rs mX12_steps [.ref o, .int a1, .long a2, .int a3, .int a4] M Q := by
  refine call_of (by decide) (Nat.le_of_ble_eq_true rfl) ?_
  show Wk G (d + 1) rc rs mX12_steps 0 [some (.ref o), some (.int a1), some (.long a2), none, some (.int a3), some (.int a4), none, none, none, none, none] [] M Q
  refine r_lconst (pc := 0) (v := 0) dX12_steps_0 (by decide) ?_
  refine r_lstore (pc := 1) (i := 6) dX12_steps_1 rfl (Nat.le_of_ble_eq_true rfl) ?_
  refine r_aload_n (pc := 3) (i := 0) dX12_steps_3 rfl rfl ?_
  obtain ⟨k1, h⟩ := h
  obtain ⟨b2, hb2, h⟩ := h
  refine r_getr (pc := 4) flX12_119 dX12_steps_4 rfl k1 hb2 ?_
  refine r_iload_n (pc := 7) (i := 1) dX12_steps_7 rfl rfl ?_
  obtain ⟨k3, h⟩ := h
  obtain ⟨i4, h⟩ := h
  refine r_iald (pc := 8) dX12_steps_8 k3 i4 ?_
  refine r_istore (pc := 9) (i := 8) dX12_steps_9 rfl (Nat.le_of_ble_eq_true rfl) ?_
  refine r_iconst (pc := 11) (v := 0) dX12_steps_11 (by decide) ?_
  refine r_istore (pc := 12) (i := 9) dX12_steps_12 rfl (Nat.le_of_ble_eq_true rfl) ?_
  exact h
theorem vX12_steps_14 {G : GG} {d rc rs : Nat} (p0 : Nat) (x1 : Int32) (l2 : Int64) (x4 : Int32) (x5 : Int32) (l6 : Int64) (x8 : Int32) (x9 : Int32) (z10 : Option Value) (hz10 : c1 z10 = true) {M : Mem} {Q : Option Value → Mem → Prop} (h : (x_h M p0).1 = 28 ∧ Call G d 0 0 mX12_across [.ref p0, .int x8] M (fun r2 M3 => ∃ v4 : Int32, r2 = some (.int v4) ∧ (v4 ≤ x9 → Q (some (.long l6)) M3) ∧ (¬ v4 ≤ x9 → (x_h M3 p0).1 = 28 ∧ Call G d 0 0 mX12_within [.ref p0, .int x9, .int x8, .int (x8 &&& ((1 <<< (x5 &&& 31)) ^^^ (-1)))] M3 (fun r7 M8 => ∃ v9 : Int32, r7 = some (.int v9) ∧ (¬ v9 = x4 → LX12_steps_14 G d rc rs p0 x1 l2 x4 x5 l6 x8 (x9 + 1) z10 M8 Q) ∧ (v9 = x4 → LX12_steps_50 G d rc rs p0 x1 l2 x4 x5 l6 x8 x9 0 M8 Q))))) : LX12_steps_14 G d rc rs p0 x1 l2 x4 x5 l6 x8 x9 z10 M Q := by
  show Wk G (d + 1) rc rs mX12_steps 14 _ _ M Q
  refine r_iload (pc := 14) (i := 9) dX12_steps_14 rfl ?_
  refine r_aload_n (pc := 16) (i := 0) dX12_steps_16 rfl rfl ?_
  refine r_iload (pc := 17) (i := 8) dX12_steps_17 rfl ?_
  obtain ⟨k1, h⟩ := h
  refine r_callV (pc := 19) (ci := 12) (as := [_]) (st := [_]) okX12_across lkX12_417 inX12_across seX12_across ⟨_, rfl, rfl⟩ dX12_steps_19 rfl k1 (Nat.le_of_ble_eq_true rfl) (Nat.zero_le _) (Nat.zero_le _) (Call.mono h (fun r2 M3 h => ?_))
  obtain ⟨v4, rfl, h⟩ := h
  refine r_icmp_ge (pc := 22) (tgt := 104) dX12_steps_22 (by decide) (fun c5 => ?_) (fun c5 => ?_)
  · replace h := h.1 c5
    refine r_lload (pc := 104) (i := 6) dX12_steps_104 rfl ?_
    exact r_lret (pc := 106) dX12_steps_106 rfl h
  · replace h := h.2 c5
    refine r_aload_n (pc := 25) (i := 0) dX12_steps_25 rfl rfl ?_
    refine r_iload (pc := 26) (i := 9) dX12_steps_26 rfl ?_
    refine r_iload (pc := 28) (i := 8) dX12_steps_28 rfl ?_
    refine r_iload (pc := 30) (i := 8) dX12_steps_30 rfl ?_
    refine r_iconst (pc := 32) (v := 1) dX12_steps_32 (by decide) ?_
    refine r_iload (pc := 33) (i := 5) dX12_steps_33 rfl ?_
    refine r_ishl (pc := 35) dX12_steps_35 ?_
    refine r_iconst (pc := 36) (v := (-1)) dX12_steps_36 (by decide) ?_
    refine r_ixor (pc := 37) dX12_steps_37 ?_
    refine r_iand (pc := 38) dX12_steps_38 ?_
    obtain ⟨k6, h⟩ := h
    refine r_callV (pc := 39) (ci := 12) (as := [_, _, _]) (st := []) okX12_within lkX12_423 inX12_within seX12_within ⟨_, rfl, rfl⟩ dX12_steps_39 rfl k6 (Nat.le_of_ble_eq_true rfl) (Nat.zero_le _) (Nat.zero_le _) (Call.mono h (fun r7 M8 h => ?_))
    obtain ⟨v9, rfl, h⟩ := h
    refine r_iload (pc := 42) (i := 4) dX12_steps_42 rfl ?_
    refine r_icmp_ne (pc := 44) (tgt := 98) dX12_steps_44 (by decide) (fun c10 => ?_) (fun c10 => ?_)
    · replace h := h.1 c10
      refine r_iinc (pc := 98) (i := 9) (v := _ + 1) dX12_steps_98 rfl rfl rfl ?_
      refine r_goto (pc := 101) (tgt := 14) dX12_steps_101 (by decide) ?_
      exact h
    · replace h := h.2 c10
      refine r_iconst (pc := 47) (v := 0) dX12_steps_47 (by decide) ?_
      refine r_istore (pc := 48) (i := 10) dX12_steps_48 rfl (Nat.le_of_ble_eq_true rfl) ?_
      exact h
theorem vX12_steps_50 {G : GG} {d rc rs : Nat} (p0 : Nat) (x1 : Int32) (l2 : Int64) (x4 : Int32) (x5 : Int32) (l6 : Int64) (x8 : Int32) (x9 : Int32) (x10 : Int32)  {M : Mem} {Q : Option Value → Mem → Prop} (h : (x_h M p0).1 = 28 ∧ (∃ b2, x_r M p0 73 = some b2 ∧ (x_h M b2).1 = 1 ∧ vp_in x1 (x_h M b2).2 ∧ ((x_i M b2 x1.toNatClampNeg) ≤ x10 → LX12_steps_14 G d rc rs p0 x1 l2 x4 x5 l6 x8 (x9 + 1) (some (.int x10)) M Q) ∧ (¬ (x_i M b2 x1.toNatClampNeg) ≤ x10 → (¬ (lg_cmp ((l2 >>> (x10.toInt64 &&& 63)) &&& 1) 1) = 0 → LX12_steps_50 G d rc rs p0 x1 l2 x4 x5 (l6 ||| 0) x8 x9 (x10 + 1) M Q) ∧ ((lg_cmp ((l2 >>> (x10.toInt64 &&& 63)) &&& 1) 1) = 0 → Call G d 0 0 mX12_pTo [.ref p0, .int x1, .int x10, .int x9] M (fun r7 M8 => ∃ v9 : Int32, r7 = some (.int v9) ∧ LX12_steps_50 G d rc rs p0 x1 l2 x4 x5 (l6 ||| (1 <<< (v9.toInt64 &&& 63))) x8 x9 (x10 + 1) M8 Q))))) : LX12_steps_50 G d rc rs p0 x1 l2 x4 x5 l6 x8 x9 x10 M Q := by
  show Wk G (d + 1) rc rs mX12_steps 50 _ _ M Q
  refine r_iload (pc := 50) (i := 10) dX12_steps_50 rfl ?_
  refine r_aload_n (pc := 52) (i := 0) dX12_steps_52 rfl rfl ?_
  obtain ⟨k1, h⟩ := h
  obtain ⟨b2, hb2, h⟩ := h
  refine r_getr (pc := 53) flX12_158 dX12_steps_53 rfl k1 hb2 ?_
  refine r_iload_n (pc := 56) (i := 1) dX12_steps_56 rfl rfl ?_
  obtain ⟨k3, h⟩ := h
  obtain ⟨i4, h⟩ := h
  refine r_iald (pc := 57) dX12_steps_57 k3 i4 ?_
  refine r_icmp_ge (pc := 58) (tgt := 98) dX12_steps_58 (by decide) (fun c5 => ?_) (fun c5 => ?_)
  · replace h := h.1 c5
    refine r_iinc (pc := 98) (i := 9) (v := _ + 1) dX12_steps_98 rfl rfl rfl ?_
    refine r_goto (pc := 101) (tgt := 14) dX12_steps_101 (by decide) ?_
    exact h
  · replace h := h.2 c5
    refine r_lload (pc := 61) (i := 6) dX12_steps_61 rfl ?_
    refine r_lload_n (pc := 63) (i := 2) dX12_steps_63 rfl rfl ?_
    refine r_iload (pc := 64) (i := 10) dX12_steps_64 rfl ?_
    refine r_lshr (pc := 66) dX12_steps_66 ?_
    refine r_lconst (pc := 67) (v := 1) dX12_steps_67 (by decide) ?_
    refine r_land (pc := 68) dX12_steps_68 ?_
    refine r_lconst (pc := 69) (v := 1) dX12_steps_69 (by decide) ?_
    refine r_lcmp (pc := 70) dX12_steps_70 ?_
    refine r_if_ne (pc := 71) (tgt := 88) dX12_steps_71 (by decide) (fun c6 => ?_) (fun c6 => ?_)
    · replace h := h.1 c6
      refine r_lconst (pc := 88) (v := 0) dX12_steps_88 (by decide) ?_
      refine r_lor (pc := 89) dX12_steps_89 ?_
      refine r_lstore (pc := 90) (i := 6) dX12_steps_90 rfl (Nat.le_of_ble_eq_true rfl) ?_
      refine r_iinc (pc := 92) (i := 10) (v := _ + 1) dX12_steps_92 rfl rfl rfl ?_
      refine r_goto (pc := 95) (tgt := 50) dX12_steps_95 (by decide) ?_
      exact h
    · replace h := h.2 c6
      refine r_lconst (pc := 74) (v := 1) dX12_steps_74 (by decide) ?_
      refine r_aload_n (pc := 75) (i := 0) dX12_steps_75 rfl rfl ?_
      refine r_iload_n (pc := 76) (i := 1) dX12_steps_76 rfl rfl ?_
      refine r_iload (pc := 77) (i := 10) dX12_steps_77 rfl ?_
      refine r_iload (pc := 79) (i := 9) dX12_steps_79 rfl ?_
      refine r_callV (pc := 81) (ci := 12) (as := [_, _, _]) (st := [_, _]) okX12_pTo lkX12_426 inX12_pTo seX12_pTo ⟨_, rfl, rfl⟩ dX12_steps_81 rfl k1 (Nat.le_of_ble_eq_true rfl) (Nat.zero_le _) (Nat.zero_le _) (Call.mono h (fun r7 M8 h => ?_))
      obtain ⟨v9, rfl, h⟩ := h
      refine r_lshl (pc := 84) dX12_steps_84 ?_
      refine r_goto (pc := 85) (tgt := 89) dX12_steps_85 (by decide) ?_
      refine r_lor (pc := 89) dX12_steps_89 ?_
      refine r_lstore (pc := 90) (i := 6) dX12_steps_90 rfl (Nat.le_of_ble_eq_true rfl) ?_
      refine r_iinc (pc := 92) (i := 10) (v := _ + 1) dX12_steps_92 rfl rfl rfl ?_
      refine r_goto (pc := 95) (tgt := 50) dX12_steps_95 (by decide) ?_
      exact h
abbrev LX12_bounds_45 (G : GG) (d rc rs : Nat) (p0 : Nat) (x1 : Int32) (x2 : Int32) (x3 : Int32) (l4 : Int64) (l6 : Int64) (M : Mem) (Q : Option Value → Mem → Prop) : Prop := Wk G (d + 1) rc rs mX12_bounds 45 [some (.ref p0), some (.int x1), some (.int x2), some (.int x3), some (.long l4), none, some (.long l6), none, none, none, none, none] [] M Q
abbrev LX12_bounds_101 (G : GG) (d rc rs : Nat) (p0 : Nat) (x1 : Int32) (x2 : Int32) (x3 : Int32) (l4 : Int64) (l6 : Int64) (x8 : Int32) (x9 : Int32) (z10 : Option Value) (z11 : Option Value) (M : Mem) (Q : Option Value → Mem → Prop) : Prop := Wk G (d + 1) rc rs mX12_bounds 101 [some (.ref p0), some (.int x1), some (.int x2), some (.int x3), some (.long l4), none, some (.long l6), none, some (.int x8), some (.int x9), z10, z11] [] M Q
abbrev LX12_bounds_131 (G : GG) (d rc rs : Nat) (p0 : Nat) (x1 : Int32) (x2 : Int32) (x3 : Int32) (l4 : Int64) (l6 : Int64) (x8 : Int32) (x9 : Int32) (x10 : Int32) (z11 : Option Value) (M : Mem) (Q : Option Value → Mem → Prop) : Prop := Wk G (d + 1) rc rs mX12_bounds 131 [some (.ref p0), some (.int x1), some (.int x2), some (.int x3), some (.long l4), none, some (.long l6), none, some (.int x8), some (.int x9), some (.int x10), z11] [] M Q
abbrev LX12_bounds_178 (G : GG) (d rc rs : Nat) (p0 : Nat) (x1 : Int32) (x2 : Int32) (x3 : Int32) (l4 : Int64) (l6 : Int64) (x8 : Int32) (x9 : Int32) (x10 : Int32) (z11 : Option Value) (u0 : Int32) (M : Mem) (Q : Option Value → Mem → Prop) : Prop := Wk G (d + 1) rc rs mX12_bounds 178 [some (.ref p0), some (.int x1), some (.int x2), some (.int x3), some (.long l4), none, some (.long l6), none, some (.int x8), some (.int x9), some (.int x10), z11] [.int u0] M Q
abbrev LX12_bounds_229 (G : GG) (d rc rs : Nat) (p0 : Nat) (x1 : Int32) (x2 : Int32) (x3 : Int32) (l4 : Int64) (l6 : Int64) (x8 : Int32) (x9 : Int32) (x10 : Int32) (z11 : Option Value) (M : Mem) (Q : Option Value → Mem → Prop) : Prop := Wk G (d + 1) rc rs mX12_bounds 229 [some (.ref p0), some (.int x1), some (.int x2), some (.int x3), some (.long l4), none, some (.long l6), none, some (.int x8), some (.int x9), some (.int x10), z11] [] M Q
abbrev LX12_bounds_305 (G : GG) (d rc rs : Nat) (p0 : Nat) (x1 : Int32) (x2 : Int32) (x3 : Int32) (l4 : Int64) (l6 : Int64) (x8 : Int32) (x9 : Int32) (z10 : Option Value) (z11 : Option Value) (M : Mem) (Q : Option Value → Mem → Prop) : Prop := Wk G (d + 1) rc rs mX12_bounds 305 [some (.ref p0), some (.int x1), some (.int x2), some (.int x3), some (.long l4), none, some (.long l6), none, some (.int x8), some (.int x9), z10, z11] [] M Q
theorem eX12_bounds {G : GG} {d rc rs : Nat} (o : Nat) (a1 : Int32)  {M : Mem} {Q : Option Value → Mem → Prop} (h : (x_h M o).1 = 28 ∧ (∃ b2, x_r M o 49 = some b2 ∧ (x_h M b2).1 = 1 ∧ vp_in a1 (x_h M b2).2 ∧ (∃ b5, x_r M o 51 = some b5 ∧ (x_h M b5).1 = 1 ∧ vp_in a1 (x_h M b5).2 ∧ (∃ b8, x_r M o 53 = some b8 ∧ (x_h M b8).1 = 1 ∧ vp_in (x_i M b2 a1.toNatClampNeg) (x_h M b8).2 ∧ (¬ (((x_i M b8 (x_i M b2 a1.toNatClampNeg).toNatClampNeg) >>> ((x_i M b5 a1.toNatClampNeg) &&& 31)) &&& 1) = 0 → LX12_bounds_45 G d rc rs o a1 (x_i M b2 a1.toNatClampNeg) (x_i M b5 a1.toNatClampNeg) 1 0 M Q) ∧ ((((x_i M b8 (x_i M b2 a1.toNatClampNeg).toNatClampNeg) >>> ((x_i M b5 a1.toNatClampNeg) &&& 31)) &&& 1) = 0 → Call G d 0 0 mX12_copy [.ref o, .int (x_i M b2 a1.toNatClampNeg), .int 0] M (fun r12 M13 => r12 = none ∧ (x_h M13 o).1 = 28 ∧ Call G d 0 0 mX12_becomes [.ref o, .int a1] M13 (fun r15 M16 => ∃ v17 : Int32, r15 = some (.int v17) ∧ (v17 = 0 ∨ v17 = 1) ∧ Q (some (.int v17)) M16))))))) : Call G (d + 1) rc rs mX12_bounds [.ref o, .int a1] M Q := by
  refine call_of (by decide) (Nat.le_of_ble_eq_true rfl) ?_
  show Wk G (d + 1) rc rs mX12_bounds 0 [some (.ref o), some (.int a1), none, none, none, none, none, none, none, none, none, none] [] M Q
  refine r_aload_n (pc := 0) (i := 0) dX12_bounds_0 rfl rfl ?_
  obtain ⟨k1, h⟩ := h
  obtain ⟨b2, hb2, h⟩ := h
  refine r_getr (pc := 1) flX12_107 dX12_bounds_1 rfl k1 hb2 ?_
  refine r_iload_n (pc := 4) (i := 1) dX12_bounds_4 rfl rfl ?_
  obtain ⟨k3, h⟩ := h
  obtain ⟨i4, h⟩ := h
  refine r_iald (pc := 5) dX12_bounds_5 k3 i4 ?_
  refine r_istore_n (pc := 6) (i := 2) dX12_bounds_6 rfl rfl (Nat.le_of_ble_eq_true rfl) ?_
  refine r_aload_n (pc := 7) (i := 0) dX12_bounds_7 rfl rfl ?_
  obtain ⟨b5, hb5, h⟩ := h
  refine r_getr (pc := 8) flX12_113 dX12_bounds_8 rfl k1 hb5 ?_
  refine r_iload_n (pc := 11) (i := 1) dX12_bounds_11 rfl rfl ?_
  obtain ⟨k6, h⟩ := h
  obtain ⟨i7, h⟩ := h
  refine r_iald (pc := 12) dX12_bounds_12 k6 i7 ?_
  refine r_istore_n (pc := 13) (i := 3) dX12_bounds_13 rfl rfl (Nat.le_of_ble_eq_true rfl) ?_
  refine r_aload_n (pc := 14) (i := 0) dX12_bounds_14 rfl rfl ?_
  obtain ⟨b8, hb8, h⟩ := h
  refine r_getr (pc := 15) flX12_119 dX12_bounds_15 rfl k1 hb8 ?_
  refine r_iload_n (pc := 18) (i := 2) dX12_bounds_18 rfl rfl ?_
  obtain ⟨k9, h⟩ := h
  obtain ⟨i10, h⟩ := h
  refine r_iald (pc := 19) dX12_bounds_19 k9 i10 ?_
  refine r_iload_n (pc := 20) (i := 3) dX12_bounds_20 rfl rfl ?_
  refine r_ishr (pc := 21) dX12_bounds_21 ?_
  refine r_iconst (pc := 22) (v := 1) dX12_bounds_22 (by decide) ?_
  refine r_iand (pc := 23) dX12_bounds_23 ?_
  refine r_if_ne (pc := 24) (tgt := 39) dX12_bounds_24 (by decide) (fun c11 => ?_) (fun c11 => ?_)
  · replace h := h.1 c11
    refine r_lconst (pc := 39) (v := 1) dX12_bounds_39 (by decide) ?_
    refine r_lstore (pc := 40) (i := 4) dX12_bounds_40 rfl (Nat.le_of_ble_eq_true rfl) ?_
    refine r_lconst (pc := 42) (v := 0) dX12_bounds_42 (by decide) ?_
    refine r_lstore (pc := 43) (i := 6) dX12_bounds_43 rfl (Nat.le_of_ble_eq_true rfl) ?_
    exact h
  · replace h := h.2 c11
    refine r_aload_n (pc := 27) (i := 0) dX12_bounds_27 rfl rfl ?_
    refine r_iload_n (pc := 28) (i := 2) dX12_bounds_28 rfl rfl ?_
    refine r_iconst (pc := 29) (v := 0) dX12_bounds_29 (by decide) ?_
    refine r_callV (pc := 30) (ci := 12) (as := [_, _]) (st := []) okX12_copy lkX12_432 inX12_copy seX12_copy ⟨_, rfl, rfl⟩ dX12_bounds_30 rfl k1 (Nat.le_of_ble_eq_true rfl) (Nat.zero_le _) (Nat.zero_le _) (Call.mono h (fun r12 M13 h => ?_))
    obtain ⟨rfl, h⟩ := h
    refine r_aload_n (pc := 33) (i := 0) dX12_bounds_33 rfl rfl ?_
    refine r_iload_n (pc := 34) (i := 1) dX12_bounds_34 rfl rfl ?_
    obtain ⟨k14, h⟩ := h
    refine r_callV (pc := 35) (ci := 12) (as := [_]) (st := []) okX12_becomes lkX12_429 inX12_becomes seX12_becomes ⟨_, rfl, rfl⟩ dX12_bounds_35 rfl k14 (Nat.le_of_ble_eq_true rfl) (Nat.zero_le _) (Nat.zero_le _) (Call.mono h (fun r15 M16 h => ?_))
    obtain ⟨v17, rfl, h⟩ := h
    exact r_zret (pc := 38) dX12_bounds_38 rfl h.1 h.2
theorem vX12_bounds_45 {G : GG} {d rc rs : Nat} (p0 : Nat) (x1 : Int32) (x2 : Int32) (x3 : Int32) (l4 : Int64) (l6 : Int64)  {M : Mem} {Q : Option Value → Mem → Prop} (h : ((lg_cmp l4 l6) = 0 → (x_h M p0).1 = 28 ∧ (∀ M3, M3 = x_si M p0 25 0 → Call G d 0 0 mX12_setOf [.ref p0, .long l4] M3 (fun r4 M5 => ∃ v6 : Int32, r4 = some (.int v6) ∧ (x_h M5 p0).1 = 28 ∧ (∃ b8, x_r M5 p0 53 = some b8 ∧ (x_h M5 b8).1 = 1 ∧ vp_in x1 (x_h M5 b8).2 ∧ Call G d 0 0 mX12_across [.ref p0, .int (x_i M5 b8 x1.toNatClampNeg)] M5 (fun r11 M12 => ∃ v13 : Int32, r11 = some (.int v13) ∧ LX12_bounds_101 G d rc rs p0 x1 x2 x3 l4 l6 v13 0 none none M12 Q))))) ∧ (¬ (lg_cmp l4 l6) = 0 → (x_h M p0).1 = 28 ∧ Call G d 0 0 mX12_steps [.ref p0, .int x2, .long l4, .int 0, .int x3] M (fun r15 M16 => ∃ v17 : Int64, r15 = some (.long v17) ∧ LX12_bounds_45 G d rc rs p0 x1 x2 x3 (l4 ||| v17) l4 M16 Q))) : LX12_bounds_45 G d rc rs p0 x1 x2 x3 l4 l6 M Q := by
  show Wk G (d + 1) rc rs mX12_bounds 45 _ _ M Q
  refine r_lload (pc := 45) (i := 4) dX12_bounds_45 rfl ?_
  refine r_lload (pc := 47) (i := 6) dX12_bounds_47 rfl ?_
  refine r_lcmp (pc := 49) dX12_bounds_49 ?_
  refine r_if_eq (pc := 50) (tgt := 74) dX12_bounds_50 (by decide) (fun c1 => ?_) (fun c1 => ?_)
  · replace h := h.1 c1
    refine r_aload_n (pc := 74) (i := 0) dX12_bounds_74 rfl rfl ?_
    refine r_iconst (pc := 75) (v := 0) dX12_bounds_75 (by decide) ?_
    obtain ⟨k2, h⟩ := h
    refine r_puti (pc := 76) flX12_234 dX12_bounds_76 (Or.inl rfl) (fun q hq => by cases hq; rfl) k2 ?_
    replace h := h _ rfl
    refine r_aload_n (pc := 79) (i := 0) dX12_bounds_79 rfl rfl ?_
    refine r_lload (pc := 80) (i := 4) dX12_bounds_80 rfl ?_
    refine r_callV (pc := 82) (ci := 12) (as := [_]) (st := []) okX12_setOf lkX12_440 inX12_setOf seX12_setOf ⟨_, rfl, rfl⟩ dX12_bounds_82 rfl k2 (Nat.le_of_ble_eq_true rfl) (Nat.zero_le _) (Nat.zero_le _) (Call.mono h (fun r4 M5 h => ?_))
    obtain ⟨v6, rfl, h⟩ := h
    refine r_pop (pc := 85) dX12_bounds_85 rfl ?_
    refine r_aload_n (pc := 86) (i := 0) dX12_bounds_86 rfl rfl ?_
    refine r_aload_n (pc := 87) (i := 0) dX12_bounds_87 rfl rfl ?_
    obtain ⟨k7, h⟩ := h
    obtain ⟨b8, hb8, h⟩ := h
    refine r_getr (pc := 88) flX12_119 dX12_bounds_88 rfl k7 hb8 ?_
    refine r_iload_n (pc := 91) (i := 1) dX12_bounds_91 rfl rfl ?_
    obtain ⟨k9, h⟩ := h
    obtain ⟨i10, h⟩ := h
    refine r_iald (pc := 92) dX12_bounds_92 k9 i10 ?_
    refine r_callV (pc := 93) (ci := 12) (as := [_]) (st := []) okX12_across lkX12_417 inX12_across seX12_across ⟨_, rfl, rfl⟩ dX12_bounds_93 rfl k7 (Nat.le_of_ble_eq_true rfl) (Nat.zero_le _) (Nat.zero_le _) (Call.mono h (fun r11 M12 h => ?_))
    obtain ⟨v13, rfl, h⟩ := h
    refine r_istore (pc := 96) (i := 8) dX12_bounds_96 rfl (Nat.le_of_ble_eq_true rfl) ?_
    refine r_iconst (pc := 98) (v := 0) dX12_bounds_98 (by decide) ?_
    refine r_istore (pc := 99) (i := 9) dX12_bounds_99 rfl (Nat.le_of_ble_eq_true rfl) ?_
    exact h
  · replace h := h.2 c1
    refine r_lload (pc := 53) (i := 4) dX12_bounds_53 rfl ?_
    refine r_lstore (pc := 55) (i := 6) dX12_bounds_55 rfl (Nat.le_of_ble_eq_true rfl) ?_
    refine r_lload (pc := 57) (i := 4) dX12_bounds_57 rfl ?_
    refine r_aload_n (pc := 59) (i := 0) dX12_bounds_59 rfl rfl ?_
    refine r_iload_n (pc := 60) (i := 2) dX12_bounds_60 rfl rfl ?_
    refine r_lload (pc := 61) (i := 4) dX12_bounds_61 rfl ?_
    refine r_iconst (pc := 63) (v := 0) dX12_bounds_63 (by decide) ?_
    refine r_iload_n (pc := 64) (i := 3) dX12_bounds_64 rfl rfl ?_
    obtain ⟨k14, h⟩ := h
    refine r_callV (pc := 65) (ci := 12) (as := [_, _, _, _]) (st := [_]) okX12_steps lkX12_436 inX12_steps seX12_steps ⟨_, rfl, rfl⟩ dX12_bounds_65 rfl k14 (Nat.le_of_ble_eq_true rfl) (Nat.zero_le _) (Nat.zero_le _) (Call.mono h (fun r15 M16 h => ?_))
    obtain ⟨v17, rfl, h⟩ := h
    refine r_lor (pc := 68) dX12_bounds_68 ?_
    refine r_lstore (pc := 69) (i := 4) dX12_bounds_69 rfl (Nat.le_of_ble_eq_true rfl) ?_
    refine r_goto (pc := 71) (tgt := 45) dX12_bounds_71 (by decide) ?_
    exact h
theorem vX12_bounds_101 {G : GG} {d rc rs : Nat} (p0 : Nat) (x1 : Int32) (x2 : Int32) (x3 : Int32) (l4 : Int64) (l6 : Int64) (x8 : Int32) (x9 : Int32) (z10 : Option Value) (z11 : Option Value) (hz10 : c1 z10 = true) (hz11 : c1 z11 = true) {M : Mem} {Q : Option Value → Mem → Prop} (h : (x_h M p0).1 = 28 ∧ ((x_i M p0 25) ≤ x9 → ((x_i M p0 25) ≤ 300 → LX12_bounds_305 G d rc rs p0 x1 x2 x3 l4 l6 x8 0 z10 z11 M Q) ∧ (¬ (x_i M p0 25) ≤ 300 → Q (some (.int 0)) M)) ∧ (¬ (x_i M p0 25) ≤ x9 → (300 < (x_i M p0 25) → ((x_i M p0 25) ≤ 300 → LX12_bounds_305 G d rc rs p0 x1 x2 x3 l4 l6 x8 0 z10 z11 M Q) ∧ (¬ (x_i M p0 25) ≤ 300 → Q (some (.int 0)) M)) ∧ (¬ 300 < (x_i M p0 25) → ∃ b6, x_r M p0 28 = some b6 ∧ (x_h M b6).1 = 1 ∧ vp_in x9 (x_h M b6).2 ∧ (∀ M9, M9 = x_si M b6 x9.toNatClampNeg 0 → LX12_bounds_131 G d rc rs p0 x1 x2 x3 l4 l6 x8 x9 0 z11 M9 Q)))) : LX12_bounds_101 G d rc rs p0 x1 x2 x3 l4 l6 x8 x9 z10 z11 M Q := by
  show Wk G (d + 1) rc rs mX12_bounds 101 _ _ M Q
  refine r_iload (pc := 101) (i := 9) dX12_bounds_101 rfl ?_
  refine r_aload_n (pc := 103) (i := 0) dX12_bounds_103 rfl rfl ?_
  obtain ⟨k1, h⟩ := h
  refine r_geti (pc := 104) flX12_234 dX12_bounds_104 (Or.inl rfl) k1 ?_
  refine r_icmp_ge (pc := 107) (tgt := 290) dX12_bounds_107 (by decide) (fun c2 => ?_) (fun c2 => ?_)
  · replace h := h.1 c2
    refine r_aload_n (pc := 290) (i := 0) dX12_bounds_290 rfl rfl ?_
    refine r_geti (pc := 291) flX12_234 dX12_bounds_291 (Or.inl rfl) k1 ?_
    refine r_sipush (pc := 294) (v := 300) dX12_bounds_294 (by decide) ?_
    refine r_icmp_le (pc := 297) (tgt := 302) dX12_bounds_297 (by decide) (fun c3 => ?_) (fun c3 => ?_)
    · replace h := h.1 c3
      refine r_iconst (pc := 302) (v := 0) dX12_bounds_302 (by decide) ?_
      refine r_istore (pc := 303) (i := 9) dX12_bounds_303 rfl (Nat.le_of_ble_eq_true rfl) ?_
      exact h
    · replace h := h.2 c3
      refine r_iconst (pc := 300) (v := 0) dX12_bounds_300 (by decide) ?_
      exact r_zret (pc := 301) dX12_bounds_301 rfl (Or.inl rfl) h
  · replace h := h.2 c2
    refine r_aload_n (pc := 110) (i := 0) dX12_bounds_110 rfl rfl ?_
    refine r_geti (pc := 111) flX12_234 dX12_bounds_111 (Or.inl rfl) k1 ?_
    refine r_sipush (pc := 114) (v := 300) dX12_bounds_114 (by decide) ?_
    refine r_icmp_gt (pc := 117) (tgt := 290) dX12_bounds_117 (by decide) (fun c4 => ?_) (fun c4 => ?_)
    · replace h := h.1 c4
      refine r_aload_n (pc := 290) (i := 0) dX12_bounds_290 rfl rfl ?_
      refine r_geti (pc := 291) flX12_234 dX12_bounds_291 (Or.inl rfl) k1 ?_
      refine r_sipush (pc := 294) (v := 300) dX12_bounds_294 (by decide) ?_
      refine r_icmp_le (pc := 297) (tgt := 302) dX12_bounds_297 (by decide) (fun c5 => ?_) (fun c5 => ?_)
      · replace h := h.1 c5
        refine r_iconst (pc := 302) (v := 0) dX12_bounds_302 (by decide) ?_
        refine r_istore (pc := 303) (i := 9) dX12_bounds_303 rfl (Nat.le_of_ble_eq_true rfl) ?_
        exact h
      · replace h := h.2 c5
        refine r_iconst (pc := 300) (v := 0) dX12_bounds_300 (by decide) ?_
        exact r_zret (pc := 301) dX12_bounds_301 rfl (Or.inl rfl) h
    · replace h := h.2 c4
      refine r_aload_n (pc := 120) (i := 0) dX12_bounds_120 rfl rfl ?_
      obtain ⟨b6, hb6, h⟩ := h
      refine r_getr (pc := 121) flX12_76 dX12_bounds_121 rfl k1 hb6 ?_
      refine r_iload (pc := 124) (i := 9) dX12_bounds_124 rfl ?_
      refine r_iconst (pc := 126) (v := 0) dX12_bounds_126 (by decide) ?_
      obtain ⟨k7, h⟩ := h
      obtain ⟨i8, h⟩ := h
      refine r_iast (pc := 127) dX12_bounds_127 k7 i8 ?_
      replace h := h _ rfl
      refine r_iconst (pc := 128) (v := 0) dX12_bounds_128 (by decide) ?_
      refine r_istore (pc := 129) (i := 10) dX12_bounds_129 rfl (Nat.le_of_ble_eq_true rfl) ?_
      exact h
theorem vX12_bounds_131 {G : GG} {d rc rs : Nat} (p0 : Nat) (x1 : Int32) (x2 : Int32) (x3 : Int32) (l4 : Int64) (l6 : Int64) (x8 : Int32) (x9 : Int32) (x10 : Int32) (z11 : Option Value) (hz11 : c1 z11 = true) {M : Mem} {Q : Option Value → Mem → Prop} (h : (x_h M p0).1 = 28 ∧ (∃ b2, x_r M p0 73 = some b2 ∧ (x_h M b2).1 = 1 ∧ vp_in x2 (x_h M b2).2 ∧ ((x_i M b2 x2.toNatClampNeg) ≤ x10 → LX12_bounds_229 G d rc rs p0 x1 x2 x3 l4 l6 x8 x9 0 z11 M Q) ∧ (¬ (x_i M b2 x2.toNatClampNeg) ≤ x10 → ∃ b6, x_r M p0 75 = some b6 ∧ (x_h M b6).1 = 3 ∧ vp_in ((40 * x2) + x10) (x_h M b6).2 ∧ (∃ b9, x_r M p0 48 = some b9 ∧ (x_h M b9).1 = 1 ∧ vp_in x1 (x_h M b9).2 ∧ (¬ (x_i M b9 x1.toNatClampNeg) = 7 → (¬ (x_i M b6 ((40 * x2) + x10).toNatClampNeg) = 0 → LX12_bounds_178 G d rc rs p0 x1 x2 x3 l4 l6 x8 x9 x10 z11 0 M Q) ∧ ((x_i M b6 ((40 * x2) + x10).toNatClampNeg) = 0 → LX12_bounds_178 G d rc rs p0 x1 x2 x3 l4 l6 x8 x9 x10 z11 1 M Q)) ∧ ((x_i M b9 x1.toNatClampNeg) = 7 → (¬ (x_i M b6 ((40 * x2) + x10).toNatClampNeg) = 1 → LX12_bounds_178 G d rc rs p0 x1 x2 x3 l4 l6 x8 x9 x10 z11 0 M Q) ∧ ((x_i M b6 ((40 * x2) + x10).toNatClampNeg) = 1 → LX12_bounds_178 G d rc rs p0 x1 x2 x3 l4 l6 x8 x9 x10 z11 1 M Q)))))) : LX12_bounds_131 G d rc rs p0 x1 x2 x3 l4 l6 x8 x9 x10 z11 M Q := by
  show Wk G (d + 1) rc rs mX12_bounds 131 _ _ M Q
  refine r_iload (pc := 131) (i := 10) dX12_bounds_131 rfl ?_
  refine r_aload_n (pc := 133) (i := 0) dX12_bounds_133 rfl rfl ?_
  obtain ⟨k1, h⟩ := h
  obtain ⟨b2, hb2, h⟩ := h
  refine r_getr (pc := 134) flX12_158 dX12_bounds_134 rfl k1 hb2 ?_
  refine r_iload_n (pc := 137) (i := 2) dX12_bounds_137 rfl rfl ?_
  obtain ⟨k3, h⟩ := h
  obtain ⟨i4, h⟩ := h
  refine r_iald (pc := 138) dX12_bounds_138 k3 i4 ?_
  refine r_icmp_ge (pc := 139) (tgt := 226) dX12_bounds_139 (by decide) (fun c5 => ?_) (fun c5 => ?_)
  · replace h := h.1 c5
    refine r_iconst (pc := 226) (v := 0) dX12_bounds_226 (by decide) ?_
    refine r_istore (pc := 227) (i := 10) dX12_bounds_227 rfl (Nat.le_of_ble_eq_true rfl) ?_
    exact h
  · replace h := h.2 c5
    refine r_aload_n (pc := 142) (i := 0) dX12_bounds_142 rfl rfl ?_
    obtain ⟨b6, hb6, h⟩ := h
    refine r_getr (pc := 143) flX12_165 dX12_bounds_143 rfl k1 hb6 ?_
    refine r_bipush (pc := 146) (v := 40) dX12_bounds_146 (by decide) ?_
    refine r_iload_n (pc := 148) (i := 2) dX12_bounds_148 rfl rfl ?_
    refine r_imul (pc := 149) dX12_bounds_149 ?_
    refine r_iload (pc := 150) (i := 10) dX12_bounds_150 rfl ?_
    refine r_iadd (pc := 152) dX12_bounds_152 ?_
    obtain ⟨k7, h⟩ := h
    obtain ⟨i8, h⟩ := h
    refine r_zald (pc := 153) dX12_bounds_153 k7 i8 ?_
    refine r_aload_n (pc := 154) (i := 0) dX12_bounds_154 rfl rfl ?_
    obtain ⟨b9, hb9, h⟩ := h
    refine r_getr (pc := 155) flX12_104 dX12_bounds_155 rfl k1 hb9 ?_
    refine r_iload_n (pc := 158) (i := 1) dX12_bounds_158 rfl rfl ?_
    obtain ⟨k10, h⟩ := h
    obtain ⟨i11, h⟩ := h
    refine r_iald (pc := 159) dX12_bounds_159 k10 i11 ?_
    refine r_bipush (pc := 160) (v := 7) dX12_bounds_160 (by decide) ?_
    refine r_icmp_ne (pc := 162) (tgt := 169) dX12_bounds_162 (by decide) (fun c12 => ?_) (fun c12 => ?_)
    · replace h := h.1 c12
      refine r_iconst (pc := 169) (v := 0) dX12_bounds_169 (by decide) ?_
      refine r_icmp_ne (pc := 170) (tgt := 177) dX12_bounds_170 (by decide) (fun c13 => ?_) (fun c13 => ?_)
      · replace h := h.1 c13
        refine r_iconst (pc := 177) (v := 0) dX12_bounds_177 (by decide) ?_
        exact h
      · replace h := h.2 c13
        refine r_iconst (pc := 173) (v := 1) dX12_bounds_173 (by decide) ?_
        refine r_goto (pc := 174) (tgt := 178) dX12_bounds_174 (by decide) ?_
        exact h
    · replace h := h.2 c12
      refine r_iconst (pc := 165) (v := 1) dX12_bounds_165 (by decide) ?_
      refine r_goto (pc := 166) (tgt := 170) dX12_bounds_166 (by decide) ?_
      refine r_icmp_ne (pc := 170) (tgt := 177) dX12_bounds_170 (by decide) (fun c14 => ?_) (fun c14 => ?_)
      · replace h := h.1 c14
        refine r_iconst (pc := 177) (v := 0) dX12_bounds_177 (by decide) ?_
        exact h
      · replace h := h.2 c14
        refine r_iconst (pc := 173) (v := 1) dX12_bounds_173 (by decide) ?_
        refine r_goto (pc := 174) (tgt := 178) dX12_bounds_174 (by decide) ?_
        exact h
theorem vX12_bounds_178 {G : GG} {d rc rs : Nat} (p0 : Nat) (x1 : Int32) (x2 : Int32) (x3 : Int32) (l4 : Int64) (l6 : Int64) (x8 : Int32) (x9 : Int32) (x10 : Int32) (z11 : Option Value) (u0 : Int32) (hz11 : c1 z11 = true) {M : Mem} {Q : Option Value → Mem → Prop} (h : (x_h M p0).1 = 28 ∧ (∃ b2, x_r M p0 28 = some b2 ∧ ∃ b3, x_r M p0 76 = some b3 ∧ (x_h M b3).1 = 2 ∧ vp_in x9 (x_h M b3).2 ∧ (¬ (lg_cmp (((x_l M b3 x9.toNatClampNeg) >>> (x10.toInt64 &&& 63)) &&& 1) 1) = 0 → (x_h M b2).1 = 1 ∧ vp_in x9 (x_h M b2).2 ∧ (∀ M9, M9 = x_si M b2 x9.toNatClampNeg (x_i M b2 x9.toNatClampNeg) → LX12_bounds_131 G d rc rs p0 x1 x2 x3 l4 l6 x8 x9 (x10 + 1) (some (.int u0)) M9 Q)) ∧ ((lg_cmp (((x_l M b3 x9.toNatClampNeg) >>> (x10.toInt64 &&& 63)) &&& 1) 1) = 0 → (u0 = 0 → (x_h M b2).1 = 1 ∧ vp_in x9 (x_h M b2).2 ∧ (∀ M13, M13 = x_si M b2 x9.toNatClampNeg (x_i M b2 x9.toNatClampNeg) → LX12_bounds_131 G d rc rs p0 x1 x2 x3 l4 l6 x8 x9 (x10 + 1) (some (.int u0)) M13 Q)) ∧ (¬ u0 = 0 → (x_h M b2).1 = 1 ∧ vp_in x9 (x_h M b2).2 ∧ (∀ M16, M16 = x_si M b2 x9.toNatClampNeg 1 → LX12_bounds_131 G d rc rs p0 x1 x2 x3 l4 l6 x8 x9 (x10 + 1) (some (.int u0)) M16 Q))))) : LX12_bounds_178 G d rc rs p0 x1 x2 x3 l4 l6 x8 x9 x10 z11 u0 M Q := by
  show Wk G (d + 1) rc rs mX12_bounds 178 _ _ M Q
  refine r_istore (pc := 178) (i := 11) dX12_bounds_178 rfl (Nat.le_of_ble_eq_true rfl) ?_
  refine r_aload_n (pc := 180) (i := 0) dX12_bounds_180 rfl rfl ?_
  obtain ⟨k1, h⟩ := h
  obtain ⟨b2, hb2, h⟩ := h
  refine r_getr (pc := 181) flX12_76 dX12_bounds_181 rfl k1 hb2 ?_
  refine r_iload (pc := 184) (i := 9) dX12_bounds_184 rfl ?_
  refine r_aload_n (pc := 186) (i := 0) dX12_bounds_186 rfl rfl ?_
  obtain ⟨b3, hb3, h⟩ := h
  refine r_getr (pc := 187) flX12_168 dX12_bounds_187 rfl k1 hb3 ?_
  refine r_iload (pc := 190) (i := 9) dX12_bounds_190 rfl ?_
  obtain ⟨k4, h⟩ := h
  obtain ⟨i5, h⟩ := h
  refine r_lald (pc := 192) dX12_bounds_192 k4 i5 ?_
  refine r_iload (pc := 193) (i := 10) dX12_bounds_193 rfl ?_
  refine r_lshr (pc := 195) dX12_bounds_195 ?_
  refine r_lconst (pc := 196) (v := 1) dX12_bounds_196 (by decide) ?_
  refine r_land (pc := 197) dX12_bounds_197 ?_
  refine r_lconst (pc := 198) (v := 1) dX12_bounds_198 (by decide) ?_
  refine r_lcmp (pc := 199) dX12_bounds_199 ?_
  refine r_if_ne (pc := 200) (tgt := 212) dX12_bounds_200 (by decide) (fun c6 => ?_) (fun c6 => ?_)
  · replace h := h.1 c6
    refine r_aload_n (pc := 212) (i := 0) dX12_bounds_212 rfl rfl ?_
    refine r_getr (pc := 213) flX12_76 dX12_bounds_213 rfl k1 hb2 ?_
    refine r_iload (pc := 216) (i := 9) dX12_bounds_216 rfl ?_
    obtain ⟨k7, h⟩ := h
    obtain ⟨i8, h⟩ := h
    refine r_iald (pc := 218) dX12_bounds_218 k7 i8 ?_
    refine r_iast (pc := 219) dX12_bounds_219 k7 i8 ?_
    replace h := h _ rfl
    refine r_iinc (pc := 220) (i := 10) (v := _ + 1) dX12_bounds_220 rfl rfl rfl ?_
    refine r_goto (pc := 223) (tgt := 131) dX12_bounds_223 (by decide) ?_
    exact h
  · replace h := h.2 c6
    refine r_iload (pc := 203) (i := 11) dX12_bounds_203 rfl ?_
    refine r_if_eq (pc := 205) (tgt := 212) dX12_bounds_205 (by decide) (fun c10 => ?_) (fun c10 => ?_)
    · replace h := h.1 c10
      refine r_aload_n (pc := 212) (i := 0) dX12_bounds_212 rfl rfl ?_
      refine r_getr (pc := 213) flX12_76 dX12_bounds_213 rfl k1 hb2 ?_
      refine r_iload (pc := 216) (i := 9) dX12_bounds_216 rfl ?_
      obtain ⟨k11, h⟩ := h
      obtain ⟨i12, h⟩ := h
      refine r_iald (pc := 218) dX12_bounds_218 k11 i12 ?_
      refine r_iast (pc := 219) dX12_bounds_219 k11 i12 ?_
      replace h := h _ rfl
      refine r_iinc (pc := 220) (i := 10) (v := _ + 1) dX12_bounds_220 rfl rfl rfl ?_
      refine r_goto (pc := 223) (tgt := 131) dX12_bounds_223 (by decide) ?_
      exact h
    · replace h := h.2 c10
      refine r_iconst (pc := 208) (v := 1) dX12_bounds_208 (by decide) ?_
      refine r_goto (pc := 209) (tgt := 219) dX12_bounds_209 (by decide) ?_
      obtain ⟨k14, h⟩ := h
      obtain ⟨i15, h⟩ := h
      refine r_iast (pc := 219) dX12_bounds_219 k14 i15 ?_
      replace h := h _ rfl
      refine r_iinc (pc := 220) (i := 10) (v := _ + 1) dX12_bounds_220 rfl rfl rfl ?_
      refine r_goto (pc := 223) (tgt := 131) dX12_bounds_223 (by decide) ?_
      exact h
theorem vX12_bounds_229 {G : GG} {d rc rs : Nat} (p0 : Nat) (x1 : Int32) (x2 : Int32) (x3 : Int32) (l4 : Int64) (l6 : Int64) (x8 : Int32) (x9 : Int32) (x10 : Int32) (z11 : Option Value) (hz11 : c1 z11 = true) {M : Mem} {Q : Option Value → Mem → Prop} (h : (x8 ≤ x10 → LX12_bounds_101 G d rc rs p0 x1 x2 x3 l4 l6 x8 (x9 + 1) (some (.int x10)) z11 M Q) ∧ (¬ x8 ≤ x10 → (x_h M p0).1 = 28 ∧ (300 < (x_i M p0 25) → LX12_bounds_101 G d rc rs p0 x1 x2 x3 l4 l6 x8 (x9 + 1) (some (.int x10)) z11 M Q) ∧ (¬ 300 < (x_i M p0 25) → ∃ b4, x_r M p0 27 = some b4 ∧ ∃ b5, x_r M p0 76 = some b5 ∧ (x_h M b5).1 = 2 ∧ vp_in x9 (x_h M b5).2 ∧ Call G d 0 0 mX12_steps [.ref p0, .int x2, .long (x_l M b5 x9.toNatClampNeg), .int x10, .int x3] M (fun r8 M9 => ∃ v10 : Int64, r8 = some (.long v10) ∧ (x_h M9 p0).1 = 28 ∧ Call G d 0 0 mX12_setOf [.ref p0, .long v10] M9 (fun r12 M13 => ∃ v14 : Int32, r12 = some (.int v14) ∧ (x_h M13 b4).1 = 1 ∧ vp_in ((27 * x9) + x10) (x_h M13 b4).2 ∧ (∀ M17, M17 = x_si M13 b4 ((27 * x9) + x10).toNatClampNeg v14 → LX12_bounds_229 G d rc rs p0 x1 x2 x3 l4 l6 x8 x9 (x10 + 1) z11 M17 Q)))))) : LX12_bounds_229 G d rc rs p0 x1 x2 x3 l4 l6 x8 x9 x10 z11 M Q := by
  show Wk G (d + 1) rc rs mX12_bounds 229 _ _ M Q
  refine r_iload (pc := 229) (i := 10) dX12_bounds_229 rfl ?_
  refine r_iload (pc := 231) (i := 8) dX12_bounds_231 rfl ?_
  refine r_icmp_ge (pc := 233) (tgt := 284) dX12_bounds_233 (by decide) (fun c1 => ?_) (fun c1 => ?_)
  · replace h := h.1 c1
    refine r_iinc (pc := 284) (i := 9) (v := _ + 1) dX12_bounds_284 rfl rfl rfl ?_
    refine r_goto (pc := 287) (tgt := 101) dX12_bounds_287 (by decide) ?_
    exact h
  · replace h := h.2 c1
    refine r_aload_n (pc := 236) (i := 0) dX12_bounds_236 rfl rfl ?_
    obtain ⟨k2, h⟩ := h
    refine r_geti (pc := 237) flX12_234 dX12_bounds_237 (Or.inl rfl) k2 ?_
    refine r_sipush (pc := 240) (v := 300) dX12_bounds_240 (by decide) ?_
    refine r_icmp_gt (pc := 243) (tgt := 284) dX12_bounds_243 (by decide) (fun c3 => ?_) (fun c3 => ?_)
    · replace h := h.1 c3
      refine r_iinc (pc := 284) (i := 9) (v := _ + 1) dX12_bounds_284 rfl rfl rfl ?_
      refine r_goto (pc := 287) (tgt := 101) dX12_bounds_287 (by decide) ?_
      exact h
    · replace h := h.2 c3
      refine r_aload_n (pc := 246) (i := 0) dX12_bounds_246 rfl rfl ?_
      obtain ⟨b4, hb4, h⟩ := h
      refine r_getr (pc := 247) flX12_73 dX12_bounds_247 rfl k2 hb4 ?_
      refine r_bipush (pc := 250) (v := 27) dX12_bounds_250 (by decide) ?_
      refine r_iload (pc := 252) (i := 9) dX12_bounds_252 rfl ?_
      refine r_imul (pc := 254) dX12_bounds_254 ?_
      refine r_iload (pc := 255) (i := 10) dX12_bounds_255 rfl ?_
      refine r_iadd (pc := 257) dX12_bounds_257 ?_
      refine r_aload_n (pc := 258) (i := 0) dX12_bounds_258 rfl rfl ?_
      refine r_aload_n (pc := 259) (i := 0) dX12_bounds_259 rfl rfl ?_
      refine r_iload_n (pc := 260) (i := 2) dX12_bounds_260 rfl rfl ?_
      refine r_aload_n (pc := 261) (i := 0) dX12_bounds_261 rfl rfl ?_
      obtain ⟨b5, hb5, h⟩ := h
      refine r_getr (pc := 262) flX12_168 dX12_bounds_262 rfl k2 hb5 ?_
      refine r_iload (pc := 265) (i := 9) dX12_bounds_265 rfl ?_
      obtain ⟨k6, h⟩ := h
      obtain ⟨i7, h⟩ := h
      refine r_lald (pc := 267) dX12_bounds_267 k6 i7 ?_
      refine r_iload (pc := 268) (i := 10) dX12_bounds_268 rfl ?_
      refine r_iload_n (pc := 270) (i := 3) dX12_bounds_270 rfl rfl ?_
      refine r_callV (pc := 271) (ci := 12) (as := [_, _, _, _]) (st := [_, _, _]) okX12_steps lkX12_436 inX12_steps seX12_steps ⟨_, rfl, rfl⟩ dX12_bounds_271 rfl k2 (Nat.le_of_ble_eq_true rfl) (Nat.zero_le _) (Nat.zero_le _) (Call.mono h (fun r8 M9 h => ?_))
      obtain ⟨v10, rfl, h⟩ := h
      obtain ⟨k11, h⟩ := h
      refine r_callV (pc := 274) (ci := 12) (as := [_]) (st := [_, _]) okX12_setOf lkX12_440 inX12_setOf seX12_setOf ⟨_, rfl, rfl⟩ dX12_bounds_274 rfl k11 (Nat.le_of_ble_eq_true rfl) (Nat.zero_le _) (Nat.zero_le _) (Call.mono h (fun r12 M13 h => ?_))
      obtain ⟨v14, rfl, h⟩ := h
      obtain ⟨k15, h⟩ := h
      obtain ⟨i16, h⟩ := h
      refine r_iast (pc := 277) dX12_bounds_277 k15 i16 ?_
      replace h := h _ rfl
      refine r_iinc (pc := 278) (i := 10) (v := _ + 1) dX12_bounds_278 rfl rfl rfl ?_
      refine r_goto (pc := 281) (tgt := 229) dX12_bounds_281 (by decide) ?_
      exact h
theorem vX12_bounds_305 {G : GG} {d rc rs : Nat} (p0 : Nat) (x1 : Int32) (x2 : Int32) (x3 : Int32) (l4 : Int64) (l6 : Int64) (x8 : Int32) (x9 : Int32) (z10 : Option Value) (z11 : Option Value) (hz10 : c1 z10 = true) (hz11 : c1 z11 = true) {M : Mem} {Q : Option Value → Mem → Prop} (h : (x_h M p0).1 = 28 ∧ ((x_i M p0 25) ≤ x9 → ∀ M3, M3 = x_si M p0 26 x8 → Call G d 0 0 mX12_becomes [.ref p0, .int x1] M3 (fun r4 M5 => ∃ v6 : Int32, r4 = some (.int v6) ∧ (v6 = 0 ∨ v6 = 1) ∧ Q (some (.int v6)) M5)) ∧ (¬ (x_i M p0 25) ≤ x9 → ∃ b7, x_r M p0 48 = some b7 ∧ (x_h M b7).1 = 1 ∧ vp_in x1 (x_h M b7).2 ∧ (¬ (x_i M b7 x1.toNatClampNeg) = 6 → ∀ M11, M11 = x_si M p0 26 x8 → Call G d 0 0 mX12_becomes [.ref p0, .int x1] M11 (fun r12 M13 => ∃ v14 : Int32, r12 = some (.int v14) ∧ (v14 = 0 ∨ v14 = 1) ∧ Q (some (.int v14)) M13)) ∧ ((x_i M b7 x1.toNatClampNeg) = 6 → ∃ b15, x_r M p0 28 = some b15 ∧ (x_h M b15).1 = 1 ∧ vp_in x9 (x_h M b15).2 ∧ (∀ M18, M18 = x_si M b15 x9.toNatClampNeg (1 - (x_i M b15 x9.toNatClampNeg)) → LX12_bounds_305 G d rc rs p0 x1 x2 x3 l4 l6 x8 (x9 + 1) z10 z11 M18 Q)))) : LX12_bounds_305 G d rc rs p0 x1 x2 x3 l4 l6 x8 x9 z10 z11 M Q := by
  show Wk G (d + 1) rc rs mX12_bounds 305 _ _ M Q
  refine r_iload (pc := 305) (i := 9) dX12_bounds_305 rfl ?_
  refine r_aload_n (pc := 307) (i := 0) dX12_bounds_307 rfl rfl ?_
  obtain ⟨k1, h⟩ := h
  refine r_geti (pc := 308) flX12_234 dX12_bounds_308 (Or.inl rfl) k1 ?_
  refine r_icmp_ge (pc := 311) (tgt := 347) dX12_bounds_311 (by decide) (fun c2 => ?_) (fun c2 => ?_)
  · replace h := h.1 c2
    refine r_aload_n (pc := 347) (i := 0) dX12_bounds_347 rfl rfl ?_
    refine r_iload (pc := 348) (i := 8) dX12_bounds_348 rfl ?_
    refine r_puti (pc := 350) flX12_226 dX12_bounds_350 (Or.inl rfl) (fun q hq => by cases hq; rfl) k1 ?_
    replace h := h _ rfl
    refine r_aload_n (pc := 353) (i := 0) dX12_bounds_353 rfl rfl ?_
    refine r_iload_n (pc := 354) (i := 1) dX12_bounds_354 rfl rfl ?_
    refine r_callV (pc := 355) (ci := 12) (as := [_]) (st := []) okX12_becomes lkX12_429 inX12_becomes seX12_becomes ⟨_, rfl, rfl⟩ dX12_bounds_355 rfl k1 (Nat.le_of_ble_eq_true rfl) (Nat.zero_le _) (Nat.zero_le _) (Call.mono h (fun r4 M5 h => ?_))
    obtain ⟨v6, rfl, h⟩ := h
    exact r_zret (pc := 358) dX12_bounds_358 rfl h.1 h.2
  · replace h := h.2 c2
    refine r_aload_n (pc := 314) (i := 0) dX12_bounds_314 rfl rfl ?_
    obtain ⟨b7, hb7, h⟩ := h
    refine r_getr (pc := 315) flX12_104 dX12_bounds_315 rfl k1 hb7 ?_
    refine r_iload_n (pc := 318) (i := 1) dX12_bounds_318 rfl rfl ?_
    obtain ⟨k8, h⟩ := h
    obtain ⟨i9, h⟩ := h
    refine r_iald (pc := 319) dX12_bounds_319 k8 i9 ?_
    refine r_bipush (pc := 320) (v := 6) dX12_bounds_320 (by decide) ?_
    refine r_icmp_ne (pc := 322) (tgt := 347) dX12_bounds_322 (by decide) (fun c10 => ?_) (fun c10 => ?_)
    · replace h := h.1 c10
      refine r_aload_n (pc := 347) (i := 0) dX12_bounds_347 rfl rfl ?_
      refine r_iload (pc := 348) (i := 8) dX12_bounds_348 rfl ?_
      refine r_puti (pc := 350) flX12_226 dX12_bounds_350 (Or.inl rfl) (fun q hq => by cases hq; rfl) k1 ?_
      replace h := h _ rfl
      refine r_aload_n (pc := 353) (i := 0) dX12_bounds_353 rfl rfl ?_
      refine r_iload_n (pc := 354) (i := 1) dX12_bounds_354 rfl rfl ?_
      refine r_callV (pc := 355) (ci := 12) (as := [_]) (st := []) okX12_becomes lkX12_429 inX12_becomes seX12_becomes ⟨_, rfl, rfl⟩ dX12_bounds_355 rfl k1 (Nat.le_of_ble_eq_true rfl) (Nat.zero_le _) (Nat.zero_le _) (Call.mono h (fun r12 M13 h => ?_))
      obtain ⟨v14, rfl, h⟩ := h
      exact r_zret (pc := 358) dX12_bounds_358 rfl h.1 h.2
    · replace h := h.2 c10
      refine r_aload_n (pc := 325) (i := 0) dX12_bounds_325 rfl rfl ?_
      obtain ⟨b15, hb15, h⟩ := h
      refine r_getr (pc := 326) flX12_76 dX12_bounds_326 rfl k1 hb15 ?_
      refine r_iload (pc := 329) (i := 9) dX12_bounds_329 rfl ?_
      refine r_iconst (pc := 331) (v := 1) dX12_bounds_331 (by decide) ?_
      refine r_aload_n (pc := 332) (i := 0) dX12_bounds_332 rfl rfl ?_
      refine r_getr (pc := 333) flX12_76 dX12_bounds_333 rfl k1 hb15 ?_
      refine r_iload (pc := 336) (i := 9) dX12_bounds_336 rfl ?_
      obtain ⟨k16, h⟩ := h
      obtain ⟨i17, h⟩ := h
      refine r_iald (pc := 338) dX12_bounds_338 k16 i17 ?_
      refine r_isub (pc := 339) dX12_bounds_339 ?_
      refine r_iast (pc := 340) dX12_bounds_340 k16 i17 ?_
      replace h := h _ rfl
      refine r_iinc (pc := 341) (i := 9) (v := _ + 1) dX12_bounds_341 rfl rfl rfl ?_
      refine r_goto (pc := 344) (tgt := 305) dX12_bounds_344 (by decide) ?_
      exact h
abbrev LX12_difference_43 (G : GG) (d rc rs : Nat) (p0 : Nat) (l1 : Int64) (v0 : Int64) (M : Mem) (Q : Option Value → Mem → Prop) : Prop := Wk G (d + 1) rc rs mX12_difference 43 [some (.ref p0), some (.long l1), none, none] [.long v0] M Q
theorem eX12_difference {G : GG} {d rc rs : Nat} (o : Nat) (a1 : Int64)  {M : Mem} {Q : Option Value → Mem → Prop} (h : (x_h M o).1 = 28 ∧ ((lg_cmp a1 ((x_i M o 78).toInt64)) ≤ 0 → (0 ≤ (lg_cmp a1 ((-(x_i M o 78)).toInt64)) → LX12_difference_43 G d rc rs o a1 a1 M Q) ∧ (¬ 0 ≤ (lg_cmp a1 ((-(x_i M o 78)).toInt64)) → LX12_difference_43 G d rc rs o a1 (((-(x_i M o 78)).toInt64) - 1) M Q)) ∧ (¬ (lg_cmp a1 ((x_i M o 78).toInt64)) ≤ 0 → LX12_difference_43 G d rc rs o a1 (((x_i M o 78).toInt64) + 1) M Q)) : Call G (d + 1) rc rs mX12_difference [.ref o, .long a1] M Q := by
  refine call_of (by decide) (Nat.le_of_ble_eq_true rfl) ?_
  show Wk G (d + 1) rc rs mX12_difference 0 [some (.ref o), some (.long a1), none, none] [] M Q
  refine r_lload_n (pc := 0) (i := 1) dX12_difference_0 rfl rfl ?_
  refine r_aload_n (pc := 1) (i := 0) dX12_difference_1 rfl rfl ?_
  obtain ⟨k1, h⟩ := h
  refine r_geti (pc := 2) flX12_444 dX12_difference_2 (Or.inl rfl) k1 ?_
  refine r_i2l (pc := 5) dX12_difference_5 ?_
  refine r_lcmp (pc := 6) dX12_difference_6 ?_
  refine r_if_le (pc := 7) (tgt := 20) dX12_difference_7 (by decide) (fun c2 => ?_) (fun c2 => ?_)
  · replace h := h.1 c2
    refine r_lload_n (pc := 20) (i := 1) dX12_difference_20 rfl rfl ?_
    refine r_aload_n (pc := 21) (i := 0) dX12_difference_21 rfl rfl ?_
    refine r_geti (pc := 22) flX12_444 dX12_difference_22 (Or.inl rfl) k1 ?_
    refine r_ineg (pc := 25) dX12_difference_25 ?_
    refine r_i2l (pc := 26) dX12_difference_26 ?_
    refine r_lcmp (pc := 27) dX12_difference_27 ?_
    refine r_if_ge (pc := 28) (tgt := 42) dX12_difference_28 (by decide) (fun c3 => ?_) (fun c3 => ?_)
    · replace h := h.1 c3
      refine r_lload_n (pc := 42) (i := 1) dX12_difference_42 rfl rfl ?_
      exact h
    · replace h := h.2 c3
      refine r_aload_n (pc := 31) (i := 0) dX12_difference_31 rfl rfl ?_
      refine r_geti (pc := 32) flX12_444 dX12_difference_32 (Or.inl rfl) k1 ?_
      refine r_ineg (pc := 35) dX12_difference_35 ?_
      refine r_i2l (pc := 36) dX12_difference_36 ?_
      refine r_lconst (pc := 37) (v := 1) dX12_difference_37 (by decide) ?_
      refine r_lsub (pc := 38) dX12_difference_38 ?_
      refine r_goto (pc := 39) (tgt := 43) dX12_difference_39 (by decide) ?_
      exact h
  · replace h := h.2 c2
    refine r_aload_n (pc := 10) (i := 0) dX12_difference_10 rfl rfl ?_
    refine r_geti (pc := 11) flX12_444 dX12_difference_11 (Or.inl rfl) k1 ?_
    refine r_i2l (pc := 14) dX12_difference_14 ?_
    refine r_lconst (pc := 15) (v := 1) dX12_difference_15 (by decide) ?_
    refine r_ladd (pc := 16) dX12_difference_16 ?_
    refine r_goto (pc := 17) (tgt := 43) dX12_difference_17 (by decide) ?_
    exact h
theorem vX12_difference_43 {G : GG} {d rc rs : Nat} (p0 : Nat) (l1 : Int64) (v0 : Int64)  {M : Mem} {Q : Option Value → Mem → Prop} (h : (x_h M p0).1 = 28 ∧ (∃ b2, x_r M p0 77 = some b2 ∧ (x_h M b2).1 = 1 ∧ vp_in ((v0.toInt32 + (x_i M p0 78)) + 1) (x_h M b2).2 ∧ (¬ (x_i M b2 ((v0.toInt32 + (x_i M p0 78)) + 1).toNatClampNeg) = (-1) → Q (some (.int (x_i M b2 ((v0.toInt32 + (x_i M p0 78)) + 1).toNatClampNeg))) M) ∧ ((x_i M b2 ((v0.toInt32 + (x_i M p0 78)) + 1).toNatClampNeg) = (-1) → ∀ M6, M6 = x_si M b2 ((v0.toInt32 + (x_i M p0 78)) + 1).toNatClampNeg (x_i M p0 25) → ∃ b7, x_r M6 p0 36 = some b7 ∧ (x_h M b7).1 = 1 ∧ vp_in (x_i M6 p0 25) (x_h M b7).2 ∧ (∀ M10, M10 = x_si M6 b7 (x_i M6 p0 25).toNatClampNeg ((((v0.toInt32 + (x_i M p0 78)) + 1) - (x_i M6 p0 78)) - 1) → ∀ M11, M11 = x_si M10 p0 25 ((x_i M10 p0 25) + 1) → Q (some (.int (x_i M11 b2 ((v0.toInt32 + (x_i M p0 78)) + 1).toNatClampNeg))) M11)))) : LX12_difference_43 G d rc rs p0 l1 v0 M Q := by
  show Wk G (d + 1) rc rs mX12_difference 43 _ _ M Q
  refine r_l2i (pc := 43) dX12_difference_43 ?_
  refine r_aload_n (pc := 44) (i := 0) dX12_difference_44 rfl rfl ?_
  obtain ⟨k1, h⟩ := h
  refine r_geti (pc := 45) flX12_444 dX12_difference_45 (Or.inl rfl) k1 ?_
  refine r_iadd (pc := 48) dX12_difference_48 ?_
  refine r_iconst (pc := 49) (v := 1) dX12_difference_49 (by decide) ?_
  refine r_iadd (pc := 50) dX12_difference_50 ?_
  refine r_istore_n (pc := 51) (i := 3) dX12_difference_51 rfl rfl (Nat.le_of_ble_eq_true rfl) ?_
  refine r_aload_n (pc := 52) (i := 0) dX12_difference_52 rfl rfl ?_
  obtain ⟨b2, hb2, h⟩ := h
  refine r_getr (pc := 53) flX12_172 dX12_difference_53 rfl k1 hb2 ?_
  refine r_iload_n (pc := 56) (i := 3) dX12_difference_56 rfl rfl ?_
  obtain ⟨k3, h⟩ := h
  obtain ⟨i4, h⟩ := h
  refine r_iald (pc := 57) dX12_difference_57 k3 i4 ?_
  refine r_iconst (pc := 58) (v := (-1)) dX12_difference_58 (by decide) ?_
  refine r_icmp_ne (pc := 59) (tgt := 99) dX12_difference_59 (by decide) (fun c5 => ?_) (fun c5 => ?_)
  · replace h := h.1 c5
    refine r_aload_n (pc := 99) (i := 0) dX12_difference_99 rfl rfl ?_
    refine r_getr (pc := 100) flX12_172 dX12_difference_100 rfl k1 hb2 ?_
    refine r_iload_n (pc := 103) (i := 3) dX12_difference_103 rfl rfl ?_
    refine r_iald (pc := 104) dX12_difference_104 k3 i4 ?_
    exact r_iret (pc := 105) dX12_difference_105 rfl h
  · replace h := h.2 c5
    refine r_aload_n (pc := 62) (i := 0) dX12_difference_62 rfl rfl ?_
    refine r_getr (pc := 63) flX12_172 dX12_difference_63 rfl k1 hb2 ?_
    refine r_iload_n (pc := 66) (i := 3) dX12_difference_66 rfl rfl ?_
    refine r_aload_n (pc := 67) (i := 0) dX12_difference_67 rfl rfl ?_
    refine r_geti (pc := 68) flX12_234 dX12_difference_68 (Or.inl rfl) k1 ?_
    refine r_iast (pc := 71) dX12_difference_71 k3 i4 ?_
    replace h := h _ rfl
    refine r_aload_n (pc := 72) (i := 0) dX12_difference_72 rfl rfl ?_
    obtain ⟨b7, hb7, h⟩ := h
    refine r_getr (pc := 73) flX12_98 dX12_difference_73 rfl k1 hb7 ?_
    refine r_aload_n (pc := 76) (i := 0) dX12_difference_76 rfl rfl ?_
    refine r_geti (pc := 77) flX12_234 dX12_difference_77 (Or.inl rfl) k1 ?_
    refine r_iload_n (pc := 80) (i := 3) dX12_difference_80 rfl rfl ?_
    refine r_aload_n (pc := 81) (i := 0) dX12_difference_81 rfl rfl ?_
    refine r_geti (pc := 82) flX12_444 dX12_difference_82 (Or.inl rfl) k1 ?_
    refine r_isub (pc := 85) dX12_difference_85 ?_
    refine r_iconst (pc := 86) (v := 1) dX12_difference_86 (by decide) ?_
    refine r_isub (pc := 87) dX12_difference_87 ?_
    obtain ⟨k8, h⟩ := h
    obtain ⟨i9, h⟩ := h
    refine r_iast (pc := 88) dX12_difference_88 k8 i9 ?_
    replace h := h _ rfl
    refine r_aload_n (pc := 89) (i := 0) dX12_difference_89 rfl rfl ?_
    refine r_dup (pc := 90) dX12_difference_90 rfl ?_
    refine r_geti (pc := 91) flX12_234 dX12_difference_91 (Or.inl rfl) k1 ?_
    refine r_iconst (pc := 94) (v := 1) dX12_difference_94 (by decide) ?_
    refine r_iadd (pc := 95) dX12_difference_95 ?_
    refine r_puti (pc := 96) flX12_234 dX12_difference_96 (Or.inl rfl) (fun q hq => by cases hq; rfl) k1 ?_
    replace h := h _ rfl
    refine r_aload_n (pc := 99) (i := 0) dX12_difference_99 rfl rfl ?_
    refine r_getr (pc := 100) flX12_172 dX12_difference_100 rfl k1 hb2 ?_
    refine r_iload_n (pc := 103) (i := 3) dX12_difference_103 rfl rfl ?_
    refine r_iald (pc := 104) dX12_difference_104 k3 i4 ?_
    exact r_iret (pc := 105) dX12_difference_105 rfl h
abbrev LX12_sumsMachine_4 (G : GG) (d rc rs : Nat) (p0 : Nat) (x1 : Int32) (x2 : Int32) (x3 : Int32) (z4 : Option Value) (M : Mem) (Q : Option Value → Mem → Prop) : Prop := Wk G (d + 1) rc rs mX12_sumsMachine 4 [some (.ref p0), some (.int x1), some (.int x2), some (.int x3), z4, none, none, none, none, none] [] M Q
abbrev LX12_sumsMachine_88 (G : GG) (d rc rs : Nat) (p0 : Nat) (x1 : Int32) (x2 : Int32) (x3 : Int32) (x4 : Int32) (M : Mem) (Q : Option Value → Mem → Prop) : Prop := Wk G (d + 1) rc rs mX12_sumsMachine 88 [some (.ref p0), some (.int x1), some (.int x2), some (.int x3), some (.int x4), none, none, none, none, none] [] M Q
abbrev LX12_sumsMachine_143 (G : GG) (d rc rs : Nat) (p0 : Nat) (x1 : Int32) (x2 : Int32) (x3 : Int32) (x4 : Int32) (z5 : Option Value) (z6 : Option Value) (z7 : Option Value) (z8 : Option Value) (z9 : Option Value) (M : Mem) (Q : Option Value → Mem → Prop) : Prop := Wk G (d + 1) rc rs mX12_sumsMachine 143 [some (.ref p0), some (.int x1), some (.int x2), some (.int x3), some (.int x4), z5, z6, z7, z8, z9] [] M Q
abbrev LX12_sumsMachine_233 (G : GG) (d rc rs : Nat) (p0 : Nat) (x1 : Int32) (x2 : Int32) (x3 : Int32) (x4 : Int32) (x5 : Int32) (x6 : Int32) (z7 : Option Value) (z8 : Option Value) (z9 : Option Value) (q0 : Nat) (u1 : Int32) (u2 : Int32) (M : Mem) (Q : Option Value → Mem → Prop) : Prop := Wk G (d + 1) rc rs mX12_sumsMachine 233 [some (.ref p0), some (.int x1), some (.int x2), some (.int x3), some (.int x4), some (.int x5), some (.int x6), z7, z8, z9] [.int u2, .int u1, .ref q0] M Q
abbrev LX12_sumsMachine_282 (G : GG) (d rc rs : Nat) (p0 : Nat) (x1 : Int32) (x2 : Int32) (x3 : Int32) (x4 : Int32) (x5 : Int32) (x6 : Int32) (x7 : Int32) (z8 : Option Value) (z9 : Option Value) (M : Mem) (Q : Option Value → Mem → Prop) : Prop := Wk G (d + 1) rc rs mX12_sumsMachine 282 [some (.ref p0), some (.int x1), some (.int x2), some (.int x3), some (.int x4), some (.int x5), some (.int x6), some (.int x7), z8, z9] [] M Q
abbrev LX12_sumsMachine_297 (G : GG) (d rc rs : Nat) (p0 : Nat) (x1 : Int32) (x2 : Int32) (x3 : Int32) (x4 : Int32) (x5 : Int32) (x6 : Int32) (x7 : Int32) (x8 : Int32) (x9 : Int32) (M : Mem) (Q : Option Value → Mem → Prop) : Prop := Wk G (d + 1) rc rs mX12_sumsMachine 297 [some (.ref p0), some (.int x1), some (.int x2), some (.int x3), some (.int x4), some (.int x5), some (.int x6), some (.int x7), some (.int x8), some (.int x9)] [] M Q
theorem eX12_sumsMachine {G : GG} {d rc rs : Nat} (o : Nat) (a1 : Int32)  {M : Mem} {Q : Option Value → Mem → Prop} (h : LX12_sumsMachine_4 G d rc rs o a1 0 0 none M Q) : Call G (d + 1) rc rs mX12_sumsMachine [.ref o, .int a1] M Q := by
  refine call_of (by decide) (Nat.le_of_ble_eq_true rfl) ?_
  show Wk G (d + 1) rc rs mX12_sumsMachine 0 [some (.ref o), some (.int a1), none, none, none, none, none, none, none, none] [] M Q
  refine r_iconst (pc := 0) (v := 0) dX12_sumsMachine_0 (by decide) ?_
  refine r_istore_n (pc := 1) (i := 2) dX12_sumsMachine_1 rfl rfl (Nat.le_of_ble_eq_true rfl) ?_
  refine r_iconst (pc := 2) (v := 0) dX12_sumsMachine_2 (by decide) ?_
  refine r_istore_n (pc := 3) (i := 3) dX12_sumsMachine_3 rfl rfl (Nat.le_of_ble_eq_true rfl) ?_
  exact h
theorem vX12_sumsMachine_4 {G : GG} {d rc rs : Nat} (p0 : Nat) (x1 : Int32) (x2 : Int32) (x3 : Int32) (z4 : Option Value) (hz4 : c1 z4 = true) {M : Mem} {Q : Option Value → Mem → Prop} (h : (8 ≤ x3 → (x_h M p0).1 = 28 ∧ (∃ b3, x_r M p0 55 = some b3 ∧ (x_h M b3).1 = 1 ∧ vp_in x1 (x_h M b3).2 ∧ (0 ≤ (x_i M b3 x1.toNatClampNeg) → (x2 ≤ (x_i M b3 x1.toNatClampNeg) → ∀ M8, M8 = x_si M p0 78 (x_i M b3 x1.toNatClampNeg) → LX12_sumsMachine_88 G d rc rs p0 x1 x2 (x_i M b3 x1.toNatClampNeg) 0 M8 Q) ∧ (¬ x2 ≤ (x_i M b3 x1.toNatClampNeg) → ∀ M9, M9 = x_si M p0 78 x2 → LX12_sumsMachine_88 G d rc rs p0 x1 x2 (x_i M b3 x1.toNatClampNeg) 0 M9 Q)) ∧ (¬ 0 ≤ (x_i M b3 x1.toNatClampNeg) → (x2 ≤ (-(x_i M b3 x1.toNatClampNeg)) → ∀ M11, M11 = x_si M p0 78 (-(x_i M b3 x1.toNatClampNeg)) → LX12_sumsMachine_88 G d rc rs p0 x1 x2 (-(x_i M b3 x1.toNatClampNeg)) 0 M11 Q) ∧ (¬ x2 ≤ (-(x_i M b3 x1.toNatClampNeg)) → ∀ M12, M12 = x_si M p0 78 x2 → LX12_sumsMachine_88 G d rc rs p0 x1 x2 (-(x_i M b3 x1.toNatClampNeg)) 0 M12 Q)))) ∧ (¬ 8 ≤ x3 → (x_h M p0).1 = 28 ∧ (∃ b14, x_r M p0 54 = some b14 ∧ (x_h M b14).1 = 1 ∧ vp_in ((8 * x1) + x3) (x_h M b14).2 ∧ (0 ≤ (x_i M b14 ((8 * x1) + x3).toNatClampNeg) → LX12_sumsMachine_4 G d rc rs p0 x1 (x2 + (x_i M b14 ((8 * x1) + x3).toNatClampNeg)) (x3 + 1) (some (.int (x_i M b14 ((8 * x1) + x3).toNatClampNeg))) M Q) ∧ (¬ 0 ≤ (x_i M b14 ((8 * x1) + x3).toNatClampNeg) → LX12_sumsMachine_4 G d rc rs p0 x1 (x2 + (-(x_i M b14 ((8 * x1) + x3).toNatClampNeg))) (x3 + 1) (some (.int (x_i M b14 ((8 * x1) + x3).toNatClampNeg))) M Q)))) : LX12_sumsMachine_4 G d rc rs p0 x1 x2 x3 z4 M Q := by
  show Wk G (d + 1) rc rs mX12_sumsMachine 4 _ _ M Q
  refine r_iload_n (pc := 4) (i := 3) dX12_sumsMachine_4 rfl rfl ?_
  refine r_bipush (pc := 5) (v := 8) dX12_sumsMachine_5 (by decide) ?_
  refine r_icmp_ge (pc := 7) (tgt := 45) dX12_sumsMachine_7 (by decide) (fun c1 => ?_) (fun c1 => ?_)
  · replace h := h.1 c1
    refine r_aload_n (pc := 45) (i := 0) dX12_sumsMachine_45 rfl rfl ?_
    obtain ⟨k2, h⟩ := h
    obtain ⟨b3, hb3, h⟩ := h
    refine r_getr (pc := 46) flX12_125 dX12_sumsMachine_46 rfl k2 hb3 ?_
    refine r_iload_n (pc := 49) (i := 1) dX12_sumsMachine_49 rfl rfl ?_
    obtain ⟨k4, h⟩ := h
    obtain ⟨i5, h⟩ := h
    refine r_iald (pc := 50) dX12_sumsMachine_50 k4 i5 ?_
    refine r_if_ge (pc := 51) (tgt := 64) dX12_sumsMachine_51 (by decide) (fun c6 => ?_) (fun c6 => ?_)
    · replace h := h.1 c6
      refine r_aload_n (pc := 64) (i := 0) dX12_sumsMachine_64 rfl rfl ?_
      refine r_getr (pc := 65) flX12_125 dX12_sumsMachine_65 rfl k2 hb3 ?_
      refine r_iload_n (pc := 68) (i := 1) dX12_sumsMachine_68 rfl rfl ?_
      refine r_iald (pc := 69) dX12_sumsMachine_69 k4 i5 ?_
      refine r_istore_n (pc := 70) (i := 3) dX12_sumsMachine_70 rfl rfl (Nat.le_of_ble_eq_true rfl) ?_
      refine r_aload_n (pc := 71) (i := 0) dX12_sumsMachine_71 rfl rfl ?_
      refine r_iload_n (pc := 72) (i := 2) dX12_sumsMachine_72 rfl rfl ?_
      refine r_iload_n (pc := 73) (i := 3) dX12_sumsMachine_73 rfl rfl ?_
      refine r_icmp_le (pc := 74) (tgt := 81) dX12_sumsMachine_74 (by decide) (fun c7 => ?_) (fun c7 => ?_)
      · replace h := h.1 c7
        refine r_iload_n (pc := 81) (i := 3) dX12_sumsMachine_81 rfl rfl ?_
        refine r_puti (pc := 82) flX12_444 dX12_sumsMachine_82 (Or.inl rfl) (fun q hq => by cases hq; rfl) k2 ?_
        replace h := h _ rfl
        refine r_iconst (pc := 85) (v := 0) dX12_sumsMachine_85 (by decide) ?_
        refine r_istore (pc := 86) (i := 4) dX12_sumsMachine_86 rfl (Nat.le_of_ble_eq_true rfl) ?_
        exact h
      · replace h := h.2 c7
        refine r_iload_n (pc := 77) (i := 2) dX12_sumsMachine_77 rfl rfl ?_
        refine r_goto (pc := 78) (tgt := 82) dX12_sumsMachine_78 (by decide) ?_
        refine r_puti (pc := 82) flX12_444 dX12_sumsMachine_82 (Or.inl rfl) (fun q hq => by cases hq; rfl) k2 ?_
        replace h := h _ rfl
        refine r_iconst (pc := 85) (v := 0) dX12_sumsMachine_85 (by decide) ?_
        refine r_istore (pc := 86) (i := 4) dX12_sumsMachine_86 rfl (Nat.le_of_ble_eq_true rfl) ?_
        exact h
    · replace h := h.2 c6
      refine r_aload_n (pc := 54) (i := 0) dX12_sumsMachine_54 rfl rfl ?_
      refine r_getr (pc := 55) flX12_125 dX12_sumsMachine_55 rfl k2 hb3 ?_
      refine r_iload_n (pc := 58) (i := 1) dX12_sumsMachine_58 rfl rfl ?_
      refine r_iald (pc := 59) dX12_sumsMachine_59 k4 i5 ?_
      refine r_ineg (pc := 60) dX12_sumsMachine_60 ?_
      refine r_goto (pc := 61) (tgt := 70) dX12_sumsMachine_61 (by decide) ?_
      refine r_istore_n (pc := 70) (i := 3) dX12_sumsMachine_70 rfl rfl (Nat.le_of_ble_eq_true rfl) ?_
      refine r_aload_n (pc := 71) (i := 0) dX12_sumsMachine_71 rfl rfl ?_
      refine r_iload_n (pc := 72) (i := 2) dX12_sumsMachine_72 rfl rfl ?_
      refine r_iload_n (pc := 73) (i := 3) dX12_sumsMachine_73 rfl rfl ?_
      refine r_icmp_le (pc := 74) (tgt := 81) dX12_sumsMachine_74 (by decide) (fun c10 => ?_) (fun c10 => ?_)
      · replace h := h.1 c10
        refine r_iload_n (pc := 81) (i := 3) dX12_sumsMachine_81 rfl rfl ?_
        refine r_puti (pc := 82) flX12_444 dX12_sumsMachine_82 (Or.inl rfl) (fun q hq => by cases hq; rfl) k2 ?_
        replace h := h _ rfl
        refine r_iconst (pc := 85) (v := 0) dX12_sumsMachine_85 (by decide) ?_
        refine r_istore (pc := 86) (i := 4) dX12_sumsMachine_86 rfl (Nat.le_of_ble_eq_true rfl) ?_
        exact h
      · replace h := h.2 c10
        refine r_iload_n (pc := 77) (i := 2) dX12_sumsMachine_77 rfl rfl ?_
        refine r_goto (pc := 78) (tgt := 82) dX12_sumsMachine_78 (by decide) ?_
        refine r_puti (pc := 82) flX12_444 dX12_sumsMachine_82 (Or.inl rfl) (fun q hq => by cases hq; rfl) k2 ?_
        replace h := h _ rfl
        refine r_iconst (pc := 85) (v := 0) dX12_sumsMachine_85 (by decide) ?_
        refine r_istore (pc := 86) (i := 4) dX12_sumsMachine_86 rfl (Nat.le_of_ble_eq_true rfl) ?_
        exact h
  · replace h := h.2 c1
    refine r_aload_n (pc := 10) (i := 0) dX12_sumsMachine_10 rfl rfl ?_
    obtain ⟨k13, h⟩ := h
    obtain ⟨b14, hb14, h⟩ := h
    refine r_getr (pc := 11) flX12_122 dX12_sumsMachine_11 rfl k13 hb14 ?_
    refine r_bipush (pc := 14) (v := 8) dX12_sumsMachine_14 (by decide) ?_
    refine r_iload_n (pc := 16) (i := 1) dX12_sumsMachine_16 rfl rfl ?_
    refine r_imul (pc := 17) dX12_sumsMachine_17 ?_
    refine r_iload_n (pc := 18) (i := 3) dX12_sumsMachine_18 rfl rfl ?_
    refine r_iadd (pc := 19) dX12_sumsMachine_19 ?_
    obtain ⟨k15, h⟩ := h
    obtain ⟨i16, h⟩ := h
    refine r_iald (pc := 20) dX12_sumsMachine_20 k15 i16 ?_
    refine r_istore (pc := 21) (i := 4) dX12_sumsMachine_21 rfl (Nat.le_of_ble_eq_true rfl) ?_
    refine r_iload_n (pc := 23) (i := 2) dX12_sumsMachine_23 rfl rfl ?_
    refine r_iload (pc := 24) (i := 4) dX12_sumsMachine_24 rfl ?_
    refine r_if_ge (pc := 26) (tgt := 35) dX12_sumsMachine_26 (by decide) (fun c17 => ?_) (fun c17 => ?_)
    · replace h := h.1 c17
      refine r_iload (pc := 35) (i := 4) dX12_sumsMachine_35 rfl ?_
      refine r_iadd (pc := 37) dX12_sumsMachine_37 ?_
      refine r_istore_n (pc := 38) (i := 2) dX12_sumsMachine_38 rfl rfl (Nat.le_of_ble_eq_true rfl) ?_
      refine r_iinc (pc := 39) (i := 3) (v := _ + 1) dX12_sumsMachine_39 rfl rfl rfl ?_
      refine r_goto (pc := 42) (tgt := 4) dX12_sumsMachine_42 (by decide) ?_
      exact h
    · replace h := h.2 c17
      refine r_iload (pc := 29) (i := 4) dX12_sumsMachine_29 rfl ?_
      refine r_ineg (pc := 31) dX12_sumsMachine_31 ?_
      refine r_goto (pc := 32) (tgt := 37) dX12_sumsMachine_32 (by decide) ?_
      refine r_iadd (pc := 37) dX12_sumsMachine_37 ?_
      refine r_istore_n (pc := 38) (i := 2) dX12_sumsMachine_38 rfl rfl (Nat.le_of_ble_eq_true rfl) ?_
      refine r_iinc (pc := 39) (i := 3) (v := _ + 1) dX12_sumsMachine_39 rfl rfl rfl ?_
      refine r_goto (pc := 42) (tgt := 4) dX12_sumsMachine_42 (by decide) ?_
      exact h
theorem vX12_sumsMachine_88 {G : GG} {d rc rs : Nat} (p0 : Nat) (x1 : Int32) (x2 : Int32) (x3 : Int32) (x4 : Int32)  {M : Mem} {Q : Option Value → Mem → Prop} (h : (x_h M p0).1 = 28 ∧ (((2 * (x_i M p0 78)) + 3) ≤ x4 → ∀ M3, M3 = x_si M p0 25 0 → ∃ b4, x_r M3 p0 53 = some b4 ∧ (x_h M b4).1 = 1 ∧ vp_in x1 (x_h M b4).2 ∧ Call G d 0 0 mX12_across [.ref p0, .int (x_i M3 b4 x1.toNatClampNeg)] M3 (fun r7 M8 => ∃ v9 : Int32, r7 = some (.int v9) ∧ (x_h M8 p0).1 = 28 ∧ (∀ M11, M11 = x_si M8 p0 26 v9 → Call G d 0 0 mX12_difference [.ref p0, .long 0] M11 (fun r12 M13 => ∃ v14 : Int32, r12 = some (.int v14) ∧ LX12_sumsMachine_143 G d rc rs p0 x1 x2 x3 0 none none none none none M13 Q)))) ∧ (¬ ((2 * (x_i M p0 78)) + 3) ≤ x4 → ∃ b15, x_r M p0 77 = some b15 ∧ (x_h M b15).1 = 1 ∧ vp_in x4 (x_h M b15).2 ∧ (∀ M18, M18 = x_si M b15 x4.toNatClampNeg (-1) → LX12_sumsMachine_88 G d rc rs p0 x1 x2 x3 (x4 + 1) M18 Q))) : LX12_sumsMachine_88 G d rc rs p0 x1 x2 x3 x4 M Q := by
  show Wk G (d + 1) rc rs mX12_sumsMachine 88 _ _ M Q
  refine r_iload (pc := 88) (i := 4) dX12_sumsMachine_88 rfl ?_
  refine r_iconst (pc := 90) (v := 2) dX12_sumsMachine_90 (by decide) ?_
  refine r_aload_n (pc := 91) (i := 0) dX12_sumsMachine_91 rfl rfl ?_
  obtain ⟨k1, h⟩ := h
  refine r_geti (pc := 92) flX12_444 dX12_sumsMachine_92 (Or.inl rfl) k1 ?_
  refine r_imul (pc := 95) dX12_sumsMachine_95 ?_
  refine r_iconst (pc := 96) (v := 3) dX12_sumsMachine_96 (by decide) ?_
  refine r_iadd (pc := 97) dX12_sumsMachine_97 ?_
  refine r_icmp_ge (pc := 98) (tgt := 115) dX12_sumsMachine_98 (by decide) (fun c2 => ?_) (fun c2 => ?_)
  · replace h := h.1 c2
    refine r_aload_n (pc := 115) (i := 0) dX12_sumsMachine_115 rfl rfl ?_
    refine r_iconst (pc := 116) (v := 0) dX12_sumsMachine_116 (by decide) ?_
    refine r_puti (pc := 117) flX12_234 dX12_sumsMachine_117 (Or.inl rfl) (fun q hq => by cases hq; rfl) k1 ?_
    replace h := h _ rfl
    refine r_aload_n (pc := 120) (i := 0) dX12_sumsMachine_120 rfl rfl ?_
    refine r_aload_n (pc := 121) (i := 0) dX12_sumsMachine_121 rfl rfl ?_
    refine r_aload_n (pc := 122) (i := 0) dX12_sumsMachine_122 rfl rfl ?_
    obtain ⟨b4, hb4, h⟩ := h
    refine r_getr (pc := 123) flX12_119 dX12_sumsMachine_123 rfl k1 hb4 ?_
    refine r_iload_n (pc := 126) (i := 1) dX12_sumsMachine_126 rfl rfl ?_
    obtain ⟨k5, h⟩ := h
    obtain ⟨i6, h⟩ := h
    refine r_iald (pc := 127) dX12_sumsMachine_127 k5 i6 ?_
    refine r_callV (pc := 128) (ci := 12) (as := [_]) (st := [_]) okX12_across lkX12_417 inX12_across seX12_across ⟨_, rfl, rfl⟩ dX12_sumsMachine_128 rfl k1 (Nat.le_of_ble_eq_true rfl) (Nat.zero_le _) (Nat.zero_le _) (Call.mono h (fun r7 M8 h => ?_))
    obtain ⟨v9, rfl, h⟩ := h
    obtain ⟨k10, h⟩ := h
    refine r_puti (pc := 131) flX12_226 dX12_sumsMachine_131 (Or.inl rfl) (fun q hq => by cases hq; rfl) k10 ?_
    replace h := h _ rfl
    refine r_aload_n (pc := 134) (i := 0) dX12_sumsMachine_134 rfl rfl ?_
    refine r_lconst (pc := 135) (v := 0) dX12_sumsMachine_135 (by decide) ?_
    refine r_callV (pc := 136) (ci := 12) (as := [_]) (st := []) okX12_difference lkX12_447 inX12_difference seX12_difference ⟨_, rfl, rfl⟩ dX12_sumsMachine_136 rfl k10 (Nat.le_of_ble_eq_true rfl) (Nat.zero_le _) (Nat.zero_le _) (Call.mono h (fun r12 M13 h => ?_))
    obtain ⟨v14, rfl, h⟩ := h
    refine r_pop (pc := 139) dX12_sumsMachine_139 rfl ?_
    refine r_iconst (pc := 140) (v := 0) dX12_sumsMachine_140 (by decide) ?_
    refine r_istore (pc := 141) (i := 4) dX12_sumsMachine_141 rfl (Nat.le_of_ble_eq_true rfl) ?_
    exact h
  · replace h := h.2 c2
    refine r_aload_n (pc := 101) (i := 0) dX12_sumsMachine_101 rfl rfl ?_
    obtain ⟨b15, hb15, h⟩ := h
    refine r_getr (pc := 102) flX12_172 dX12_sumsMachine_102 rfl k1 hb15 ?_
    refine r_iload (pc := 105) (i := 4) dX12_sumsMachine_105 rfl ?_
    refine r_iconst (pc := 107) (v := (-1)) dX12_sumsMachine_107 (by decide) ?_
    obtain ⟨k16, h⟩ := h
    obtain ⟨i17, h⟩ := h
    refine r_iast (pc := 108) dX12_sumsMachine_108 k16 i17 ?_
    replace h := h _ rfl
    refine r_iinc (pc := 109) (i := 4) (v := _ + 1) dX12_sumsMachine_109 rfl rfl rfl ?_
    refine r_goto (pc := 112) (tgt := 88) dX12_sumsMachine_112 (by decide) ?_
    exact h
theorem vX12_sumsMachine_143 {G : GG} {d rc rs : Nat} (p0 : Nat) (x1 : Int32) (x2 : Int32) (x3 : Int32) (x4 : Int32) (z5 : Option Value) (z6 : Option Value) (z7 : Option Value) (z8 : Option Value) (z9 : Option Value) (hz5 : c1 z5 = true) (hz6 : c1 z6 = true) (hz7 : c1 z7 = true) (hz8 : c1 z8 = true) (hz9 : c1 z9 = true) {M : Mem} {Q : Option Value → Mem → Prop} (h : (x_h M p0).1 = 28 ∧ ((x_i M p0 25) ≤ x4 → Call G d 0 0 mX12_becomes [.ref p0, .int x1] M (fun r3 M4 => ∃ v5 : Int32, r3 = some (.int v5) ∧ (v5 = 0 ∨ v5 = 1) ∧ Q (some (.int v5)) M4)) ∧ (¬ (x_i M p0 25) ≤ x4 → ∃ b6, x_r M p0 36 = some b6 ∧ (x_h M b6).1 = 1 ∧ vp_in x4 (x_h M b6).2 ∧ (∃ b9, x_r M p0 55 = some b9 ∧ (x_h M b9).1 = 1 ∧ vp_in x1 (x_h M b9).2 ∧ (∃ b12, x_r M p0 28 = some b12 ∧ ∃ b13, x_r M p0 56 = some b13 ∧ (x_h M b13).1 = 1 ∧ vp_in x1 (x_h M b13).2 ∧ (¬ (x_i M b13 x1.toNatClampNeg) = 0 → (¬ (x_i M b13 x1.toNatClampNeg) = 1 → (0 < ((x_i M b6 x4.toNatClampNeg) + (x_i M b9 x1.toNatClampNeg)) → LX12_sumsMachine_233 G d rc rs p0 x1 x2 x3 x4 (x_i M b6 x4.toNatClampNeg) ((x_i M b6 x4.toNatClampNeg) + (x_i M b9 x1.toNatClampNeg)) z7 z8 z9 b12 x4 0 M Q) ∧ (¬ 0 < ((x_i M b6 x4.toNatClampNeg) + (x_i M b9 x1.toNatClampNeg)) → LX12_sumsMachine_233 G d rc rs p0 x1 x2 x3 x4 (x_i M b6 x4.toNatClampNeg) ((x_i M b6 x4.toNatClampNeg) + (x_i M b9 x1.toNatClampNeg)) z7 z8 z9 b12 x4 1 M Q)) ∧ ((x_i M b13 x1.toNatClampNeg) = 1 → (0 ≤ ((x_i M b6 x4.toNatClampNeg) + (x_i M b9 x1.toNatClampNeg)) → LX12_sumsMachine_233 G d rc rs p0 x1 x2 x3 x4 (x_i M b6 x4.toNatClampNeg) ((x_i M b6 x4.toNatClampNeg) + (x_i M b9 x1.toNatClampNeg)) z7 z8 z9 b12 x4 0 M Q) ∧ (¬ 0 ≤ ((x_i M b6 x4.toNatClampNeg) + (x_i M b9 x1.toNatClampNeg)) → LX12_sumsMachine_233 G d rc rs p0 x1 x2 x3 x4 (x_i M b6 x4.toNatClampNeg) ((x_i M b6 x4.toNatClampNeg) + (x_i M b9 x1.toNatClampNeg)) z7 z8 z9 b12 x4 1 M Q))) ∧ ((x_i M b13 x1.toNatClampNeg) = 0 → (¬ ((x_i M b6 x4.toNatClampNeg) + (x_i M b9 x1.toNatClampNeg)) = 0 → LX12_sumsMachine_233 G d rc rs p0 x1 x2 x3 x4 (x_i M b6 x4.toNatClampNeg) ((x_i M b6 x4.toNatClampNeg) + (x_i M b9 x1.toNatClampNeg)) z7 z8 z9 b12 x4 0 M Q) ∧ (((x_i M b6 x4.toNatClampNeg) + (x_i M b9 x1.toNatClampNeg)) = 0 → LX12_sumsMachine_233 G d rc rs p0 x1 x2 x3 x4 (x_i M b6 x4.toNatClampNeg) ((x_i M b6 x4.toNatClampNeg) + (x_i M b9 x1.toNatClampNeg)) z7 z8 z9 b12 x4 1 M Q)))))) : LX12_sumsMachine_143 G d rc rs p0 x1 x2 x3 x4 z5 z6 z7 z8 z9 M Q := by
  show Wk G (d + 1) rc rs mX12_sumsMachine 143 _ _ M Q
  refine r_iload (pc := 143) (i := 4) dX12_sumsMachine_143 rfl ?_
  refine r_aload_n (pc := 145) (i := 0) dX12_sumsMachine_145 rfl rfl ?_
  obtain ⟨k1, h⟩ := h
  refine r_geti (pc := 146) flX12_234 dX12_sumsMachine_146 (Or.inl rfl) k1 ?_
  refine r_icmp_ge (pc := 149) (tgt := 427) dX12_sumsMachine_149 (by decide) (fun c2 => ?_) (fun c2 => ?_)
  · replace h := h.1 c2
    refine r_aload_n (pc := 427) (i := 0) dX12_sumsMachine_427 rfl rfl ?_
    refine r_iload_n (pc := 428) (i := 1) dX12_sumsMachine_428 rfl rfl ?_
    refine r_callV (pc := 429) (ci := 12) (as := [_]) (st := []) okX12_becomes lkX12_429 inX12_becomes seX12_becomes ⟨_, rfl, rfl⟩ dX12_sumsMachine_429 rfl k1 (Nat.le_of_ble_eq_true rfl) (Nat.zero_le _) (Nat.zero_le _) (Call.mono h (fun r3 M4 h => ?_))
    obtain ⟨v5, rfl, h⟩ := h
    exact r_zret (pc := 432) dX12_sumsMachine_432 rfl h.1 h.2
  · replace h := h.2 c2
    refine r_aload_n (pc := 152) (i := 0) dX12_sumsMachine_152 rfl rfl ?_
    obtain ⟨b6, hb6, h⟩ := h
    refine r_getr (pc := 153) flX12_98 dX12_sumsMachine_153 rfl k1 hb6 ?_
    refine r_iload (pc := 156) (i := 4) dX12_sumsMachine_156 rfl ?_
    obtain ⟨k7, h⟩ := h
    obtain ⟨i8, h⟩ := h
    refine r_iald (pc := 158) dX12_sumsMachine_158 k7 i8 ?_
    refine r_istore (pc := 159) (i := 5) dX12_sumsMachine_159 rfl (Nat.le_of_ble_eq_true rfl) ?_
    refine r_iload (pc := 161) (i := 5) dX12_sumsMachine_161 rfl ?_
    refine r_aload_n (pc := 163) (i := 0) dX12_sumsMachine_163 rfl rfl ?_
    obtain ⟨b9, hb9, h⟩ := h
    refine r_getr (pc := 164) flX12_125 dX12_sumsMachine_164 rfl k1 hb9 ?_
    refine r_iload_n (pc := 167) (i := 1) dX12_sumsMachine_167 rfl rfl ?_
    obtain ⟨k10, h⟩ := h
    obtain ⟨i11, h⟩ := h
    refine r_iald (pc := 168) dX12_sumsMachine_168 k10 i11 ?_
    refine r_iadd (pc := 169) dX12_sumsMachine_169 ?_
    refine r_istore (pc := 170) (i := 6) dX12_sumsMachine_170 rfl (Nat.le_of_ble_eq_true rfl) ?_
    refine r_aload_n (pc := 172) (i := 0) dX12_sumsMachine_172 rfl rfl ?_
    obtain ⟨b12, hb12, h⟩ := h
    refine r_getr (pc := 173) flX12_76 dX12_sumsMachine_173 rfl k1 hb12 ?_
    refine r_iload (pc := 176) (i := 4) dX12_sumsMachine_176 rfl ?_
    refine r_aload_n (pc := 178) (i := 0) dX12_sumsMachine_178 rfl rfl ?_
    obtain ⟨b13, hb13, h⟩ := h
    refine r_getr (pc := 179) flX12_128 dX12_sumsMachine_179 rfl k1 hb13 ?_
    refine r_iload_n (pc := 182) (i := 1) dX12_sumsMachine_182 rfl rfl ?_
    obtain ⟨k14, h⟩ := h
    obtain ⟨i15, h⟩ := h
    refine r_iald (pc := 183) dX12_sumsMachine_183 k14 i15 ?_
    refine r_if_ne (pc := 184) (tgt := 200) dX12_sumsMachine_184 (by decide) (fun c16 => ?_) (fun c16 => ?_)
    · replace h := h.1 c16
      refine r_aload_n (pc := 200) (i := 0) dX12_sumsMachine_200 rfl rfl ?_
      refine r_getr (pc := 201) flX12_128 dX12_sumsMachine_201 rfl k1 hb13 ?_
      refine r_iload_n (pc := 204) (i := 1) dX12_sumsMachine_204 rfl rfl ?_
      refine r_iald (pc := 205) dX12_sumsMachine_205 k14 i15 ?_
      refine r_iconst (pc := 206) (v := 1) dX12_sumsMachine_206 (by decide) ?_
      refine r_icmp_ne (pc := 207) (tgt := 223) dX12_sumsMachine_207 (by decide) (fun c17 => ?_) (fun c17 => ?_)
      · replace h := h.1 c17
        refine r_iload (pc := 223) (i := 6) dX12_sumsMachine_223 rfl ?_
        refine r_if_gt (pc := 225) (tgt := 232) dX12_sumsMachine_225 (by decide) (fun c18 => ?_) (fun c18 => ?_)
        · replace h := h.1 c18
          refine r_iconst (pc := 232) (v := 0) dX12_sumsMachine_232 (by decide) ?_
          exact h
        · replace h := h.2 c18
          refine r_iconst (pc := 228) (v := 1) dX12_sumsMachine_228 (by decide) ?_
          refine r_goto (pc := 229) (tgt := 233) dX12_sumsMachine_229 (by decide) ?_
          exact h
      · replace h := h.2 c17
        refine r_iload (pc := 210) (i := 6) dX12_sumsMachine_210 rfl ?_
        refine r_if_ge (pc := 212) (tgt := 219) dX12_sumsMachine_212 (by decide) (fun c19 => ?_) (fun c19 => ?_)
        · replace h := h.1 c19
          refine r_iconst (pc := 219) (v := 0) dX12_sumsMachine_219 (by decide) ?_
          refine r_goto (pc := 220) (tgt := 233) dX12_sumsMachine_220 (by decide) ?_
          exact h
        · replace h := h.2 c19
          refine r_iconst (pc := 215) (v := 1) dX12_sumsMachine_215 (by decide) ?_
          refine r_goto (pc := 216) (tgt := 233) dX12_sumsMachine_216 (by decide) ?_
          exact h
    · replace h := h.2 c16
      refine r_iload (pc := 187) (i := 6) dX12_sumsMachine_187 rfl ?_
      refine r_if_ne (pc := 189) (tgt := 196) dX12_sumsMachine_189 (by decide) (fun c20 => ?_) (fun c20 => ?_)
      · replace h := h.1 c20
        refine r_iconst (pc := 196) (v := 0) dX12_sumsMachine_196 (by decide) ?_
        refine r_goto (pc := 197) (tgt := 233) dX12_sumsMachine_197 (by decide) ?_
        exact h
      · replace h := h.2 c20
        refine r_iconst (pc := 192) (v := 1) dX12_sumsMachine_192 (by decide) ?_
        refine r_goto (pc := 193) (tgt := 233) dX12_sumsMachine_193 (by decide) ?_
        exact h
theorem vX12_sumsMachine_233 {G : GG} {d rc rs : Nat} (p0 : Nat) (x1 : Int32) (x2 : Int32) (x3 : Int32) (x4 : Int32) (x5 : Int32) (x6 : Int32) (z7 : Option Value) (z8 : Option Value) (z9 : Option Value) (q0 : Nat) (u1 : Int32) (u2 : Int32) (hz7 : c1 z7 = true) (hz8 : c1 z8 = true) (hz9 : c1 z9 = true) {M : Mem} {Q : Option Value → Mem → Prop} (h : (x_h M q0).1 = 1 ∧ vp_in u1 (x_h M q0).2 ∧ (∀ M3, M3 = x_si M q0 u1.toNatClampNeg u2 → (x_h M p0).1 = 28 ∧ ((x_i M3 p0 78) < x5 → ∃ b6, x_r M3 p0 28 = some b6 ∧ (0 ≤ x5 → (x_h M b6).1 = 1 ∧ vp_in x4 (x_h M b6).2 ∧ (∀ M10, M10 = x_si M3 b6 x4.toNatClampNeg 0 → LX12_sumsMachine_282 G d rc rs p0 x1 x2 x3 x4 x5 x6 0 z8 z9 M10 Q)) ∧ (¬ 0 ≤ x5 → ∃ b11, x_r M3 p0 56 = some b11 ∧ (x_h M b11).1 = 1 ∧ vp_in x1 (x_h M b11).2 ∧ ((x_i M3 b11 x1.toNatClampNeg) ≤ 0 → (x_h M b6).1 = 1 ∧ vp_in x4 (x_h M b6).2 ∧ (∀ M17, M17 = x_si M3 b6 x4.toNatClampNeg 0 → LX12_sumsMachine_282 G d rc rs p0 x1 x2 x3 x4 x5 x6 0 z8 z9 M17 Q)) ∧ (¬ (x_i M3 b11 x1.toNatClampNeg) ≤ 0 → (x_h M b6).1 = 1 ∧ vp_in x4 (x_h M b6).2 ∧ (∀ M20, M20 = x_si M3 b6 x4.toNatClampNeg 1 → LX12_sumsMachine_282 G d rc rs p0 x1 x2 x3 x4 x5 x6 0 z8 z9 M20 Q)))) ∧ (¬ (x_i M3 p0 78) < x5 → ((-(x_i M3 p0 78)) ≤ x5 → LX12_sumsMachine_282 G d rc rs p0 x1 x2 x3 x4 x5 x6 0 z8 z9 M3 Q) ∧ (¬ (-(x_i M3 p0 78)) ≤ x5 → ∃ b22, x_r M3 p0 28 = some b22 ∧ (0 ≤ x5 → (x_h M b22).1 = 1 ∧ vp_in x4 (x_h M b22).2 ∧ (∀ M26, M26 = x_si M3 b22 x4.toNatClampNeg 0 → LX12_sumsMachine_282 G d rc rs p0 x1 x2 x3 x4 x5 x6 0 z8 z9 M26 Q)) ∧ (¬ 0 ≤ x5 → ∃ b27, x_r M3 p0 56 = some b27 ∧ (x_h M b27).1 = 1 ∧ vp_in x1 (x_h M b27).2 ∧ ((x_i M3 b27 x1.toNatClampNeg) ≤ 0 → (x_h M b22).1 = 1 ∧ vp_in x4 (x_h M b22).2 ∧ (∀ M33, M33 = x_si M3 b22 x4.toNatClampNeg 0 → LX12_sumsMachine_282 G d rc rs p0 x1 x2 x3 x4 x5 x6 0 z8 z9 M33 Q)) ∧ (¬ (x_i M3 b27 x1.toNatClampNeg) ≤ 0 → (x_h M b22).1 = 1 ∧ vp_in x4 (x_h M b22).2 ∧ (∀ M36, M36 = x_si M3 b22 x4.toNatClampNeg 1 → LX12_sumsMachine_282 G d rc rs p0 x1 x2 x3 x4 x5 x6 0 z8 z9 M36 Q))))))) : LX12_sumsMachine_233 G d rc rs p0 x1 x2 x3 x4 x5 x6 z7 z8 z9 q0 u1 u2 M Q := by
  show Wk G (d + 1) rc rs mX12_sumsMachine 233 _ _ M Q
  obtain ⟨k1, h⟩ := h
  obtain ⟨i2, h⟩ := h
  refine r_iast (pc := 233) dX12_sumsMachine_233 k1 i2 ?_
  replace h := h _ rfl
  refine r_iload (pc := 234) (i := 5) dX12_sumsMachine_234 rfl ?_
  refine r_aload_n (pc := 236) (i := 0) dX12_sumsMachine_236 rfl rfl ?_
  obtain ⟨k4, h⟩ := h
  refine r_geti (pc := 237) flX12_444 dX12_sumsMachine_237 (Or.inl rfl) k4 ?_
  refine r_icmp_gt (pc := 240) (tgt := 253) dX12_sumsMachine_240 (by decide) (fun c5 => ?_) (fun c5 => ?_)
  · replace h := h.1 c5
    refine r_aload_n (pc := 253) (i := 0) dX12_sumsMachine_253 rfl rfl ?_
    obtain ⟨b6, hb6, h⟩ := h
    refine r_getr (pc := 254) flX12_76 dX12_sumsMachine_254 rfl k4 hb6 ?_
    refine r_iload (pc := 257) (i := 4) dX12_sumsMachine_257 rfl ?_
    refine r_iload (pc := 259) (i := 5) dX12_sumsMachine_259 rfl ?_
    refine r_if_ge (pc := 261) (tgt := 277) dX12_sumsMachine_261 (by decide) (fun c7 => ?_) (fun c7 => ?_)
    · replace h := h.1 c7
      refine r_iconst (pc := 277) (v := 0) dX12_sumsMachine_277 (by decide) ?_
      obtain ⟨k8, h⟩ := h
      obtain ⟨i9, h⟩ := h
      refine r_iast (pc := 278) dX12_sumsMachine_278 k8 i9 ?_
      replace h := h _ rfl
      refine r_iconst (pc := 279) (v := 0) dX12_sumsMachine_279 (by decide) ?_
      refine r_istore (pc := 280) (i := 7) dX12_sumsMachine_280 rfl (Nat.le_of_ble_eq_true rfl) ?_
      exact h
    · replace h := h.2 c7
      refine r_aload_n (pc := 264) (i := 0) dX12_sumsMachine_264 rfl rfl ?_
      obtain ⟨b11, hb11, h⟩ := h
      refine r_getr (pc := 265) flX12_128 dX12_sumsMachine_265 rfl k4 hb11 ?_
      refine r_iload_n (pc := 268) (i := 1) dX12_sumsMachine_268 rfl rfl ?_
      obtain ⟨k12, h⟩ := h
      obtain ⟨i13, h⟩ := h
      refine r_iald (pc := 269) dX12_sumsMachine_269 k12 i13 ?_
      refine r_if_le (pc := 270) (tgt := 277) dX12_sumsMachine_270 (by decide) (fun c14 => ?_) (fun c14 => ?_)
      · replace h := h.1 c14
        refine r_iconst (pc := 277) (v := 0) dX12_sumsMachine_277 (by decide) ?_
        obtain ⟨k15, h⟩ := h
        obtain ⟨i16, h⟩ := h
        refine r_iast (pc := 278) dX12_sumsMachine_278 k15 i16 ?_
        replace h := h _ rfl
        refine r_iconst (pc := 279) (v := 0) dX12_sumsMachine_279 (by decide) ?_
        refine r_istore (pc := 280) (i := 7) dX12_sumsMachine_280 rfl (Nat.le_of_ble_eq_true rfl) ?_
        exact h
      · replace h := h.2 c14
        refine r_iconst (pc := 273) (v := 1) dX12_sumsMachine_273 (by decide) ?_
        refine r_goto (pc := 274) (tgt := 278) dX12_sumsMachine_274 (by decide) ?_
        obtain ⟨k18, h⟩ := h
        obtain ⟨i19, h⟩ := h
        refine r_iast (pc := 278) dX12_sumsMachine_278 k18 i19 ?_
        replace h := h _ rfl
        refine r_iconst (pc := 279) (v := 0) dX12_sumsMachine_279 (by decide) ?_
        refine r_istore (pc := 280) (i := 7) dX12_sumsMachine_280 rfl (Nat.le_of_ble_eq_true rfl) ?_
        exact h
  · replace h := h.2 c5
    refine r_iload (pc := 243) (i := 5) dX12_sumsMachine_243 rfl ?_
    refine r_aload_n (pc := 245) (i := 0) dX12_sumsMachine_245 rfl rfl ?_
    refine r_geti (pc := 246) flX12_444 dX12_sumsMachine_246 (Or.inl rfl) k4 ?_
    refine r_ineg (pc := 249) dX12_sumsMachine_249 ?_
    refine r_icmp_ge (pc := 250) (tgt := 279) dX12_sumsMachine_250 (by decide) (fun c21 => ?_) (fun c21 => ?_)
    · replace h := h.1 c21
      refine r_iconst (pc := 279) (v := 0) dX12_sumsMachine_279 (by decide) ?_
      refine r_istore (pc := 280) (i := 7) dX12_sumsMachine_280 rfl (Nat.le_of_ble_eq_true rfl) ?_
      exact h
    · replace h := h.2 c21
      refine r_aload_n (pc := 253) (i := 0) dX12_sumsMachine_253 rfl rfl ?_
      obtain ⟨b22, hb22, h⟩ := h
      refine r_getr (pc := 254) flX12_76 dX12_sumsMachine_254 rfl k4 hb22 ?_
      refine r_iload (pc := 257) (i := 4) dX12_sumsMachine_257 rfl ?_
      refine r_iload (pc := 259) (i := 5) dX12_sumsMachine_259 rfl ?_
      refine r_if_ge (pc := 261) (tgt := 277) dX12_sumsMachine_261 (by decide) (fun c23 => ?_) (fun c23 => ?_)
      · replace h := h.1 c23
        refine r_iconst (pc := 277) (v := 0) dX12_sumsMachine_277 (by decide) ?_
        obtain ⟨k24, h⟩ := h
        obtain ⟨i25, h⟩ := h
        refine r_iast (pc := 278) dX12_sumsMachine_278 k24 i25 ?_
        replace h := h _ rfl
        refine r_iconst (pc := 279) (v := 0) dX12_sumsMachine_279 (by decide) ?_
        refine r_istore (pc := 280) (i := 7) dX12_sumsMachine_280 rfl (Nat.le_of_ble_eq_true rfl) ?_
        exact h
      · replace h := h.2 c23
        refine r_aload_n (pc := 264) (i := 0) dX12_sumsMachine_264 rfl rfl ?_
        obtain ⟨b27, hb27, h⟩ := h
        refine r_getr (pc := 265) flX12_128 dX12_sumsMachine_265 rfl k4 hb27 ?_
        refine r_iload_n (pc := 268) (i := 1) dX12_sumsMachine_268 rfl rfl ?_
        obtain ⟨k28, h⟩ := h
        obtain ⟨i29, h⟩ := h
        refine r_iald (pc := 269) dX12_sumsMachine_269 k28 i29 ?_
        refine r_if_le (pc := 270) (tgt := 277) dX12_sumsMachine_270 (by decide) (fun c30 => ?_) (fun c30 => ?_)
        · replace h := h.1 c30
          refine r_iconst (pc := 277) (v := 0) dX12_sumsMachine_277 (by decide) ?_
          obtain ⟨k31, h⟩ := h
          obtain ⟨i32, h⟩ := h
          refine r_iast (pc := 278) dX12_sumsMachine_278 k31 i32 ?_
          replace h := h _ rfl
          refine r_iconst (pc := 279) (v := 0) dX12_sumsMachine_279 (by decide) ?_
          refine r_istore (pc := 280) (i := 7) dX12_sumsMachine_280 rfl (Nat.le_of_ble_eq_true rfl) ?_
          exact h
        · replace h := h.2 c30
          refine r_iconst (pc := 273) (v := 1) dX12_sumsMachine_273 (by decide) ?_
          refine r_goto (pc := 274) (tgt := 278) dX12_sumsMachine_274 (by decide) ?_
          obtain ⟨k34, h⟩ := h
          obtain ⟨i35, h⟩ := h
          refine r_iast (pc := 278) dX12_sumsMachine_278 k34 i35 ?_
          replace h := h _ rfl
          refine r_iconst (pc := 279) (v := 0) dX12_sumsMachine_279 (by decide) ?_
          refine r_istore (pc := 280) (i := 7) dX12_sumsMachine_280 rfl (Nat.le_of_ble_eq_true rfl) ?_
          exact h
theorem vX12_sumsMachine_282 {G : GG} {d rc rs : Nat} (p0 : Nat) (x1 : Int32) (x2 : Int32) (x3 : Int32) (x4 : Int32) (x5 : Int32) (x6 : Int32) (x7 : Int32) (z8 : Option Value) (z9 : Option Value) (hz8 : c1 z8 = true) (hz9 : c1 z9 = true) {M : Mem} {Q : Option Value → Mem → Prop} (h : (x_h M p0).1 = 28 ∧ ((x_i M p0 26) ≤ x7 → LX12_sumsMachine_143 G d rc rs p0 x1 x2 x3 (x4 + 1) (some (.int x5)) (some (.int x6)) (some (.int x7)) z8 z9 M Q) ∧ (¬ (x_i M p0 26) ≤ x7 → LX12_sumsMachine_297 G d rc rs p0 x1 x2 x3 x4 x5 x6 x7 0 0 M Q)) : LX12_sumsMachine_282 G d rc rs p0 x1 x2 x3 x4 x5 x6 x7 z8 z9 M Q := by
  show Wk G (d + 1) rc rs mX12_sumsMachine 282 _ _ M Q
  refine r_iload (pc := 282) (i := 7) dX12_sumsMachine_282 rfl ?_
  refine r_aload_n (pc := 284) (i := 0) dX12_sumsMachine_284 rfl rfl ?_
  obtain ⟨k1, h⟩ := h
  refine r_geti (pc := 285) flX12_226 dX12_sumsMachine_285 (Or.inl rfl) k1 ?_
  refine r_icmp_ge (pc := 288) (tgt := 421) dX12_sumsMachine_288 (by decide) (fun c2 => ?_) (fun c2 => ?_)
  · replace h := h.1 c2
    refine r_iinc (pc := 421) (i := 4) (v := _ + 1) dX12_sumsMachine_421 rfl rfl rfl ?_
    refine r_goto (pc := 424) (tgt := 143) dX12_sumsMachine_424 (by decide) ?_
    exact h
  · replace h := h.2 c2
    refine r_iconst (pc := 291) (v := 0) dX12_sumsMachine_291 (by decide) ?_
    refine r_istore (pc := 292) (i := 8) dX12_sumsMachine_292 rfl (Nat.le_of_ble_eq_true rfl) ?_
    refine r_iconst (pc := 294) (v := 0) dX12_sumsMachine_294 (by decide) ?_
    refine r_istore (pc := 295) (i := 9) dX12_sumsMachine_295 rfl (Nat.le_of_ble_eq_true rfl) ?_
    exact h
theorem vX12_sumsMachine_297 {G : GG} {d rc rs : Nat} (p0 : Nat) (x1 : Int32) (x2 : Int32) (x3 : Int32) (x4 : Int32) (x5 : Int32) (x6 : Int32) (x7 : Int32) (x8 : Int32) (x9 : Int32)  {M : Mem} {Q : Option Value → Mem → Prop} (h : (8 ≤ x9 → (x_h M p0).1 = 28 ∧ (∃ b3, x_r M p0 27 = some b3 ∧ ((x_i M p0 78) < x5 → (x_h M b3).1 = 1 ∧ vp_in ((27 * x4) + x7) (x_h M b3).2 ∧ (∀ M7, M7 = x_si M b3 ((27 * x4) + x7).toNatClampNeg x4 → LX12_sumsMachine_282 G d rc rs p0 x1 x2 x3 x4 x5 x6 (x7 + 1) (some (.int x8)) (some (.int x9)) M7 Q)) ∧ (¬ (x_i M p0 78) < x5 → ((-(x_i M p0 78)) ≤ x5 → Call G d 0 0 mX12_difference [.ref p0, .long ((((x_i M p0 0).toInt64) * x5.toInt64) + x8.toInt64)] M (fun r9 M10 => ∃ v11 : Int32, r9 = some (.int v11) ∧ (x_h M10 b3).1 = 1 ∧ vp_in ((27 * x4) + x7) (x_h M10 b3).2 ∧ (∀ M14, M14 = x_si M10 b3 ((27 * x4) + x7).toNatClampNeg v11 → LX12_sumsMachine_282 G d rc rs p0 x1 x2 x3 x4 x5 x6 (x7 + 1) (some (.int x8)) (some (.int x9)) M14 Q))) ∧ (¬ (-(x_i M p0 78)) ≤ x5 → (x_h M b3).1 = 1 ∧ vp_in ((27 * x4) + x7) (x_h M b3).2 ∧ (∀ M17, M17 = x_si M b3 ((27 * x4) + x7).toNatClampNeg x4 → LX12_sumsMachine_282 G d rc rs p0 x1 x2 x3 x4 x5 x6 (x7 + 1) (some (.int x8)) (some (.int x9)) M17 Q))))) ∧ (¬ 8 ≤ x9 → (x_h M p0).1 = 28 ∧ (∃ b19, x_r M p0 53 = some b19 ∧ (x_h M b19).1 = 1 ∧ vp_in x1 (x_h M b19).2 ∧ (¬ (((x_i M b19 x1.toNatClampNeg) >>> (x9 &&& 31)) &&& 1) = 1 → LX12_sumsMachine_297 G d rc rs p0 x1 x2 x3 x4 x5 x6 x7 (x8 + 0) (x9 + 1) M Q) ∧ ((((x_i M b19 x1.toNatClampNeg) >>> (x9 &&& 31)) &&& 1) = 1 → ∃ b23, x_r M p0 54 = some b23 ∧ (x_h M b23).1 = 1 ∧ vp_in ((8 * x1) + x9) (x_h M b23).2 ∧ Call G d 0 0 mX12_digitOf [.ref p0, .int x7, .int (x_i M b19 x1.toNatClampNeg), .int x9] M (fun r26 M27 => ∃ v28 : Int32, r26 = some (.int v28) ∧ LX12_sumsMachine_297 G d rc rs p0 x1 x2 x3 x4 x5 x6 x7 (x8 + ((x_i M b23 ((8 * x1) + x9).toNatClampNeg) * v28)) (x9 + 1) M27 Q))))) : LX12_sumsMachine_297 G d rc rs p0 x1 x2 x3 x4 x5 x6 x7 x8 x9 M Q := by
  show Wk G (d + 1) rc rs mX12_sumsMachine 297 _ _ M Q
  refine r_iload (pc := 297) (i := 9) dX12_sumsMachine_297 rfl ?_
  refine r_bipush (pc := 299) (v := 8) dX12_sumsMachine_299 (by decide) ?_
  refine r_icmp_ge (pc := 301) (tgt := 361) dX12_sumsMachine_301 (by decide) (fun c1 => ?_) (fun c1 => ?_)
  · replace h := h.1 c1
    refine r_aload_n (pc := 361) (i := 0) dX12_sumsMachine_361 rfl rfl ?_
    obtain ⟨k2, h⟩ := h
    obtain ⟨b3, hb3, h⟩ := h
    refine r_getr (pc := 362) flX12_73 dX12_sumsMachine_362 rfl k2 hb3 ?_
    refine r_bipush (pc := 365) (v := 27) dX12_sumsMachine_365 (by decide) ?_
    refine r_iload (pc := 367) (i := 4) dX12_sumsMachine_367 rfl ?_
    refine r_imul (pc := 369) dX12_sumsMachine_369 ?_
    refine r_iload (pc := 370) (i := 7) dX12_sumsMachine_370 rfl ?_
    refine r_iadd (pc := 372) dX12_sumsMachine_372 ?_
    refine r_iload (pc := 373) (i := 5) dX12_sumsMachine_373 rfl ?_
    refine r_aload_n (pc := 375) (i := 0) dX12_sumsMachine_375 rfl rfl ?_
    refine r_geti (pc := 376) flX12_444 dX12_sumsMachine_376 (Or.inl rfl) k2 ?_
    refine r_icmp_gt (pc := 379) (tgt := 392) dX12_sumsMachine_379 (by decide) (fun c4 => ?_) (fun c4 => ?_)
    · replace h := h.1 c4
      refine r_iload (pc := 392) (i := 4) dX12_sumsMachine_392 rfl ?_
      refine r_goto (pc := 394) (tgt := 414) dX12_sumsMachine_394 (by decide) ?_
      obtain ⟨k5, h⟩ := h
      obtain ⟨i6, h⟩ := h
      refine r_iast (pc := 414) dX12_sumsMachine_414 k5 i6 ?_
      replace h := h _ rfl
      refine r_iinc (pc := 415) (i := 7) (v := _ + 1) dX12_sumsMachine_415 rfl rfl rfl ?_
      refine r_goto (pc := 418) (tgt := 282) dX12_sumsMachine_418 (by decide) ?_
      exact h
    · replace h := h.2 c4
      refine r_iload (pc := 382) (i := 5) dX12_sumsMachine_382 rfl ?_
      refine r_aload_n (pc := 384) (i := 0) dX12_sumsMachine_384 rfl rfl ?_
      refine r_geti (pc := 385) flX12_444 dX12_sumsMachine_385 (Or.inl rfl) k2 ?_
      refine r_ineg (pc := 388) dX12_sumsMachine_388 ?_
      refine r_icmp_ge (pc := 389) (tgt := 397) dX12_sumsMachine_389 (by decide) (fun c8 => ?_) (fun c8 => ?_)
      · replace h := h.1 c8
        refine r_aload_n (pc := 397) (i := 0) dX12_sumsMachine_397 rfl rfl ?_
        refine r_aload_n (pc := 398) (i := 0) dX12_sumsMachine_398 rfl rfl ?_
        refine r_geti (pc := 399) flX12_7 dX12_sumsMachine_399 (Or.inl rfl) k2 ?_
        refine r_i2l (pc := 402) dX12_sumsMachine_402 ?_
        refine r_iload (pc := 403) (i := 5) dX12_sumsMachine_403 rfl ?_
        refine r_i2l (pc := 405) dX12_sumsMachine_405 ?_
        refine r_lmul (pc := 406) dX12_sumsMachine_406 ?_
        refine r_iload (pc := 407) (i := 8) dX12_sumsMachine_407 rfl ?_
        refine r_i2l (pc := 409) dX12_sumsMachine_409 ?_
        refine r_ladd (pc := 410) dX12_sumsMachine_410 ?_
        refine r_callV (pc := 411) (ci := 12) (as := [_]) (st := [_, _]) okX12_difference lkX12_447 inX12_difference seX12_difference ⟨_, rfl, rfl⟩ dX12_sumsMachine_411 rfl k2 (Nat.le_of_ble_eq_true rfl) (Nat.zero_le _) (Nat.zero_le _) (Call.mono h (fun r9 M10 h => ?_))
        obtain ⟨v11, rfl, h⟩ := h
        obtain ⟨k12, h⟩ := h
        obtain ⟨i13, h⟩ := h
        refine r_iast (pc := 414) dX12_sumsMachine_414 k12 i13 ?_
        replace h := h _ rfl
        refine r_iinc (pc := 415) (i := 7) (v := _ + 1) dX12_sumsMachine_415 rfl rfl rfl ?_
        refine r_goto (pc := 418) (tgt := 282) dX12_sumsMachine_418 (by decide) ?_
        exact h
      · replace h := h.2 c8
        refine r_iload (pc := 392) (i := 4) dX12_sumsMachine_392 rfl ?_
        refine r_goto (pc := 394) (tgt := 414) dX12_sumsMachine_394 (by decide) ?_
        obtain ⟨k15, h⟩ := h
        obtain ⟨i16, h⟩ := h
        refine r_iast (pc := 414) dX12_sumsMachine_414 k15 i16 ?_
        replace h := h _ rfl
        refine r_iinc (pc := 415) (i := 7) (v := _ + 1) dX12_sumsMachine_415 rfl rfl rfl ?_
        refine r_goto (pc := 418) (tgt := 282) dX12_sumsMachine_418 (by decide) ?_
        exact h
  · replace h := h.2 c1
    refine r_iload (pc := 304) (i := 8) dX12_sumsMachine_304 rfl ?_
    refine r_aload_n (pc := 306) (i := 0) dX12_sumsMachine_306 rfl rfl ?_
    obtain ⟨k18, h⟩ := h
    obtain ⟨b19, hb19, h⟩ := h
    refine r_getr (pc := 307) flX12_119 dX12_sumsMachine_307 rfl k18 hb19 ?_
    refine r_iload_n (pc := 310) (i := 1) dX12_sumsMachine_310 rfl rfl ?_
    obtain ⟨k20, h⟩ := h
    obtain ⟨i21, h⟩ := h
    refine r_iald (pc := 311) dX12_sumsMachine_311 k20 i21 ?_
    refine r_iload (pc := 312) (i := 9) dX12_sumsMachine_312 rfl ?_
    refine r_ishr (pc := 314) dX12_sumsMachine_314 ?_
    refine r_iconst (pc := 315) (v := 1) dX12_sumsMachine_315 (by decide) ?_
    refine r_iand (pc := 316) dX12_sumsMachine_316 ?_
    refine r_iconst (pc := 317) (v := 1) dX12_sumsMachine_317 (by decide) ?_
    refine r_icmp_ne (pc := 318) (tgt := 351) dX12_sumsMachine_318 (by decide) (fun c22 => ?_) (fun c22 => ?_)
    · replace h := h.1 c22
      refine r_iconst (pc := 351) (v := 0) dX12_sumsMachine_351 (by decide) ?_
      refine r_iadd (pc := 352) dX12_sumsMachine_352 ?_
      refine r_istore (pc := 353) (i := 8) dX12_sumsMachine_353 rfl (Nat.le_of_ble_eq_true rfl) ?_
      refine r_iinc (pc := 355) (i := 9) (v := _ + 1) dX12_sumsMachine_355 rfl rfl rfl ?_
      refine r_goto (pc := 358) (tgt := 297) dX12_sumsMachine_358 (by decide) ?_
      exact h
    · replace h := h.2 c22
      refine r_aload_n (pc := 321) (i := 0) dX12_sumsMachine_321 rfl rfl ?_
      obtain ⟨b23, hb23, h⟩ := h
      refine r_getr (pc := 322) flX12_122 dX12_sumsMachine_322 rfl k18 hb23 ?_
      refine r_bipush (pc := 325) (v := 8) dX12_sumsMachine_325 (by decide) ?_
      refine r_iload_n (pc := 327) (i := 1) dX12_sumsMachine_327 rfl rfl ?_
      refine r_imul (pc := 328) dX12_sumsMachine_328 ?_
      refine r_iload (pc := 329) (i := 9) dX12_sumsMachine_329 rfl ?_
      refine r_iadd (pc := 331) dX12_sumsMachine_331 ?_
      obtain ⟨k24, h⟩ := h
      obtain ⟨i25, h⟩ := h
      refine r_iald (pc := 332) dX12_sumsMachine_332 k24 i25 ?_
      refine r_aload_n (pc := 333) (i := 0) dX12_sumsMachine_333 rfl rfl ?_
      refine r_iload (pc := 334) (i := 7) dX12_sumsMachine_334 rfl ?_
      refine r_aload_n (pc := 336) (i := 0) dX12_sumsMachine_336 rfl rfl ?_
      refine r_getr (pc := 337) flX12_119 dX12_sumsMachine_337 rfl k18 hb19 ?_
      refine r_iload_n (pc := 340) (i := 1) dX12_sumsMachine_340 rfl rfl ?_
      refine r_iald (pc := 341) dX12_sumsMachine_341 k20 i21 ?_
      refine r_iload (pc := 342) (i := 9) dX12_sumsMachine_342 rfl ?_
      refine r_callV (pc := 344) (ci := 12) (as := [_, _, _]) (st := [_, _]) okX12_digitOf lkX12_420 inX12_digitOf seX12_digitOf ⟨_, rfl, rfl⟩ dX12_sumsMachine_344 rfl k18 (Nat.le_of_ble_eq_true rfl) (Nat.zero_le _) (Nat.zero_le _) (Call.mono h (fun r26 M27 h => ?_))
      obtain ⟨v28, rfl, h⟩ := h
      refine r_imul (pc := 347) dX12_sumsMachine_347 ?_
      refine r_goto (pc := 348) (tgt := 352) dX12_sumsMachine_348 (by decide) ?_
      refine r_iadd (pc := 352) dX12_sumsMachine_352 ?_
      refine r_istore (pc := 353) (i := 8) dX12_sumsMachine_353 rfl (Nat.le_of_ble_eq_true rfl) ?_
      refine r_iinc (pc := 355) (i := 9) (v := _ + 1) dX12_sumsMachine_355 rfl rfl rfl ?_
      refine r_goto (pc := 358) (tgt := 297) dX12_sumsMachine_358 (by decide) ?_
      exact h
abbrev LX12_tupleOf_2 (G : GG) (d rc rs : Nat) (p0 : Nat) (x1 : Int32) (x2 : Int32) (z3 : Option Value) (z4 : Option Value) (M : Mem) (Q : Option Value → Mem → Prop) : Prop := Wk G (d + 1) rc rs mX12_tupleOf 2 [some (.ref p0), some (.int x1), some (.int x2), z3, z4] [] M Q
abbrev LX12_tupleOf_15 (G : GG) (d rc rs : Nat) (p0 : Nat) (x1 : Int32) (x2 : Int32) (x3 : Int32) (x4 : Int32) (M : Mem) (Q : Option Value → Mem → Prop) : Prop := Wk G (d + 1) rc rs mX12_tupleOf 15 [some (.ref p0), some (.int x1), some (.int x2), some (.int x3), some (.int x4)] [] M Q
abbrev LX12_tupleOf_72 (G : GG) (d rc rs : Nat) (p0 : Nat) (x1 : Int32) (x2 : Int32) (z3 : Option Value) (z4 : Option Value) (M : Mem) (Q : Option Value → Mem → Prop) : Prop := Wk G (d + 1) rc rs mX12_tupleOf 72 [some (.ref p0), some (.int x1), some (.int x2), z3, z4] [] M Q
theorem eX12_tupleOf {G : GG} {d rc rs : Nat} (o : Nat) (a1 : Int32)  {M : Mem} {Q : Option Value → Mem → Prop} (h : LX12_tupleOf_2 G d rc rs o a1 0 none none M Q) : Call G (d + 1) rc rs mX12_tupleOf [.ref o, .int a1] M Q := by
  refine call_of (by decide) (Nat.le_of_ble_eq_true rfl) ?_
  show Wk G (d + 1) rc rs mX12_tupleOf 0 [some (.ref o), some (.int a1), none, none, none] [] M Q
  refine r_iconst (pc := 0) (v := 0) dX12_tupleOf_0 (by decide) ?_
  refine r_istore_n (pc := 1) (i := 2) dX12_tupleOf_1 rfl rfl (Nat.le_of_ble_eq_true rfl) ?_
  exact h
theorem vX12_tupleOf_2 {G : GG} {d rc rs : Nat} (p0 : Nat) (x1 : Int32) (x2 : Int32) (z3 : Option Value) (z4 : Option Value) (hz3 : c1 z3 = true) (hz4 : c1 z4 = true) {M : Mem} {Q : Option Value → Mem → Prop} (h : (x_h M p0).1 = 28 ∧ ((x_i M p0 25) ≤ x2 → LX12_tupleOf_72 G d rc rs p0 x1 0 z3 z4 M Q) ∧ (¬ (x_i M p0 25) ≤ x2 → LX12_tupleOf_15 G d rc rs p0 x1 x2 1 0 M Q)) : LX12_tupleOf_2 G d rc rs p0 x1 x2 z3 z4 M Q := by
  show Wk G (d + 1) rc rs mX12_tupleOf 2 _ _ M Q
  refine r_iload_n (pc := 2) (i := 2) dX12_tupleOf_2 rfl rfl ?_
  refine r_aload_n (pc := 3) (i := 0) dX12_tupleOf_3 rfl rfl ?_
  obtain ⟨k1, h⟩ := h
  refine r_geti (pc := 4) flX12_234 dX12_tupleOf_4 (Or.inl rfl) k1 ?_
  refine r_icmp_ge (pc := 7) (tgt := 70) dX12_tupleOf_7 (by decide) (fun c2 => ?_) (fun c2 => ?_)
  · replace h := h.1 c2
    refine r_iconst (pc := 70) (v := 0) dX12_tupleOf_70 (by decide) ?_
    refine r_istore_n (pc := 71) (i := 2) dX12_tupleOf_71 rfl rfl (Nat.le_of_ble_eq_true rfl) ?_
    exact h
  · replace h := h.2 c2
    refine r_iconst (pc := 10) (v := 1) dX12_tupleOf_10 (by decide) ?_
    refine r_istore_n (pc := 11) (i := 3) dX12_tupleOf_11 rfl rfl (Nat.le_of_ble_eq_true rfl) ?_
    refine r_iconst (pc := 12) (v := 0) dX12_tupleOf_12 (by decide) ?_
    refine r_istore (pc := 13) (i := 4) dX12_tupleOf_13 rfl (Nat.le_of_ble_eq_true rfl) ?_
    exact h
theorem vX12_tupleOf_15 {G : GG} {d rc rs : Nat} (p0 : Nat) (x1 : Int32) (x2 : Int32) (x3 : Int32) (x4 : Int32)  {M : Mem} {Q : Option Value → Mem → Prop} (h : (x1 ≤ x4 → (x3 = 0 → LX12_tupleOf_2 G d rc rs p0 x1 (x2 + 1) (some (.int x3)) (some (.int x4)) M Q) ∧ (¬ x3 = 0 → Q (some (.int x2)) M)) ∧ (¬ x1 ≤ x4 → (x3 = 0 → LX12_tupleOf_15 G d rc rs p0 x1 x2 0 (x4 + 1) M Q) ∧ (¬ x3 = 0 → (x_h M p0).1 = 28 ∧ (∃ b5, x_r M p0 83 = some b5 ∧ (x_h M b5).1 = 1 ∧ vp_in ((4 * x2) + x4) (x_h M b5).2 ∧ (∃ b8, x_r M p0 84 = some b8 ∧ (x_h M b8).1 = 1 ∧ vp_in x4 (x_h M b8).2 ∧ (¬ (x_i M b5 ((4 * x2) + x4).toNatClampNeg) = (x_i M b8 x4.toNatClampNeg) → LX12_tupleOf_15 G d rc rs p0 x1 x2 0 (x4 + 1) M Q) ∧ ((x_i M b5 ((4 * x2) + x4).toNatClampNeg) = (x_i M b8 x4.toNatClampNeg) → LX12_tupleOf_15 G d rc rs p0 x1 x2 1 (x4 + 1) M Q)))))) : LX12_tupleOf_15 G d rc rs p0 x1 x2 x3 x4 M Q := by
  show Wk G (d + 1) rc rs mX12_tupleOf 15 _ _ M Q
  refine r_iload (pc := 15) (i := 4) dX12_tupleOf_15 rfl ?_
  refine r_iload_n (pc := 17) (i := 1) dX12_tupleOf_17 rfl rfl ?_
  refine r_icmp_ge (pc := 18) (tgt := 58) dX12_tupleOf_18 (by decide) (fun c1 => ?_) (fun c1 => ?_)
  · replace h := h.1 c1
    refine r_iload_n (pc := 58) (i := 3) dX12_tupleOf_58 rfl rfl ?_
    refine r_if_eq (pc := 59) (tgt := 64) dX12_tupleOf_59 (by decide) (fun c2 => ?_) (fun c2 => ?_)
    · replace h := h.1 c2
      refine r_iinc (pc := 64) (i := 2) (v := _ + 1) dX12_tupleOf_64 rfl rfl rfl ?_
      refine r_goto (pc := 67) (tgt := 2) dX12_tupleOf_67 (by decide) ?_
      exact h
    · replace h := h.2 c2
      refine r_iload_n (pc := 62) (i := 2) dX12_tupleOf_62 rfl rfl ?_
      exact r_iret (pc := 63) dX12_tupleOf_63 rfl h
  · replace h := h.2 c1
    refine r_iload_n (pc := 21) (i := 3) dX12_tupleOf_21 rfl rfl ?_
    refine r_if_eq (pc := 22) (tgt := 50) dX12_tupleOf_22 (by decide) (fun c3 => ?_) (fun c3 => ?_)
    · replace h := h.1 c3
      refine r_iconst (pc := 50) (v := 0) dX12_tupleOf_50 (by decide) ?_
      refine r_istore_n (pc := 51) (i := 3) dX12_tupleOf_51 rfl rfl (Nat.le_of_ble_eq_true rfl) ?_
      refine r_iinc (pc := 52) (i := 4) (v := _ + 1) dX12_tupleOf_52 rfl rfl rfl ?_
      refine r_goto (pc := 55) (tgt := 15) dX12_tupleOf_55 (by decide) ?_
      exact h
    · replace h := h.2 c3
      refine r_aload_n (pc := 25) (i := 0) dX12_tupleOf_25 rfl rfl ?_
      obtain ⟨k4, h⟩ := h
      obtain ⟨b5, hb5, h⟩ := h
      refine r_getr (pc := 26) flX12_185 dX12_tupleOf_26 rfl k4 hb5 ?_
      refine r_iconst (pc := 29) (v := 4) dX12_tupleOf_29 (by decide) ?_
      refine r_iload_n (pc := 30) (i := 2) dX12_tupleOf_30 rfl rfl ?_
      refine r_imul (pc := 31) dX12_tupleOf_31 ?_
      refine r_iload (pc := 32) (i := 4) dX12_tupleOf_32 rfl ?_
      refine r_iadd (pc := 34) dX12_tupleOf_34 ?_
      obtain ⟨k6, h⟩ := h
      obtain ⟨i7, h⟩ := h
      refine r_iald (pc := 35) dX12_tupleOf_35 k6 i7 ?_
      refine r_aload_n (pc := 36) (i := 0) dX12_tupleOf_36 rfl rfl ?_
      obtain ⟨b8, hb8, h⟩ := h
      refine r_getr (pc := 37) flX12_188 dX12_tupleOf_37 rfl k4 hb8 ?_
      refine r_iload (pc := 40) (i := 4) dX12_tupleOf_40 rfl ?_
      obtain ⟨k9, h⟩ := h
      obtain ⟨i10, h⟩ := h
      refine r_iald (pc := 42) dX12_tupleOf_42 k9 i10 ?_
      refine r_icmp_ne (pc := 43) (tgt := 50) dX12_tupleOf_43 (by decide) (fun c11 => ?_) (fun c11 => ?_)
      · replace h := h.1 c11
        refine r_iconst (pc := 50) (v := 0) dX12_tupleOf_50 (by decide) ?_
        refine r_istore_n (pc := 51) (i := 3) dX12_tupleOf_51 rfl rfl (Nat.le_of_ble_eq_true rfl) ?_
        refine r_iinc (pc := 52) (i := 4) (v := _ + 1) dX12_tupleOf_52 rfl rfl rfl ?_
        refine r_goto (pc := 55) (tgt := 15) dX12_tupleOf_55 (by decide) ?_
        exact h
      · replace h := h.2 c11
        refine r_iconst (pc := 46) (v := 1) dX12_tupleOf_46 (by decide) ?_
        refine r_goto (pc := 47) (tgt := 51) dX12_tupleOf_47 (by decide) ?_
        refine r_istore_n (pc := 51) (i := 3) dX12_tupleOf_51 rfl rfl (Nat.le_of_ble_eq_true rfl) ?_
        refine r_iinc (pc := 52) (i := 4) (v := _ + 1) dX12_tupleOf_52 rfl rfl rfl ?_
        refine r_goto (pc := 55) (tgt := 15) dX12_tupleOf_55 (by decide) ?_
        exact h
theorem vX12_tupleOf_72 {G : GG} {d rc rs : Nat} (p0 : Nat) (x1 : Int32) (x2 : Int32) (z3 : Option Value) (z4 : Option Value) (hz3 : c1 z3 = true) (hz4 : c1 z4 = true) {M : Mem} {Q : Option Value → Mem → Prop} (h : (x1 ≤ x2 → (x_h M p0).1 = 28 ∧ (∀ M3, M3 = x_si M p0 25 ((x_i M p0 25) + 1) → Q (some (.int ((x_i M3 p0 25) - 1))) M3)) ∧ (¬ x1 ≤ x2 → (x_h M p0).1 = 28 ∧ (∃ b5, x_r M p0 83 = some b5 ∧ ∃ b6, x_r M p0 84 = some b6 ∧ (x_h M b6).1 = 1 ∧ vp_in x2 (x_h M b6).2 ∧ (x_h M b5).1 = 1 ∧ vp_in ((4 * (x_i M p0 25)) + x2) (x_h M b5).2 ∧ (∀ M11, M11 = x_si M b5 ((4 * (x_i M p0 25)) + x2).toNatClampNeg (x_i M b6 x2.toNatClampNeg) → LX12_tupleOf_72 G d rc rs p0 x1 (x2 + 1) z3 z4 M11 Q)))) : LX12_tupleOf_72 G d rc rs p0 x1 x2 z3 z4 M Q := by
  show Wk G (d + 1) rc rs mX12_tupleOf 72 _ _ M Q
  refine r_iload_n (pc := 72) (i := 2) dX12_tupleOf_72 rfl rfl ?_
  refine r_iload_n (pc := 73) (i := 1) dX12_tupleOf_73 rfl rfl ?_
  refine r_icmp_ge (pc := 74) (tgt := 102) dX12_tupleOf_74 (by decide) (fun c1 => ?_) (fun c1 => ?_)
  · replace h := h.1 c1
    refine r_aload_n (pc := 102) (i := 0) dX12_tupleOf_102 rfl rfl ?_
    refine r_dup (pc := 103) dX12_tupleOf_103 rfl ?_
    obtain ⟨k2, h⟩ := h
    refine r_geti (pc := 104) flX12_234 dX12_tupleOf_104 (Or.inl rfl) k2 ?_
    refine r_iconst (pc := 107) (v := 1) dX12_tupleOf_107 (by decide) ?_
    refine r_iadd (pc := 108) dX12_tupleOf_108 ?_
    refine r_puti (pc := 109) flX12_234 dX12_tupleOf_109 (Or.inl rfl) (fun q hq => by cases hq; rfl) k2 ?_
    replace h := h _ rfl
    refine r_aload_n (pc := 112) (i := 0) dX12_tupleOf_112 rfl rfl ?_
    refine r_geti (pc := 113) flX12_234 dX12_tupleOf_113 (Or.inl rfl) k2 ?_
    refine r_iconst (pc := 116) (v := 1) dX12_tupleOf_116 (by decide) ?_
    refine r_isub (pc := 117) dX12_tupleOf_117 ?_
    exact r_iret (pc := 118) dX12_tupleOf_118 rfl h
  · replace h := h.2 c1
    refine r_aload_n (pc := 77) (i := 0) dX12_tupleOf_77 rfl rfl ?_
    obtain ⟨k4, h⟩ := h
    obtain ⟨b5, hb5, h⟩ := h
    refine r_getr (pc := 78) flX12_185 dX12_tupleOf_78 rfl k4 hb5 ?_
    refine r_iconst (pc := 81) (v := 4) dX12_tupleOf_81 (by decide) ?_
    refine r_aload_n (pc := 82) (i := 0) dX12_tupleOf_82 rfl rfl ?_
    refine r_geti (pc := 83) flX12_234 dX12_tupleOf_83 (Or.inl rfl) k4 ?_
    refine r_imul (pc := 86) dX12_tupleOf_86 ?_
    refine r_iload_n (pc := 87) (i := 2) dX12_tupleOf_87 rfl rfl ?_
    refine r_iadd (pc := 88) dX12_tupleOf_88 ?_
    refine r_aload_n (pc := 89) (i := 0) dX12_tupleOf_89 rfl rfl ?_
    obtain ⟨b6, hb6, h⟩ := h
    refine r_getr (pc := 90) flX12_188 dX12_tupleOf_90 rfl k4 hb6 ?_
    refine r_iload_n (pc := 93) (i := 2) dX12_tupleOf_93 rfl rfl ?_
    obtain ⟨k7, h⟩ := h
    obtain ⟨i8, h⟩ := h
    refine r_iald (pc := 94) dX12_tupleOf_94 k7 i8 ?_
    obtain ⟨k9, h⟩ := h
    obtain ⟨i10, h⟩ := h
    refine r_iast (pc := 95) dX12_tupleOf_95 k9 i10 ?_
    replace h := h _ rfl
    refine r_iinc (pc := 96) (i := 2) (v := _ + 1) dX12_tupleOf_96 rfl rfl rfl ?_
    refine r_goto (pc := 99) (tgt := 72) dX12_tupleOf_99 (by decide) ?_
    exact h
theorem eX12_nameSet {G : GG} {d rc rs : Nat} (a1 : Int32) (a2 : Int32)  {M : Mem} {Q : Option Value → Mem → Prop} (h : (¬ a2 = (-1) → Q (some (.int ((1 <<< (a1 &&& 31)) ||| (1 <<< (a2 &&& 31))))) M) ∧ (a2 = (-1) → Q (some (.int ((1 <<< (a1 &&& 31)) ||| 0))) M)) : Call G (d + 1) rc rs mX12_nameSet [.int a1, .int a2] M Q := by
  refine call_of (by decide) (Nat.le_of_ble_eq_true rfl) ?_
  show Wk G (d + 1) rc rs mX12_nameSet 0 [some (.int a1), some (.int a2)] [] M Q
  refine r_iconst (pc := 0) (v := 1) dX12_nameSet_0 (by decide) ?_
  refine r_iload_n (pc := 1) (i := 0) dX12_nameSet_1 rfl rfl ?_
  refine r_ishl (pc := 2) dX12_nameSet_2 ?_
  refine r_iload_n (pc := 3) (i := 1) dX12_nameSet_3 rfl rfl ?_
  refine r_iconst (pc := 4) (v := (-1)) dX12_nameSet_4 (by decide) ?_
  refine r_icmp_ne (pc := 5) (tgt := 12) dX12_nameSet_5 (by decide) (fun c1 => ?_) (fun c1 => ?_)
  · replace h := h.1 c1
    refine r_iconst (pc := 12) (v := 1) dX12_nameSet_12 (by decide) ?_
    refine r_iload_n (pc := 13) (i := 1) dX12_nameSet_13 rfl rfl ?_
    refine r_ishl (pc := 14) dX12_nameSet_14 ?_
    refine r_ior (pc := 15) dX12_nameSet_15 ?_
    exact r_iret (pc := 16) dX12_nameSet_16 rfl h
  · replace h := h.2 c1
    refine r_iconst (pc := 8) (v := 0) dX12_nameSet_8 (by decide) ?_
    refine r_goto (pc := 9) (tgt := 15) dX12_nameSet_9 (by decide) ?_
    refine r_ior (pc := 15) dX12_nameSet_15 ?_
    exact r_iret (pc := 16) dX12_nameSet_16 rfl h
abbrev LX12_side_42 (G : GG) (d rc rs : Nat) (p0 : Nat) (x1 : Int32) (x2 : Int32) (x3 : Int32) (x4 : Int32) (x5 : Int32) (x6 : Int32) (x7 : Int32) (x8 : Int32) (z9 : Option Value) (M : Mem) (Q : Option Value → Mem → Prop) : Prop := Wk G (d + 1) rc rs mX12_side 42 [some (.ref p0), some (.int x1), some (.int x2), some (.int x3), some (.int x4), some (.int x5), some (.int x6), some (.int x7), some (.int x8), z9, none, none] [] M Q
abbrev LX12_side_135 (G : GG) (d rc rs : Nat) (p0 : Nat) (x1 : Int32) (x2 : Int32) (x3 : Int32) (x4 : Int32) (x5 : Int32) (x6 : Int32) (x7 : Int32) (x8 : Int32) (z9 : Option Value) (z10 : Option Value) (z11 : Option Value) (M : Mem) (Q : Option Value → Mem → Prop) : Prop := Wk G (d + 1) rc rs mX12_side 135 [some (.ref p0), some (.int x1), some (.int x2), some (.int x3), some (.int x4), some (.int x5), some (.int x6), some (.int x7), some (.int x8), z9, z10, z11] [] M Q
abbrev LX12_side_186 (G : GG) (d rc rs : Nat) (p0 : Nat) (x1 : Int32) (x2 : Int32) (x3 : Int32) (x4 : Int32) (x5 : Int32) (x6 : Int32) (x7 : Int32) (x8 : Int32) (x9 : Int32) (z10 : Option Value) (z11 : Option Value) (M : Mem) (Q : Option Value → Mem → Prop) : Prop := Wk G (d + 1) rc rs mX12_side 186 [some (.ref p0), some (.int x1), some (.int x2), some (.int x3), some (.int x4), some (.int x5), some (.int x6), some (.int x7), some (.int x8), some (.int x9), z10, z11] [] M Q
abbrev LX12_side_230 (G : GG) (d rc rs : Nat) (p0 : Nat) (x1 : Int32) (x2 : Int32) (x3 : Int32) (x4 : Int32) (x5 : Int32) (x6 : Int32) (x7 : Int32) (x8 : Int32) (x9 : Int32) (x10 : Int32) (x11 : Int32) (M : Mem) (Q : Option Value → Mem → Prop) : Prop := Wk G (d + 1) rc rs mX12_side 230 [some (.ref p0), some (.int x1), some (.int x2), some (.int x3), some (.int x4), some (.int x5), some (.int x6), some (.int x7), some (.int x8), some (.int x9), some (.int x10), some (.int x11)] [] M Q
abbrev LX12_side_344 (G : GG) (d rc rs : Nat) (p0 : Nat) (x1 : Int32) (x2 : Int32) (x3 : Int32) (x4 : Int32) (x5 : Int32) (x6 : Int32) (x7 : Int32) (x8 : Int32) (z9 : Option Value) (z10 : Option Value) (z11 : Option Value) (M : Mem) (Q : Option Value → Mem → Prop) : Prop := Wk G (d + 1) rc rs mX12_side 344 [some (.ref p0), some (.int x1), some (.int x2), some (.int x3), some (.int x4), some (.int x5), some (.int x6), some (.int x7), some (.int x8), z9, z10, z11] [] M Q
abbrev LX12_side_380 (G : GG) (d rc rs : Nat) (p0 : Nat) (x1 : Int32) (x2 : Int32) (x3 : Int32) (x4 : Int32) (x5 : Int32) (x6 : Int32) (x7 : Int32) (x8 : Int32) (x9 : Int32) (z10 : Option Value) (z11 : Option Value) (M : Mem) (Q : Option Value → Mem → Prop) : Prop := Wk G (d + 1) rc rs mX12_side 380 [some (.ref p0), some (.int x1), some (.int x2), some (.int x3), some (.int x4), some (.int x5), some (.int x6), some (.int x7), some (.int x8), some (.int x9), z10, z11] [] M Q
theorem eX12_side {G : GG} {d rc rs : Nat} (o : Nat) (a1 : Int32) (a2 : Int32) (a3 : Int32) (a4 : Int32) (a5 : Int32)  {M : Mem} {Q : Option Value → Mem → Prop} (h : Call G d 0 0 mX12_nameSet [.int a3, .int a4] M (fun r1 M2 => ∃ v3 : Int32, r1 = some (.int v3) ∧ (a4 = (-1) → (x_h M2 o).1 = 28 ∧ (∀ M6, M6 = x_si M2 o 25 0 → Call G d 0 0 mX12_across [.ref o, .int v3] M6 (fun r7 M8 => ∃ v9 : Int32, r7 = some (.int v9) ∧ (x_h M8 o).1 = 28 ∧ (∀ M11, M11 = x_si M8 o 26 v9 → LX12_side_42 G d rc rs o a1 a2 a3 a4 a5 v3 (a5 + 1) 0 none M11 Q)))) ∧ (¬ a4 = (-1) → (x_h M2 o).1 = 28 ∧ (∀ M13, M13 = x_si M2 o 25 0 → Call G d 0 0 mX12_across [.ref o, .int v3] M13 (fun r14 M15 => ∃ v16 : Int32, r14 = some (.int v16) ∧ (x_h M15 o).1 = 28 ∧ (∀ M18, M18 = x_si M15 o 26 v16 → LX12_side_42 G d rc rs o a1 a2 a3 a4 a5 v3 2 0 none M18 Q)))))) : Call G (d + 1) rc rs mX12_side [.ref o, .int a1, .int a2, .int a3, .int a4, .int a5] M Q := by
  refine call_of (by decide) (Nat.le_of_ble_eq_true rfl) ?_
  show Wk G (d + 1) rc rs mX12_side 0 [some (.ref o), some (.int a1), some (.int a2), some (.int a3), some (.int a4), some (.int a5), none, none, none, none, none, none] [] M Q
  refine r_iload_n (pc := 0) (i := 3) dX12_side_0 rfl rfl ?_
  refine r_iload (pc := 1) (i := 4) dX12_side_1 rfl ?_
  refine r_callS (pc := 3) (as := [_, _]) (st := []) okX12_nameSet lkX12_450 stX12_nameSet dX12_side_3 rfl (Nat.le_of_ble_eq_true rfl) (Nat.zero_le _) (Nat.zero_le _) (Call.mono h (fun r1 M2 h => ?_))
  obtain ⟨v3, rfl, h⟩ := h
  refine r_istore (pc := 6) (i := 6) dX12_side_6 rfl (Nat.le_of_ble_eq_true rfl) ?_
  refine r_iload (pc := 8) (i := 4) dX12_side_8 rfl ?_
  refine r_iconst (pc := 10) (v := (-1)) dX12_side_10 (by decide) ?_
  refine r_icmp_eq (pc := 11) (tgt := 18) dX12_side_11 (by decide) (fun c4 => ?_) (fun c4 => ?_)
  · replace h := h.1 c4
    refine r_iload (pc := 18) (i := 5) dX12_side_18 rfl ?_
    refine r_iconst (pc := 20) (v := 1) dX12_side_20 (by decide) ?_
    refine r_iadd (pc := 21) dX12_side_21 ?_
    refine r_istore (pc := 22) (i := 7) dX12_side_22 rfl (Nat.le_of_ble_eq_true rfl) ?_
    refine r_aload_n (pc := 24) (i := 0) dX12_side_24 rfl rfl ?_
    refine r_iconst (pc := 25) (v := 0) dX12_side_25 (by decide) ?_
    obtain ⟨k5, h⟩ := h
    refine r_puti (pc := 26) flX12_234 dX12_side_26 (Or.inl rfl) (fun q hq => by cases hq; rfl) k5 ?_
    replace h := h _ rfl
    refine r_aload_n (pc := 29) (i := 0) dX12_side_29 rfl rfl ?_
    refine r_aload_n (pc := 30) (i := 0) dX12_side_30 rfl rfl ?_
    refine r_iload (pc := 31) (i := 6) dX12_side_31 rfl ?_
    refine r_callV (pc := 33) (ci := 12) (as := [_]) (st := [_]) okX12_across lkX12_417 inX12_across seX12_across ⟨_, rfl, rfl⟩ dX12_side_33 rfl k5 (Nat.le_of_ble_eq_true rfl) (Nat.zero_le _) (Nat.zero_le _) (Call.mono h (fun r7 M8 h => ?_))
    obtain ⟨v9, rfl, h⟩ := h
    obtain ⟨k10, h⟩ := h
    refine r_puti (pc := 36) flX12_226 dX12_side_36 (Or.inl rfl) (fun q hq => by cases hq; rfl) k10 ?_
    replace h := h _ rfl
    refine r_iconst (pc := 39) (v := 0) dX12_side_39 (by decide) ?_
    refine r_istore (pc := 40) (i := 8) dX12_side_40 rfl (Nat.le_of_ble_eq_true rfl) ?_
    exact h
  · replace h := h.2 c4
    refine r_iconst (pc := 14) (v := 2) dX12_side_14 (by decide) ?_
    refine r_goto (pc := 15) (tgt := 22) dX12_side_15 (by decide) ?_
    refine r_istore (pc := 22) (i := 7) dX12_side_22 rfl (Nat.le_of_ble_eq_true rfl) ?_
    refine r_aload_n (pc := 24) (i := 0) dX12_side_24 rfl rfl ?_
    refine r_iconst (pc := 25) (v := 0) dX12_side_25 (by decide) ?_
    obtain ⟨k12, h⟩ := h
    refine r_puti (pc := 26) flX12_234 dX12_side_26 (Or.inl rfl) (fun q hq => by cases hq; rfl) k12 ?_
    replace h := h _ rfl
    refine r_aload_n (pc := 29) (i := 0) dX12_side_29 rfl rfl ?_
    refine r_aload_n (pc := 30) (i := 0) dX12_side_30 rfl rfl ?_
    refine r_iload (pc := 31) (i := 6) dX12_side_31 rfl ?_
    refine r_callV (pc := 33) (ci := 12) (as := [_]) (st := [_]) okX12_across lkX12_417 inX12_across seX12_across ⟨_, rfl, rfl⟩ dX12_side_33 rfl k12 (Nat.le_of_ble_eq_true rfl) (Nat.zero_le _) (Nat.zero_le _) (Call.mono h (fun r14 M15 h => ?_))
    obtain ⟨v16, rfl, h⟩ := h
    obtain ⟨k17, h⟩ := h
    refine r_puti (pc := 36) flX12_226 dX12_side_36 (Or.inl rfl) (fun q hq => by cases hq; rfl) k17 ?_
    replace h := h _ rfl
    refine r_iconst (pc := 39) (v := 0) dX12_side_39 (by decide) ?_
    refine r_istore (pc := 40) (i := 8) dX12_side_40 rfl (Nat.le_of_ble_eq_true rfl) ?_
    exact h
theorem vX12_side_42 {G : GG} {d rc rs : Nat} (p0 : Nat) (x1 : Int32) (x2 : Int32) (x3 : Int32) (x4 : Int32) (x5 : Int32) (x6 : Int32) (x7 : Int32) (x8 : Int32) (z9 : Option Value) (hz9 : c1 z9 = true) {M : Mem} {Q : Option Value → Mem → Prop} (h : (x7 ≤ x8 → (x_h M p0).1 = 28 ∧ Call G d 0 0 mX12_tupleOf [.ref p0, .int x7] M (fun r3 M4 => ∃ v5 : Int32, r3 = some (.int v5) ∧ LX12_side_135 G d rc rs p0 x1 x2 x3 x4 x5 x6 x7 0 z9 none none M4 Q)) ∧ (¬ x7 ≤ x8 → (x_h M p0).1 = 28 ∧ (x8 < (x_i M p0 0) → (x8 ≤ 0 → ∃ b9, x_r M p0 84 = some b9 ∧ (x_h M b9).1 = 1 ∧ vp_in x8 (x_h M b9).2 ∧ (∀ M12, M12 = x_si M b9 x8.toNatClampNeg 0 → LX12_side_42 G d rc rs p0 x1 x2 x3 x4 x5 x6 x7 (x8 + 1) (some (.int 0)) M12 Q)) ∧ (¬ x8 ≤ 0 → Call G d 0 0 mX12_rowTo [.ref p0, .int x2, .int 0, .int x8] M (fun r13 M14 => ∃ v15 : Int32, r13 = some (.int v15) ∧ (x_h M14 p0).1 = 28 ∧ (∃ b17, x_r M14 p0 84 = some b17 ∧ (x_h M14 b17).1 = 1 ∧ vp_in x8 (x_h M14 b17).2 ∧ (∀ M20, M20 = x_si M14 b17 x8.toNatClampNeg v15 → LX12_side_42 G d rc rs p0 x1 x2 x3 x4 x5 x6 x7 (x8 + 1) (some (.int v15)) M20 Q))))) ∧ (¬ x8 < (x_i M p0 0) → ¬ (x_i M p0 0) = 0 ∧ Call G d 0 0 mX12_rowTo [.ref p0, .int x2, .int 0, .int (x8 / (x_i M p0 0))] M (fun r22 M23 => ∃ v24 : Int32, r22 = some (.int v24) ∧ (x_h M23 p0).1 = 28 ∧ ¬ (x_i M23 p0 0) = 0 ∧ Call G d 0 0 mX12_rowTo [.ref p0, .int x2, .int v24, .int (x8 - x8 / (x_i M23 p0 0) * (x_i M23 p0 0))] M23 (fun r27 M28 => ∃ v29 : Int32, r27 = some (.int v29) ∧ (x_h M28 p0).1 = 28 ∧ (∃ b31, x_r M28 p0 84 = some b31 ∧ (x_h M28 b31).1 = 1 ∧ vp_in x8 (x_h M28 b31).2 ∧ (∀ M34, M34 = x_si M28 b31 x8.toNatClampNeg v29 → LX12_side_42 G d rc rs p0 x1 x2 x3 x4 x5 x6 x7 (x8 + 1) (some (.int v29)) M34 Q))))))) : LX12_side_42 G d rc rs p0 x1 x2 x3 x4 x5 x6 x7 x8 z9 M Q := by
  show Wk G (d + 1) rc rs mX12_side 42 _ _ M Q
  refine r_iload (pc := 42) (i := 8) dX12_side_42 rfl ?_
  refine r_iload (pc := 44) (i := 7) dX12_side_44 rfl ?_
  refine r_icmp_ge (pc := 46) (tgt := 125) dX12_side_46 (by decide) (fun c1 => ?_) (fun c1 => ?_)
  · replace h := h.1 c1
    refine r_aload_n (pc := 125) (i := 0) dX12_side_125 rfl rfl ?_
    refine r_iload (pc := 126) (i := 7) dX12_side_126 rfl ?_
    obtain ⟨k2, h⟩ := h
    refine r_callV (pc := 128) (ci := 12) (as := [_]) (st := []) okX12_tupleOf lkX12_453 inX12_tupleOf seX12_tupleOf ⟨_, rfl, rfl⟩ dX12_side_128 rfl k2 (Nat.le_of_ble_eq_true rfl) (Nat.zero_le _) (Nat.zero_le _) (Call.mono h (fun r3 M4 h => ?_))
    obtain ⟨v5, rfl, h⟩ := h
    refine r_pop (pc := 131) dX12_side_131 rfl ?_
    refine r_iconst (pc := 132) (v := 0) dX12_side_132 (by decide) ?_
    refine r_istore (pc := 133) (i := 8) dX12_side_133 rfl (Nat.le_of_ble_eq_true rfl) ?_
    exact h
  · replace h := h.2 c1
    refine r_iconst (pc := 49) (v := 0) dX12_side_49 (by decide) ?_
    refine r_istore (pc := 50) (i := 9) dX12_side_50 rfl (Nat.le_of_ble_eq_true rfl) ?_
    refine r_iload (pc := 52) (i := 8) dX12_side_52 rfl ?_
    refine r_aload_n (pc := 54) (i := 0) dX12_side_54 rfl rfl ?_
    obtain ⟨k6, h⟩ := h
    refine r_geti (pc := 55) flX12_7 dX12_side_55 (Or.inl rfl) k6 ?_
    refine r_icmp_lt (pc := 58) (tgt := 90) dX12_side_58 (by decide) (fun c7 => ?_) (fun c7 => ?_)
    · replace h := h.1 c7
      refine r_iload (pc := 90) (i := 8) dX12_side_90 rfl ?_
      refine r_if_le (pc := 92) (tgt := 107) dX12_side_92 (by decide) (fun c8 => ?_) (fun c8 => ?_)
      · replace h := h.1 c8
        refine r_iconst (pc := 107) (v := 0) dX12_side_107 (by decide) ?_
        refine r_istore (pc := 108) (i := 9) dX12_side_108 rfl (Nat.le_of_ble_eq_true rfl) ?_
        refine r_aload_n (pc := 110) (i := 0) dX12_side_110 rfl rfl ?_
        obtain ⟨b9, hb9, h⟩ := h
        refine r_getr (pc := 111) flX12_188 dX12_side_111 rfl k6 hb9 ?_
        refine r_iload (pc := 114) (i := 8) dX12_side_114 rfl ?_
        refine r_iload (pc := 116) (i := 9) dX12_side_116 rfl ?_
        obtain ⟨k10, h⟩ := h
        obtain ⟨i11, h⟩ := h
        refine r_iast (pc := 118) dX12_side_118 k10 i11 ?_
        replace h := h _ rfl
        refine r_iinc (pc := 119) (i := 8) (v := _ + 1) dX12_side_119 rfl rfl rfl ?_
        refine r_goto (pc := 122) (tgt := 42) dX12_side_122 (by decide) ?_
        exact h
      · replace h := h.2 c8
        refine r_aload_n (pc := 95) (i := 0) dX12_side_95 rfl rfl ?_
        refine r_iload_n (pc := 96) (i := 2) dX12_side_96 rfl rfl ?_
        refine r_iload (pc := 97) (i := 9) dX12_side_97 rfl ?_
        refine r_iload (pc := 99) (i := 8) dX12_side_99 rfl ?_
        refine r_callV (pc := 101) (ci := 12) (as := [_, _, _]) (st := []) okX12_rowTo lkX12_282 inX12_rowTo seX12_rowTo ⟨_, rfl, rfl⟩ dX12_side_101 rfl k6 (Nat.le_of_ble_eq_true rfl) (Nat.zero_le _) (Nat.zero_le _) (Call.mono h (fun r13 M14 h => ?_))
        obtain ⟨v15, rfl, h⟩ := h
        refine r_goto (pc := 104) (tgt := 108) dX12_side_104 (by decide) ?_
        refine r_istore (pc := 108) (i := 9) dX12_side_108 rfl (Nat.le_of_ble_eq_true rfl) ?_
        refine r_aload_n (pc := 110) (i := 0) dX12_side_110 rfl rfl ?_
        obtain ⟨k16, h⟩ := h
        obtain ⟨b17, hb17, h⟩ := h
        refine r_getr (pc := 111) flX12_188 dX12_side_111 rfl k16 hb17 ?_
        refine r_iload (pc := 114) (i := 8) dX12_side_114 rfl ?_
        refine r_iload (pc := 116) (i := 9) dX12_side_116 rfl ?_
        obtain ⟨k18, h⟩ := h
        obtain ⟨i19, h⟩ := h
        refine r_iast (pc := 118) dX12_side_118 k18 i19 ?_
        replace h := h _ rfl
        refine r_iinc (pc := 119) (i := 8) (v := _ + 1) dX12_side_119 rfl rfl rfl ?_
        refine r_goto (pc := 122) (tgt := 42) dX12_side_122 (by decide) ?_
        exact h
    · replace h := h.2 c7
      refine r_aload_n (pc := 61) (i := 0) dX12_side_61 rfl rfl ?_
      refine r_iload_n (pc := 62) (i := 2) dX12_side_62 rfl rfl ?_
      refine r_aload_n (pc := 63) (i := 0) dX12_side_63 rfl rfl ?_
      refine r_iload_n (pc := 64) (i := 2) dX12_side_64 rfl rfl ?_
      refine r_iload (pc := 65) (i := 9) dX12_side_65 rfl ?_
      refine r_iload (pc := 67) (i := 8) dX12_side_67 rfl ?_
      refine r_aload_n (pc := 69) (i := 0) dX12_side_69 rfl rfl ?_
      refine r_geti (pc := 70) flX12_7 dX12_side_70 (Or.inl rfl) k6 ?_
      obtain ⟨n21, h⟩ := h
      refine r_idiv (pc := 73) dX12_side_73 n21 ?_
      refine r_callV (pc := 74) (ci := 12) (as := [_, _, _]) (st := [_, _]) okX12_rowTo lkX12_282 inX12_rowTo seX12_rowTo ⟨_, rfl, rfl⟩ dX12_side_74 rfl k6 (Nat.le_of_ble_eq_true rfl) (Nat.zero_le _) (Nat.zero_le _) (Call.mono h (fun r22 M23 h => ?_))
      obtain ⟨v24, rfl, h⟩ := h
      refine r_iload (pc := 77) (i := 8) dX12_side_77 rfl ?_
      refine r_aload_n (pc := 79) (i := 0) dX12_side_79 rfl rfl ?_
      obtain ⟨k25, h⟩ := h
      refine r_geti (pc := 80) flX12_7 dX12_side_80 (Or.inl rfl) k25 ?_
      obtain ⟨n26, h⟩ := h
      refine r_irem (pc := 83) dX12_side_83 n26 ?_
      refine r_callV (pc := 84) (ci := 12) (as := [_, _, _]) (st := []) okX12_rowTo lkX12_282 inX12_rowTo seX12_rowTo ⟨_, rfl, rfl⟩ dX12_side_84 rfl k25 (Nat.le_of_ble_eq_true rfl) (Nat.zero_le _) (Nat.zero_le _) (Call.mono h (fun r27 M28 h => ?_))
      obtain ⟨v29, rfl, h⟩ := h
      refine r_goto (pc := 87) (tgt := 108) dX12_side_87 (by decide) ?_
      refine r_istore (pc := 108) (i := 9) dX12_side_108 rfl (Nat.le_of_ble_eq_true rfl) ?_
      refine r_aload_n (pc := 110) (i := 0) dX12_side_110 rfl rfl ?_
      obtain ⟨k30, h⟩ := h
      obtain ⟨b31, hb31, h⟩ := h
      refine r_getr (pc := 111) flX12_188 dX12_side_111 rfl k30 hb31 ?_
      refine r_iload (pc := 114) (i := 8) dX12_side_114 rfl ?_
      refine r_iload (pc := 116) (i := 9) dX12_side_116 rfl ?_
      obtain ⟨k32, h⟩ := h
      obtain ⟨i33, h⟩ := h
      refine r_iast (pc := 118) dX12_side_118 k32 i33 ?_
      replace h := h _ rfl
      refine r_iinc (pc := 119) (i := 8) (v := _ + 1) dX12_side_119 rfl rfl rfl ?_
      refine r_goto (pc := 122) (tgt := 42) dX12_side_122 (by decide) ?_
      exact h
theorem vX12_side_135 {G : GG} {d rc rs : Nat} (p0 : Nat) (x1 : Int32) (x2 : Int32) (x3 : Int32) (x4 : Int32) (x5 : Int32) (x6 : Int32) (x7 : Int32) (x8 : Int32) (z9 : Option Value) (z10 : Option Value) (z11 : Option Value) (hz9 : c1 z9 = true) (hz10 : c1 z10 = true) (hz11 : c1 z11 = true) {M : Mem} {Q : Option Value → Mem → Prop} (h : (x_h M p0).1 = 28 ∧ ((x_i M p0 25) ≤ x8 → Call G d 0 0 mX12_least [.ref p0] M (fun r3 M4 => r3 = none ∧ (x_h M4 p0).1 = 28 ∧ ((x_i M4 p0 29) ≤ 40 → ∃ b7, x_r M4 p0 82 = some b7 ∧ (x_h M4 b7).1 = 1 ∧ vp_in x1 (x_h M4 b7).2 ∧ (∀ M10, M10 = x_si M4 b7 x1.toNatClampNeg (x_i M4 p0 29) → LX12_side_344 G d rc rs p0 x1 x2 x3 x4 x5 x6 x7 0 z9 z10 z11 M10 Q)) ∧ (¬ (x_i M4 p0 29) ≤ 40 → Q (some (.int 0)) M4))) ∧ (¬ (x_i M p0 25) ≤ x8 → ∃ b11, x_r M p0 28 = some b11 ∧ ∃ b12, x_r M p0 5 = some b12 ∧ ∃ b13, x_r M p0 83 = some b13 ∧ (x4 = (-1) → (x_h M b13).1 = 1 ∧ vp_in ((4 * x8) + x5) (x_h M b13).2 ∧ (x_h M b12).1 = 1 ∧ vp_in ((60 * x2) + (x_i M b13 ((4 * x8) + x5).toNatClampNeg)) (x_h M b12).2 ∧ (x_h M b11).1 = 1 ∧ vp_in x8 (x_h M b11).2 ∧ (∀ M21, M21 = x_si M b11 x8.toNatClampNeg (x_i M b12 ((60 * x2) + (x_i M b13 ((4 * x8) + x5).toNatClampNeg)).toNatClampNeg) → LX12_side_186 G d rc rs p0 x1 x2 x3 x4 x5 x6 x7 x8 0 z10 z11 M21 Q)) ∧ (¬ x4 = (-1) → (x_h M b13).1 = 1 ∧ vp_in ((4 * x8) + 0) (x_h M b13).2 ∧ (x_h M b12).1 = 1 ∧ vp_in ((60 * x2) + (x_i M b13 ((4 * x8) + 0).toNatClampNeg)) (x_h M b12).2 ∧ (x_h M b11).1 = 1 ∧ vp_in x8 (x_h M b11).2 ∧ (∀ M28, M28 = x_si M b11 x8.toNatClampNeg (x_i M b12 ((60 * x2) + (x_i M b13 ((4 * x8) + 0).toNatClampNeg)).toNatClampNeg) → LX12_side_186 G d rc rs p0 x1 x2 x3 x4 x5 x6 x7 x8 0 z10 z11 M28 Q)))) : LX12_side_135 G d rc rs p0 x1 x2 x3 x4 x5 x6 x7 x8 z9 z10 z11 M Q := by
  show Wk G (d + 1) rc rs mX12_side 135 _ _ M Q
  refine r_iload (pc := 135) (i := 8) dX12_side_135 rfl ?_
  refine r_aload_n (pc := 137) (i := 0) dX12_side_137 rfl rfl ?_
  obtain ⟨k1, h⟩ := h
  refine r_geti (pc := 138) flX12_234 dX12_side_138 (Or.inl rfl) k1 ?_
  refine r_icmp_ge (pc := 141) (tgt := 316) dX12_side_141 (by decide) (fun c2 => ?_) (fun c2 => ?_)
  · replace h := h.1 c2
    refine r_aload_n (pc := 316) (i := 0) dX12_side_316 rfl rfl ?_
    refine r_callV (pc := 317) (ci := 12) (as := []) (st := []) okX12_least lkX12_266 inX12_least seX12_least ⟨_, rfl, rfl⟩ dX12_side_317 rfl k1 (Nat.le_of_ble_eq_true rfl) (Nat.zero_le _) (Nat.zero_le _) (Call.mono h (fun r3 M4 h => ?_))
    obtain ⟨rfl, h⟩ := h
    refine r_aload_n (pc := 320) (i := 0) dX12_side_320 rfl rfl ?_
    obtain ⟨k5, h⟩ := h
    refine r_geti (pc := 321) flX12_243 dX12_side_321 (Or.inl rfl) k5 ?_
    refine r_bipush (pc := 324) (v := 40) dX12_side_324 (by decide) ?_
    refine r_icmp_le (pc := 326) (tgt := 331) dX12_side_326 (by decide) (fun c6 => ?_) (fun c6 => ?_)
    · replace h := h.1 c6
      refine r_aload_n (pc := 331) (i := 0) dX12_side_331 rfl rfl ?_
      obtain ⟨b7, hb7, h⟩ := h
      refine r_getr (pc := 332) flX12_181 dX12_side_332 rfl k5 hb7 ?_
      refine r_iload_n (pc := 335) (i := 1) dX12_side_335 rfl rfl ?_
      refine r_aload_n (pc := 336) (i := 0) dX12_side_336 rfl rfl ?_
      refine r_geti (pc := 337) flX12_243 dX12_side_337 (Or.inl rfl) k5 ?_
      obtain ⟨k8, h⟩ := h
      obtain ⟨i9, h⟩ := h
      refine r_iast (pc := 340) dX12_side_340 k8 i9 ?_
      replace h := h _ rfl
      refine r_iconst (pc := 341) (v := 0) dX12_side_341 (by decide) ?_
      refine r_istore (pc := 342) (i := 8) dX12_side_342 rfl (Nat.le_of_ble_eq_true rfl) ?_
      exact h
    · replace h := h.2 c6
      refine r_iconst (pc := 329) (v := 0) dX12_side_329 (by decide) ?_
      exact r_zret (pc := 330) dX12_side_330 rfl (Or.inl rfl) h
  · replace h := h.2 c2
    refine r_aload_n (pc := 144) (i := 0) dX12_side_144 rfl rfl ?_
    obtain ⟨b11, hb11, h⟩ := h
    refine r_getr (pc := 145) flX12_76 dX12_side_145 rfl k1 hb11 ?_
    refine r_iload (pc := 148) (i := 8) dX12_side_148 rfl ?_
    refine r_aload_n (pc := 150) (i := 0) dX12_side_150 rfl rfl ?_
    obtain ⟨b12, hb12, h⟩ := h
    refine r_getr (pc := 151) flX12_23 dX12_side_151 rfl k1 hb12 ?_
    refine r_bipush (pc := 154) (v := 60) dX12_side_154 (by decide) ?_
    refine r_iload_n (pc := 156) (i := 2) dX12_side_156 rfl rfl ?_
    refine r_imul (pc := 157) dX12_side_157 ?_
    refine r_aload_n (pc := 158) (i := 0) dX12_side_158 rfl rfl ?_
    obtain ⟨b13, hb13, h⟩ := h
    refine r_getr (pc := 159) flX12_185 dX12_side_159 rfl k1 hb13 ?_
    refine r_iconst (pc := 162) (v := 4) dX12_side_162 (by decide) ?_
    refine r_iload (pc := 163) (i := 8) dX12_side_163 rfl ?_
    refine r_imul (pc := 165) dX12_side_165 ?_
    refine r_iload (pc := 166) (i := 4) dX12_side_166 rfl ?_
    refine r_iconst (pc := 168) (v := (-1)) dX12_side_168 (by decide) ?_
    refine r_icmp_eq (pc := 169) (tgt := 176) dX12_side_169 (by decide) (fun c14 => ?_) (fun c14 => ?_)
    · replace h := h.1 c14
      refine r_iload (pc := 176) (i := 5) dX12_side_176 rfl ?_
      refine r_iadd (pc := 178) dX12_side_178 ?_
      obtain ⟨k15, h⟩ := h
      obtain ⟨i16, h⟩ := h
      refine r_iald (pc := 179) dX12_side_179 k15 i16 ?_
      refine r_iadd (pc := 180) dX12_side_180 ?_
      obtain ⟨k17, h⟩ := h
      obtain ⟨i18, h⟩ := h
      refine r_iald (pc := 181) dX12_side_181 k17 i18 ?_
      obtain ⟨k19, h⟩ := h
      obtain ⟨i20, h⟩ := h
      refine r_iast (pc := 182) dX12_side_182 k19 i20 ?_
      replace h := h _ rfl
      refine r_iconst (pc := 183) (v := 0) dX12_side_183 (by decide) ?_
      refine r_istore (pc := 184) (i := 9) dX12_side_184 rfl (Nat.le_of_ble_eq_true rfl) ?_
      exact h
    · replace h := h.2 c14
      refine r_iconst (pc := 172) (v := 0) dX12_side_172 (by decide) ?_
      refine r_goto (pc := 173) (tgt := 178) dX12_side_173 (by decide) ?_
      refine r_iadd (pc := 178) dX12_side_178 ?_
      obtain ⟨k22, h⟩ := h
      obtain ⟨i23, h⟩ := h
      refine r_iald (pc := 179) dX12_side_179 k22 i23 ?_
      refine r_iadd (pc := 180) dX12_side_180 ?_
      obtain ⟨k24, h⟩ := h
      obtain ⟨i25, h⟩ := h
      refine r_iald (pc := 181) dX12_side_181 k24 i25 ?_
      obtain ⟨k26, h⟩ := h
      obtain ⟨i27, h⟩ := h
      refine r_iast (pc := 182) dX12_side_182 k26 i27 ?_
      replace h := h _ rfl
      refine r_iconst (pc := 183) (v := 0) dX12_side_183 (by decide) ?_
      refine r_istore (pc := 184) (i := 9) dX12_side_184 rfl (Nat.le_of_ble_eq_true rfl) ?_
      exact h
theorem vX12_side_186 {G : GG} {d rc rs : Nat} (p0 : Nat) (x1 : Int32) (x2 : Int32) (x3 : Int32) (x4 : Int32) (x5 : Int32) (x6 : Int32) (x7 : Int32) (x8 : Int32) (x9 : Int32) (z10 : Option Value) (z11 : Option Value) (hz10 : c1 z10 = true) (hz11 : c1 z11 = true) {M : Mem} {Q : Option Value → Mem → Prop} (h : (x_h M p0).1 = 28 ∧ ((x_i M p0 26) ≤ x9 → LX12_side_135 G d rc rs p0 x1 x2 x3 x4 x5 x6 x7 (x8 + 1) (some (.int x9)) z10 z11 M Q) ∧ (¬ (x_i M p0 26) ≤ x9 → Call G d 0 0 mX12_digitOf [.ref p0, .int x9, .int x6, .int x3] M (fun r3 M4 => ∃ v5 : Int32, r3 = some (.int v5) ∧ (¬ x4 = (-1) → (x_h M4 p0).1 = 28 ∧ Call G d 0 0 mX12_digitOf [.ref p0, .int x9, .int x6, .int x4] M4 (fun r8 M9 => ∃ v10 : Int32, r8 = some (.int v10) ∧ LX12_side_230 G d rc rs p0 x1 x2 x3 x4 x5 x6 x7 x8 x9 (v5 + v10) 0 M9 Q)) ∧ (x4 = (-1) → LX12_side_230 G d rc rs p0 x1 x2 x3 x4 x5 x6 x7 x8 x9 (v5 + 0) 0 M4 Q)))) : LX12_side_186 G d rc rs p0 x1 x2 x3 x4 x5 x6 x7 x8 x9 z10 z11 M Q := by
  show Wk G (d + 1) rc rs mX12_side 186 _ _ M Q
  refine r_iload (pc := 186) (i := 9) dX12_side_186 rfl ?_
  refine r_aload_n (pc := 188) (i := 0) dX12_side_188 rfl rfl ?_
  obtain ⟨k1, h⟩ := h
  refine r_geti (pc := 189) flX12_226 dX12_side_189 (Or.inl rfl) k1 ?_
  refine r_icmp_ge (pc := 192) (tgt := 310) dX12_side_192 (by decide) (fun c2 => ?_) (fun c2 => ?_)
  · replace h := h.1 c2
    refine r_iinc (pc := 310) (i := 8) (v := _ + 1) dX12_side_310 rfl rfl rfl ?_
    refine r_goto (pc := 313) (tgt := 135) dX12_side_313 (by decide) ?_
    exact h
  · replace h := h.2 c2
    refine r_aload_n (pc := 195) (i := 0) dX12_side_195 rfl rfl ?_
    refine r_iload (pc := 196) (i := 9) dX12_side_196 rfl ?_
    refine r_iload (pc := 198) (i := 6) dX12_side_198 rfl ?_
    refine r_iload_n (pc := 200) (i := 3) dX12_side_200 rfl rfl ?_
    refine r_callV (pc := 201) (ci := 12) (as := [_, _, _]) (st := []) okX12_digitOf lkX12_420 inX12_digitOf seX12_digitOf ⟨_, rfl, rfl⟩ dX12_side_201 rfl k1 (Nat.le_of_ble_eq_true rfl) (Nat.zero_le _) (Nat.zero_le _) (Call.mono h (fun r3 M4 h => ?_))
    obtain ⟨v5, rfl, h⟩ := h
    refine r_iload (pc := 204) (i := 4) dX12_side_204 rfl ?_
    refine r_iconst (pc := 206) (v := (-1)) dX12_side_206 (by decide) ?_
    refine r_icmp_ne (pc := 207) (tgt := 214) dX12_side_207 (by decide) (fun c6 => ?_) (fun c6 => ?_)
    · replace h := h.1 c6
      refine r_aload_n (pc := 214) (i := 0) dX12_side_214 rfl rfl ?_
      refine r_iload (pc := 215) (i := 9) dX12_side_215 rfl ?_
      refine r_iload (pc := 217) (i := 6) dX12_side_217 rfl ?_
      refine r_iload (pc := 219) (i := 4) dX12_side_219 rfl ?_
      obtain ⟨k7, h⟩ := h
      refine r_callV (pc := 221) (ci := 12) (as := [_, _, _]) (st := [_]) okX12_digitOf lkX12_420 inX12_digitOf seX12_digitOf ⟨_, rfl, rfl⟩ dX12_side_221 rfl k7 (Nat.le_of_ble_eq_true rfl) (Nat.zero_le _) (Nat.zero_le _) (Call.mono h (fun r8 M9 h => ?_))
      obtain ⟨v10, rfl, h⟩ := h
      refine r_iadd (pc := 224) dX12_side_224 ?_
      refine r_istore (pc := 225) (i := 10) dX12_side_225 rfl (Nat.le_of_ble_eq_true rfl) ?_
      refine r_iconst (pc := 227) (v := 0) dX12_side_227 (by decide) ?_
      refine r_istore (pc := 228) (i := 11) dX12_side_228 rfl (Nat.le_of_ble_eq_true rfl) ?_
      exact h
    · replace h := h.2 c6
      refine r_iconst (pc := 210) (v := 0) dX12_side_210 (by decide) ?_
      refine r_goto (pc := 211) (tgt := 224) dX12_side_211 (by decide) ?_
      refine r_iadd (pc := 224) dX12_side_224 ?_
      refine r_istore (pc := 225) (i := 10) dX12_side_225 rfl (Nat.le_of_ble_eq_true rfl) ?_
      refine r_iconst (pc := 227) (v := 0) dX12_side_227 (by decide) ?_
      refine r_istore (pc := 228) (i := 11) dX12_side_228 rfl (Nat.le_of_ble_eq_true rfl) ?_
      exact h
theorem vX12_side_230 {G : GG} {d rc rs : Nat} (p0 : Nat) (x1 : Int32) (x2 : Int32) (x3 : Int32) (x4 : Int32) (x5 : Int32) (x6 : Int32) (x7 : Int32) (x8 : Int32) (x9 : Int32) (x10 : Int32) (x11 : Int32)  {M : Mem} {Q : Option Value → Mem → Prop} (h : (x7 ≤ x11 → (x_h M p0).1 = 28 ∧ (∃ b3, x_r M p0 27 = some b3 ∧ Call G d 0 0 mX12_tupleOf [.ref p0, .int x7] M (fun r4 M5 => ∃ v6 : Int32, r4 = some (.int v6) ∧ (x_h M5 b3).1 = 1 ∧ vp_in ((27 * x8) + x9) (x_h M5 b3).2 ∧ (∀ M9, M9 = x_si M5 b3 ((27 * x8) + x9).toNatClampNeg v6 → LX12_side_186 G d rc rs p0 x1 x2 x3 x4 x5 x6 x7 x8 (x9 + 1) (some (.int x10)) (some (.int x11)) M9 Q)))) ∧ (¬ x7 ≤ x11 → (x_h M p0).1 = 28 ∧ (∃ b11, x_r M p0 84 = some b11 ∧ ∃ b12, x_r M p0 83 = some b12 ∧ ¬ (x_i M p0 0) = 0 ∧ (x_h M b12).1 = 1 ∧ vp_in ((4 * x8) + ((x10 + x11) / (x_i M p0 0))) (x_h M b12).2 ∧ ¬ (x_i M p0 0) = 0 ∧ Call G d 0 0 mX12_rowTo [.ref p0, .int x2, .int (x_i M b12 ((4 * x8) + ((x10 + x11) / (x_i M p0 0))).toNatClampNeg), .int ((x10 + x11) - (x10 + x11) / (x_i M p0 0) * (x_i M p0 0))] M (fun r17 M18 => ∃ v19 : Int32, r17 = some (.int v19) ∧ (x_h M18 b11).1 = 1 ∧ vp_in x11 (x_h M18 b11).2 ∧ (∀ M22, M22 = x_si M18 b11 x11.toNatClampNeg v19 → LX12_side_230 G d rc rs p0 x1 x2 x3 x4 x5 x6 x7 x8 x9 x10 (x11 + 1) M22 Q))))) : LX12_side_230 G d rc rs p0 x1 x2 x3 x4 x5 x6 x7 x8 x9 x10 x11 M Q := by
  show Wk G (d + 1) rc rs mX12_side 230 _ _ M Q
  refine r_iload (pc := 230) (i := 11) dX12_side_230 rfl ?_
  refine r_iload (pc := 232) (i := 7) dX12_side_232 rfl ?_
  refine r_icmp_ge (pc := 234) (tgt := 285) dX12_side_234 (by decide) (fun c1 => ?_) (fun c1 => ?_)
  · replace h := h.1 c1
    refine r_aload_n (pc := 285) (i := 0) dX12_side_285 rfl rfl ?_
    obtain ⟨k2, h⟩ := h
    obtain ⟨b3, hb3, h⟩ := h
    refine r_getr (pc := 286) flX12_73 dX12_side_286 rfl k2 hb3 ?_
    refine r_bipush (pc := 289) (v := 27) dX12_side_289 (by decide) ?_
    refine r_iload (pc := 291) (i := 8) dX12_side_291 rfl ?_
    refine r_imul (pc := 293) dX12_side_293 ?_
    refine r_iload (pc := 294) (i := 9) dX12_side_294 rfl ?_
    refine r_iadd (pc := 296) dX12_side_296 ?_
    refine r_aload_n (pc := 297) (i := 0) dX12_side_297 rfl rfl ?_
    refine r_iload (pc := 298) (i := 7) dX12_side_298 rfl ?_
    refine r_callV (pc := 300) (ci := 12) (as := [_]) (st := [_, _]) okX12_tupleOf lkX12_453 inX12_tupleOf seX12_tupleOf ⟨_, rfl, rfl⟩ dX12_side_300 rfl k2 (Nat.le_of_ble_eq_true rfl) (Nat.zero_le _) (Nat.zero_le _) (Call.mono h (fun r4 M5 h => ?_))
    obtain ⟨v6, rfl, h⟩ := h
    obtain ⟨k7, h⟩ := h
    obtain ⟨i8, h⟩ := h
    refine r_iast (pc := 303) dX12_side_303 k7 i8 ?_
    replace h := h _ rfl
    refine r_iinc (pc := 304) (i := 9) (v := _ + 1) dX12_side_304 rfl rfl rfl ?_
    refine r_goto (pc := 307) (tgt := 186) dX12_side_307 (by decide) ?_
    exact h
  · replace h := h.2 c1
    refine r_aload_n (pc := 237) (i := 0) dX12_side_237 rfl rfl ?_
    obtain ⟨k10, h⟩ := h
    obtain ⟨b11, hb11, h⟩ := h
    refine r_getr (pc := 238) flX12_188 dX12_side_238 rfl k10 hb11 ?_
    refine r_iload (pc := 241) (i := 11) dX12_side_241 rfl ?_
    refine r_aload_n (pc := 243) (i := 0) dX12_side_243 rfl rfl ?_
    refine r_iload_n (pc := 244) (i := 2) dX12_side_244 rfl rfl ?_
    refine r_aload_n (pc := 245) (i := 0) dX12_side_245 rfl rfl ?_
    obtain ⟨b12, hb12, h⟩ := h
    refine r_getr (pc := 246) flX12_185 dX12_side_246 rfl k10 hb12 ?_
    refine r_iconst (pc := 249) (v := 4) dX12_side_249 (by decide) ?_
    refine r_iload (pc := 250) (i := 8) dX12_side_250 rfl ?_
    refine r_imul (pc := 252) dX12_side_252 ?_
    refine r_iload (pc := 253) (i := 10) dX12_side_253 rfl ?_
    refine r_iload (pc := 255) (i := 11) dX12_side_255 rfl ?_
    refine r_iadd (pc := 257) dX12_side_257 ?_
    refine r_aload_n (pc := 258) (i := 0) dX12_side_258 rfl rfl ?_
    refine r_geti (pc := 259) flX12_7 dX12_side_259 (Or.inl rfl) k10 ?_
    obtain ⟨n13, h⟩ := h
    refine r_idiv (pc := 262) dX12_side_262 n13 ?_
    refine r_iadd (pc := 263) dX12_side_263 ?_
    obtain ⟨k14, h⟩ := h
    obtain ⟨i15, h⟩ := h
    refine r_iald (pc := 264) dX12_side_264 k14 i15 ?_
    refine r_iload (pc := 265) (i := 10) dX12_side_265 rfl ?_
    refine r_iload (pc := 267) (i := 11) dX12_side_267 rfl ?_
    refine r_iadd (pc := 269) dX12_side_269 ?_
    refine r_aload_n (pc := 270) (i := 0) dX12_side_270 rfl rfl ?_
    refine r_geti (pc := 271) flX12_7 dX12_side_271 (Or.inl rfl) k10 ?_
    obtain ⟨n16, h⟩ := h
    refine r_irem (pc := 274) dX12_side_274 n16 ?_
    refine r_callV (pc := 275) (ci := 12) (as := [_, _, _]) (st := [_, _]) okX12_rowTo lkX12_282 inX12_rowTo seX12_rowTo ⟨_, rfl, rfl⟩ dX12_side_275 rfl k10 (Nat.le_of_ble_eq_true rfl) (Nat.zero_le _) (Nat.zero_le _) (Call.mono h (fun r17 M18 h => ?_))
    obtain ⟨v19, rfl, h⟩ := h
    obtain ⟨k20, h⟩ := h
    obtain ⟨i21, h⟩ := h
    refine r_iast (pc := 278) dX12_side_278 k20 i21 ?_
    replace h := h _ rfl
    refine r_iinc (pc := 279) (i := 11) (v := _ + 1) dX12_side_279 rfl rfl rfl ?_
    refine r_goto (pc := 282) (tgt := 230) dX12_side_282 (by decide) ?_
    exact h
theorem vX12_side_344 {G : GG} {d rc rs : Nat} (p0 : Nat) (x1 : Int32) (x2 : Int32) (x3 : Int32) (x4 : Int32) (x5 : Int32) (x6 : Int32) (x7 : Int32) (x8 : Int32) (z9 : Option Value) (z10 : Option Value) (z11 : Option Value) (hz9 : c1 z9 = true) (hz10 : c1 z10 = true) (hz11 : c1 z11 = true) {M : Mem} {Q : Option Value → Mem → Prop} (h : (x_h M p0).1 = 28 ∧ ((x_i M p0 29) ≤ x8 → Q (some (.int 1)) M) ∧ (¬ (x_i M p0 29) ≤ x8 → ∃ b3, x_r M p0 81 = some b3 ∧ ∃ b4, x_r M p0 28 = some b4 ∧ ∃ b5, x_r M p0 33 = some b5 ∧ (x_h M b5).1 = 1 ∧ vp_in x8 (x_h M b5).2 ∧ (x_h M b4).1 = 1 ∧ vp_in (x_i M b5 x8.toNatClampNeg) (x_h M b4).2 ∧ (x_h M b3).1 = 1 ∧ vp_in ((40 * x1) + x8) (x_h M b3).2 ∧ (∀ M12, M12 = x_si M b3 ((40 * x1) + x8).toNatClampNeg (x_i M b4 (x_i M b5 x8.toNatClampNeg).toNatClampNeg) → LX12_side_380 G d rc rs p0 x1 x2 x3 x4 x5 x6 x7 x8 0 z10 z11 M12 Q))) : LX12_side_344 G d rc rs p0 x1 x2 x3 x4 x5 x6 x7 x8 z9 z10 z11 M Q := by
  show Wk G (d + 1) rc rs mX12_side 344 _ _ M Q
  refine r_iload (pc := 344) (i := 8) dX12_side_344 rfl ?_
  refine r_aload_n (pc := 346) (i := 0) dX12_side_346 rfl rfl ?_
  obtain ⟨k1, h⟩ := h
  refine r_geti (pc := 347) flX12_243 dX12_side_347 (Or.inl rfl) k1 ?_
  refine r_icmp_ge (pc := 350) (tgt := 427) dX12_side_350 (by decide) (fun c2 => ?_) (fun c2 => ?_)
  · replace h := h.1 c2
    refine r_iconst (pc := 427) (v := 1) dX12_side_427 (by decide) ?_
    exact r_zret (pc := 428) dX12_side_428 rfl (Or.inr rfl) h
  · replace h := h.2 c2
    refine r_aload_n (pc := 353) (i := 0) dX12_side_353 rfl rfl ?_
    obtain ⟨b3, hb3, h⟩ := h
    refine r_getr (pc := 354) flX12_178 dX12_side_354 rfl k1 hb3 ?_
    refine r_bipush (pc := 357) (v := 40) dX12_side_357 (by decide) ?_
    refine r_iload_n (pc := 359) (i := 1) dX12_side_359 rfl rfl ?_
    refine r_imul (pc := 360) dX12_side_360 ?_
    refine r_iload (pc := 361) (i := 8) dX12_side_361 rfl ?_
    refine r_iadd (pc := 363) dX12_side_363 ?_
    refine r_aload_n (pc := 364) (i := 0) dX12_side_364 rfl rfl ?_
    obtain ⟨b4, hb4, h⟩ := h
    refine r_getr (pc := 365) flX12_76 dX12_side_365 rfl k1 hb4 ?_
    refine r_aload_n (pc := 368) (i := 0) dX12_side_368 rfl rfl ?_
    obtain ⟨b5, hb5, h⟩ := h
    refine r_getr (pc := 369) flX12_89 dX12_side_369 rfl k1 hb5 ?_
    refine r_iload (pc := 372) (i := 8) dX12_side_372 rfl ?_
    obtain ⟨k6, h⟩ := h
    obtain ⟨i7, h⟩ := h
    refine r_iald (pc := 374) dX12_side_374 k6 i7 ?_
    obtain ⟨k8, h⟩ := h
    obtain ⟨i9, h⟩ := h
    refine r_iald (pc := 375) dX12_side_375 k8 i9 ?_
    obtain ⟨k10, h⟩ := h
    obtain ⟨i11, h⟩ := h
    refine r_iast (pc := 376) dX12_side_376 k10 i11 ?_
    replace h := h _ rfl
    refine r_iconst (pc := 377) (v := 0) dX12_side_377 (by decide) ?_
    refine r_istore (pc := 378) (i := 9) dX12_side_378 rfl (Nat.le_of_ble_eq_true rfl) ?_
    exact h
theorem vX12_side_380 {G : GG} {d rc rs : Nat} (p0 : Nat) (x1 : Int32) (x2 : Int32) (x3 : Int32) (x4 : Int32) (x5 : Int32) (x6 : Int32) (x7 : Int32) (x8 : Int32) (x9 : Int32) (z10 : Option Value) (z11 : Option Value) (hz10 : c1 z10 = true) (hz11 : c1 z11 = true) {M : Mem} {Q : Option Value → Mem → Prop} (h : (x_h M p0).1 = 28 ∧ ((x_i M p0 26) ≤ x9 → LX12_side_344 G d rc rs p0 x1 x2 x3 x4 x5 x6 x7 (x8 + 1) (some (.int x9)) z10 z11 M Q) ∧ (¬ (x_i M p0 26) ≤ x9 → ∃ b3, x_r M p0 80 = some b3 ∧ Call G d 0 0 mX12_stepOf [.ref p0, .int x8, .int x9] M (fun r4 M5 => ∃ v6 : Int32, r4 = some (.int v6) ∧ (x_h M5 b3).1 = 1 ∧ vp_in ((27 * ((40 * x1) + x8)) + x9) (x_h M5 b3).2 ∧ (∀ M9, M9 = x_si M5 b3 ((27 * ((40 * x1) + x8)) + x9).toNatClampNeg v6 → LX12_side_380 G d rc rs p0 x1 x2 x3 x4 x5 x6 x7 x8 (x9 + 1) z10 z11 M9 Q)))) : LX12_side_380 G d rc rs p0 x1 x2 x3 x4 x5 x6 x7 x8 x9 z10 z11 M Q := by
  show Wk G (d + 1) rc rs mX12_side 380 _ _ M Q
  refine r_iload (pc := 380) (i := 9) dX12_side_380 rfl ?_
  refine r_aload_n (pc := 382) (i := 0) dX12_side_382 rfl rfl ?_
  obtain ⟨k1, h⟩ := h
  refine r_geti (pc := 383) flX12_226 dX12_side_383 (Or.inl rfl) k1 ?_
  refine r_icmp_ge (pc := 386) (tgt := 421) dX12_side_386 (by decide) (fun c2 => ?_) (fun c2 => ?_)
  · replace h := h.1 c2
    refine r_iinc (pc := 421) (i := 8) (v := _ + 1) dX12_side_421 rfl rfl rfl ?_
    refine r_goto (pc := 424) (tgt := 344) dX12_side_424 (by decide) ?_
    exact h
  · replace h := h.2 c2
    refine r_aload_n (pc := 389) (i := 0) dX12_side_389 rfl rfl ?_
    obtain ⟨b3, hb3, h⟩ := h
    refine r_getr (pc := 390) flX12_175 dX12_side_390 rfl k1 hb3 ?_
    refine r_bipush (pc := 393) (v := 27) dX12_side_393 (by decide) ?_
    refine r_bipush (pc := 395) (v := 40) dX12_side_395 (by decide) ?_
    refine r_iload_n (pc := 397) (i := 1) dX12_side_397 rfl rfl ?_
    refine r_imul (pc := 398) dX12_side_398 ?_
    refine r_iload (pc := 399) (i := 8) dX12_side_399 rfl ?_
    refine r_iadd (pc := 401) dX12_side_401 ?_
    refine r_imul (pc := 402) dX12_side_402 ?_
    refine r_iload (pc := 403) (i := 9) dX12_side_403 rfl ?_
    refine r_iadd (pc := 405) dX12_side_405 ?_
    refine r_aload_n (pc := 406) (i := 0) dX12_side_406 rfl rfl ?_
    refine r_iload (pc := 407) (i := 8) dX12_side_407 rfl ?_
    refine r_iload (pc := 409) (i := 9) dX12_side_409 rfl ?_
    refine r_callV (pc := 411) (ci := 12) (as := [_, _]) (st := [_, _]) okX12_stepOf lkX12_246 inX12_stepOf seX12_stepOf ⟨_, rfl, rfl⟩ dX12_side_411 rfl k1 (Nat.le_of_ble_eq_true rfl) (Nat.zero_le _) (Nat.zero_le _) (Call.mono h (fun r4 M5 h => ?_))
    obtain ⟨v6, rfl, h⟩ := h
    obtain ⟨k7, h⟩ := h
    obtain ⟨i8, h⟩ := h
    refine r_iast (pc := 414) dX12_side_414 k7 i8 ?_
    replace h := h _ rfl
    refine r_iinc (pc := 415) (i := 9) (v := _ + 1) dX12_side_415 rfl rfl rfl ?_
    refine r_goto (pc := 418) (tgt := 380) dX12_side_418 (by decide) ?_
    exact h
abbrev LX12_lettersMachine_75 (G : GG) (d rc rs : Nat) (p0 : Nat) (x1 : Int32) (x2 : Int32) (M : Mem) (Q : Option Value → Mem → Prop) : Prop := Wk G (d + 1) rc rs mX12_lettersMachine 75 [some (.ref p0), some (.int x1), some (.int x2), none, none, none, none, none, none, none, none, none] [] M Q
abbrev LX12_lettersMachine_141 (G : GG) (d rc rs : Nat) (p0 : Nat) (x1 : Int32) (x2 : Int32) (x3 : Int32) (x4 : Int32) (x5 : Int32) (x6 : Int32) (z7 : Option Value) (z8 : Option Value) (z9 : Option Value) (z10 : Option Value) (z11 : Option Value) (M : Mem) (Q : Option Value → Mem → Prop) : Prop := Wk G (d + 1) rc rs mX12_lettersMachine 141 [some (.ref p0), some (.int x1), some (.int x2), some (.int x3), some (.int x4), some (.int x5), some (.int x6), z7, z8, z9, z10, z11] [] M Q
abbrev LX12_lettersMachine_217 (G : GG) (d rc rs : Nat) (p0 : Nat) (x1 : Int32) (x2 : Int32) (x3 : Int32) (x4 : Int32) (x5 : Int32) (x6 : Int32) (x7 : Int32) (x8 : Int32) (x9 : Int32) (z10 : Option Value) (z11 : Option Value) (M : Mem) (Q : Option Value → Mem → Prop) : Prop := Wk G (d + 1) rc rs mX12_lettersMachine 217 [some (.ref p0), some (.int x1), some (.int x2), some (.int x3), some (.int x4), some (.int x5), some (.int x6), some (.int x7), some (.int x8), some (.int x9), z10, z11] [] M Q
theorem eX12_lettersMachine {G : GG} {d rc rs : Nat} (o : Nat) (a1 : Int32)  {M : Mem} {Q : Option Value → Mem → Prop} (h : (x_h M o).1 = 28 ∧ (∃ b2, x_r M o 61 = some b2 ∧ (x_h M b2).1 = 1 ∧ vp_in a1 (x_h M b2).2 ∧ (∃ b5, x_r M o 57 = some b5 ∧ (x_h M b5).1 = 1 ∧ vp_in a1 (x_h M b5).2 ∧ (∃ b8, x_r M o 58 = some b8 ∧ (x_h M b8).1 = 1 ∧ vp_in a1 (x_h M b8).2 ∧ (∃ b11, x_r M o 59 = some b11 ∧ (x_h M b11).1 = 1 ∧ vp_in a1 (x_h M b11).2 ∧ (∃ b14, x_r M o 60 = some b14 ∧ (x_h M b14).1 = 1 ∧ vp_in a1 (x_h M b14).2 ∧ Call G d 0 0 mX12_side [.ref o, .int 0, .int (x_i M b5 a1.toNatClampNeg), .int (x_i M b8 a1.toNatClampNeg), .int (x_i M b11 a1.toNatClampNeg), .int (x_i M b14 a1.toNatClampNeg)] M (fun r17 M18 => ∃ v19 : Int32, r17 = some (.int v19) ∧ (¬ v19 = 0 → ((x_i M b2 a1.toNatClampNeg) = (-1) → LX12_lettersMachine_75 G d rc rs o a1 (x_i M b2 a1.toNatClampNeg) M18 Q) ∧ (¬ (x_i M b2 a1.toNatClampNeg) = (-1) → (x_h M18 o).1 = 28 ∧ (∃ b23, x_r M18 o 62 = some b23 ∧ (x_h M18 b23).1 = 1 ∧ vp_in a1 (x_h M18 b23).2 ∧ (∃ b26, x_r M18 o 63 = some b26 ∧ (x_h M18 b26).1 = 1 ∧ vp_in a1 (x_h M18 b26).2 ∧ (∃ b29, x_r M18 o 64 = some b29 ∧ (x_h M18 b29).1 = 1 ∧ vp_in a1 (x_h M18 b29).2 ∧ Call G d 0 0 mX12_side [.ref o, .int 1, .int (x_i M b2 a1.toNatClampNeg), .int (x_i M18 b23 a1.toNatClampNeg), .int (x_i M18 b26 a1.toNatClampNeg), .int (x_i M18 b29 a1.toNatClampNeg)] M18 (fun r32 M33 => ∃ v34 : Int32, r32 = some (.int v34) ∧ (¬ v34 = 0 → LX12_lettersMachine_75 G d rc rs o a1 (x_i M b2 a1.toNatClampNeg) M33 Q) ∧ (v34 = 0 → Q (some (.int 0)) M33))))))) ∧ (v19 = 0 → Q (some (.int 0)) M18)))))))) : Call G (d + 1) rc rs mX12_lettersMachine [.ref o, .int a1] M Q := by
  refine call_of (by decide) (Nat.le_of_ble_eq_true rfl) ?_
  show Wk G (d + 1) rc rs mX12_lettersMachine 0 [some (.ref o), some (.int a1), none, none, none, none, none, none, none, none, none, none] [] M Q
  refine r_aload_n (pc := 0) (i := 0) dX12_lettersMachine_0 rfl rfl ?_
  obtain ⟨k1, h⟩ := h
  obtain ⟨b2, hb2, h⟩ := h
  refine r_getr (pc := 1) flX12_143 dX12_lettersMachine_1 rfl k1 hb2 ?_
  refine r_iload_n (pc := 4) (i := 1) dX12_lettersMachine_4 rfl rfl ?_
  obtain ⟨k3, h⟩ := h
  obtain ⟨i4, h⟩ := h
  refine r_iald (pc := 5) dX12_lettersMachine_5 k3 i4 ?_
  refine r_istore_n (pc := 6) (i := 2) dX12_lettersMachine_6 rfl rfl (Nat.le_of_ble_eq_true rfl) ?_
  refine r_aload_n (pc := 7) (i := 0) dX12_lettersMachine_7 rfl rfl ?_
  refine r_iconst (pc := 8) (v := 0) dX12_lettersMachine_8 (by decide) ?_
  refine r_aload_n (pc := 9) (i := 0) dX12_lettersMachine_9 rfl rfl ?_
  obtain ⟨b5, hb5, h⟩ := h
  refine r_getr (pc := 10) flX12_131 dX12_lettersMachine_10 rfl k1 hb5 ?_
  refine r_iload_n (pc := 13) (i := 1) dX12_lettersMachine_13 rfl rfl ?_
  obtain ⟨k6, h⟩ := h
  obtain ⟨i7, h⟩ := h
  refine r_iald (pc := 14) dX12_lettersMachine_14 k6 i7 ?_
  refine r_aload_n (pc := 15) (i := 0) dX12_lettersMachine_15 rfl rfl ?_
  obtain ⟨b8, hb8, h⟩ := h
  refine r_getr (pc := 16) flX12_134 dX12_lettersMachine_16 rfl k1 hb8 ?_
  refine r_iload_n (pc := 19) (i := 1) dX12_lettersMachine_19 rfl rfl ?_
  obtain ⟨k9, h⟩ := h
  obtain ⟨i10, h⟩ := h
  refine r_iald (pc := 20) dX12_lettersMachine_20 k9 i10 ?_
  refine r_aload_n (pc := 21) (i := 0) dX12_lettersMachine_21 rfl rfl ?_
  obtain ⟨b11, hb11, h⟩ := h
  refine r_getr (pc := 22) flX12_137 dX12_lettersMachine_22 rfl k1 hb11 ?_
  refine r_iload_n (pc := 25) (i := 1) dX12_lettersMachine_25 rfl rfl ?_
  obtain ⟨k12, h⟩ := h
  obtain ⟨i13, h⟩ := h
  refine r_iald (pc := 26) dX12_lettersMachine_26 k12 i13 ?_
  refine r_aload_n (pc := 27) (i := 0) dX12_lettersMachine_27 rfl rfl ?_
  obtain ⟨b14, hb14, h⟩ := h
  refine r_getr (pc := 28) flX12_140 dX12_lettersMachine_28 rfl k1 hb14 ?_
  refine r_iload_n (pc := 31) (i := 1) dX12_lettersMachine_31 rfl rfl ?_
  obtain ⟨k15, h⟩ := h
  obtain ⟨i16, h⟩ := h
  refine r_iald (pc := 32) dX12_lettersMachine_32 k15 i16 ?_
  refine r_callV (pc := 33) (ci := 12) (as := [_, _, _, _, _]) (st := []) okX12_side lkX12_456 inX12_side seX12_side ⟨_, rfl, rfl⟩ dX12_lettersMachine_33 rfl k1 (Nat.le_of_ble_eq_true rfl) (Nat.zero_le _) (Nat.zero_le _) (Call.mono h (fun r17 M18 h => ?_))
  obtain ⟨v19, rfl, h⟩ := h
  refine r_if_ne (pc := 36) (tgt := 41) dX12_lettersMachine_36 (by decide) (fun c20 => ?_) (fun c20 => ?_)
  · replace h := h.1 c20
    refine r_iload_n (pc := 41) (i := 2) dX12_lettersMachine_41 rfl rfl ?_
    refine r_iconst (pc := 42) (v := (-1)) dX12_lettersMachine_42 (by decide) ?_
    refine r_icmp_eq (pc := 43) (tgt := 75) dX12_lettersMachine_43 (by decide) (fun c21 => ?_) (fun c21 => ?_)
    · replace h := h.1 c21
      exact h
    · replace h := h.2 c21
      refine r_aload_n (pc := 46) (i := 0) dX12_lettersMachine_46 rfl rfl ?_
      refine r_iconst (pc := 47) (v := 1) dX12_lettersMachine_47 (by decide) ?_
      refine r_iload_n (pc := 48) (i := 2) dX12_lettersMachine_48 rfl rfl ?_
      refine r_aload_n (pc := 49) (i := 0) dX12_lettersMachine_49 rfl rfl ?_
      obtain ⟨k22, h⟩ := h
      obtain ⟨b23, hb23, h⟩ := h
      refine r_getr (pc := 50) flX12_146 dX12_lettersMachine_50 rfl k22 hb23 ?_
      refine r_iload_n (pc := 53) (i := 1) dX12_lettersMachine_53 rfl rfl ?_
      obtain ⟨k24, h⟩ := h
      obtain ⟨i25, h⟩ := h
      refine r_iald (pc := 54) dX12_lettersMachine_54 k24 i25 ?_
      refine r_aload_n (pc := 55) (i := 0) dX12_lettersMachine_55 rfl rfl ?_
      obtain ⟨b26, hb26, h⟩ := h
      refine r_getr (pc := 56) flX12_149 dX12_lettersMachine_56 rfl k22 hb26 ?_
      refine r_iload_n (pc := 59) (i := 1) dX12_lettersMachine_59 rfl rfl ?_
      obtain ⟨k27, h⟩ := h
      obtain ⟨i28, h⟩ := h
      refine r_iald (pc := 60) dX12_lettersMachine_60 k27 i28 ?_
      refine r_aload_n (pc := 61) (i := 0) dX12_lettersMachine_61 rfl rfl ?_
      obtain ⟨b29, hb29, h⟩ := h
      refine r_getr (pc := 62) flX12_152 dX12_lettersMachine_62 rfl k22 hb29 ?_
      refine r_iload_n (pc := 65) (i := 1) dX12_lettersMachine_65 rfl rfl ?_
      obtain ⟨k30, h⟩ := h
      obtain ⟨i31, h⟩ := h
      refine r_iald (pc := 66) dX12_lettersMachine_66 k30 i31 ?_
      refine r_callV (pc := 67) (ci := 12) (as := [_, _, _, _, _]) (st := []) okX12_side lkX12_456 inX12_side seX12_side ⟨_, rfl, rfl⟩ dX12_lettersMachine_67 rfl k22 (Nat.le_of_ble_eq_true rfl) (Nat.zero_le _) (Nat.zero_le _) (Call.mono h (fun r32 M33 h => ?_))
      obtain ⟨v34, rfl, h⟩ := h
      refine r_if_ne (pc := 70) (tgt := 75) dX12_lettersMachine_70 (by decide) (fun c35 => ?_) (fun c35 => ?_)
      · replace h := h.1 c35
        exact h
      · replace h := h.2 c35
        refine r_iconst (pc := 73) (v := 0) dX12_lettersMachine_73 (by decide) ?_
        exact r_zret (pc := 74) dX12_lettersMachine_74 rfl (Or.inl rfl) h
  · replace h := h.2 c20
    refine r_iconst (pc := 39) (v := 0) dX12_lettersMachine_39 (by decide) ?_
    exact r_zret (pc := 40) dX12_lettersMachine_40 rfl (Or.inl rfl) h
theorem vX12_lettersMachine_75 {G : GG} {d rc rs : Nat} (p0 : Nat) (x1 : Int32) (x2 : Int32)  {M : Mem} {Q : Option Value → Mem → Prop} (h : (x_h M p0).1 = 28 ∧ (∃ b2, x_r M p0 53 = some b2 ∧ (x_h M b2).1 = 1 ∧ vp_in x1 (x_h M b2).2 ∧ (∃ b5, x_r M p0 58 = some b5 ∧ (x_h M b5).1 = 1 ∧ vp_in x1 (x_h M b5).2 ∧ (∃ b8, x_r M p0 59 = some b8 ∧ (x_h M b8).1 = 1 ∧ vp_in x1 (x_h M b8).2 ∧ Call G d 0 0 mX12_nameSet [.int (x_i M b5 x1.toNatClampNeg), .int (x_i M b8 x1.toNatClampNeg)] M (fun r11 M12 => ∃ v13 : Int32, r11 = some (.int v13) ∧ (¬ x2 = (-1) → (x_h M12 p0).1 = 28 ∧ (∃ b16, x_r M12 p0 62 = some b16 ∧ (x_h M12 b16).1 = 1 ∧ vp_in x1 (x_h M12 b16).2 ∧ (∃ b19, x_r M12 p0 63 = some b19 ∧ (x_h M12 b19).1 = 1 ∧ vp_in x1 (x_h M12 b19).2 ∧ Call G d 0 0 mX12_nameSet [.int (x_i M12 b16 x1.toNatClampNeg), .int (x_i M12 b19 x1.toNatClampNeg)] M12 (fun r22 M23 => ∃ v24 : Int32, r22 = some (.int v24) ∧ (x_h M23 p0).1 = 28 ∧ Call G d 0 0 mX12_noPairs [.ref p0] M23 (fun r26 M27 => r26 = none ∧ (x_h M27 p0).1 = 28 ∧ Call G d 0 0 mX12_across [.ref p0, .int (x_i M b2 x1.toNatClampNeg)] M27 (fun r29 M30 => ∃ v31 : Int32, r29 = some (.int v31) ∧ (x_h M30 p0).1 = 28 ∧ (∀ M33, M33 = x_si M30 p0 26 v31 → LX12_lettersMachine_141 G d rc rs p0 x1 x2 (x_i M b2 x1.toNatClampNeg) v13 v24 0 none none none none none M33 Q))))))) ∧ (x2 = (-1) → (x_h M12 p0).1 = 28 ∧ Call G d 0 0 mX12_noPairs [.ref p0] M12 (fun r35 M36 => r35 = none ∧ (x_h M36 p0).1 = 28 ∧ Call G d 0 0 mX12_across [.ref p0, .int (x_i M b2 x1.toNatClampNeg)] M36 (fun r38 M39 => ∃ v40 : Int32, r38 = some (.int v40) ∧ (x_h M39 p0).1 = 28 ∧ (∀ M42, M42 = x_si M39 p0 26 v40 → LX12_lettersMachine_141 G d rc rs p0 x1 x2 (x_i M b2 x1.toNatClampNeg) v13 0 0 none none none none none M42 Q))))))))) : LX12_lettersMachine_75 G d rc rs p0 x1 x2 M Q := by
  show Wk G (d + 1) rc rs mX12_lettersMachine 75 _ _ M Q
  refine r_aload_n (pc := 75) (i := 0) dX12_lettersMachine_75 rfl rfl ?_
  obtain ⟨k1, h⟩ := h
  obtain ⟨b2, hb2, h⟩ := h
  refine r_getr (pc := 76) flX12_119 dX12_lettersMachine_76 rfl k1 hb2 ?_
  refine r_iload_n (pc := 79) (i := 1) dX12_lettersMachine_79 rfl rfl ?_
  obtain ⟨k3, h⟩ := h
  obtain ⟨i4, h⟩ := h
  refine r_iald (pc := 80) dX12_lettersMachine_80 k3 i4 ?_
  refine r_istore_n (pc := 81) (i := 3) dX12_lettersMachine_81 rfl rfl (Nat.le_of_ble_eq_true rfl) ?_
  refine r_aload_n (pc := 82) (i := 0) dX12_lettersMachine_82 rfl rfl ?_
  obtain ⟨b5, hb5, h⟩ := h
  refine r_getr (pc := 83) flX12_134 dX12_lettersMachine_83 rfl k1 hb5 ?_
  refine r_iload_n (pc := 86) (i := 1) dX12_lettersMachine_86 rfl rfl ?_
  obtain ⟨k6, h⟩ := h
  obtain ⟨i7, h⟩ := h
  refine r_iald (pc := 87) dX12_lettersMachine_87 k6 i7 ?_
  refine r_aload_n (pc := 88) (i := 0) dX12_lettersMachine_88 rfl rfl ?_
  obtain ⟨b8, hb8, h⟩ := h
  refine r_getr (pc := 89) flX12_137 dX12_lettersMachine_89 rfl k1 hb8 ?_
  refine r_iload_n (pc := 92) (i := 1) dX12_lettersMachine_92 rfl rfl ?_
  obtain ⟨k9, h⟩ := h
  obtain ⟨i10, h⟩ := h
  refine r_iald (pc := 93) dX12_lettersMachine_93 k9 i10 ?_
  refine r_callS (pc := 94) (as := [_, _]) (st := []) okX12_nameSet lkX12_450 stX12_nameSet dX12_lettersMachine_94 rfl (Nat.le_of_ble_eq_true rfl) (Nat.zero_le _) (Nat.zero_le _) (Call.mono h (fun r11 M12 h => ?_))
  obtain ⟨v13, rfl, h⟩ := h
  refine r_istore (pc := 97) (i := 4) dX12_lettersMachine_97 rfl (Nat.le_of_ble_eq_true rfl) ?_
  refine r_iload_n (pc := 99) (i := 2) dX12_lettersMachine_99 rfl rfl ?_
  refine r_iconst (pc := 100) (v := (-1)) dX12_lettersMachine_100 (by decide) ?_
  refine r_icmp_ne (pc := 101) (tgt := 108) dX12_lettersMachine_101 (by decide) (fun c14 => ?_) (fun c14 => ?_)
  · replace h := h.1 c14
    refine r_aload_n (pc := 108) (i := 0) dX12_lettersMachine_108 rfl rfl ?_
    obtain ⟨k15, h⟩ := h
    obtain ⟨b16, hb16, h⟩ := h
    refine r_getr (pc := 109) flX12_146 dX12_lettersMachine_109 rfl k15 hb16 ?_
    refine r_iload_n (pc := 112) (i := 1) dX12_lettersMachine_112 rfl rfl ?_
    obtain ⟨k17, h⟩ := h
    obtain ⟨i18, h⟩ := h
    refine r_iald (pc := 113) dX12_lettersMachine_113 k17 i18 ?_
    refine r_aload_n (pc := 114) (i := 0) dX12_lettersMachine_114 rfl rfl ?_
    obtain ⟨b19, hb19, h⟩ := h
    refine r_getr (pc := 115) flX12_149 dX12_lettersMachine_115 rfl k15 hb19 ?_
    refine r_iload_n (pc := 118) (i := 1) dX12_lettersMachine_118 rfl rfl ?_
    obtain ⟨k20, h⟩ := h
    obtain ⟨i21, h⟩ := h
    refine r_iald (pc := 119) dX12_lettersMachine_119 k20 i21 ?_
    refine r_callS (pc := 120) (as := [_, _]) (st := []) okX12_nameSet lkX12_450 stX12_nameSet dX12_lettersMachine_120 rfl (Nat.le_of_ble_eq_true rfl) (Nat.zero_le _) (Nat.zero_le _) (Call.mono h (fun r22 M23 h => ?_))
    obtain ⟨v24, rfl, h⟩ := h
    refine r_istore (pc := 123) (i := 5) dX12_lettersMachine_123 rfl (Nat.le_of_ble_eq_true rfl) ?_
    refine r_aload_n (pc := 125) (i := 0) dX12_lettersMachine_125 rfl rfl ?_
    obtain ⟨k25, h⟩ := h
    refine r_callV (pc := 126) (ci := 12) (as := []) (st := []) okX12_noPairs lkX12_279 inX12_noPairs seX12_noPairs ⟨_, rfl, rfl⟩ dX12_lettersMachine_126 rfl k25 (Nat.le_of_ble_eq_true rfl) (Nat.zero_le _) (Nat.zero_le _) (Call.mono h (fun r26 M27 h => ?_))
    obtain ⟨rfl, h⟩ := h
    refine r_aload_n (pc := 129) (i := 0) dX12_lettersMachine_129 rfl rfl ?_
    refine r_aload_n (pc := 130) (i := 0) dX12_lettersMachine_130 rfl rfl ?_
    refine r_iload_n (pc := 131) (i := 3) dX12_lettersMachine_131 rfl rfl ?_
    obtain ⟨k28, h⟩ := h
    refine r_callV (pc := 132) (ci := 12) (as := [_]) (st := [_]) okX12_across lkX12_417 inX12_across seX12_across ⟨_, rfl, rfl⟩ dX12_lettersMachine_132 rfl k28 (Nat.le_of_ble_eq_true rfl) (Nat.zero_le _) (Nat.zero_le _) (Call.mono h (fun r29 M30 h => ?_))
    obtain ⟨v31, rfl, h⟩ := h
    obtain ⟨k32, h⟩ := h
    refine r_puti (pc := 135) flX12_226 dX12_lettersMachine_135 (Or.inl rfl) (fun q hq => by cases hq; rfl) k32 ?_
    replace h := h _ rfl
    refine r_iconst (pc := 138) (v := 0) dX12_lettersMachine_138 (by decide) ?_
    refine r_istore (pc := 139) (i := 6) dX12_lettersMachine_139 rfl (Nat.le_of_ble_eq_true rfl) ?_
    exact h
  · replace h := h.2 c14
    refine r_iconst (pc := 104) (v := 0) dX12_lettersMachine_104 (by decide) ?_
    refine r_goto (pc := 105) (tgt := 123) dX12_lettersMachine_105 (by decide) ?_
    refine r_istore (pc := 123) (i := 5) dX12_lettersMachine_123 rfl (Nat.le_of_ble_eq_true rfl) ?_
    refine r_aload_n (pc := 125) (i := 0) dX12_lettersMachine_125 rfl rfl ?_
    obtain ⟨k34, h⟩ := h
    refine r_callV (pc := 126) (ci := 12) (as := []) (st := []) okX12_noPairs lkX12_279 inX12_noPairs seX12_noPairs ⟨_, rfl, rfl⟩ dX12_lettersMachine_126 rfl k34 (Nat.le_of_ble_eq_true rfl) (Nat.zero_le _) (Nat.zero_le _) (Call.mono h (fun r35 M36 h => ?_))
    obtain ⟨rfl, h⟩ := h
    refine r_aload_n (pc := 129) (i := 0) dX12_lettersMachine_129 rfl rfl ?_
    refine r_aload_n (pc := 130) (i := 0) dX12_lettersMachine_130 rfl rfl ?_
    refine r_iload_n (pc := 131) (i := 3) dX12_lettersMachine_131 rfl rfl ?_
    obtain ⟨k37, h⟩ := h
    refine r_callV (pc := 132) (ci := 12) (as := [_]) (st := [_]) okX12_across lkX12_417 inX12_across seX12_across ⟨_, rfl, rfl⟩ dX12_lettersMachine_132 rfl k37 (Nat.le_of_ble_eq_true rfl) (Nat.zero_le _) (Nat.zero_le _) (Call.mono h (fun r38 M39 h => ?_))
    obtain ⟨v40, rfl, h⟩ := h
    obtain ⟨k41, h⟩ := h
    refine r_puti (pc := 135) flX12_226 dX12_lettersMachine_135 (Or.inl rfl) (fun q hq => by cases hq; rfl) k41 ?_
    replace h := h _ rfl
    refine r_iconst (pc := 138) (v := 0) dX12_lettersMachine_138 (by decide) ?_
    refine r_istore (pc := 139) (i := 6) dX12_lettersMachine_139 rfl (Nat.le_of_ble_eq_true rfl) ?_
    exact h
theorem vX12_lettersMachine_141 {G : GG} {d rc rs : Nat} (p0 : Nat) (x1 : Int32) (x2 : Int32) (x3 : Int32) (x4 : Int32) (x5 : Int32) (x6 : Int32) (z7 : Option Value) (z8 : Option Value) (z9 : Option Value) (z10 : Option Value) (z11 : Option Value) (hz7 : c1 z7 = true) (hz8 : c1 z8 = true) (hz9 : c1 z9 = true) (hz10 : c1 z10 = true) (hz11 : c1 z11 = true) {M : Mem} {Q : Option Value → Mem → Prop} (h : (x_h M p0).1 = 28 ∧ ((x_i M p0 25) ≤ x6 → Call G d 0 0 mX12_becomes [.ref p0, .int x1] M (fun r3 M4 => ∃ v5 : Int32, r3 = some (.int v5) ∧ (v5 = 0 ∨ v5 = 1) ∧ Q (some (.int v5)) M4)) ∧ (¬ (x_i M p0 25) ≤ x6 → ∃ b6, x_r M p0 81 = some b6 ∧ ∃ b7, x_r M p0 36 = some b7 ∧ (x_h M b7).1 = 1 ∧ vp_in x6 (x_h M b7).2 ∧ (x_h M b6).1 = 1 ∧ vp_in (x_i M b7 x6.toNatClampNeg) (x_h M b6).2 ∧ (¬ x2 = (-1) → ∃ b13, x_r M p0 37 = some b13 ∧ (x_h M b13).1 = 1 ∧ vp_in x6 (x_h M b13).2 ∧ vp_in (40 + (x_i M b13 x6.toNatClampNeg)) (x_h M b6).2 ∧ (∃ b17, x_r M p0 28 = some b17 ∧ (¬ (x_i M b6 (x_i M b7 x6.toNatClampNeg).toNatClampNeg) = (x_i M b6 (40 + (x_i M b13 x6.toNatClampNeg)).toNatClampNeg) → (x_h M b17).1 = 1 ∧ vp_in x6 (x_h M b17).2 ∧ (∀ M21, M21 = x_si M b17 x6.toNatClampNeg 0 → LX12_lettersMachine_217 G d rc rs p0 x1 x2 x3 x4 x5 x6 (x_i M b6 (x_i M b7 x6.toNatClampNeg).toNatClampNeg) (x_i M b6 (40 + (x_i M b13 x6.toNatClampNeg)).toNatClampNeg) 0 z10 z11 M21 Q)) ∧ ((x_i M b6 (x_i M b7 x6.toNatClampNeg).toNatClampNeg) = (x_i M b6 (40 + (x_i M b13 x6.toNatClampNeg)).toNatClampNeg) → (x_h M b17).1 = 1 ∧ vp_in x6 (x_h M b17).2 ∧ (∀ M24, M24 = x_si M b17 x6.toNatClampNeg 1 → LX12_lettersMachine_217 G d rc rs p0 x1 x2 x3 x4 x5 x6 (x_i M b6 (x_i M b7 x6.toNatClampNeg).toNatClampNeg) (x_i M b6 (40 + (x_i M b13 x6.toNatClampNeg)).toNatClampNeg) 0 z10 z11 M24 Q)))) ∧ (x2 = (-1) → ∃ b25, x_r M p0 64 = some b25 ∧ (x_h M b25).1 = 1 ∧ vp_in x1 (x_h M b25).2 ∧ (∃ b28, x_r M p0 28 = some b28 ∧ (¬ (x_i M b6 (x_i M b7 x6.toNatClampNeg).toNatClampNeg) = (x_i M b25 x1.toNatClampNeg) → (x_h M b28).1 = 1 ∧ vp_in x6 (x_h M b28).2 ∧ (∀ M32, M32 = x_si M b28 x6.toNatClampNeg 0 → LX12_lettersMachine_217 G d rc rs p0 x1 x2 x3 x4 x5 x6 (x_i M b6 (x_i M b7 x6.toNatClampNeg).toNatClampNeg) (x_i M b25 x1.toNatClampNeg) 0 z10 z11 M32 Q)) ∧ ((x_i M b6 (x_i M b7 x6.toNatClampNeg).toNatClampNeg) = (x_i M b25 x1.toNatClampNeg) → (x_h M b28).1 = 1 ∧ vp_in x6 (x_h M b28).2 ∧ (∀ M35, M35 = x_si M b28 x6.toNatClampNeg 1 → LX12_lettersMachine_217 G d rc rs p0 x1 x2 x3 x4 x5 x6 (x_i M b6 (x_i M b7 x6.toNatClampNeg).toNatClampNeg) (x_i M b25 x1.toNatClampNeg) 0 z10 z11 M35 Q)))))) : LX12_lettersMachine_141 G d rc rs p0 x1 x2 x3 x4 x5 x6 z7 z8 z9 z10 z11 M Q := by
  show Wk G (d + 1) rc rs mX12_lettersMachine 141 _ _ M Q
  refine r_iload (pc := 141) (i := 6) dX12_lettersMachine_141 rfl ?_
  refine r_aload_n (pc := 143) (i := 0) dX12_lettersMachine_143 rfl rfl ?_
  obtain ⟨k1, h⟩ := h
  refine r_geti (pc := 144) flX12_234 dX12_lettersMachine_144 (Or.inl rfl) k1 ?_
  refine r_icmp_ge (pc := 147) (tgt := 325) dX12_lettersMachine_147 (by decide) (fun c2 => ?_) (fun c2 => ?_)
  · replace h := h.1 c2
    refine r_aload_n (pc := 325) (i := 0) dX12_lettersMachine_325 rfl rfl ?_
    refine r_iload_n (pc := 326) (i := 1) dX12_lettersMachine_326 rfl rfl ?_
    refine r_callV (pc := 327) (ci := 12) (as := [_]) (st := []) okX12_becomes lkX12_429 inX12_becomes seX12_becomes ⟨_, rfl, rfl⟩ dX12_lettersMachine_327 rfl k1 (Nat.le_of_ble_eq_true rfl) (Nat.zero_le _) (Nat.zero_le _) (Call.mono h (fun r3 M4 h => ?_))
    obtain ⟨v5, rfl, h⟩ := h
    exact r_zret (pc := 330) dX12_lettersMachine_330 rfl h.1 h.2
  · replace h := h.2 c2
    refine r_aload_n (pc := 150) (i := 0) dX12_lettersMachine_150 rfl rfl ?_
    obtain ⟨b6, hb6, h⟩ := h
    refine r_getr (pc := 151) flX12_178 dX12_lettersMachine_151 rfl k1 hb6 ?_
    refine r_aload_n (pc := 154) (i := 0) dX12_lettersMachine_154 rfl rfl ?_
    obtain ⟨b7, hb7, h⟩ := h
    refine r_getr (pc := 155) flX12_98 dX12_lettersMachine_155 rfl k1 hb7 ?_
    refine r_iload (pc := 158) (i := 6) dX12_lettersMachine_158 rfl ?_
    obtain ⟨k8, h⟩ := h
    obtain ⟨i9, h⟩ := h
    refine r_iald (pc := 160) dX12_lettersMachine_160 k8 i9 ?_
    obtain ⟨k10, h⟩ := h
    obtain ⟨i11, h⟩ := h
    refine r_iald (pc := 161) dX12_lettersMachine_161 k10 i11 ?_
    refine r_istore (pc := 162) (i := 7) dX12_lettersMachine_162 rfl (Nat.le_of_ble_eq_true rfl) ?_
    refine r_iload_n (pc := 164) (i := 2) dX12_lettersMachine_164 rfl rfl ?_
    refine r_iconst (pc := 165) (v := (-1)) dX12_lettersMachine_165 (by decide) ?_
    refine r_icmp_ne (pc := 166) (tgt := 178) dX12_lettersMachine_166 (by decide) (fun c12 => ?_) (fun c12 => ?_)
    · replace h := h.1 c12
      refine r_aload_n (pc := 178) (i := 0) dX12_lettersMachine_178 rfl rfl ?_
      refine r_getr (pc := 179) flX12_178 dX12_lettersMachine_179 rfl k1 hb6 ?_
      refine r_bipush (pc := 182) (v := 40) dX12_lettersMachine_182 (by decide) ?_
      refine r_aload_n (pc := 184) (i := 0) dX12_lettersMachine_184 rfl rfl ?_
      obtain ⟨b13, hb13, h⟩ := h
      refine r_getr (pc := 185) flX12_101 dX12_lettersMachine_185 rfl k1 hb13 ?_
      refine r_iload (pc := 188) (i := 6) dX12_lettersMachine_188 rfl ?_
      obtain ⟨k14, h⟩ := h
      obtain ⟨i15, h⟩ := h
      refine r_iald (pc := 190) dX12_lettersMachine_190 k14 i15 ?_
      refine r_iadd (pc := 191) dX12_lettersMachine_191 ?_
      obtain ⟨i16, h⟩ := h
      refine r_iald (pc := 192) dX12_lettersMachine_192 k10 i16 ?_
      refine r_istore (pc := 193) (i := 8) dX12_lettersMachine_193 rfl (Nat.le_of_ble_eq_true rfl) ?_
      refine r_aload_n (pc := 195) (i := 0) dX12_lettersMachine_195 rfl rfl ?_
      obtain ⟨b17, hb17, h⟩ := h
      refine r_getr (pc := 196) flX12_76 dX12_lettersMachine_196 rfl k1 hb17 ?_
      refine r_iload (pc := 199) (i := 6) dX12_lettersMachine_199 rfl ?_
      refine r_iload (pc := 201) (i := 7) dX12_lettersMachine_201 rfl ?_
      refine r_iload (pc := 203) (i := 8) dX12_lettersMachine_203 rfl ?_
      refine r_icmp_ne (pc := 205) (tgt := 212) dX12_lettersMachine_205 (by decide) (fun c18 => ?_) (fun c18 => ?_)
      · replace h := h.1 c18
        refine r_iconst (pc := 212) (v := 0) dX12_lettersMachine_212 (by decide) ?_
        obtain ⟨k19, h⟩ := h
        obtain ⟨i20, h⟩ := h
        refine r_iast (pc := 213) dX12_lettersMachine_213 k19 i20 ?_
        replace h := h _ rfl
        refine r_iconst (pc := 214) (v := 0) dX12_lettersMachine_214 (by decide) ?_
        refine r_istore (pc := 215) (i := 9) dX12_lettersMachine_215 rfl (Nat.le_of_ble_eq_true rfl) ?_
        exact h
      · replace h := h.2 c18
        refine r_iconst (pc := 208) (v := 1) dX12_lettersMachine_208 (by decide) ?_
        refine r_goto (pc := 209) (tgt := 213) dX12_lettersMachine_209 (by decide) ?_
        obtain ⟨k22, h⟩ := h
        obtain ⟨i23, h⟩ := h
        refine r_iast (pc := 213) dX12_lettersMachine_213 k22 i23 ?_
        replace h := h _ rfl
        refine r_iconst (pc := 214) (v := 0) dX12_lettersMachine_214 (by decide) ?_
        refine r_istore (pc := 215) (i := 9) dX12_lettersMachine_215 rfl (Nat.le_of_ble_eq_true rfl) ?_
        exact h
    · replace h := h.2 c12
      refine r_aload_n (pc := 169) (i := 0) dX12_lettersMachine_169 rfl rfl ?_
      obtain ⟨b25, hb25, h⟩ := h
      refine r_getr (pc := 170) flX12_152 dX12_lettersMachine_170 rfl k1 hb25 ?_
      refine r_iload_n (pc := 173) (i := 1) dX12_lettersMachine_173 rfl rfl ?_
      obtain ⟨k26, h⟩ := h
      obtain ⟨i27, h⟩ := h
      refine r_iald (pc := 174) dX12_lettersMachine_174 k26 i27 ?_
      refine r_goto (pc := 175) (tgt := 193) dX12_lettersMachine_175 (by decide) ?_
      refine r_istore (pc := 193) (i := 8) dX12_lettersMachine_193 rfl (Nat.le_of_ble_eq_true rfl) ?_
      refine r_aload_n (pc := 195) (i := 0) dX12_lettersMachine_195 rfl rfl ?_
      obtain ⟨b28, hb28, h⟩ := h
      refine r_getr (pc := 196) flX12_76 dX12_lettersMachine_196 rfl k1 hb28 ?_
      refine r_iload (pc := 199) (i := 6) dX12_lettersMachine_199 rfl ?_
      refine r_iload (pc := 201) (i := 7) dX12_lettersMachine_201 rfl ?_
      refine r_iload (pc := 203) (i := 8) dX12_lettersMachine_203 rfl ?_
      refine r_icmp_ne (pc := 205) (tgt := 212) dX12_lettersMachine_205 (by decide) (fun c29 => ?_) (fun c29 => ?_)
      · replace h := h.1 c29
        refine r_iconst (pc := 212) (v := 0) dX12_lettersMachine_212 (by decide) ?_
        obtain ⟨k30, h⟩ := h
        obtain ⟨i31, h⟩ := h
        refine r_iast (pc := 213) dX12_lettersMachine_213 k30 i31 ?_
        replace h := h _ rfl
        refine r_iconst (pc := 214) (v := 0) dX12_lettersMachine_214 (by decide) ?_
        refine r_istore (pc := 215) (i := 9) dX12_lettersMachine_215 rfl (Nat.le_of_ble_eq_true rfl) ?_
        exact h
      · replace h := h.2 c29
        refine r_iconst (pc := 208) (v := 1) dX12_lettersMachine_208 (by decide) ?_
        refine r_goto (pc := 209) (tgt := 213) dX12_lettersMachine_209 (by decide) ?_
        obtain ⟨k33, h⟩ := h
        obtain ⟨i34, h⟩ := h
        refine r_iast (pc := 213) dX12_lettersMachine_213 k33 i34 ?_
        replace h := h _ rfl
        refine r_iconst (pc := 214) (v := 0) dX12_lettersMachine_214 (by decide) ?_
        refine r_istore (pc := 215) (i := 9) dX12_lettersMachine_215 rfl (Nat.le_of_ble_eq_true rfl) ?_
        exact h
theorem vX12_lettersMachine_217 {G : GG} {d rc rs : Nat} (p0 : Nat) (x1 : Int32) (x2 : Int32) (x3 : Int32) (x4 : Int32) (x5 : Int32) (x6 : Int32) (x7 : Int32) (x8 : Int32) (x9 : Int32) (z10 : Option Value) (z11 : Option Value) (hz10 : c1 z10 = true) (hz11 : c1 z11 = true) {M : Mem} {Q : Option Value → Mem → Prop} (h : (x_h M p0).1 = 28 ∧ ((x_i M p0 26) ≤ x9 → LX12_lettersMachine_141 G d rc rs p0 x1 x2 x3 x4 x5 (x6 + 1) (some (.int x7)) (some (.int x8)) (some (.int x9)) z10 z11 M Q) ∧ (¬ (x_i M p0 26) ≤ x9 → ∃ b3, x_r M p0 80 = some b3 ∧ ∃ b4, x_r M p0 36 = some b4 ∧ (x_h M b4).1 = 1 ∧ vp_in x6 (x_h M b4).2 ∧ Call G d 0 0 mX12_within [.ref p0, .int x9, .int x3, .int x4] M (fun r7 M8 => ∃ v9 : Int32, r7 = some (.int v9) ∧ (x_h M8 b3).1 = 1 ∧ vp_in ((27 * (x_i M b4 x6.toNatClampNeg)) + v9) (x_h M8 b3).2 ∧ (¬ x2 = (-1) → (x_h M8 p0).1 = 28 ∧ (∃ b14, x_r M8 p0 80 = some b14 ∧ ∃ b15, x_r M8 p0 37 = some b15 ∧ (x_h M8 b15).1 = 1 ∧ vp_in x6 (x_h M8 b15).2 ∧ Call G d 0 0 mX12_within [.ref p0, .int x9, .int x3, .int x5] M8 (fun r18 M19 => ∃ v20 : Int32, r18 = some (.int v20) ∧ (x_h M19 b14).1 = 1 ∧ vp_in ((27 * (40 + (x_i M8 b15 x6.toNatClampNeg))) + v20) (x_h M19 b14).2 ∧ (x_h M19 p0).1 = 28 ∧ (∃ b24, x_r M19 p0 27 = some b24 ∧ Call G d 0 0 mX12_paired [.ref p0, .int (x_i M8 b3 ((27 * (x_i M b4 x6.toNatClampNeg)) + v9).toNatClampNeg), .int (x_i M19 b14 ((27 * (40 + (x_i M8 b15 x6.toNatClampNeg))) + v20).toNatClampNeg)] M19 (fun r25 M26 => ∃ v27 : Int32, r25 = some (.int v27) ∧ (x_h M26 b24).1 = 1 ∧ vp_in ((27 * x6) + x9) (x_h M26 b24).2 ∧ (∀ M30, M30 = x_si M26 b24 ((27 * x6) + x9).toNatClampNeg v27 → LX12_lettersMachine_217 G d rc rs p0 x1 x2 x3 x4 x5 x6 x7 x8 (x9 + 1) (some (.int (x_i M8 b3 ((27 * (x_i M b4 x6.toNatClampNeg)) + v9).toNatClampNeg))) (some (.int (x_i M19 b14 ((27 * (40 + (x_i M8 b15 x6.toNatClampNeg))) + v20).toNatClampNeg))) M30 Q)))))) ∧ (x2 = (-1) → (x_h M8 p0).1 = 28 ∧ (∃ b32, x_r M8 p0 27 = some b32 ∧ Call G d 0 0 mX12_paired [.ref p0, .int (x_i M8 b3 ((27 * (x_i M b4 x6.toNatClampNeg)) + v9).toNatClampNeg), .int 0] M8 (fun r33 M34 => ∃ v35 : Int32, r33 = some (.int v35) ∧ (x_h M34 b32).1 = 1 ∧ vp_in ((27 * x6) + x9) (x_h M34 b32).2 ∧ (∀ M38, M38 = x_si M34 b32 ((27 * x6) + x9).toNatClampNeg v35 → LX12_lettersMachine_217 G d rc rs p0 x1 x2 x3 x4 x5 x6 x7 x8 (x9 + 1) (some (.int (x_i M8 b3 ((27 * (x_i M b4 x6.toNatClampNeg)) + v9).toNatClampNeg))) (some (.int 0)) M38 Q))))))) : LX12_lettersMachine_217 G d rc rs p0 x1 x2 x3 x4 x5 x6 x7 x8 x9 z10 z11 M Q := by
  show Wk G (d + 1) rc rs mX12_lettersMachine 217 _ _ M Q
  refine r_iload (pc := 217) (i := 9) dX12_lettersMachine_217 rfl ?_
  refine r_aload_n (pc := 219) (i := 0) dX12_lettersMachine_219 rfl rfl ?_
  obtain ⟨k1, h⟩ := h
  refine r_geti (pc := 220) flX12_226 dX12_lettersMachine_220 (Or.inl rfl) k1 ?_
  refine r_icmp_ge (pc := 223) (tgt := 319) dX12_lettersMachine_223 (by decide) (fun c2 => ?_) (fun c2 => ?_)
  · replace h := h.1 c2
    refine r_iinc (pc := 319) (i := 6) (v := _ + 1) dX12_lettersMachine_319 rfl rfl rfl ?_
    refine r_goto (pc := 322) (tgt := 141) dX12_lettersMachine_322 (by decide) ?_
    exact h
  · replace h := h.2 c2
    refine r_aload_n (pc := 226) (i := 0) dX12_lettersMachine_226 rfl rfl ?_
    obtain ⟨b3, hb3, h⟩ := h
    refine r_getr (pc := 227) flX12_175 dX12_lettersMachine_227 rfl k1 hb3 ?_
    refine r_bipush (pc := 230) (v := 27) dX12_lettersMachine_230 (by decide) ?_
    refine r_aload_n (pc := 232) (i := 0) dX12_lettersMachine_232 rfl rfl ?_
    obtain ⟨b4, hb4, h⟩ := h
    refine r_getr (pc := 233) flX12_98 dX12_lettersMachine_233 rfl k1 hb4 ?_
    refine r_iload (pc := 236) (i := 6) dX12_lettersMachine_236 rfl ?_
    obtain ⟨k5, h⟩ := h
    obtain ⟨i6, h⟩ := h
    refine r_iald (pc := 238) dX12_lettersMachine_238 k5 i6 ?_
    refine r_imul (pc := 239) dX12_lettersMachine_239 ?_
    refine r_aload_n (pc := 240) (i := 0) dX12_lettersMachine_240 rfl rfl ?_
    refine r_iload (pc := 241) (i := 9) dX12_lettersMachine_241 rfl ?_
    refine r_iload_n (pc := 243) (i := 3) dX12_lettersMachine_243 rfl rfl ?_
    refine r_iload (pc := 244) (i := 4) dX12_lettersMachine_244 rfl ?_
    refine r_callV (pc := 246) (ci := 12) (as := [_, _, _]) (st := [_, _]) okX12_within lkX12_423 inX12_within seX12_within ⟨_, rfl, rfl⟩ dX12_lettersMachine_246 rfl k1 (Nat.le_of_ble_eq_true rfl) (Nat.zero_le _) (Nat.zero_le _) (Call.mono h (fun r7 M8 h => ?_))
    obtain ⟨v9, rfl, h⟩ := h
    refine r_iadd (pc := 249) dX12_lettersMachine_249 ?_
    obtain ⟨k10, h⟩ := h
    obtain ⟨i11, h⟩ := h
    refine r_iald (pc := 250) dX12_lettersMachine_250 k10 i11 ?_
    refine r_istore (pc := 251) (i := 10) dX12_lettersMachine_251 rfl (Nat.le_of_ble_eq_true rfl) ?_
    refine r_iload_n (pc := 253) (i := 2) dX12_lettersMachine_253 rfl rfl ?_
    refine r_iconst (pc := 254) (v := (-1)) dX12_lettersMachine_254 (by decide) ?_
    refine r_icmp_ne (pc := 255) (tgt := 262) dX12_lettersMachine_255 (by decide) (fun c12 => ?_) (fun c12 => ?_)
    · replace h := h.1 c12
      refine r_aload_n (pc := 262) (i := 0) dX12_lettersMachine_262 rfl rfl ?_
      obtain ⟨k13, h⟩ := h
      obtain ⟨b14, hb14, h⟩ := h
      refine r_getr (pc := 263) flX12_175 dX12_lettersMachine_263 rfl k13 hb14 ?_
      refine r_bipush (pc := 266) (v := 27) dX12_lettersMachine_266 (by decide) ?_
      refine r_bipush (pc := 268) (v := 40) dX12_lettersMachine_268 (by decide) ?_
      refine r_aload_n (pc := 270) (i := 0) dX12_lettersMachine_270 rfl rfl ?_
      obtain ⟨b15, hb15, h⟩ := h
      refine r_getr (pc := 271) flX12_101 dX12_lettersMachine_271 rfl k13 hb15 ?_
      refine r_iload (pc := 274) (i := 6) dX12_lettersMachine_274 rfl ?_
      obtain ⟨k16, h⟩ := h
      obtain ⟨i17, h⟩ := h
      refine r_iald (pc := 276) dX12_lettersMachine_276 k16 i17 ?_
      refine r_iadd (pc := 277) dX12_lettersMachine_277 ?_
      refine r_imul (pc := 278) dX12_lettersMachine_278 ?_
      refine r_aload_n (pc := 279) (i := 0) dX12_lettersMachine_279 rfl rfl ?_
      refine r_iload (pc := 280) (i := 9) dX12_lettersMachine_280 rfl ?_
      refine r_iload_n (pc := 282) (i := 3) dX12_lettersMachine_282 rfl rfl ?_
      refine r_iload (pc := 283) (i := 5) dX12_lettersMachine_283 rfl ?_
      refine r_callV (pc := 285) (ci := 12) (as := [_, _, _]) (st := [_, _]) okX12_within lkX12_423 inX12_within seX12_within ⟨_, rfl, rfl⟩ dX12_lettersMachine_285 rfl k13 (Nat.le_of_ble_eq_true rfl) (Nat.zero_le _) (Nat.zero_le _) (Call.mono h (fun r18 M19 h => ?_))
      obtain ⟨v20, rfl, h⟩ := h
      refine r_iadd (pc := 288) dX12_lettersMachine_288 ?_
      obtain ⟨k21, h⟩ := h
      obtain ⟨i22, h⟩ := h
      refine r_iald (pc := 289) dX12_lettersMachine_289 k21 i22 ?_
      refine r_istore (pc := 290) (i := 11) dX12_lettersMachine_290 rfl (Nat.le_of_ble_eq_true rfl) ?_
      refine r_aload_n (pc := 292) (i := 0) dX12_lettersMachine_292 rfl rfl ?_
      obtain ⟨k23, h⟩ := h
      obtain ⟨b24, hb24, h⟩ := h
      refine r_getr (pc := 293) flX12_73 dX12_lettersMachine_293 rfl k23 hb24 ?_
      refine r_bipush (pc := 296) (v := 27) dX12_lettersMachine_296 (by decide) ?_
      refine r_iload (pc := 298) (i := 6) dX12_lettersMachine_298 rfl ?_
      refine r_imul (pc := 300) dX12_lettersMachine_300 ?_
      refine r_iload (pc := 301) (i := 9) dX12_lettersMachine_301 rfl ?_
      refine r_iadd (pc := 303) dX12_lettersMachine_303 ?_
      refine r_aload_n (pc := 304) (i := 0) dX12_lettersMachine_304 rfl rfl ?_
      refine r_iload (pc := 305) (i := 10) dX12_lettersMachine_305 rfl ?_
      refine r_iload (pc := 307) (i := 11) dX12_lettersMachine_307 rfl ?_
      refine r_callV (pc := 309) (ci := 12) (as := [_, _]) (st := [_, _]) okX12_paired lkX12_272 inX12_paired seX12_paired ⟨_, rfl, rfl⟩ dX12_lettersMachine_309 rfl k23 (Nat.le_of_ble_eq_true rfl) (Nat.zero_le _) (Nat.zero_le _) (Call.mono h (fun r25 M26 h => ?_))
      obtain ⟨v27, rfl, h⟩ := h
      obtain ⟨k28, h⟩ := h
      obtain ⟨i29, h⟩ := h
      refine r_iast (pc := 312) dX12_lettersMachine_312 k28 i29 ?_
      replace h := h _ rfl
      refine r_iinc (pc := 313) (i := 9) (v := _ + 1) dX12_lettersMachine_313 rfl rfl rfl ?_
      refine r_goto (pc := 316) (tgt := 217) dX12_lettersMachine_316 (by decide) ?_
      exact h
    · replace h := h.2 c12
      refine r_iconst (pc := 258) (v := 0) dX12_lettersMachine_258 (by decide) ?_
      refine r_goto (pc := 259) (tgt := 290) dX12_lettersMachine_259 (by decide) ?_
      refine r_istore (pc := 290) (i := 11) dX12_lettersMachine_290 rfl (Nat.le_of_ble_eq_true rfl) ?_
      refine r_aload_n (pc := 292) (i := 0) dX12_lettersMachine_292 rfl rfl ?_
      obtain ⟨k31, h⟩ := h
      obtain ⟨b32, hb32, h⟩ := h
      refine r_getr (pc := 293) flX12_73 dX12_lettersMachine_293 rfl k31 hb32 ?_
      refine r_bipush (pc := 296) (v := 27) dX12_lettersMachine_296 (by decide) ?_
      refine r_iload (pc := 298) (i := 6) dX12_lettersMachine_298 rfl ?_
      refine r_imul (pc := 300) dX12_lettersMachine_300 ?_
      refine r_iload (pc := 301) (i := 9) dX12_lettersMachine_301 rfl ?_
      refine r_iadd (pc := 303) dX12_lettersMachine_303 ?_
      refine r_aload_n (pc := 304) (i := 0) dX12_lettersMachine_304 rfl rfl ?_
      refine r_iload (pc := 305) (i := 10) dX12_lettersMachine_305 rfl ?_
      refine r_iload (pc := 307) (i := 11) dX12_lettersMachine_307 rfl ?_
      refine r_callV (pc := 309) (ci := 12) (as := [_, _]) (st := [_, _]) okX12_paired lkX12_272 inX12_paired seX12_paired ⟨_, rfl, rfl⟩ dX12_lettersMachine_309 rfl k31 (Nat.le_of_ble_eq_true rfl) (Nat.zero_le _) (Nat.zero_le _) (Call.mono h (fun r33 M34 h => ?_))
      obtain ⟨v35, rfl, h⟩ := h
      obtain ⟨k36, h⟩ := h
      obtain ⟨i37, h⟩ := h
      refine r_iast (pc := 312) dX12_lettersMachine_312 k36 i37 ?_
      replace h := h _ rfl
      refine r_iinc (pc := 313) (i := 9) (v := _ + 1) dX12_lettersMachine_313 rfl rfl rfl ?_
      refine r_goto (pc := 316) (tgt := 217) dX12_lettersMachine_316 (by decide) ?_
      exact h
theorem eX12_machineOf {G : GG} {d rc rs : Nat} (o : Nat) (a1 : Int32)  {M : Mem} {Q : Option Value → Mem → Prop} (h : (x_h M o).1 = 28 ∧ (∃ b2, x_r M o 48 = some b2 ∧ (x_h M b2).1 = 1 ∧ vp_in a1 (x_h M b2).2 ∧ ((x_i M b2 a1.toNatClampNeg) = 0 → Call G d 0 0 mX12_sumsMachine [.ref o, .int a1] M (fun r6 M7 => ∃ v8 : Int32, r6 = some (.int v8) ∧ (v8 = 0 ∨ v8 = 1) ∧ Q (some (.int v8)) M7)) ∧ ((x_i M b2 a1.toNatClampNeg) = 1 → Call G d 0 0 mX12_lettersMachine [.ref o, .int a1] M (fun r10 M11 => ∃ v12 : Int32, r10 = some (.int v12) ∧ (v12 = 0 ∨ v12 = 1) ∧ Q (some (.int v12)) M11)) ∧ ((x_i M b2 a1.toNatClampNeg) = 2 → ∃ b14, x_r M o 49 = some b14 ∧ (x_h M b14).1 = 1 ∧ vp_in a1 (x_h M b14).2 ∧ Call G d 0 0 mX12_copy [.ref o, .int (x_i M b14 a1.toNatClampNeg), .int 1] M (fun r17 M18 => r17 = none ∧ (x_h M18 o).1 = 28 ∧ Call G d 0 0 mX12_becomes [.ref o, .int a1] M18 (fun r20 M21 => ∃ v22 : Int32, r20 = some (.int v22) ∧ (v22 = 0 ∨ v22 = 1) ∧ Q (some (.int v22)) M21))) ∧ ((x_i M b2 a1.toNatClampNeg) = 3 → Call G d 0 0 mX12_joins [.ref o, .int a1] M (fun r24 M25 => ∃ v26 : Int32, r24 = some (.int v26) ∧ (v26 = 0 ∨ v26 = 1) ∧ Q (some (.int v26)) M25)) ∧ ((x_i M b2 a1.toNatClampNeg) = 4 → Call G d 0 0 mX12_joins [.ref o, .int a1] M (fun r28 M29 => ∃ v30 : Int32, r28 = some (.int v30) ∧ (v30 = 0 ∨ v30 = 1) ∧ Q (some (.int v30)) M29)) ∧ ((x_i M b2 a1.toNatClampNeg) = 5 → Call G d 0 0 mX12_joins [.ref o, .int a1] M (fun r32 M33 => ∃ v34 : Int32, r32 = some (.int v34) ∧ (v34 = 0 ∨ v34 = 1) ∧ Q (some (.int v34)) M33)) ∧ ((x_i M b2 a1.toNatClampNeg) = 6 → Call G d 0 0 mX12_bounds [.ref o, .int a1] M (fun r36 M37 => ∃ v38 : Int32, r36 = some (.int v38) ∧ (v38 = 0 ∨ v38 = 1) ∧ Q (some (.int v38)) M37)) ∧ ((x_i M b2 a1.toNatClampNeg) = 7 → Call G d 0 0 mX12_bounds [.ref o, .int a1] M (fun r40 M41 => ∃ v42 : Int32, r40 = some (.int v42) ∧ (v42 = 0 ∨ v42 = 1) ∧ Q (some (.int v42)) M41)) ∧ (¬ (x_i M b2 a1.toNatClampNeg) = 0 ∧ ¬ (x_i M b2 a1.toNatClampNeg) = 1 ∧ ¬ (x_i M b2 a1.toNatClampNeg) = 2 ∧ ¬ (x_i M b2 a1.toNatClampNeg) = 3 ∧ ¬ (x_i M b2 a1.toNatClampNeg) = 4 ∧ ¬ (x_i M b2 a1.toNatClampNeg) = 5 ∧ ¬ (x_i M b2 a1.toNatClampNeg) = 6 ∧ ¬ (x_i M b2 a1.toNatClampNeg) = 7 → Call G d 0 0 mX12_joins [.ref o, .int a1] M (fun r43 M44 => ∃ v45 : Int32, r43 = some (.int v45) ∧ (v45 = 0 ∨ v45 = 1) ∧ Q (some (.int v45)) M44)))) : Call G (d + 1) rc rs mX12_machineOf [.ref o, .int a1] M Q := by
  refine call_of (by decide) (Nat.le_of_ble_eq_true rfl) ?_
  show Wk G (d + 1) rc rs mX12_machineOf 0 [some (.ref o), some (.int a1)] [] M Q
  refine r_aload_n (pc := 0) (i := 0) dX12_machineOf_0 rfl rfl ?_
  obtain ⟨k1, h⟩ := h
  obtain ⟨b2, hb2, h⟩ := h
  refine r_getr (pc := 1) flX12_104 dX12_machineOf_1 rfl k1 hb2 ?_
  refine r_iload_n (pc := 4) (i := 1) dX12_machineOf_4 rfl rfl ?_
  obtain ⟨k3, h⟩ := h
  obtain ⟨i4, h⟩ := h
  refine r_iald (pc := 5) dX12_machineOf_5 k3 i4 ?_
  refine dite ((x_i M b2 a1.toNatClampNeg) = 0) (fun c5 => ?_) (fun c5 => ?_)
  · replace h := h.1 c5
    refine r_tabIn (pc := 6) (tgt := 52) dX12_machineOf_6 (by rw [c5]; decide) (by rw [c5]; decide) (by rw [c5]; rfl) (by decide) ?_
    refine r_aload_n (pc := 52) (i := 0) dX12_machineOf_52 rfl rfl ?_
    refine r_iload_n (pc := 53) (i := 1) dX12_machineOf_53 rfl rfl ?_
    refine r_callV (pc := 54) (ci := 12) (as := [_]) (st := []) okX12_sumsMachine lkX12_460 inX12_sumsMachine seX12_sumsMachine ⟨_, rfl, rfl⟩ dX12_machineOf_54 rfl k1 (Nat.le_of_ble_eq_true rfl) (Nat.zero_le _) (Nat.zero_le _) (Call.mono h (fun r6 M7 h => ?_))
    obtain ⟨v8, rfl, h⟩ := h
    exact r_zret (pc := 57) dX12_machineOf_57 rfl h.1 h.2
  refine dite ((x_i M b2 a1.toNatClampNeg) = 1) (fun c9 => ?_) (fun c9 => ?_)
  · replace h := h.2.1 c9
    refine r_tabIn (pc := 6) (tgt := 58) dX12_machineOf_6 (by rw [c9]; decide) (by rw [c9]; decide) (by rw [c9]; rfl) (by decide) ?_
    refine r_aload_n (pc := 58) (i := 0) dX12_machineOf_58 rfl rfl ?_
    refine r_iload_n (pc := 59) (i := 1) dX12_machineOf_59 rfl rfl ?_
    refine r_callV (pc := 60) (ci := 12) (as := [_]) (st := []) okX12_lettersMachine lkX12_463 inX12_lettersMachine seX12_lettersMachine ⟨_, rfl, rfl⟩ dX12_machineOf_60 rfl k1 (Nat.le_of_ble_eq_true rfl) (Nat.zero_le _) (Nat.zero_le _) (Call.mono h (fun r10 M11 h => ?_))
    obtain ⟨v12, rfl, h⟩ := h
    exact r_zret (pc := 63) dX12_machineOf_63 rfl h.1 h.2
  refine dite ((x_i M b2 a1.toNatClampNeg) = 2) (fun c13 => ?_) (fun c13 => ?_)
  · replace h := h.2.2.1 c13
    refine r_tabIn (pc := 6) (tgt := 64) dX12_machineOf_6 (by rw [c13]; decide) (by rw [c13]; decide) (by rw [c13]; rfl) (by decide) ?_
    refine r_aload_n (pc := 64) (i := 0) dX12_machineOf_64 rfl rfl ?_
    refine r_aload_n (pc := 65) (i := 0) dX12_machineOf_65 rfl rfl ?_
    obtain ⟨b14, hb14, h⟩ := h
    refine r_getr (pc := 66) flX12_107 dX12_machineOf_66 rfl k1 hb14 ?_
    refine r_iload_n (pc := 69) (i := 1) dX12_machineOf_69 rfl rfl ?_
    obtain ⟨k15, h⟩ := h
    obtain ⟨i16, h⟩ := h
    refine r_iald (pc := 70) dX12_machineOf_70 k15 i16 ?_
    refine r_iconst (pc := 71) (v := 1) dX12_machineOf_71 (by decide) ?_
    refine r_callV (pc := 72) (ci := 12) (as := [_, _]) (st := []) okX12_copy lkX12_432 inX12_copy seX12_copy ⟨_, rfl, rfl⟩ dX12_machineOf_72 rfl k1 (Nat.le_of_ble_eq_true rfl) (Nat.zero_le _) (Nat.zero_le _) (Call.mono h (fun r17 M18 h => ?_))
    obtain ⟨rfl, h⟩ := h
    refine r_aload_n (pc := 75) (i := 0) dX12_machineOf_75 rfl rfl ?_
    refine r_iload_n (pc := 76) (i := 1) dX12_machineOf_76 rfl rfl ?_
    obtain ⟨k19, h⟩ := h
    refine r_callV (pc := 77) (ci := 12) (as := [_]) (st := []) okX12_becomes lkX12_429 inX12_becomes seX12_becomes ⟨_, rfl, rfl⟩ dX12_machineOf_77 rfl k19 (Nat.le_of_ble_eq_true rfl) (Nat.zero_le _) (Nat.zero_le _) (Call.mono h (fun r20 M21 h => ?_))
    obtain ⟨v22, rfl, h⟩ := h
    exact r_zret (pc := 80) dX12_machineOf_80 rfl h.1 h.2
  refine dite ((x_i M b2 a1.toNatClampNeg) = 3) (fun c23 => ?_) (fun c23 => ?_)
  · replace h := h.2.2.2.1 c23
    refine r_tabIn (pc := 6) (tgt := 87) dX12_machineOf_6 (by rw [c23]; decide) (by rw [c23]; decide) (by rw [c23]; rfl) (by decide) ?_
    refine r_aload_n (pc := 87) (i := 0) dX12_machineOf_87 rfl rfl ?_
    refine r_iload_n (pc := 88) (i := 1) dX12_machineOf_88 rfl rfl ?_
    refine r_callV (pc := 89) (ci := 12) (as := [_]) (st := []) okX12_joins lkX12_469 inX12_joins seX12_joins ⟨_, rfl, rfl⟩ dX12_machineOf_89 rfl k1 (Nat.le_of_ble_eq_true rfl) (Nat.zero_le _) (Nat.zero_le _) (Call.mono h (fun r24 M25 h => ?_))
    obtain ⟨v26, rfl, h⟩ := h
    exact r_zret (pc := 92) dX12_machineOf_92 rfl h.1 h.2
  refine dite ((x_i M b2 a1.toNatClampNeg) = 4) (fun c27 => ?_) (fun c27 => ?_)
  · replace h := h.2.2.2.2.1 c27
    refine r_tabIn (pc := 6) (tgt := 87) dX12_machineOf_6 (by rw [c27]; decide) (by rw [c27]; decide) (by rw [c27]; rfl) (by decide) ?_
    refine r_aload_n (pc := 87) (i := 0) dX12_machineOf_87 rfl rfl ?_
    refine r_iload_n (pc := 88) (i := 1) dX12_machineOf_88 rfl rfl ?_
    refine r_callV (pc := 89) (ci := 12) (as := [_]) (st := []) okX12_joins lkX12_469 inX12_joins seX12_joins ⟨_, rfl, rfl⟩ dX12_machineOf_89 rfl k1 (Nat.le_of_ble_eq_true rfl) (Nat.zero_le _) (Nat.zero_le _) (Call.mono h (fun r28 M29 h => ?_))
    obtain ⟨v30, rfl, h⟩ := h
    exact r_zret (pc := 92) dX12_machineOf_92 rfl h.1 h.2
  refine dite ((x_i M b2 a1.toNatClampNeg) = 5) (fun c31 => ?_) (fun c31 => ?_)
  · replace h := h.2.2.2.2.2.1 c31
    refine r_tabIn (pc := 6) (tgt := 87) dX12_machineOf_6 (by rw [c31]; decide) (by rw [c31]; decide) (by rw [c31]; rfl) (by decide) ?_
    refine r_aload_n (pc := 87) (i := 0) dX12_machineOf_87 rfl rfl ?_
    refine r_iload_n (pc := 88) (i := 1) dX12_machineOf_88 rfl rfl ?_
    refine r_callV (pc := 89) (ci := 12) (as := [_]) (st := []) okX12_joins lkX12_469 inX12_joins seX12_joins ⟨_, rfl, rfl⟩ dX12_machineOf_89 rfl k1 (Nat.le_of_ble_eq_true rfl) (Nat.zero_le _) (Nat.zero_le _) (Call.mono h (fun r32 M33 h => ?_))
    obtain ⟨v34, rfl, h⟩ := h
    exact r_zret (pc := 92) dX12_machineOf_92 rfl h.1 h.2
  refine dite ((x_i M b2 a1.toNatClampNeg) = 6) (fun c35 => ?_) (fun c35 => ?_)
  · replace h := h.2.2.2.2.2.2.1 c35
    refine r_tabIn (pc := 6) (tgt := 81) dX12_machineOf_6 (by rw [c35]; decide) (by rw [c35]; decide) (by rw [c35]; rfl) (by decide) ?_
    refine r_aload_n (pc := 81) (i := 0) dX12_machineOf_81 rfl rfl ?_
    refine r_iload_n (pc := 82) (i := 1) dX12_machineOf_82 rfl rfl ?_
    refine r_callV (pc := 83) (ci := 12) (as := [_]) (st := []) okX12_bounds lkX12_466 inX12_bounds seX12_bounds ⟨_, rfl, rfl⟩ dX12_machineOf_83 rfl k1 (Nat.le_of_ble_eq_true rfl) (Nat.zero_le _) (Nat.zero_le _) (Call.mono h (fun r36 M37 h => ?_))
    obtain ⟨v38, rfl, h⟩ := h
    exact r_zret (pc := 86) dX12_machineOf_86 rfl h.1 h.2
  refine dite ((x_i M b2 a1.toNatClampNeg) = 7) (fun c39 => ?_) (fun c39 => ?_)
  · replace h := h.2.2.2.2.2.2.2.1 c39
    refine r_tabIn (pc := 6) (tgt := 81) dX12_machineOf_6 (by rw [c39]; decide) (by rw [c39]; decide) (by rw [c39]; rfl) (by decide) ?_
    refine r_aload_n (pc := 81) (i := 0) dX12_machineOf_81 rfl rfl ?_
    refine r_iload_n (pc := 82) (i := 1) dX12_machineOf_82 rfl rfl ?_
    refine r_callV (pc := 83) (ci := 12) (as := [_]) (st := []) okX12_bounds lkX12_466 inX12_bounds seX12_bounds ⟨_, rfl, rfl⟩ dX12_machineOf_83 rfl k1 (Nat.le_of_ble_eq_true rfl) (Nat.zero_le _) (Nat.zero_le _) (Call.mono h (fun r40 M41 h => ?_))
    obtain ⟨v42, rfl, h⟩ := h
    exact r_zret (pc := 86) dX12_machineOf_86 rfl h.1 h.2
  replace h := h.2.2.2.2.2.2.2.2 ⟨c5, c9, c13, c23, c27, c31, c35, c39⟩
  refine r_tabOut (pc := 6) (tgt := 87) dX12_machineOf_6 (by have tc5 : ¬ Int32.toInt _ = 0 := sw_ne c5; have tc9 : ¬ Int32.toInt _ = 1 := sw_ne c9; have tc13 : ¬ Int32.toInt _ = 2 := sw_ne c13; have tc23 : ¬ Int32.toInt _ = 3 := sw_ne c23; have tc27 : ¬ Int32.toInt _ = 4 := sw_ne c27; have tc31 : ¬ Int32.toInt _ = 5 := sw_ne c31; have tc35 : ¬ Int32.toInt _ = 6 := sw_ne c35; have tc39 : ¬ Int32.toInt _ = 7 := sw_ne c39; omega) (by decide) ?_
  refine r_aload_n (pc := 87) (i := 0) dX12_machineOf_87 rfl rfl ?_
  refine r_iload_n (pc := 88) (i := 1) dX12_machineOf_88 rfl rfl ?_
  refine r_callV (pc := 89) (ci := 12) (as := [_]) (st := []) okX12_joins lkX12_469 inX12_joins seX12_joins ⟨_, rfl, rfl⟩ dX12_machineOf_89 rfl k1 (Nat.le_of_ble_eq_true rfl) (Nat.zero_le _) (Nat.zero_le _) (Call.mono h (fun r43 M44 h => ?_))
  obtain ⟨v45, rfl, h⟩ := h
  exact r_zret (pc := 92) dX12_machineOf_92 rfl h.1 h.2
abbrev LX12_question_120 (G : GG) (d rc rs : Nat) (p0 : Nat) (x1 : Int32) (x2 : Int32) (z3 : Option Value) (M : Mem) (Q : Option Value → Mem → Prop) : Prop := Wk G (d + 1) rc rs mX12_question 120 [some (.ref p0), some (.int x1), some (.int x2), z3, none] [] M Q
abbrev LX12_question_143 (G : GG) (d rc rs : Nat) (p0 : Nat) (x1 : Int32) (x2 : Int32) (z3 : Option Value) (u0 : Int32) (M : Mem) (Q : Option Value → Mem → Prop) : Prop := Wk G (d + 1) rc rs mX12_question 143 [some (.ref p0), some (.int x1), some (.int x2), z3, none] [.int u0] M Q
abbrev LX12_question_200 (G : GG) (d rc rs : Nat) (p0 : Nat) (x1 : Int32) (x2 : Int32) (z3 : Option Value) (M : Mem) (Q : Option Value → Mem → Prop) : Prop := Wk G (d + 1) rc rs mX12_question 200 [some (.ref p0), some (.int x1), some (.int x2), z3, none] [] M Q
abbrev LX12_question_269 (G : GG) (d rc rs : Nat) (p0 : Nat) (x1 : Int32) (x2 : Int32) (x3 : Int32) (z4 : Option Value) (M : Mem) (Q : Option Value → Mem → Prop) : Prop := Wk G (d + 1) rc rs mX12_question 269 [some (.ref p0), some (.int x1), some (.int x2), some (.int x3), z4] [] M Q
abbrev LX12_question_314 (G : GG) (d rc rs : Nat) (p0 : Nat) (x1 : Int32) (x2 : Int32) (x3 : Int32) (x4 : Int32) (M : Mem) (Q : Option Value → Mem → Prop) : Prop := Wk G (d + 1) rc rs mX12_question 314 [some (.ref p0), some (.int x1), some (.int x2), some (.int x3), some (.int x4)] [] M Q
theorem eX12_question {G : GG} {d rc rs : Nat} (o : Nat)  {M : Mem} {Q : Option Value → Mem → Prop} (h : (x_h M o).1 = 28 ∧ (¬ (x_i M o 7) = 10 → ∀ M3, M3 = x_si M o 7 ((x_i M o 7) + 1) → Call G d 0 0 mX12_read [.ref o] M3 (fun r4 M5 => r4 = none ∧ (x_h M5 o).1 = 28 ∧ (∀ M7, M7 = x_si M5 o 18 0 → ∃ b8, x_r M7 o 8 = some b8 ∧ (x_h M5 b8).1 = 1 ∧ vp_in (x_i M o 7) (x_h M5 b8).2 ∧ (∀ M11, M11 = x_si M7 b8 (x_i M o 7).toNatClampNeg (x_i M7 o 45) → ∃ b12, x_r M11 o 9 = some b12 ∧ (x_h M5 b12).1 = 1 ∧ vp_in (x_i M o 7) (x_h M5 b12).2 ∧ (∀ M15, M15 = x_si M11 b12 (x_i M o 7).toNatClampNeg (x_i M11 o 46) → ∃ b16, x_r M15 o 10 = some b16 ∧ (x_h M5 b16).1 = 1 ∧ vp_in (x_i M o 7) (x_h M5 b16).2 ∧ (∀ M19, M19 = x_si M15 b16 (x_i M o 7).toNatClampNeg (-1) → ∃ b20, x_r M19 o 12 = some b20 ∧ (x_h M5 b20).1 = 1 ∧ vp_in (x_i M o 7) (x_h M5 b20).2 ∧ (∀ M23, M23 = x_si M19 b20 (x_i M o 7).toNatClampNeg (x_i M19 o 47) → ∃ b24, x_r M23 o 13 = some b24 ∧ (x_h M5 b24).1 = 1 ∧ vp_in (x_i M o 7) (x_h M5 b24).2 ∧ (∀ M27, M27 = x_si M23 b24 (x_i M o 7).toNatClampNeg 0 → ((x_i M27 o 45) = 0 → ∃ b29, x_r M27 o 11 = some b29 ∧ ∃ b30, x_r M27 o 53 = some b30 ∧ (x_h M5 b30).1 = 1 ∧ vp_in ((x_i M27 o 47) - 1) (x_h M5 b30).2 ∧ (x_h M5 b29).1 = 1 ∧ vp_in (x_i M o 7) (x_h M5 b29).2 ∧ (∀ M35, M35 = x_si M27 b29 (x_i M o 7).toNatClampNeg (x_i M27 b30 ((x_i M27 o 47) - 1).toNatClampNeg) → LX12_question_120 G d rc rs o (x_i M o 7) 0 none M35 Q)) ∧ (¬ (x_i M27 o 45) = 0 → Call G d 0 0 mX12_done [.ref o, .int (x_i M o 7)] M27 (fun r36 M37 => ∃ v38 : Int32, r36 = some (.int v38) ∧ Q (some (.int v38)) M37)))))))))) ∧ ((x_i M o 7) = 10 → ∀ M39, M39 = x_si M o 18 0 → Call G d 0 0 mX12_refused [.ref o, .int 2] M39 (fun r40 M41 => ∃ v42 : Int32, r40 = some (.int v42) ∧ Q (some (.int v42)) M41))) : Call G (d + 1) rc rs mX12_question [.ref o] M Q := by
  refine call_of (by decide) (Nat.le_of_ble_eq_true rfl) ?_
  show Wk G (d + 1) rc rs mX12_question 0 [some (.ref o), none, none, none, none] [] M Q
  refine r_aload_n (pc := 0) (i := 0) dX12_question_0 rfl rfl ?_
  obtain ⟨k1, h⟩ := h
  refine r_geti (pc := 1) flX12_256 dX12_question_1 (Or.inl rfl) k1 ?_
  refine r_bipush (pc := 4) (v := 10) dX12_question_4 (by decide) ?_
  refine r_icmp_ne (pc := 6) (tgt := 20) dX12_question_6 (by decide) (fun c2 => ?_) (fun c2 => ?_)
  · replace h := h.1 c2
    refine r_aload_n (pc := 20) (i := 0) dX12_question_20 rfl rfl ?_
    refine r_geti (pc := 21) flX12_256 dX12_question_21 (Or.inl rfl) k1 ?_
    refine r_istore_n (pc := 24) (i := 1) dX12_question_24 rfl rfl (Nat.le_of_ble_eq_true rfl) ?_
    refine r_aload_n (pc := 25) (i := 0) dX12_question_25 rfl rfl ?_
    refine r_dup (pc := 26) dX12_question_26 rfl ?_
    refine r_geti (pc := 27) flX12_256 dX12_question_27 (Or.inl rfl) k1 ?_
    refine r_iconst (pc := 30) (v := 1) dX12_question_30 (by decide) ?_
    refine r_iadd (pc := 31) dX12_question_31 ?_
    refine r_puti (pc := 32) flX12_256 dX12_question_32 (Or.inl rfl) (fun q hq => by cases hq; rfl) k1 ?_
    replace h := h _ rfl
    refine r_aload_n (pc := 35) (i := 0) dX12_question_35 rfl rfl ?_
    refine r_callV (pc := 36) (ci := 12) (as := []) (st := []) okX12_read lkX12_472 inX12_read seX12_read ⟨_, rfl, rfl⟩ dX12_question_36 rfl k1 (Nat.le_of_ble_eq_true rfl) (Nat.zero_le _) (Nat.zero_le _) (Call.mono h (fun r4 M5 h => ?_))
    obtain ⟨rfl, h⟩ := h
    refine r_aload_n (pc := 39) (i := 0) dX12_question_39 rfl rfl ?_
    refine r_iconst (pc := 40) (v := 0) dX12_question_40 (by decide) ?_
    obtain ⟨k6, h⟩ := h
    refine r_puti (pc := 41) flX12_289 dX12_question_41 (Or.inl rfl) (fun q hq => by cases hq; rfl) k6 ?_
    replace h := h _ rfl
    refine r_aload_n (pc := 44) (i := 0) dX12_question_44 rfl rfl ?_
    obtain ⟨b8, hb8, h⟩ := h
    refine r_getr (pc := 45) flX12_29 dX12_question_45 rfl k6 hb8 ?_
    refine r_iload_n (pc := 48) (i := 1) dX12_question_48 rfl rfl ?_
    refine r_aload_n (pc := 49) (i := 0) dX12_question_49 rfl rfl ?_
    refine r_geti (pc := 50) flX12_298 dX12_question_50 (Or.inl rfl) k6 ?_
    obtain ⟨k9, h⟩ := h
    obtain ⟨i10, h⟩ := h
    refine r_iast (pc := 53) dX12_question_53 k9 i10 ?_
    replace h := h _ rfl
    refine r_aload_n (pc := 54) (i := 0) dX12_question_54 rfl rfl ?_
    obtain ⟨b12, hb12, h⟩ := h
    refine r_getr (pc := 55) flX12_32 dX12_question_55 rfl k6 hb12 ?_
    refine r_iload_n (pc := 58) (i := 1) dX12_question_58 rfl rfl ?_
    refine r_aload_n (pc := 59) (i := 0) dX12_question_59 rfl rfl ?_
    refine r_geti (pc := 60) flX12_304 dX12_question_60 (Or.inl rfl) k6 ?_
    obtain ⟨k13, h⟩ := h
    obtain ⟨i14, h⟩ := h
    refine r_iast (pc := 63) dX12_question_63 k13 i14 ?_
    replace h := h _ rfl
    refine r_aload_n (pc := 64) (i := 0) dX12_question_64 rfl rfl ?_
    obtain ⟨b16, hb16, h⟩ := h
    refine r_getr (pc := 65) flX12_35 dX12_question_65 rfl k6 hb16 ?_
    refine r_iload_n (pc := 68) (i := 1) dX12_question_68 rfl rfl ?_
    refine r_iconst (pc := 69) (v := (-1)) dX12_question_69 (by decide) ?_
    obtain ⟨k17, h⟩ := h
    obtain ⟨i18, h⟩ := h
    refine r_iast (pc := 70) dX12_question_70 k17 i18 ?_
    replace h := h _ rfl
    refine r_aload_n (pc := 71) (i := 0) dX12_question_71 rfl rfl ?_
    obtain ⟨b20, hb20, h⟩ := h
    refine r_getr (pc := 72) flX12_41 dX12_question_72 rfl k6 hb20 ?_
    refine r_iload_n (pc := 75) (i := 1) dX12_question_75 rfl rfl ?_
    refine r_aload_n (pc := 76) (i := 0) dX12_question_76 rfl rfl ?_
    refine r_geti (pc := 77) flX12_343 dX12_question_77 (Or.inl rfl) k6 ?_
    obtain ⟨k21, h⟩ := h
    obtain ⟨i22, h⟩ := h
    refine r_iast (pc := 80) dX12_question_80 k21 i22 ?_
    replace h := h _ rfl
    refine r_aload_n (pc := 81) (i := 0) dX12_question_81 rfl rfl ?_
    obtain ⟨b24, hb24, h⟩ := h
    refine r_getr (pc := 82) flX12_44 dX12_question_82 rfl k6 hb24 ?_
    refine r_iload_n (pc := 85) (i := 1) dX12_question_85 rfl rfl ?_
    refine r_iconst (pc := 86) (v := 0) dX12_question_86 (by decide) ?_
    obtain ⟨k25, h⟩ := h
    obtain ⟨i26, h⟩ := h
    refine r_iast (pc := 87) dX12_question_87 k25 i26 ?_
    replace h := h _ rfl
    refine r_aload_n (pc := 88) (i := 0) dX12_question_88 rfl rfl ?_
    refine r_geti (pc := 89) flX12_298 dX12_question_89 (Or.inl rfl) k6 ?_
    refine r_if_eq (pc := 92) (tgt := 101) dX12_question_92 (by decide) (fun c28 => ?_) (fun c28 => ?_)
    · replace h := h.1 c28
      refine r_aload_n (pc := 101) (i := 0) dX12_question_101 rfl rfl ?_
      obtain ⟨b29, hb29, h⟩ := h
      refine r_getr (pc := 102) flX12_38 dX12_question_102 rfl k6 hb29 ?_
      refine r_iload_n (pc := 105) (i := 1) dX12_question_105 rfl rfl ?_
      refine r_aload_n (pc := 106) (i := 0) dX12_question_106 rfl rfl ?_
      obtain ⟨b30, hb30, h⟩ := h
      refine r_getr (pc := 107) flX12_119 dX12_question_107 rfl k6 hb30 ?_
      refine r_aload_n (pc := 110) (i := 0) dX12_question_110 rfl rfl ?_
      refine r_geti (pc := 111) flX12_343 dX12_question_111 (Or.inl rfl) k6 ?_
      refine r_iconst (pc := 114) (v := 1) dX12_question_114 (by decide) ?_
      refine r_isub (pc := 115) dX12_question_115 ?_
      obtain ⟨k31, h⟩ := h
      obtain ⟨i32, h⟩ := h
      refine r_iald (pc := 116) dX12_question_116 k31 i32 ?_
      obtain ⟨k33, h⟩ := h
      obtain ⟨i34, h⟩ := h
      refine r_iast (pc := 117) dX12_question_117 k33 i34 ?_
      replace h := h _ rfl
      refine r_iconst (pc := 118) (v := 0) dX12_question_118 (by decide) ?_
      refine r_istore_n (pc := 119) (i := 2) dX12_question_119 rfl rfl (Nat.le_of_ble_eq_true rfl) ?_
      exact h
    · replace h := h.2 c28
      refine r_aload_n (pc := 95) (i := 0) dX12_question_95 rfl rfl ?_
      refine r_iload_n (pc := 96) (i := 1) dX12_question_96 rfl rfl ?_
      refine r_callV (pc := 97) (ci := 12) (as := [_]) (st := []) okX12_done lkX12_250 inX12_done seX12_done ⟨_, rfl, rfl⟩ dX12_question_97 rfl k6 (Nat.le_of_ble_eq_true rfl) (Nat.zero_le _) (Nat.zero_le _) (Call.mono h (fun r36 M37 h => ?_))
      obtain ⟨v38, rfl, h⟩ := h
      exact r_iret (pc := 100) dX12_question_100 rfl h
  · replace h := h.2 c2
    refine r_aload_n (pc := 9) (i := 0) dX12_question_9 rfl rfl ?_
    refine r_iconst (pc := 10) (v := 0) dX12_question_10 (by decide) ?_
    refine r_puti (pc := 11) flX12_289 dX12_question_11 (Or.inl rfl) (fun q hq => by cases hq; rfl) k1 ?_
    replace h := h _ rfl
    refine r_aload_n (pc := 14) (i := 0) dX12_question_14 rfl rfl ?_
    refine r_iconst (pc := 15) (v := 2) dX12_question_15 (by decide) ?_
    refine r_callV (pc := 16) (ci := 12) (as := [_]) (st := []) okX12_refused lkX12_253 inX12_refused seX12_refused ⟨_, rfl, rfl⟩ dX12_question_16 rfl k1 (Nat.le_of_ble_eq_true rfl) (Nat.zero_le _) (Nat.zero_le _) (Call.mono h (fun r40 M41 h => ?_))
    obtain ⟨v42, rfl, h⟩ := h
    exact r_iret (pc := 19) dX12_question_19 rfl h
theorem vX12_question_120 {G : GG} {d rc rs : Nat} (p0 : Nat) (x1 : Int32) (x2 : Int32) (z3 : Option Value) (hz3 : c1 z3 = true) {M : Mem} {Q : Option Value → Mem → Prop} (h : (x_h M p0).1 = 28 ∧ ((x_i M p0 47) ≤ x2 → LX12_question_200 G d rc rs p0 x1 0 z3 M Q) ∧ (¬ (x_i M p0 47) ≤ x2 → ∃ b3, x_r M p0 48 = some b3 ∧ (x_h M b3).1 = 1 ∧ vp_in x2 (x_h M b3).2 ∧ (¬ (x_i M b3 x2.toNatClampNeg) = 1 → LX12_question_143 G d rc rs p0 x1 x2 z3 0 M Q) ∧ ((x_i M b3 x2.toNatClampNeg) = 1 → LX12_question_143 G d rc rs p0 x1 x2 z3 1 M Q))) : LX12_question_120 G d rc rs p0 x1 x2 z3 M Q := by
  show Wk G (d + 1) rc rs mX12_question 120 _ _ M Q
  refine r_iload_n (pc := 120) (i := 2) dX12_question_120 rfl rfl ?_
  refine r_aload_n (pc := 121) (i := 0) dX12_question_121 rfl rfl ?_
  obtain ⟨k1, h⟩ := h
  refine r_geti (pc := 122) flX12_343 dX12_question_122 (Or.inl rfl) k1 ?_
  refine r_icmp_ge (pc := 125) (tgt := 198) dX12_question_125 (by decide) (fun c2 => ?_) (fun c2 => ?_)
  · replace h := h.1 c2
    refine r_iconst (pc := 198) (v := 0) dX12_question_198 (by decide) ?_
    refine r_istore_n (pc := 199) (i := 2) dX12_question_199 rfl rfl (Nat.le_of_ble_eq_true rfl) ?_
    exact h
  · replace h := h.2 c2
    refine r_aload_n (pc := 128) (i := 0) dX12_question_128 rfl rfl ?_
    obtain ⟨b3, hb3, h⟩ := h
    refine r_getr (pc := 129) flX12_104 dX12_question_129 rfl k1 hb3 ?_
    refine r_iload_n (pc := 132) (i := 2) dX12_question_132 rfl rfl ?_
    obtain ⟨k4, h⟩ := h
    obtain ⟨i5, h⟩ := h
    refine r_iald (pc := 133) dX12_question_133 k4 i5 ?_
    refine r_iconst (pc := 134) (v := 1) dX12_question_134 (by decide) ?_
    refine r_icmp_ne (pc := 135) (tgt := 142) dX12_question_135 (by decide) (fun c6 => ?_) (fun c6 => ?_)
    · replace h := h.1 c6
      refine r_iconst (pc := 142) (v := 0) dX12_question_142 (by decide) ?_
      exact h
    · replace h := h.2 c6
      refine r_iconst (pc := 138) (v := 1) dX12_question_138 (by decide) ?_
      refine r_goto (pc := 139) (tgt := 143) dX12_question_139 (by decide) ?_
      exact h
theorem vX12_question_143 {G : GG} {d rc rs : Nat} (p0 : Nat) (x1 : Int32) (x2 : Int32) (z3 : Option Value) (u0 : Int32) (hz3 : c1 z3 = true) {M : Mem} {Q : Option Value → Mem → Prop} (h : (x_h M p0).1 = 28 ∧ (∃ b2, x_r M p0 13 = some b2 ∧ (x_h M b2).1 = 1 ∧ vp_in x1 (x_h M b2).2 ∧ (u0 = 0 → ∀ M6, M6 = x_si M b2 x1.toNatClampNeg ((x_i M b2 x1.toNatClampNeg) ||| 0) → LX12_question_120 G d rc rs p0 x1 (x2 + 1) (some (.int u0)) M6 Q) ∧ (¬ u0 = 0 → ∃ b7, x_r M p0 57 = some b7 ∧ (x_h M b7).1 = 1 ∧ vp_in x2 (x_h M b7).2 ∧ (∃ b10, x_r M p0 61 = some b10 ∧ (x_h M b10).1 = 1 ∧ vp_in x2 (x_h M b10).2 ∧ (¬ (x_i M b10 x2.toNatClampNeg) = (-1) → ∀ M14, M14 = x_si M b2 x1.toNatClampNeg ((x_i M b2 x1.toNatClampNeg) ||| ((1 <<< ((x_i M b7 x2.toNatClampNeg) &&& 31)) ||| (1 <<< ((x_i M b10 x2.toNatClampNeg) &&& 31)))) → LX12_question_120 G d rc rs p0 x1 (x2 + 1) (some (.int u0)) M14 Q) ∧ ((x_i M b10 x2.toNatClampNeg) = (-1) → ∀ M15, M15 = x_si M b2 x1.toNatClampNeg ((x_i M b2 x1.toNatClampNeg) ||| ((1 <<< ((x_i M b7 x2.toNatClampNeg) &&& 31)) ||| 0)) → LX12_question_120 G d rc rs p0 x1 (x2 + 1) (some (.int u0)) M15 Q))))) : LX12_question_143 G d rc rs p0 x1 x2 z3 u0 M Q := by
  show Wk G (d + 1) rc rs mX12_question 143 _ _ M Q
  refine r_istore_n (pc := 143) (i := 3) dX12_question_143 rfl rfl (Nat.le_of_ble_eq_true rfl) ?_
  refine r_aload_n (pc := 144) (i := 0) dX12_question_144 rfl rfl ?_
  obtain ⟨k1, h⟩ := h
  obtain ⟨b2, hb2, h⟩ := h
  refine r_getr (pc := 145) flX12_44 dX12_question_145 rfl k1 hb2 ?_
  refine r_iload_n (pc := 148) (i := 1) dX12_question_148 rfl rfl ?_
  refine r_dup2 (pc := 149) dX12_question_149 rfl rfl ?_
  obtain ⟨k3, h⟩ := h
  obtain ⟨i4, h⟩ := h
  refine r_iald (pc := 150) dX12_question_150 k3 i4 ?_
  refine r_iload_n (pc := 151) (i := 3) dX12_question_151 rfl rfl ?_
  refine r_if_eq (pc := 152) (tgt := 189) dX12_question_152 (by decide) (fun c5 => ?_) (fun c5 => ?_)
  · replace h := h.1 c5
    refine r_iconst (pc := 189) (v := 0) dX12_question_189 (by decide) ?_
    refine r_ior (pc := 190) dX12_question_190 ?_
    refine r_iast (pc := 191) dX12_question_191 k3 i4 ?_
    replace h := h _ rfl
    refine r_iinc (pc := 192) (i := 2) (v := _ + 1) dX12_question_192 rfl rfl rfl ?_
    refine r_goto (pc := 195) (tgt := 120) dX12_question_195 (by decide) ?_
    exact h
  · replace h := h.2 c5
    refine r_iconst (pc := 155) (v := 1) dX12_question_155 (by decide) ?_
    refine r_aload_n (pc := 156) (i := 0) dX12_question_156 rfl rfl ?_
    obtain ⟨b7, hb7, h⟩ := h
    refine r_getr (pc := 157) flX12_131 dX12_question_157 rfl k1 hb7 ?_
    refine r_iload_n (pc := 160) (i := 2) dX12_question_160 rfl rfl ?_
    obtain ⟨k8, h⟩ := h
    obtain ⟨i9, h⟩ := h
    refine r_iald (pc := 161) dX12_question_161 k8 i9 ?_
    refine r_ishl (pc := 162) dX12_question_162 ?_
    refine r_aload_n (pc := 163) (i := 0) dX12_question_163 rfl rfl ?_
    obtain ⟨b10, hb10, h⟩ := h
    refine r_getr (pc := 164) flX12_143 dX12_question_164 rfl k1 hb10 ?_
    refine r_iload_n (pc := 167) (i := 2) dX12_question_167 rfl rfl ?_
    obtain ⟨k11, h⟩ := h
    obtain ⟨i12, h⟩ := h
    refine r_iald (pc := 168) dX12_question_168 k11 i12 ?_
    refine r_iconst (pc := 169) (v := (-1)) dX12_question_169 (by decide) ?_
    refine r_icmp_ne (pc := 170) (tgt := 177) dX12_question_170 (by decide) (fun c13 => ?_) (fun c13 => ?_)
    · replace h := h.1 c13
      refine r_iconst (pc := 177) (v := 1) dX12_question_177 (by decide) ?_
      refine r_aload_n (pc := 178) (i := 0) dX12_question_178 rfl rfl ?_
      refine r_getr (pc := 179) flX12_143 dX12_question_179 rfl k1 hb10 ?_
      refine r_iload_n (pc := 182) (i := 2) dX12_question_182 rfl rfl ?_
      refine r_iald (pc := 183) dX12_question_183 k11 i12 ?_
      refine r_ishl (pc := 184) dX12_question_184 ?_
      refine r_ior (pc := 185) dX12_question_185 ?_
      refine r_goto (pc := 186) (tgt := 190) dX12_question_186 (by decide) ?_
      refine r_ior (pc := 190) dX12_question_190 ?_
      refine r_iast (pc := 191) dX12_question_191 k3 i4 ?_
      replace h := h _ rfl
      refine r_iinc (pc := 192) (i := 2) (v := _ + 1) dX12_question_192 rfl rfl rfl ?_
      refine r_goto (pc := 195) (tgt := 120) dX12_question_195 (by decide) ?_
      exact h
    · replace h := h.2 c13
      refine r_iconst (pc := 173) (v := 0) dX12_question_173 (by decide) ?_
      refine r_goto (pc := 174) (tgt := 185) dX12_question_174 (by decide) ?_
      refine r_ior (pc := 185) dX12_question_185 ?_
      refine r_goto (pc := 186) (tgt := 190) dX12_question_186 (by decide) ?_
      refine r_ior (pc := 190) dX12_question_190 ?_
      refine r_iast (pc := 191) dX12_question_191 k3 i4 ?_
      replace h := h _ rfl
      refine r_iinc (pc := 192) (i := 2) (v := _ + 1) dX12_question_192 rfl rfl rfl ?_
      refine r_goto (pc := 195) (tgt := 120) dX12_question_195 (by decide) ?_
      exact h
theorem vX12_question_200 {G : GG} {d rc rs : Nat} (p0 : Nat) (x1 : Int32) (x2 : Int32) (z3 : Option Value) (hz3 : c1 z3 = true) {M : Mem} {Q : Option Value → Mem → Prop} (h : (x_h M p0).1 = 28 ∧ ((x_i M p0 47) ≤ x2 → ∃ b3, x_r M p0 14 = some b3 ∧ ∃ b4, x_r M p0 73 = some b4 ∧ (x_h M b4).1 = 1 ∧ vp_in ((x_i M p0 47) - 1) (x_h M b4).2 ∧ (x_h M b3).1 = 1 ∧ vp_in x1 (x_h M b3).2 ∧ (∀ M9, M9 = x_si M b3 x1.toNatClampNeg (x_i M b4 ((x_i M p0 47) - 1).toNatClampNeg) → LX12_question_269 G d rc rs p0 x1 ((x_i M p0 47) - 1) 0 none M9 Q)) ∧ (¬ (x_i M p0 47) ≤ x2 → ∃ b10, x_r M p0 10 = some b10 ∧ (x_h M b10).1 = 1 ∧ vp_in x1 (x_h M b10).2 ∧ (¬ (x_i M b10 x1.toNatClampNeg) = (-1) → ∃ b14, x_r M p0 14 = some b14 ∧ ∃ b15, x_r M p0 73 = some b15 ∧ (x_h M b15).1 = 1 ∧ vp_in ((x_i M p0 47) - 1) (x_h M b15).2 ∧ (x_h M b14).1 = 1 ∧ vp_in x1 (x_h M b14).2 ∧ (∀ M20, M20 = x_si M b14 x1.toNatClampNeg (x_i M b15 ((x_i M p0 47) - 1).toNatClampNeg) → LX12_question_269 G d rc rs p0 x1 ((x_i M p0 47) - 1) 0 none M20 Q)) ∧ ((x_i M b10 x1.toNatClampNeg) = (-1) → Call G d 0 0 mX12_machineOf [.ref p0, .int x2] M (fun r21 M22 => ∃ v23 : Int32, r21 = some (.int v23) ∧ (v23 = 0 → (x_h M22 p0).1 = 28 ∧ (∃ b26, x_r M22 p0 52 = some b26 ∧ (x_h M22 b26).1 = 1 ∧ vp_in x2 (x_h M22 b26).2 ∧ (x_h M22 b10).1 = 1 ∧ vp_in x1 (x_h M22 b10).2 ∧ (∀ M31, M31 = x_si M22 b10 x1.toNatClampNeg (x_i M22 b26 x2.toNatClampNeg) → LX12_question_200 G d rc rs p0 x1 (x2 + 1) z3 M31 Q))) ∧ (¬ v23 = 0 → (x_h M22 b10).1 = 1 ∧ vp_in x1 (x_h M22 b10).2 ∧ (∀ M34, M34 = x_si M22 b10 x1.toNatClampNeg (-1) → LX12_question_200 G d rc rs p0 x1 (x2 + 1) z3 M34 Q)))))) : LX12_question_200 G d rc rs p0 x1 x2 z3 M Q := by
  show Wk G (d + 1) rc rs mX12_question 200 _ _ M Q
  refine r_iload_n (pc := 200) (i := 2) dX12_question_200 rfl rfl ?_
  refine r_aload_n (pc := 201) (i := 0) dX12_question_201 rfl rfl ?_
  obtain ⟨k1, h⟩ := h
  refine r_geti (pc := 202) flX12_343 dX12_question_202 (Or.inl rfl) k1 ?_
  refine r_icmp_ge (pc := 205) (tgt := 248) dX12_question_205 (by decide) (fun c2 => ?_) (fun c2 => ?_)
  · replace h := h.1 c2
    refine r_aload_n (pc := 248) (i := 0) dX12_question_248 rfl rfl ?_
    refine r_geti (pc := 249) flX12_343 dX12_question_249 (Or.inl rfl) k1 ?_
    refine r_iconst (pc := 252) (v := 1) dX12_question_252 (by decide) ?_
    refine r_isub (pc := 253) dX12_question_253 ?_
    refine r_istore_n (pc := 254) (i := 2) dX12_question_254 rfl rfl (Nat.le_of_ble_eq_true rfl) ?_
    refine r_aload_n (pc := 255) (i := 0) dX12_question_255 rfl rfl ?_
    obtain ⟨b3, hb3, h⟩ := h
    refine r_getr (pc := 256) flX12_47 dX12_question_256 rfl k1 hb3 ?_
    refine r_iload_n (pc := 259) (i := 1) dX12_question_259 rfl rfl ?_
    refine r_aload_n (pc := 260) (i := 0) dX12_question_260 rfl rfl ?_
    obtain ⟨b4, hb4, h⟩ := h
    refine r_getr (pc := 261) flX12_158 dX12_question_261 rfl k1 hb4 ?_
    refine r_iload_n (pc := 264) (i := 2) dX12_question_264 rfl rfl ?_
    obtain ⟨k5, h⟩ := h
    obtain ⟨i6, h⟩ := h
    refine r_iald (pc := 265) dX12_question_265 k5 i6 ?_
    obtain ⟨k7, h⟩ := h
    obtain ⟨i8, h⟩ := h
    refine r_iast (pc := 266) dX12_question_266 k7 i8 ?_
    replace h := h _ rfl
    refine r_iconst (pc := 267) (v := 0) dX12_question_267 (by decide) ?_
    refine r_istore_n (pc := 268) (i := 3) dX12_question_268 rfl rfl (Nat.le_of_ble_eq_true rfl) ?_
    exact h
  · replace h := h.2 c2
    refine r_aload_n (pc := 208) (i := 0) dX12_question_208 rfl rfl ?_
    obtain ⟨b10, hb10, h⟩ := h
    refine r_getr (pc := 209) flX12_35 dX12_question_209 rfl k1 hb10 ?_
    refine r_iload_n (pc := 212) (i := 1) dX12_question_212 rfl rfl ?_
    obtain ⟨k11, h⟩ := h
    obtain ⟨i12, h⟩ := h
    refine r_iald (pc := 213) dX12_question_213 k11 i12 ?_
    refine r_iconst (pc := 214) (v := (-1)) dX12_question_214 (by decide) ?_
    refine r_icmp_ne (pc := 215) (tgt := 248) dX12_question_215 (by decide) (fun c13 => ?_) (fun c13 => ?_)
    · replace h := h.1 c13
      refine r_aload_n (pc := 248) (i := 0) dX12_question_248 rfl rfl ?_
      refine r_geti (pc := 249) flX12_343 dX12_question_249 (Or.inl rfl) k1 ?_
      refine r_iconst (pc := 252) (v := 1) dX12_question_252 (by decide) ?_
      refine r_isub (pc := 253) dX12_question_253 ?_
      refine r_istore_n (pc := 254) (i := 2) dX12_question_254 rfl rfl (Nat.le_of_ble_eq_true rfl) ?_
      refine r_aload_n (pc := 255) (i := 0) dX12_question_255 rfl rfl ?_
      obtain ⟨b14, hb14, h⟩ := h
      refine r_getr (pc := 256) flX12_47 dX12_question_256 rfl k1 hb14 ?_
      refine r_iload_n (pc := 259) (i := 1) dX12_question_259 rfl rfl ?_
      refine r_aload_n (pc := 260) (i := 0) dX12_question_260 rfl rfl ?_
      obtain ⟨b15, hb15, h⟩ := h
      refine r_getr (pc := 261) flX12_158 dX12_question_261 rfl k1 hb15 ?_
      refine r_iload_n (pc := 264) (i := 2) dX12_question_264 rfl rfl ?_
      obtain ⟨k16, h⟩ := h
      obtain ⟨i17, h⟩ := h
      refine r_iald (pc := 265) dX12_question_265 k16 i17 ?_
      obtain ⟨k18, h⟩ := h
      obtain ⟨i19, h⟩ := h
      refine r_iast (pc := 266) dX12_question_266 k18 i19 ?_
      replace h := h _ rfl
      refine r_iconst (pc := 267) (v := 0) dX12_question_267 (by decide) ?_
      refine r_istore_n (pc := 268) (i := 3) dX12_question_268 rfl rfl (Nat.le_of_ble_eq_true rfl) ?_
      exact h
    · replace h := h.2 c13
      refine r_aload_n (pc := 218) (i := 0) dX12_question_218 rfl rfl ?_
      refine r_getr (pc := 219) flX12_35 dX12_question_219 rfl k1 hb10 ?_
      refine r_iload_n (pc := 222) (i := 1) dX12_question_222 rfl rfl ?_
      refine r_aload_n (pc := 223) (i := 0) dX12_question_223 rfl rfl ?_
      refine r_iload_n (pc := 224) (i := 2) dX12_question_224 rfl rfl ?_
      refine r_callV (pc := 225) (ci := 12) (as := [_]) (st := [_, _]) okX12_machineOf lkX12_475 inX12_machineOf seX12_machineOf ⟨_, rfl, rfl⟩ dX12_question_225 rfl k1 (Nat.le_of_ble_eq_true rfl) (Nat.zero_le _) (Nat.zero_le _) (Call.mono h (fun r21 M22 h => ?_))
      obtain ⟨v23, rfl, h⟩ := h
      refine r_if_eq (pc := 228) (tgt := 235) dX12_question_228 (by decide) (fun c24 => ?_) (fun c24 => ?_)
      · replace h := h.1 c24
        refine r_aload_n (pc := 235) (i := 0) dX12_question_235 rfl rfl ?_
        obtain ⟨k25, h⟩ := h
        obtain ⟨b26, hb26, h⟩ := h
        refine r_getr (pc := 236) flX12_116 dX12_question_236 rfl k25 hb26 ?_
        refine r_iload_n (pc := 239) (i := 2) dX12_question_239 rfl rfl ?_
        obtain ⟨k27, h⟩ := h
        obtain ⟨i28, h⟩ := h
        refine r_iald (pc := 240) dX12_question_240 k27 i28 ?_
        obtain ⟨k29, h⟩ := h
        obtain ⟨i30, h⟩ := h
        refine r_iast (pc := 241) dX12_question_241 k29 i30 ?_
        replace h := h _ rfl
        refine r_iinc (pc := 242) (i := 2) (v := _ + 1) dX12_question_242 rfl rfl rfl ?_
        refine r_goto (pc := 245) (tgt := 200) dX12_question_245 (by decide) ?_
        exact h
      · replace h := h.2 c24
        refine r_iconst (pc := 231) (v := (-1)) dX12_question_231 (by decide) ?_
        refine r_goto (pc := 232) (tgt := 241) dX12_question_232 (by decide) ?_
        obtain ⟨k32, h⟩ := h
        obtain ⟨i33, h⟩ := h
        refine r_iast (pc := 241) dX12_question_241 k32 i33 ?_
        replace h := h _ rfl
        refine r_iinc (pc := 242) (i := 2) (v := _ + 1) dX12_question_242 rfl rfl rfl ?_
        refine r_goto (pc := 245) (tgt := 200) dX12_question_245 (by decide) ?_
        exact h
theorem vX12_question_269 {G : GG} {d rc rs : Nat} (p0 : Nat) (x1 : Int32) (x2 : Int32) (x3 : Int32) (z4 : Option Value) (hz4 : c1 z4 = true) {M : Mem} {Q : Option Value → Mem → Prop} (h : (x_h M p0).1 = 28 ∧ (∃ b2, x_r M p0 73 = some b2 ∧ (x_h M b2).1 = 1 ∧ vp_in x2 (x_h M b2).2 ∧ ((x_i M b2 x2.toNatClampNeg) ≤ x3 → Call G d 0 0 mX12_done [.ref p0, .int x1] M (fun r6 M7 => ∃ v8 : Int32, r6 = some (.int v8) ∧ Q (some (.int v8)) M7)) ∧ (¬ (x_i M b2 x2.toNatClampNeg) ≤ x3 → ∃ b9, x_r M p0 10 = some b9 ∧ (x_h M b9).1 = 1 ∧ vp_in x1 (x_h M b9).2 ∧ (¬ (x_i M b9 x1.toNatClampNeg) = (-1) → Call G d 0 0 mX12_done [.ref p0, .int x1] M (fun r13 M14 => ∃ v15 : Int32, r13 = some (.int v15) ∧ Q (some (.int v15)) M14)) ∧ ((x_i M b9 x1.toNatClampNeg) = (-1) → ∃ b16, x_r M p0 16 = some b16 ∧ ∃ b17, x_r M p0 75 = some b17 ∧ (x_h M b17).1 = 3 ∧ vp_in ((40 * x2) + x3) (x_h M b17).2 ∧ (x_h M b16).1 = 3 ∧ vp_in ((40 * x1) + x3) (x_h M b16).2 ∧ ((x_i M b17 ((40 * x2) + x3).toNatClampNeg) = 0 ∨ (x_i M b17 ((40 * x2) + x3).toNatClampNeg) = 1) ∧ (∀ M22, M22 = x_si M b16 ((40 * x1) + x3).toNatClampNeg (x_i M b17 ((40 * x2) + x3).toNatClampNeg) → LX12_question_314 G d rc rs p0 x1 x2 x3 0 M22 Q))))) : LX12_question_269 G d rc rs p0 x1 x2 x3 z4 M Q := by
  show Wk G (d + 1) rc rs mX12_question 269 _ _ M Q
  refine r_iload_n (pc := 269) (i := 3) dX12_question_269 rfl rfl ?_
  refine r_aload_n (pc := 270) (i := 0) dX12_question_270 rfl rfl ?_
  obtain ⟨k1, h⟩ := h
  obtain ⟨b2, hb2, h⟩ := h
  refine r_getr (pc := 271) flX12_158 dX12_question_271 rfl k1 hb2 ?_
  refine r_iload_n (pc := 274) (i := 2) dX12_question_274 rfl rfl ?_
  obtain ⟨k3, h⟩ := h
  obtain ⟨i4, h⟩ := h
  refine r_iald (pc := 275) dX12_question_275 k3 i4 ?_
  refine r_icmp_ge (pc := 276) (tgt := 358) dX12_question_276 (by decide) (fun c5 => ?_) (fun c5 => ?_)
  · replace h := h.1 c5
    refine r_aload_n (pc := 358) (i := 0) dX12_question_358 rfl rfl ?_
    refine r_iload_n (pc := 359) (i := 1) dX12_question_359 rfl rfl ?_
    refine r_callV (pc := 360) (ci := 12) (as := [_]) (st := []) okX12_done lkX12_250 inX12_done seX12_done ⟨_, rfl, rfl⟩ dX12_question_360 rfl k1 (Nat.le_of_ble_eq_true rfl) (Nat.zero_le _) (Nat.zero_le _) (Call.mono h (fun r6 M7 h => ?_))
    obtain ⟨v8, rfl, h⟩ := h
    exact r_iret (pc := 363) dX12_question_363 rfl h
  · replace h := h.2 c5
    refine r_aload_n (pc := 279) (i := 0) dX12_question_279 rfl rfl ?_
    obtain ⟨b9, hb9, h⟩ := h
    refine r_getr (pc := 280) flX12_35 dX12_question_280 rfl k1 hb9 ?_
    refine r_iload_n (pc := 283) (i := 1) dX12_question_283 rfl rfl ?_
    obtain ⟨k10, h⟩ := h
    obtain ⟨i11, h⟩ := h
    refine r_iald (pc := 284) dX12_question_284 k10 i11 ?_
    refine r_iconst (pc := 285) (v := (-1)) dX12_question_285 (by decide) ?_
    refine r_icmp_ne (pc := 286) (tgt := 358) dX12_question_286 (by decide) (fun c12 => ?_) (fun c12 => ?_)
    · replace h := h.1 c12
      refine r_aload_n (pc := 358) (i := 0) dX12_question_358 rfl rfl ?_
      refine r_iload_n (pc := 359) (i := 1) dX12_question_359 rfl rfl ?_
      refine r_callV (pc := 360) (ci := 12) (as := [_]) (st := []) okX12_done lkX12_250 inX12_done seX12_done ⟨_, rfl, rfl⟩ dX12_question_360 rfl k1 (Nat.le_of_ble_eq_true rfl) (Nat.zero_le _) (Nat.zero_le _) (Call.mono h (fun r13 M14 h => ?_))
      obtain ⟨v15, rfl, h⟩ := h
      exact r_iret (pc := 363) dX12_question_363 rfl h
    · replace h := h.2 c12
      refine r_aload_n (pc := 289) (i := 0) dX12_question_289 rfl rfl ?_
      obtain ⟨b16, hb16, h⟩ := h
      refine r_getr (pc := 290) flX12_53 dX12_question_290 rfl k1 hb16 ?_
      refine r_bipush (pc := 293) (v := 40) dX12_question_293 (by decide) ?_
      refine r_iload_n (pc := 295) (i := 1) dX12_question_295 rfl rfl ?_
      refine r_imul (pc := 296) dX12_question_296 ?_
      refine r_iload_n (pc := 297) (i := 3) dX12_question_297 rfl rfl ?_
      refine r_iadd (pc := 298) dX12_question_298 ?_
      refine r_aload_n (pc := 299) (i := 0) dX12_question_299 rfl rfl ?_
      obtain ⟨b17, hb17, h⟩ := h
      refine r_getr (pc := 300) flX12_165 dX12_question_300 rfl k1 hb17 ?_
      refine r_bipush (pc := 303) (v := 40) dX12_question_303 (by decide) ?_
      refine r_iload_n (pc := 305) (i := 2) dX12_question_305 rfl rfl ?_
      refine r_imul (pc := 306) dX12_question_306 ?_
      refine r_iload_n (pc := 307) (i := 3) dX12_question_307 rfl rfl ?_
      refine r_iadd (pc := 308) dX12_question_308 ?_
      obtain ⟨k18, h⟩ := h
      obtain ⟨i19, h⟩ := h
      refine r_zald (pc := 309) dX12_question_309 k18 i19 ?_
      obtain ⟨k20, h⟩ := h
      obtain ⟨i21, h⟩ := h
      obtain ⟨w23, h⟩ := h
      refine r_zast (pc := 310) dX12_question_310 w23 k20 i21 ?_
      replace h := h _ rfl
      refine r_iconst (pc := 311) (v := 0) dX12_question_311 (by decide) ?_
      refine r_istore (pc := 312) (i := 4) dX12_question_312 rfl (Nat.le_of_ble_eq_true rfl) ?_
      exact h
theorem vX12_question_314 {G : GG} {d rc rs : Nat} (p0 : Nat) (x1 : Int32) (x2 : Int32) (x3 : Int32) (x4 : Int32)  {M : Mem} {Q : Option Value → Mem → Prop} (h : (27 ≤ x4 → LX12_question_269 G d rc rs p0 x1 x2 (x3 + 1) (some (.int x4)) M Q) ∧ (¬ 27 ≤ x4 → (x_h M p0).1 = 28 ∧ (∃ b3, x_r M p0 15 = some b3 ∧ Call G d 0 0 mX12_pTo [.ref p0, .int x2, .int x3, .int x4] M (fun r4 M5 => ∃ v6 : Int32, r4 = some (.int v6) ∧ (x_h M5 b3).1 = 1 ∧ vp_in ((27 * ((40 * x1) + x3)) + x4) (x_h M5 b3).2 ∧ (∀ M9, M9 = x_si M5 b3 ((27 * ((40 * x1) + x3)) + x4).toNatClampNeg v6 → LX12_question_314 G d rc rs p0 x1 x2 x3 (x4 + 1) M9 Q))))) : LX12_question_314 G d rc rs p0 x1 x2 x3 x4 M Q := by
  show Wk G (d + 1) rc rs mX12_question 314 _ _ M Q
  refine r_iload (pc := 314) (i := 4) dX12_question_314 rfl ?_
  refine r_bipush (pc := 316) (v := 27) dX12_question_316 (by decide) ?_
  refine r_icmp_ge (pc := 318) (tgt := 352) dX12_question_318 (by decide) (fun c1 => ?_) (fun c1 => ?_)
  · replace h := h.1 c1
    refine r_iinc (pc := 352) (i := 3) (v := _ + 1) dX12_question_352 rfl rfl rfl ?_
    refine r_goto (pc := 355) (tgt := 269) dX12_question_355 (by decide) ?_
    exact h
  · replace h := h.2 c1
    refine r_aload_n (pc := 321) (i := 0) dX12_question_321 rfl rfl ?_
    obtain ⟨k2, h⟩ := h
    obtain ⟨b3, hb3, h⟩ := h
    refine r_getr (pc := 322) flX12_50 dX12_question_322 rfl k2 hb3 ?_
    refine r_bipush (pc := 325) (v := 27) dX12_question_325 (by decide) ?_
    refine r_bipush (pc := 327) (v := 40) dX12_question_327 (by decide) ?_
    refine r_iload_n (pc := 329) (i := 1) dX12_question_329 rfl rfl ?_
    refine r_imul (pc := 330) dX12_question_330 ?_
    refine r_iload_n (pc := 331) (i := 3) dX12_question_331 rfl rfl ?_
    refine r_iadd (pc := 332) dX12_question_332 ?_
    refine r_imul (pc := 333) dX12_question_333 ?_
    refine r_iload (pc := 334) (i := 4) dX12_question_334 rfl ?_
    refine r_iadd (pc := 336) dX12_question_336 ?_
    refine r_aload_n (pc := 337) (i := 0) dX12_question_337 rfl rfl ?_
    refine r_iload_n (pc := 338) (i := 2) dX12_question_338 rfl rfl ?_
    refine r_iload_n (pc := 339) (i := 3) dX12_question_339 rfl rfl ?_
    refine r_iload (pc := 340) (i := 4) dX12_question_340 rfl ?_
    refine r_callV (pc := 342) (ci := 12) (as := [_, _, _]) (st := [_, _]) okX12_pTo lkX12_426 inX12_pTo seX12_pTo ⟨_, rfl, rfl⟩ dX12_question_342 rfl k2 (Nat.le_of_ble_eq_true rfl) (Nat.zero_le _) (Nat.zero_le _) (Call.mono h (fun r4 M5 h => ?_))
    obtain ⟨v6, rfl, h⟩ := h
    obtain ⟨k7, h⟩ := h
    obtain ⟨i8, h⟩ := h
    refine r_iast (pc := 345) dX12_question_345 k7 i8 ?_
    replace h := h _ rfl
    refine r_iinc (pc := 346) (i := 4) (v := _ + 1) dX12_question_346 rfl rfl rfl ?_
    refine r_goto (pc := 349) (tgt := 314) dX12_question_349 (by decide) ?_
    exact h
theorem eX12_count {G : GG} {d rc rs : Nat} (o : Nat) (a1 : Int32)  {M : Mem} {Q : Option Value → Mem → Prop} (h : (¬ a1 = 0 → (¬ a1 = 1 → (¬ a1 = 2 → (¬ a1 = 3 → (¬ a1 = 4 → Q (some (.int (-1))) M) ∧ (a1 = 4 → (x_h M o).1 = 28 ∧ Q (some (.int (x_i M o 24))) M)) ∧ (a1 = 3 → (x_h M o).1 = 28 ∧ Q (some (.int (x_i M o 0))) M)) ∧ (a1 = 2 → (x_h M o).1 = 28 ∧ Q (some (.int (x_i M o 18))) M)) ∧ (a1 = 1 → (x_h M o).1 = 28 ∧ Q (some (.int (x_i M o 7))) M)) ∧ (a1 = 0 → (x_h M o).1 = 28 ∧ Q (some (.int (x_i M o 1))) M)) : Call G (d + 1) rc rs mX12_count [.ref o, .int a1] M Q := by
  refine call_of (by decide) (Nat.le_of_ble_eq_true rfl) ?_
  show Wk G (d + 1) rc rs mX12_count 0 [some (.ref o), some (.int a1)] [] M Q
  refine r_iload_n (pc := 0) (i := 1) dX12_count_0 rfl rfl ?_
  refine r_if_ne (pc := 1) (tgt := 11) dX12_count_1 (by decide) (fun c1 => ?_) (fun c1 => ?_)
  · replace h := h.1 c1
    refine r_iload_n (pc := 11) (i := 1) dX12_count_11 rfl rfl ?_
    refine r_iconst (pc := 12) (v := 1) dX12_count_12 (by decide) ?_
    refine r_icmp_ne (pc := 13) (tgt := 23) dX12_count_13 (by decide) (fun c2 => ?_) (fun c2 => ?_)
    · replace h := h.1 c2
      refine r_iload_n (pc := 23) (i := 1) dX12_count_23 rfl rfl ?_
      refine r_iconst (pc := 24) (v := 2) dX12_count_24 (by decide) ?_
      refine r_icmp_ne (pc := 25) (tgt := 35) dX12_count_25 (by decide) (fun c3 => ?_) (fun c3 => ?_)
      · replace h := h.1 c3
        refine r_iload_n (pc := 35) (i := 1) dX12_count_35 rfl rfl ?_
        refine r_iconst (pc := 36) (v := 3) dX12_count_36 (by decide) ?_
        refine r_icmp_ne (pc := 37) (tgt := 47) dX12_count_37 (by decide) (fun c4 => ?_) (fun c4 => ?_)
        · replace h := h.1 c4
          refine r_iload_n (pc := 47) (i := 1) dX12_count_47 rfl rfl ?_
          refine r_iconst (pc := 48) (v := 4) dX12_count_48 (by decide) ?_
          refine r_icmp_ne (pc := 49) (tgt := 59) dX12_count_49 (by decide) (fun c5 => ?_) (fun c5 => ?_)
          · replace h := h.1 c5
            refine r_iconst (pc := 59) (v := (-1)) dX12_count_59 (by decide) ?_
            exact r_iret (pc := 60) dX12_count_60 rfl h
          · replace h := h.2 c5
            refine r_aload_n (pc := 52) (i := 0) dX12_count_52 rfl rfl ?_
            obtain ⟨k6, h⟩ := h
            refine r_geti (pc := 53) flX12_478 dX12_count_53 (Or.inl rfl) k6 ?_
            refine r_goto (pc := 56) (tgt := 60) dX12_count_56 (by decide) ?_
            exact r_iret (pc := 60) dX12_count_60 rfl h
        · replace h := h.2 c4
          refine r_aload_n (pc := 40) (i := 0) dX12_count_40 rfl rfl ?_
          obtain ⟨k7, h⟩ := h
          refine r_geti (pc := 41) flX12_7 dX12_count_41 (Or.inl rfl) k7 ?_
          refine r_goto (pc := 44) (tgt := 60) dX12_count_44 (by decide) ?_
          exact r_iret (pc := 60) dX12_count_60 rfl h
      · replace h := h.2 c3
        refine r_aload_n (pc := 28) (i := 0) dX12_count_28 rfl rfl ?_
        obtain ⟨k8, h⟩ := h
        refine r_geti (pc := 29) flX12_289 dX12_count_29 (Or.inl rfl) k8 ?_
        refine r_goto (pc := 32) (tgt := 60) dX12_count_32 (by decide) ?_
        exact r_iret (pc := 60) dX12_count_60 rfl h
    · replace h := h.2 c2
      refine r_aload_n (pc := 16) (i := 0) dX12_count_16 rfl rfl ?_
      obtain ⟨k9, h⟩ := h
      refine r_geti (pc := 17) flX12_256 dX12_count_17 (Or.inl rfl) k9 ?_
      refine r_goto (pc := 20) (tgt := 60) dX12_count_20 (by decide) ?_
      exact r_iret (pc := 60) dX12_count_60 rfl h
  · replace h := h.2 c1
    refine r_aload_n (pc := 4) (i := 0) dX12_count_4 rfl rfl ?_
    obtain ⟨k10, h⟩ := h
    refine r_geti (pc := 5) flX12_215 dX12_count_5 (Or.inl rfl) k10 ?_
    refine r_goto (pc := 8) (tgt := 60) dX12_count_8 (by decide) ?_
    exact r_iret (pc := 60) dX12_count_60 rfl h
theorem eX12_kind {G : GG} {d rc rs : Nat} (o : Nat) (a1 : Int32)  {M : Mem} {Q : Option Value → Mem → Prop} (h : (x_h M o).1 = 28 ∧ Call G d 0 0 mX12_isRow [.ref o, .int a1] M (fun r2 M3 => ∃ v4 : Int32, r2 = some (.int v4) ∧ (v4 = 0 → Q (some (.int (-1))) M3) ∧ (¬ v4 = 0 → (x_h M3 o).1 = 28 ∧ (∃ b7, x_r M3 o 2 = some b7 ∧ (x_h M3 b7).1 = 1 ∧ vp_in a1 (x_h M3 b7).2 ∧ Q (some (.int (x_i M3 b7 a1.toNatClampNeg))) M3)))) : Call G (d + 1) rc rs mX12_kind [.ref o, .int a1] M Q := by
  refine call_of (by decide) (Nat.le_of_ble_eq_true rfl) ?_
  show Wk G (d + 1) rc rs mX12_kind 0 [some (.ref o), some (.int a1)] [] M Q
  refine r_aload_n (pc := 0) (i := 0) dX12_kind_0 rfl rfl ?_
  refine r_iload_n (pc := 1) (i := 1) dX12_kind_1 rfl rfl ?_
  obtain ⟨k1, h⟩ := h
  refine r_callV (pc := 2) (ci := 12) (as := [_]) (st := []) okX12_isRow lkX12_275 inX12_isRow seX12_isRow ⟨_, rfl, rfl⟩ dX12_kind_2 rfl k1 (Nat.le_of_ble_eq_true rfl) (Nat.zero_le _) (Nat.zero_le _) (Call.mono h (fun r2 M3 h => ?_))
  obtain ⟨v4, rfl, h⟩ := h
  refine r_if_eq (pc := 5) (tgt := 17) dX12_kind_5 (by decide) (fun c5 => ?_) (fun c5 => ?_)
  · replace h := h.1 c5
    refine r_iconst (pc := 17) (v := (-1)) dX12_kind_17 (by decide) ?_
    exact r_iret (pc := 18) dX12_kind_18 rfl h
  · replace h := h.2 c5
    refine r_aload_n (pc := 8) (i := 0) dX12_kind_8 rfl rfl ?_
    obtain ⟨k6, h⟩ := h
    obtain ⟨b7, hb7, h⟩ := h
    refine r_getr (pc := 9) flX12_13 dX12_kind_9 rfl k6 hb7 ?_
    refine r_iload_n (pc := 12) (i := 1) dX12_kind_12 rfl rfl ?_
    obtain ⟨k8, h⟩ := h
    obtain ⟨i9, h⟩ := h
    refine r_iald (pc := 13) dX12_kind_13 k8 i9 ?_
    refine r_goto (pc := 14) (tgt := 18) dX12_kind_14 (by decide) ?_
    exact r_iret (pc := 18) dX12_kind_18 rfl h
abbrev LX12_digitsOf_9 (G : GG) (d rc rs : Nat) (p0 : Nat) (x1 : Int32) (l2 : Int64) (x4 : Int32) (l5 : Int64) (x7 : Int32) (M : Mem) (Q : Option Value → Mem → Prop) : Prop := Wk G (d + 1) rc rs mX12_digitsOf 9 [some (.ref p0), some (.int x1), some (.long l2), none, some (.int x4), some (.long l5), none, some (.int x7)] [] M Q
theorem eX12_digitsOf {G : GG} {d rc rs : Nat} (o : Nat) (a1 : Int32) (a2 : Int64) (a3 : Int32)  {M : Mem} {Q : Option Value → Mem → Prop} (h : LX12_digitsOf_9 G d rc rs o a1 a2 a3 a2 (a3 - 1) M Q) : Call G (d + 1) rc rs mX12_digitsOf [.ref o, .int a1, .long a2, .int a3] M Q := by
  refine call_of (by decide) (Nat.le_of_ble_eq_true rfl) ?_
  show Wk G (d + 1) rc rs mX12_digitsOf 0 [some (.ref o), some (.int a1), some (.long a2), none, some (.int a3), none, none, none] [] M Q
  refine r_lload_n (pc := 0) (i := 2) dX12_digitsOf_0 rfl rfl ?_
  refine r_lstore (pc := 1) (i := 5) dX12_digitsOf_1 rfl (Nat.le_of_ble_eq_true rfl) ?_
  refine r_iload (pc := 3) (i := 4) dX12_digitsOf_3 rfl ?_
  refine r_iconst (pc := 5) (v := 1) dX12_digitsOf_5 (by decide) ?_
  refine r_isub (pc := 6) dX12_digitsOf_6 ?_
  refine r_istore (pc := 7) (i := 7) dX12_digitsOf_7 rfl (Nat.le_of_ble_eq_true rfl) ?_
  exact h
theorem vX12_digitsOf_9 {G : GG} {d rc rs : Nat} (p0 : Nat) (x1 : Int32) (l2 : Int64) (x4 : Int32) (l5 : Int64) (x7 : Int32)  {M : Mem} {Q : Option Value → Mem → Prop} (h : (x7 < 0 → Q none M) ∧ (¬ x7 < 0 → (x_h M p0).1 = 28 ∧ (∃ b3, x_r M p0 85 = some b3 ∧ ¬ ((x_i M p0 0).toInt64) = 0 ∧ (x_h M b3).1 = 1 ∧ vp_in ((110 * x1) + x7) (x_h M b3).2 ∧ (∀ M7, M7 = x_si M b3 ((110 * x1) + x7).toNatClampNeg ((l5 - l5 / ((x_i M p0 0).toInt64) * ((x_i M p0 0).toInt64)).toInt32) → ¬ ((x_i M7 p0 0).toInt64) = 0 ∧ LX12_digitsOf_9 G d rc rs p0 x1 l2 x4 (l5 / ((x_i M7 p0 0).toInt64)) (x7 + (-1)) M7 Q)))) : LX12_digitsOf_9 G d rc rs p0 x1 l2 x4 l5 x7 M Q := by
  show Wk G (d + 1) rc rs mX12_digitsOf 9 _ _ M Q
  refine r_iload (pc := 9) (i := 7) dX12_digitsOf_9 rfl ?_
  refine r_if_lt (pc := 11) (tgt := 51) dX12_digitsOf_11 (by decide) (fun c1 => ?_) (fun c1 => ?_)
  · replace h := h.1 c1
    exact r_vret (pc := 51) dX12_digitsOf_51 rfl h
  · replace h := h.2 c1
    refine r_aload_n (pc := 14) (i := 0) dX12_digitsOf_14 rfl rfl ?_
    obtain ⟨k2, h⟩ := h
    obtain ⟨b3, hb3, h⟩ := h
    refine r_getr (pc := 15) flX12_191 dX12_digitsOf_15 rfl k2 hb3 ?_
    refine r_bipush (pc := 18) (v := 110) dX12_digitsOf_18 (by decide) ?_
    refine r_iload_n (pc := 20) (i := 1) dX12_digitsOf_20 rfl rfl ?_
    refine r_imul (pc := 21) dX12_digitsOf_21 ?_
    refine r_iload (pc := 22) (i := 7) dX12_digitsOf_22 rfl ?_
    refine r_iadd (pc := 24) dX12_digitsOf_24 ?_
    refine r_lload (pc := 25) (i := 5) dX12_digitsOf_25 rfl ?_
    refine r_aload_n (pc := 27) (i := 0) dX12_digitsOf_27 rfl rfl ?_
    refine r_geti (pc := 28) flX12_7 dX12_digitsOf_28 (Or.inl rfl) k2 ?_
    refine r_i2l (pc := 31) dX12_digitsOf_31 ?_
    obtain ⟨n4, h⟩ := h
    refine r_lrem (pc := 32) dX12_digitsOf_32 n4 ?_
    refine r_l2i (pc := 33) dX12_digitsOf_33 ?_
    obtain ⟨k5, h⟩ := h
    obtain ⟨i6, h⟩ := h
    refine r_iast (pc := 34) dX12_digitsOf_34 k5 i6 ?_
    replace h := h _ rfl
    refine r_lload (pc := 35) (i := 5) dX12_digitsOf_35 rfl ?_
    refine r_aload_n (pc := 37) (i := 0) dX12_digitsOf_37 rfl rfl ?_
    refine r_geti (pc := 38) flX12_7 dX12_digitsOf_38 (Or.inl rfl) k2 ?_
    refine r_i2l (pc := 41) dX12_digitsOf_41 ?_
    obtain ⟨n8, h⟩ := h
    refine r_ldiv (pc := 42) dX12_digitsOf_42 n8 ?_
    refine r_lstore (pc := 43) (i := 5) dX12_digitsOf_43 rfl (Nat.le_of_ble_eq_true rfl) ?_
    refine r_iinc (pc := 45) (i := 7) (v := _ + (-1)) dX12_digitsOf_45 rfl rfl rfl ?_
    refine r_goto (pc := 48) (tgt := 9) dX12_digitsOf_48 (by decide) ?_
    exact h
theorem eX12_isOutside {G : GG} {d rc rs : Nat} (a1 : Int64) (a2 : Int64) (a3 : Int64)  {M : Mem} {Q : Option Value → Mem → Prop} (h : ((lg_cmp a1 a2) < 0 → Q (some (.int 1)) M) ∧ (¬ (lg_cmp a1 a2) < 0 → ((lg_cmp a1 a3) ≤ 0 → Q (some (.int 0)) M) ∧ (¬ (lg_cmp a1 a3) ≤ 0 → Q (some (.int 1)) M))) : Call G (d + 1) rc rs mX12_isOutside [.long a1, .long a2, .long a3] M Q := by
  refine call_of (by decide) (Nat.le_of_ble_eq_true rfl) ?_
  show Wk G (d + 1) rc rs mX12_isOutside 0 [some (.long a1), none, some (.long a2), none, some (.long a3), none] [] M Q
  refine r_lload_n (pc := 0) (i := 0) dX12_isOutside_0 rfl rfl ?_
  refine r_lload_n (pc := 1) (i := 2) dX12_isOutside_1 rfl rfl ?_
  refine r_lcmp (pc := 2) dX12_isOutside_2 ?_
  refine r_if_lt (pc := 3) (tgt := 13) dX12_isOutside_3 (by decide) (fun c1 => ?_) (fun c1 => ?_)
  · replace h := h.1 c1
    refine r_iconst (pc := 13) (v := 1) dX12_isOutside_13 (by decide) ?_
    refine r_goto (pc := 14) (tgt := 18) dX12_isOutside_14 (by decide) ?_
    exact r_zret (pc := 18) dX12_isOutside_18 rfl (Or.inr rfl) h
  · replace h := h.2 c1
    refine r_lload_n (pc := 6) (i := 0) dX12_isOutside_6 rfl rfl ?_
    refine r_lload (pc := 7) (i := 4) dX12_isOutside_7 rfl ?_
    refine r_lcmp (pc := 9) dX12_isOutside_9 ?_
    refine r_if_le (pc := 10) (tgt := 17) dX12_isOutside_10 (by decide) (fun c2 => ?_) (fun c2 => ?_)
    · replace h := h.1 c2
      refine r_iconst (pc := 17) (v := 0) dX12_isOutside_17 (by decide) ?_
      exact r_zret (pc := 18) dX12_isOutside_18 rfl (Or.inl rfl) h
    · replace h := h.2 c2
      refine r_iconst (pc := 13) (v := 1) dX12_isOutside_13 (by decide) ?_
      refine r_goto (pc := 14) (tgt := 18) dX12_isOutside_14 (by decide) ?_
      exact r_zret (pc := 18) dX12_isOutside_18 rfl (Or.inr rfl) h
abbrev LX12_letter_35 (G : GG) (d rc rs : Nat) (p0 : Nat) (x1 : Int32) (l2 : Int64) (x4 : Int32) (x5 : Int32) (M : Mem) (Q : Option Value → Mem → Prop) : Prop := Wk G (d + 1) rc rs mX12_letter 35 [some (.ref p0), some (.int x1), some (.long l2), none, some (.int x4), some (.int x5)] [] M Q
theorem eX12_letter {G : GG} {d rc rs : Nat} (o : Nat) (a1 : Int32) (a2 : Int64)  {M : Mem} {Q : Option Value → Mem → Prop} (h : (x_h M o).1 = 28 ∧ Call G d 0 0 mX12_isRow [.ref o, .int a1] M (fun r2 M3 => ∃ v4 : Int32, r2 = some (.int v4) ∧ (v4 = 0 → Q (some (.int (-1))) M3) ∧ (¬ v4 = 0 → Call G d 0 0 mX12_isOutside [.long a2, .long 0, .long 4611686018427387904] M3 (fun r6 M7 => ∃ v8 : Int32, r6 = some (.int v8) ∧ (v8 = 0 → (x_h M7 o).1 = 28 ∧ Call G d 0 0 mX12_digitsOf [.ref o, .int 0, .long a2, .int 64] M7 (fun r11 M12 => r11 = none ∧ LX12_letter_35 G d rc rs o a1 a2 0 0 M12 Q)) ∧ (¬ v8 = 0 → Q (some (.int (-1))) M7))))) : Call G (d + 1) rc rs mX12_letter [.ref o, .int a1, .long a2] M Q := by
  refine call_of (by decide) (Nat.le_of_ble_eq_true rfl) ?_
  show Wk G (d + 1) rc rs mX12_letter 0 [some (.ref o), some (.int a1), some (.long a2), none, none, none] [] M Q
  refine r_aload_n (pc := 0) (i := 0) dX12_letter_0 rfl rfl ?_
  refine r_iload_n (pc := 1) (i := 1) dX12_letter_1 rfl rfl ?_
  obtain ⟨k1, h⟩ := h
  refine r_callV (pc := 2) (ci := 12) (as := [_]) (st := []) okX12_isRow lkX12_275 inX12_isRow seX12_isRow ⟨_, rfl, rfl⟩ dX12_letter_2 rfl k1 (Nat.le_of_ble_eq_true rfl) (Nat.zero_le _) (Nat.zero_le _) (Call.mono h (fun r2 M3 h => ?_))
  obtain ⟨v4, rfl, h⟩ := h
  refine r_if_eq (pc := 5) (tgt := 19) dX12_letter_5 (by decide) (fun c5 => ?_) (fun c5 => ?_)
  · replace h := h.1 c5
    refine r_iconst (pc := 19) (v := (-1)) dX12_letter_19 (by decide) ?_
    exact r_iret (pc := 20) dX12_letter_20 rfl h
  · replace h := h.2 c5
    refine r_lload_n (pc := 8) (i := 2) dX12_letter_8 rfl rfl ?_
    refine r_lconst (pc := 9) (v := 0) dX12_letter_9 (by decide) ?_
    refine r_ldc2 (pc := 10) (v := 4611686018427387904) dX12_letter_10 ww_1761 ?_
    refine r_callS (pc := 13) (as := [_, _, _]) (st := []) okX12_isOutside lkX12_483 stX12_isOutside dX12_letter_13 rfl (Nat.le_of_ble_eq_true rfl) (Nat.zero_le _) (Nat.zero_le _) (Call.mono h (fun r6 M7 h => ?_))
    obtain ⟨v8, rfl, h⟩ := h
    refine r_if_eq (pc := 16) (tgt := 21) dX12_letter_16 (by decide) (fun c9 => ?_) (fun c9 => ?_)
    · replace h := h.1 c9
      refine r_aload_n (pc := 21) (i := 0) dX12_letter_21 rfl rfl ?_
      refine r_iconst (pc := 22) (v := 0) dX12_letter_22 (by decide) ?_
      refine r_lload_n (pc := 23) (i := 2) dX12_letter_23 rfl rfl ?_
      refine r_bipush (pc := 24) (v := 64) dX12_letter_24 (by decide) ?_
      obtain ⟨k10, h⟩ := h
      refine r_callV (pc := 26) (ci := 12) (as := [_, _, _]) (st := []) okX12_digitsOf lkX12_487 inX12_digitsOf seX12_digitsOf ⟨_, rfl, rfl⟩ dX12_letter_26 rfl k10 (Nat.le_of_ble_eq_true rfl) (Nat.zero_le _) (Nat.zero_le _) (Call.mono h (fun r11 M12 h => ?_))
      obtain ⟨rfl, h⟩ := h
      refine r_iconst (pc := 29) (v := 0) dX12_letter_29 (by decide) ?_
      refine r_istore (pc := 30) (i := 4) dX12_letter_30 rfl (Nat.le_of_ble_eq_true rfl) ?_
      refine r_iconst (pc := 32) (v := 0) dX12_letter_32 (by decide) ?_
      refine r_istore (pc := 33) (i := 5) dX12_letter_33 rfl (Nat.le_of_ble_eq_true rfl) ?_
      exact h
    · replace h := h.2 c9
      refine r_iconst (pc := 19) (v := (-1)) dX12_letter_19 (by decide) ?_
      exact r_iret (pc := 20) dX12_letter_20 rfl h
theorem vX12_letter_35 {G : GG} {d rc rs : Nat} (p0 : Nat) (x1 : Int32) (l2 : Int64) (x4 : Int32) (x5 : Int32)  {M : Mem} {Q : Option Value → Mem → Prop} (h : (64 ≤ x5 → (x_h M p0).1 = 28 ∧ (∃ b3, x_r M p0 5 = some b3 ∧ (x_h M b3).1 = 1 ∧ vp_in ((60 * x1) + x4) (x_h M b3).2 ∧ Q (some (.int (x_i M b3 ((60 * x1) + x4).toNatClampNeg))) M)) ∧ (¬ 64 ≤ x5 → (x_h M p0).1 = 28 ∧ (∃ b7, x_r M p0 85 = some b7 ∧ (x_h M b7).1 = 1 ∧ vp_in x5 (x_h M b7).2 ∧ Call G d 0 0 mX12_rowTo [.ref p0, .int x1, .int x4, .int (x_i M b7 x5.toNatClampNeg)] M (fun r10 M11 => ∃ v12 : Int32, r10 = some (.int v12) ∧ LX12_letter_35 G d rc rs p0 x1 l2 v12 (x5 + 1) M11 Q)))) : LX12_letter_35 G d rc rs p0 x1 l2 x4 x5 M Q := by
  show Wk G (d + 1) rc rs mX12_letter 35 _ _ M Q
  refine r_iload (pc := 35) (i := 5) dX12_letter_35 rfl ?_
  refine r_bipush (pc := 37) (v := 64) dX12_letter_37 (by decide) ?_
  refine r_icmp_ge (pc := 39) (tgt := 64) dX12_letter_39 (by decide) (fun c1 => ?_) (fun c1 => ?_)
  · replace h := h.1 c1
    refine r_aload_n (pc := 64) (i := 0) dX12_letter_64 rfl rfl ?_
    obtain ⟨k2, h⟩ := h
    obtain ⟨b3, hb3, h⟩ := h
    refine r_getr (pc := 65) flX12_23 dX12_letter_65 rfl k2 hb3 ?_
    refine r_bipush (pc := 68) (v := 60) dX12_letter_68 (by decide) ?_
    refine r_iload_n (pc := 70) (i := 1) dX12_letter_70 rfl rfl ?_
    refine r_imul (pc := 71) dX12_letter_71 ?_
    refine r_iload (pc := 72) (i := 4) dX12_letter_72 rfl ?_
    refine r_iadd (pc := 74) dX12_letter_74 ?_
    obtain ⟨k4, h⟩ := h
    obtain ⟨i5, h⟩ := h
    refine r_iald (pc := 75) dX12_letter_75 k4 i5 ?_
    exact r_iret (pc := 76) dX12_letter_76 rfl h
  · replace h := h.2 c1
    refine r_aload_n (pc := 42) (i := 0) dX12_letter_42 rfl rfl ?_
    refine r_iload_n (pc := 43) (i := 1) dX12_letter_43 rfl rfl ?_
    refine r_iload (pc := 44) (i := 4) dX12_letter_44 rfl ?_
    refine r_aload_n (pc := 46) (i := 0) dX12_letter_46 rfl rfl ?_
    obtain ⟨k6, h⟩ := h
    obtain ⟨b7, hb7, h⟩ := h
    refine r_getr (pc := 47) flX12_191 dX12_letter_47 rfl k6 hb7 ?_
    refine r_iload (pc := 50) (i := 5) dX12_letter_50 rfl ?_
    obtain ⟨k8, h⟩ := h
    obtain ⟨i9, h⟩ := h
    refine r_iald (pc := 52) dX12_letter_52 k8 i9 ?_
    refine r_callV (pc := 53) (ci := 12) (as := [_, _, _]) (st := []) okX12_rowTo lkX12_282 inX12_rowTo seX12_rowTo ⟨_, rfl, rfl⟩ dX12_letter_53 rfl k6 (Nat.le_of_ble_eq_true rfl) (Nat.zero_le _) (Nat.zero_le _) (Call.mono h (fun r10 M11 h => ?_))
    obtain ⟨v12, rfl, h⟩ := h
    refine r_istore (pc := 56) (i := 4) dX12_letter_56 rfl (Nat.le_of_ble_eq_true rfl) ?_
    refine r_iinc (pc := 58) (i := 5) (v := _ + 1) dX12_letter_58 rfl rfl rfl ?_
    refine r_goto (pc := 61) (tgt := 35) dX12_letter_61 (by decide) ?_
    exact h
theorem eX12_width {G : GG} {d rc rs : Nat} (o : Nat) (a1 : Int32)  {M : Mem} {Q : Option Value → Mem → Prop} (h : (x_h M o).1 = 28 ∧ Call G d 0 0 mX12_isRow [.ref o, .int a1] M (fun r2 M3 => ∃ v4 : Int32, r2 = some (.int v4) ∧ (v4 = 0 → Q (some (.int (-1))) M3) ∧ (¬ v4 = 0 → (x_h M3 o).1 = 28 ∧ (∃ b7, x_r M3 o 3 = some b7 ∧ (x_h M3 b7).1 = 1 ∧ vp_in a1 (x_h M3 b7).2 ∧ Q (some (.int (x_i M3 b7 a1.toNatClampNeg))) M3)))) : Call G (d + 1) rc rs mX12_width [.ref o, .int a1] M Q := by
  refine call_of (by decide) (Nat.le_of_ble_eq_true rfl) ?_
  show Wk G (d + 1) rc rs mX12_width 0 [some (.ref o), some (.int a1)] [] M Q
  refine r_aload_n (pc := 0) (i := 0) dX12_width_0 rfl rfl ?_
  refine r_iload_n (pc := 1) (i := 1) dX12_width_1 rfl rfl ?_
  obtain ⟨k1, h⟩ := h
  refine r_callV (pc := 2) (ci := 12) (as := [_]) (st := []) okX12_isRow lkX12_275 inX12_isRow seX12_isRow ⟨_, rfl, rfl⟩ dX12_width_2 rfl k1 (Nat.le_of_ble_eq_true rfl) (Nat.zero_le _) (Nat.zero_le _) (Call.mono h (fun r2 M3 h => ?_))
  obtain ⟨v4, rfl, h⟩ := h
  refine r_if_eq (pc := 5) (tgt := 17) dX12_width_5 (by decide) (fun c5 => ?_) (fun c5 => ?_)
  · replace h := h.1 c5
    refine r_iconst (pc := 17) (v := (-1)) dX12_width_17 (by decide) ?_
    exact r_iret (pc := 18) dX12_width_18 rfl h
  · replace h := h.2 c5
    refine r_aload_n (pc := 8) (i := 0) dX12_width_8 rfl rfl ?_
    obtain ⟨k6, h⟩ := h
    obtain ⟨b7, hb7, h⟩ := h
    refine r_getr (pc := 9) flX12_17 dX12_width_9 rfl k6 hb7 ?_
    refine r_iload_n (pc := 12) (i := 1) dX12_width_12 rfl rfl ?_
    obtain ⟨k8, h⟩ := h
    obtain ⟨i9, h⟩ := h
    refine r_iald (pc := 13) dX12_width_13 k8 i9 ?_
    refine r_goto (pc := 14) (tgt := 18) dX12_width_14 (by decide) ?_
    exact r_iret (pc := 18) dX12_width_18 rfl h
theorem eX12_longer {G : GG} {d rc rs : Nat} (o : Nat) (a1 : Int64) (a2 : Int32)  {M : Mem} {Q : Option Value → Mem → Prop} (h : (x_h M o).1 = 28 ∧ ¬ ((x_i M o 0).toInt64) = 0 ∧ ((lg_cmp a1 ((4611686018427387904 - a2.toInt64) / ((x_i M o 0).toInt64))) ≤ 0 → Q (some (.long ((((x_i M o 0).toInt64) * a1) + a2.toInt64))) M) ∧ (¬ (lg_cmp a1 ((4611686018427387904 - a2.toInt64) / ((x_i M o 0).toInt64))) ≤ 0 → Q (some (.long 4611686018427387905)) M)) : Call G (d + 1) rc rs mX12_longer [.ref o, .long a1, .int a2] M Q := by
  refine call_of (by decide) (Nat.le_of_ble_eq_true rfl) ?_
  show Wk G (d + 1) rc rs mX12_longer 0 [some (.ref o), some (.long a1), none, some (.int a2)] [] M Q
  refine r_lload_n (pc := 0) (i := 1) dX12_longer_0 rfl rfl ?_
  refine r_ldc2 (pc := 1) (v := 4611686018427387904) dX12_longer_1 ww_1761 ?_
  refine r_iload_n (pc := 4) (i := 3) dX12_longer_4 rfl rfl ?_
  refine r_i2l (pc := 5) dX12_longer_5 ?_
  refine r_lsub (pc := 6) dX12_longer_6 ?_
  refine r_aload_n (pc := 7) (i := 0) dX12_longer_7 rfl rfl ?_
  obtain ⟨k1, h⟩ := h
  refine r_geti (pc := 8) flX12_7 dX12_longer_8 (Or.inl rfl) k1 ?_
  refine r_i2l (pc := 11) dX12_longer_11 ?_
  obtain ⟨n2, h⟩ := h
  refine r_ldiv (pc := 12) dX12_longer_12 n2 ?_
  refine r_lcmp (pc := 13) dX12_longer_13 ?_
  refine r_if_le (pc := 14) (tgt := 23) dX12_longer_14 (by decide) (fun c3 => ?_) (fun c3 => ?_)
  · replace h := h.1 c3
    refine r_aload_n (pc := 23) (i := 0) dX12_longer_23 rfl rfl ?_
    refine r_geti (pc := 24) flX12_7 dX12_longer_24 (Or.inl rfl) k1 ?_
    refine r_i2l (pc := 27) dX12_longer_27 ?_
    refine r_lload_n (pc := 28) (i := 1) dX12_longer_28 rfl rfl ?_
    refine r_lmul (pc := 29) dX12_longer_29 ?_
    refine r_iload_n (pc := 30) (i := 3) dX12_longer_30 rfl rfl ?_
    refine r_i2l (pc := 31) dX12_longer_31 ?_
    refine r_ladd (pc := 32) dX12_longer_32 ?_
    exact r_lret (pc := 33) dX12_longer_33 rfl h
  · replace h := h.2 c3
    refine r_ldc2 (pc := 17) (v := 4611686018427387905) dX12_longer_17 ww_1783 ?_
    refine r_goto (pc := 20) (tgt := 33) dX12_longer_20 (by decide) ?_
    exact r_lret (pc := 33) dX12_longer_33 rfl h
abbrev LX12_differ_33 (G : GG) (d rc rs : Nat) (p0 : Nat) (x1 : Int32) (x2 : Int32) (x3 : Int32) (z4 : Option Value) (z5 : Option Value) (M : Mem) (Q : Option Value → Mem → Prop) : Prop := Wk G (d + 1) rc rs mX12_differ 33 [some (.ref p0), some (.int x1), some (.int x2), some (.int x3), z4, z5] [] M Q
abbrev LX12_differ_113 (G : GG) (d rc rs : Nat) (p0 : Nat) (x1 : Int32) (x2 : Int32) (x3 : Int32) (x4 : Int32) (z5 : Option Value) (M : Mem) (Q : Option Value → Mem → Prop) : Prop := Wk G (d + 1) rc rs mX12_differ 113 [some (.ref p0), some (.int x1), some (.int x2), some (.int x3), some (.int x4), z5] [] M Q
theorem eX12_differ {G : GG} {d rc rs : Nat} (o : Nat) (a1 : Int32) (a2 : Int32)  {M : Mem} {Q : Option Value → Mem → Prop} (h : (x_h M o).1 = 28 ∧ Call G d 0 0 mX12_isRow [.ref o, .int a1] M (fun r2 M3 => ∃ v4 : Int32, r2 = some (.int v4) ∧ (v4 = 0 → Q (some (.long (-2))) M3) ∧ (¬ v4 = 0 → (x_h M3 o).1 = 28 ∧ Call G d 0 0 mX12_isRow [.ref o, .int a2] M3 (fun r7 M8 => ∃ v9 : Int32, r7 = some (.int v9) ∧ (¬ v9 = 0 → (x_h M8 o).1 = 28 ∧ Call G d 0 0 mX12_noPairs [.ref o] M8 (fun r12 M13 => r12 = none ∧ (x_h M13 o).1 = 28 ∧ (∃ b15, x_r M13 o 86 = some b15 ∧ (x_h M13 b15).1 = 2 ∧ vp_in 0 (x_h M13 b15).2 ∧ (∀ M18, M18 = x_sl M13 b15 (0 : Int32).toNatClampNeg 0 → LX12_differ_33 G d rc rs o a1 a2 0 none none M18 Q)))) ∧ (v9 = 0 → Q (some (.long (-2))) M8))))) : Call G (d + 1) rc rs mX12_differ [.ref o, .int a1, .int a2] M Q := by
  refine call_of (by decide) (Nat.le_of_ble_eq_true rfl) ?_
  show Wk G (d + 1) rc rs mX12_differ 0 [some (.ref o), some (.int a1), some (.int a2), none, none, none] [] M Q
  refine r_aload_n (pc := 0) (i := 0) dX12_differ_0 rfl rfl ?_
  refine r_iload_n (pc := 1) (i := 1) dX12_differ_1 rfl rfl ?_
  obtain ⟨k1, h⟩ := h
  refine r_callV (pc := 2) (ci := 12) (as := [_]) (st := []) okX12_isRow lkX12_275 inX12_isRow seX12_isRow ⟨_, rfl, rfl⟩ dX12_differ_2 rfl k1 (Nat.le_of_ble_eq_true rfl) (Nat.zero_le _) (Nat.zero_le _) (Call.mono h (fun r2 M3 h => ?_))
  obtain ⟨v4, rfl, h⟩ := h
  refine r_if_eq (pc := 5) (tgt := 16) dX12_differ_5 (by decide) (fun c5 => ?_) (fun c5 => ?_)
  · replace h := h.1 c5
    refine r_ldc2 (pc := 16) (v := (-2)) dX12_differ_16 ww_1777 ?_
    exact r_lret (pc := 19) dX12_differ_19 rfl h
  · replace h := h.2 c5
    refine r_aload_n (pc := 8) (i := 0) dX12_differ_8 rfl rfl ?_
    refine r_iload_n (pc := 9) (i := 2) dX12_differ_9 rfl rfl ?_
    obtain ⟨k6, h⟩ := h
    refine r_callV (pc := 10) (ci := 12) (as := [_]) (st := []) okX12_isRow lkX12_275 inX12_isRow seX12_isRow ⟨_, rfl, rfl⟩ dX12_differ_10 rfl k6 (Nat.le_of_ble_eq_true rfl) (Nat.zero_le _) (Nat.zero_le _) (Call.mono h (fun r7 M8 h => ?_))
    obtain ⟨v9, rfl, h⟩ := h
    refine r_if_ne (pc := 13) (tgt := 20) dX12_differ_13 (by decide) (fun c10 => ?_) (fun c10 => ?_)
    · replace h := h.1 c10
      refine r_aload_n (pc := 20) (i := 0) dX12_differ_20 rfl rfl ?_
      obtain ⟨k11, h⟩ := h
      refine r_callV (pc := 21) (ci := 12) (as := []) (st := []) okX12_noPairs lkX12_279 inX12_noPairs seX12_noPairs ⟨_, rfl, rfl⟩ dX12_differ_21 rfl k11 (Nat.le_of_ble_eq_true rfl) (Nat.zero_le _) (Nat.zero_le _) (Call.mono h (fun r12 M13 h => ?_))
      obtain ⟨rfl, h⟩ := h
      refine r_aload_n (pc := 24) (i := 0) dX12_differ_24 rfl rfl ?_
      obtain ⟨k14, h⟩ := h
      obtain ⟨b15, hb15, h⟩ := h
      refine r_getr (pc := 25) flX12_194 dX12_differ_25 rfl k14 hb15 ?_
      refine r_iconst (pc := 28) (v := 0) dX12_differ_28 (by decide) ?_
      refine r_lconst (pc := 29) (v := 0) dX12_differ_29 (by decide) ?_
      obtain ⟨k16, h⟩ := h
      obtain ⟨i17, h⟩ := h
      refine r_last (pc := 30) dX12_differ_30 k16 i17 ?_
      replace h := h _ rfl
      refine r_iconst (pc := 31) (v := 0) dX12_differ_31 (by decide) ?_
      refine r_istore_n (pc := 32) (i := 3) dX12_differ_32 rfl rfl (Nat.le_of_ble_eq_true rfl) ?_
      exact h
    · replace h := h.2 c10
      refine r_ldc2 (pc := 16) (v := (-2)) dX12_differ_16 ww_1777 ?_
      exact r_lret (pc := 19) dX12_differ_19 rfl h
theorem vX12_differ_33 {G : GG} {d rc rs : Nat} (p0 : Nat) (x1 : Int32) (x2 : Int32) (x3 : Int32) (z4 : Option Value) (z5 : Option Value) (hz4 : c1 z4 = true) (hz5 : c1 z5 = true) {M : Mem} {Q : Option Value → Mem → Prop} (h : (x_h M p0).1 = 28 ∧ ((x_i M p0 25) ≤ x3 → Q (some (.long (-1))) M) ∧ (¬ (x_i M p0 25) ≤ x3 → ∃ b3, x_r M p0 5 = some b3 ∧ ∃ b4, x_r M p0 36 = some b4 ∧ (x_h M b4).1 = 1 ∧ vp_in x3 (x_h M b4).2 ∧ (x_h M b3).1 = 1 ∧ vp_in ((60 * x1) + (x_i M b4 x3.toNatClampNeg)) (x_h M b3).2 ∧ (∃ b9, x_r M p0 37 = some b9 ∧ (x_h M b9).1 = 1 ∧ vp_in x3 (x_h M b9).2 ∧ vp_in ((60 * x2) + (x_i M b9 x3.toNatClampNeg)) (x_h M b3).2 ∧ ((x_i M b3 ((60 * x1) + (x_i M b4 x3.toNatClampNeg)).toNatClampNeg) = (x_i M b3 ((60 * x2) + (x_i M b9 x3.toNatClampNeg)).toNatClampNeg) → (¬ x3 = 0 → LX12_differ_113 G d rc rs p0 x1 x2 x3 0 z5 M Q) ∧ (x3 = 0 → LX12_differ_113 G d rc rs p0 x1 x2 x3 1 z5 M Q)) ∧ (¬ (x_i M b3 ((60 * x1) + (x_i M b4 x3.toNatClampNeg)).toNatClampNeg) = (x_i M b3 ((60 * x2) + (x_i M b9 x3.toNatClampNeg)).toNatClampNeg) → ∃ b15, x_r M p0 86 = some b15 ∧ (x_h M b15).1 = 2 ∧ vp_in x3 (x_h M b15).2 ∧ ((lg_cmp (x_l M b15 x3.toNatClampNeg) 4611686018427387904) ≤ 0 → Q (some (.long (x_l M b15 x3.toNatClampNeg))) M) ∧ (¬ (lg_cmp (x_l M b15 x3.toNatClampNeg) 4611686018427387904) ≤ 0 → Q (some (.long (-3))) M))))) : LX12_differ_33 G d rc rs p0 x1 x2 x3 z4 z5 M Q := by
  show Wk G (d + 1) rc rs mX12_differ 33 _ _ M Q
  refine r_iload_n (pc := 33) (i := 3) dX12_differ_33 rfl rfl ?_
  refine r_aload_n (pc := 34) (i := 0) dX12_differ_34 rfl rfl ?_
  obtain ⟨k1, h⟩ := h
  refine r_geti (pc := 35) flX12_234 dX12_differ_35 (Or.inl rfl) k1 ?_
  refine r_icmp_ge (pc := 38) (tgt := 209) dX12_differ_38 (by decide) (fun c2 => ?_) (fun c2 => ?_)
  · replace h := h.1 c2
    refine r_ldc2 (pc := 209) (v := (-1)) dX12_differ_209 ww_1784 ?_
    exact r_lret (pc := 212) dX12_differ_212 rfl h
  · replace h := h.2 c2
    refine r_aload_n (pc := 41) (i := 0) dX12_differ_41 rfl rfl ?_
    obtain ⟨b3, hb3, h⟩ := h
    refine r_getr (pc := 42) flX12_23 dX12_differ_42 rfl k1 hb3 ?_
    refine r_bipush (pc := 45) (v := 60) dX12_differ_45 (by decide) ?_
    refine r_iload_n (pc := 47) (i := 1) dX12_differ_47 rfl rfl ?_
    refine r_imul (pc := 48) dX12_differ_48 ?_
    refine r_aload_n (pc := 49) (i := 0) dX12_differ_49 rfl rfl ?_
    obtain ⟨b4, hb4, h⟩ := h
    refine r_getr (pc := 50) flX12_98 dX12_differ_50 rfl k1 hb4 ?_
    refine r_iload_n (pc := 53) (i := 3) dX12_differ_53 rfl rfl ?_
    obtain ⟨k5, h⟩ := h
    obtain ⟨i6, h⟩ := h
    refine r_iald (pc := 54) dX12_differ_54 k5 i6 ?_
    refine r_iadd (pc := 55) dX12_differ_55 ?_
    obtain ⟨k7, h⟩ := h
    obtain ⟨i8, h⟩ := h
    refine r_iald (pc := 56) dX12_differ_56 k7 i8 ?_
    refine r_aload_n (pc := 57) (i := 0) dX12_differ_57 rfl rfl ?_
    refine r_getr (pc := 58) flX12_23 dX12_differ_58 rfl k1 hb3 ?_
    refine r_bipush (pc := 61) (v := 60) dX12_differ_61 (by decide) ?_
    refine r_iload_n (pc := 63) (i := 2) dX12_differ_63 rfl rfl ?_
    refine r_imul (pc := 64) dX12_differ_64 ?_
    refine r_aload_n (pc := 65) (i := 0) dX12_differ_65 rfl rfl ?_
    obtain ⟨b9, hb9, h⟩ := h
    refine r_getr (pc := 66) flX12_101 dX12_differ_66 rfl k1 hb9 ?_
    refine r_iload_n (pc := 69) (i := 3) dX12_differ_69 rfl rfl ?_
    obtain ⟨k10, h⟩ := h
    obtain ⟨i11, h⟩ := h
    refine r_iald (pc := 70) dX12_differ_70 k10 i11 ?_
    refine r_iadd (pc := 71) dX12_differ_71 ?_
    obtain ⟨i12, h⟩ := h
    refine r_iald (pc := 72) dX12_differ_72 k7 i12 ?_
    refine r_icmp_eq (pc := 73) (tgt := 102) dX12_differ_73 (by decide) (fun c13 => ?_) (fun c13 => ?_)
    · replace h := h.1 c13
      refine r_iload_n (pc := 102) (i := 3) dX12_differ_102 rfl rfl ?_
      refine r_if_ne (pc := 103) (tgt := 110) dX12_differ_103 (by decide) (fun c14 => ?_) (fun c14 => ?_)
      · replace h := h.1 c14
        refine r_iconst (pc := 110) (v := 0) dX12_differ_110 (by decide) ?_
        refine r_istore (pc := 111) (i := 4) dX12_differ_111 rfl (Nat.le_of_ble_eq_true rfl) ?_
        exact h
      · replace h := h.2 c14
        refine r_iconst (pc := 106) (v := 1) dX12_differ_106 (by decide) ?_
        refine r_goto (pc := 107) (tgt := 111) dX12_differ_107 (by decide) ?_
        refine r_istore (pc := 111) (i := 4) dX12_differ_111 rfl (Nat.le_of_ble_eq_true rfl) ?_
        exact h
    · replace h := h.2 c13
      refine r_aload_n (pc := 76) (i := 0) dX12_differ_76 rfl rfl ?_
      obtain ⟨b15, hb15, h⟩ := h
      refine r_getr (pc := 77) flX12_194 dX12_differ_77 rfl k1 hb15 ?_
      refine r_iload_n (pc := 80) (i := 3) dX12_differ_80 rfl rfl ?_
      obtain ⟨k16, h⟩ := h
      obtain ⟨i17, h⟩ := h
      refine r_lald (pc := 81) dX12_differ_81 k16 i17 ?_
      refine r_ldc2 (pc := 82) (v := 4611686018427387904) dX12_differ_82 ww_1761 ?_
      refine r_lcmp (pc := 85) dX12_differ_85 ?_
      refine r_if_le (pc := 86) (tgt := 95) dX12_differ_86 (by decide) (fun c18 => ?_) (fun c18 => ?_)
      · replace h := h.1 c18
        refine r_aload_n (pc := 95) (i := 0) dX12_differ_95 rfl rfl ?_
        refine r_getr (pc := 96) flX12_194 dX12_differ_96 rfl k1 hb15 ?_
        refine r_iload_n (pc := 99) (i := 3) dX12_differ_99 rfl rfl ?_
        refine r_lald (pc := 100) dX12_differ_100 k16 i17 ?_
        exact r_lret (pc := 101) dX12_differ_101 rfl h
      · replace h := h.2 c18
        refine r_ldc2 (pc := 89) (v := (-3)) dX12_differ_89 ww_1778 ?_
        refine r_goto (pc := 92) (tgt := 101) dX12_differ_92 (by decide) ?_
        exact r_lret (pc := 101) dX12_differ_101 rfl h
theorem vX12_differ_113 {G : GG} {d rc rs : Nat} (p0 : Nat) (x1 : Int32) (x2 : Int32) (x3 : Int32) (x4 : Int32) (z5 : Option Value) (hz5 : c1 z5 = true) {M : Mem} {Q : Option Value → Mem → Prop} (h : (x_h M p0).1 = 28 ∧ ((x_i M p0 0) ≤ x4 → LX12_differ_33 G d rc rs p0 x1 x2 (x3 + 1) (some (.int x4)) z5 M Q) ∧ (¬ (x_i M p0 0) ≤ x4 → ∃ b3, x_r M p0 36 = some b3 ∧ (x_h M b3).1 = 1 ∧ vp_in x3 (x_h M b3).2 ∧ Call G d 0 0 mX12_rowTo [.ref p0, .int x1, .int (x_i M b3 x3.toNatClampNeg), .int x4] M (fun r6 M7 => ∃ v8 : Int32, r6 = some (.int v8) ∧ (x_h M7 p0).1 = 28 ∧ (∃ b10, x_r M7 p0 37 = some b10 ∧ (x_h M7 b10).1 = 1 ∧ vp_in x3 (x_h M7 b10).2 ∧ Call G d 0 0 mX12_rowTo [.ref p0, .int x2, .int (x_i M7 b10 x3.toNatClampNeg), .int x4] M7 (fun r13 M14 => ∃ v15 : Int32, r13 = some (.int v15) ∧ (x_h M14 p0).1 = 28 ∧ Call G d 0 0 mX12_paired [.ref p0, .int v8, .int v15] M14 (fun r17 M18 => ∃ v19 : Int32, r17 = some (.int v19) ∧ (x_h M18 p0).1 = 28 ∧ (∃ b21, x_r M18 p0 86 = some b21 ∧ ((x_i M18 p0 25) ≤ (x_i M p0 25) → (x_h M18 b21).1 = 2 ∧ vp_in (x_i M p0 25) (x_h M18 b21).2 ∧ (∀ M25, M25 = x_sl M18 b21 (x_i M p0 25).toNatClampNeg (x_l M18 b21 (x_i M p0 25).toNatClampNeg) → LX12_differ_113 G d rc rs p0 x1 x2 x3 (x4 + 1) (some (.int (x_i M p0 25))) M25 Q)) ∧ (¬ (x_i M18 p0 25) ≤ (x_i M p0 25) → (x_h M18 b21).1 = 2 ∧ vp_in x3 (x_h M18 b21).2 ∧ Call G d 0 0 mX12_longer [.ref p0, .long (x_l M18 b21 x3.toNatClampNeg), .int x4] M18 (fun r28 M29 => ∃ v30 : Int64, r28 = some (.long v30) ∧ (x_h M29 b21).1 = 2 ∧ vp_in (x_i M p0 25) (x_h M29 b21).2 ∧ (∀ M33, M33 = x_sl M29 b21 (x_i M p0 25).toNatClampNeg v30 → LX12_differ_113 G d rc rs p0 x1 x2 x3 (x4 + 1) (some (.int (x_i M p0 25))) M33 Q)))))))))) : LX12_differ_113 G d rc rs p0 x1 x2 x3 x4 z5 M Q := by
  show Wk G (d + 1) rc rs mX12_differ 113 _ _ M Q
  refine r_iload (pc := 113) (i := 4) dX12_differ_113 rfl ?_
  refine r_aload_n (pc := 115) (i := 0) dX12_differ_115 rfl rfl ?_
  obtain ⟨k1, h⟩ := h
  refine r_geti (pc := 116) flX12_7 dX12_differ_116 (Or.inl rfl) k1 ?_
  refine r_icmp_ge (pc := 119) (tgt := 203) dX12_differ_119 (by decide) (fun c2 => ?_) (fun c2 => ?_)
  · replace h := h.1 c2
    refine r_iinc (pc := 203) (i := 3) (v := _ + 1) dX12_differ_203 rfl rfl rfl ?_
    refine r_goto (pc := 206) (tgt := 33) dX12_differ_206 (by decide) ?_
    exact h
  · replace h := h.2 c2
    refine r_aload_n (pc := 122) (i := 0) dX12_differ_122 rfl rfl ?_
    refine r_geti (pc := 123) flX12_234 dX12_differ_123 (Or.inl rfl) k1 ?_
    refine r_istore (pc := 126) (i := 5) dX12_differ_126 rfl (Nat.le_of_ble_eq_true rfl) ?_
    refine r_aload_n (pc := 128) (i := 0) dX12_differ_128 rfl rfl ?_
    refine r_aload_n (pc := 129) (i := 0) dX12_differ_129 rfl rfl ?_
    refine r_iload_n (pc := 130) (i := 1) dX12_differ_130 rfl rfl ?_
    refine r_aload_n (pc := 131) (i := 0) dX12_differ_131 rfl rfl ?_
    obtain ⟨b3, hb3, h⟩ := h
    refine r_getr (pc := 132) flX12_98 dX12_differ_132 rfl k1 hb3 ?_
    refine r_iload_n (pc := 135) (i := 3) dX12_differ_135 rfl rfl ?_
    obtain ⟨k4, h⟩ := h
    obtain ⟨i5, h⟩ := h
    refine r_iald (pc := 136) dX12_differ_136 k4 i5 ?_
    refine r_iload (pc := 137) (i := 4) dX12_differ_137 rfl ?_
    refine r_callV (pc := 139) (ci := 12) (as := [_, _, _]) (st := [_]) okX12_rowTo lkX12_282 inX12_rowTo seX12_rowTo ⟨_, rfl, rfl⟩ dX12_differ_139 rfl k1 (Nat.le_of_ble_eq_true rfl) (Nat.zero_le _) (Nat.zero_le _) (Call.mono h (fun r6 M7 h => ?_))
    obtain ⟨v8, rfl, h⟩ := h
    refine r_aload_n (pc := 142) (i := 0) dX12_differ_142 rfl rfl ?_
    refine r_iload_n (pc := 143) (i := 2) dX12_differ_143 rfl rfl ?_
    refine r_aload_n (pc := 144) (i := 0) dX12_differ_144 rfl rfl ?_
    obtain ⟨k9, h⟩ := h
    obtain ⟨b10, hb10, h⟩ := h
    refine r_getr (pc := 145) flX12_101 dX12_differ_145 rfl k9 hb10 ?_
    refine r_iload_n (pc := 148) (i := 3) dX12_differ_148 rfl rfl ?_
    obtain ⟨k11, h⟩ := h
    obtain ⟨i12, h⟩ := h
    refine r_iald (pc := 149) dX12_differ_149 k11 i12 ?_
    refine r_iload (pc := 150) (i := 4) dX12_differ_150 rfl ?_
    refine r_callV (pc := 152) (ci := 12) (as := [_, _, _]) (st := [_, _]) okX12_rowTo lkX12_282 inX12_rowTo seX12_rowTo ⟨_, rfl, rfl⟩ dX12_differ_152 rfl k9 (Nat.le_of_ble_eq_true rfl) (Nat.zero_le _) (Nat.zero_le _) (Call.mono h (fun r13 M14 h => ?_))
    obtain ⟨v15, rfl, h⟩ := h
    obtain ⟨k16, h⟩ := h
    refine r_callV (pc := 155) (ci := 12) (as := [_, _]) (st := []) okX12_paired lkX12_272 inX12_paired seX12_paired ⟨_, rfl, rfl⟩ dX12_differ_155 rfl k16 (Nat.le_of_ble_eq_true rfl) (Nat.zero_le _) (Nat.zero_le _) (Call.mono h (fun r17 M18 h => ?_))
    obtain ⟨v19, rfl, h⟩ := h
    refine r_pop (pc := 158) dX12_differ_158 rfl ?_
    refine r_aload_n (pc := 159) (i := 0) dX12_differ_159 rfl rfl ?_
    obtain ⟨k20, h⟩ := h
    obtain ⟨b21, hb21, h⟩ := h
    refine r_getr (pc := 160) flX12_194 dX12_differ_160 rfl k20 hb21 ?_
    refine r_iload (pc := 163) (i := 5) dX12_differ_163 rfl ?_
    refine r_aload_n (pc := 165) (i := 0) dX12_differ_165 rfl rfl ?_
    refine r_geti (pc := 166) flX12_234 dX12_differ_166 (Or.inl rfl) k20 ?_
    refine r_iload (pc := 169) (i := 5) dX12_differ_169 rfl ?_
    refine r_icmp_le (pc := 171) (tgt := 189) dX12_differ_171 (by decide) (fun c22 => ?_) (fun c22 => ?_)
    · replace h := h.1 c22
      refine r_aload_n (pc := 189) (i := 0) dX12_differ_189 rfl rfl ?_
      refine r_getr (pc := 190) flX12_194 dX12_differ_190 rfl k20 hb21 ?_
      refine r_iload (pc := 193) (i := 5) dX12_differ_193 rfl ?_
      obtain ⟨k23, h⟩ := h
      obtain ⟨i24, h⟩ := h
      refine r_lald (pc := 195) dX12_differ_195 k23 i24 ?_
      refine r_last (pc := 196) dX12_differ_196 k23 i24 ?_
      replace h := h _ rfl
      refine r_iinc (pc := 197) (i := 4) (v := _ + 1) dX12_differ_197 rfl rfl rfl ?_
      refine r_goto (pc := 200) (tgt := 113) dX12_differ_200 (by decide) ?_
      exact h
    · replace h := h.2 c22
      refine r_aload_n (pc := 174) (i := 0) dX12_differ_174 rfl rfl ?_
      refine r_aload_n (pc := 175) (i := 0) dX12_differ_175 rfl rfl ?_
      refine r_getr (pc := 176) flX12_194 dX12_differ_176 rfl k20 hb21 ?_
      refine r_iload_n (pc := 179) (i := 3) dX12_differ_179 rfl rfl ?_
      obtain ⟨k26, h⟩ := h
      obtain ⟨i27, h⟩ := h
      refine r_lald (pc := 180) dX12_differ_180 k26 i27 ?_
      refine r_iload (pc := 181) (i := 4) dX12_differ_181 rfl ?_
      refine r_callV (pc := 183) (ci := 12) (as := [_, _]) (st := [_, _]) okX12_longer lkX12_497 inX12_longer seX12_longer ⟨_, rfl, rfl⟩ dX12_differ_183 rfl k20 (Nat.le_of_ble_eq_true rfl) (Nat.zero_le _) (Nat.zero_le _) (Call.mono h (fun r28 M29 h => ?_))
      obtain ⟨v30, rfl, h⟩ := h
      refine r_goto (pc := 186) (tgt := 196) dX12_differ_186 (by decide) ?_
      obtain ⟨k31, h⟩ := h
      obtain ⟨i32, h⟩ := h
      refine r_last (pc := 196) dX12_differ_196 k31 i32 ?_
      replace h := h _ rfl
      refine r_iinc (pc := 197) (i := 4) (v := _ + 1) dX12_differ_197 rfl rfl rfl ?_
      refine r_goto (pc := 200) (tgt := 113) dX12_differ_200 (by decide) ?_
      exact h
theorem eX12_told {G : GG} {d rc rs : Nat} (o : Nat) (a1 : Int32) (a2 : Int32)  {M : Mem} {Q : Option Value → Mem → Prop} (h : (x_h M o).1 = 28 ∧ Call G d 0 0 mX12_in [.int a1, .int 0, .int ((x_i M o 7) - 1)] M (fun r2 M3 => ∃ v4 : Int32, r2 = some (.int v4) ∧ (v4 = 0 → Q (some (.int (-1))) M3) ∧ (¬ v4 = 0 → Call G d 0 0 mX12_in [.int a2, .int 0, .int 8] M3 (fun r6 M7 => ∃ v8 : Int32, r6 = some (.int v8) ∧ (¬ v8 = 0 → (2 ≤ a2 → (¬ a2 = 2 → (x_h M7 o).1 = 28 ∧ (∃ b13, x_r M7 o 8 = some b13 ∧ (x_h M7 b13).1 = 1 ∧ vp_in a1 (x_h M7 b13).2 ∧ ((x_i M7 b13 a1.toNatClampNeg) = 0 → (¬ a2 = 7 → (¬ a2 = 8 → (¬ a2 = 3 → ∃ b20, x_r M7 o 11 = some b20 ∧ (x_h M7 b20).1 = 1 ∧ vp_in a1 (x_h M7 b20).2 ∧ Call G d 0 0 mX12_nameOf [.int (x_i M7 b20 a1.toNatClampNeg), .int (a2 - 4)] M7 (fun r23 M24 => ∃ v25 : Int32, r23 = some (.int v25) ∧ Q (some (.int v25)) M24)) ∧ (a2 = 3 → ∃ b26, x_r M7 o 11 = some b26 ∧ (x_h M7 b26).1 = 1 ∧ vp_in a1 (x_h M7 b26).2 ∧ Call G d 0 0 mX12_bits [.int (x_i M7 b26 a1.toNatClampNeg)] M7 (fun r29 M30 => ∃ v31 : Int32, r29 = some (.int v31) ∧ Q (some (.int v31)) M30))) ∧ (a2 = 8 → ∃ b32, x_r M7 o 10 = some b32 ∧ (x_h M7 b32).1 = 1 ∧ vp_in a1 (x_h M7 b32).2 ∧ ((x_i M7 b32 a1.toNatClampNeg) = (-1) → ∃ b36, x_r M7 o 14 = some b36 ∧ (x_h M7 b36).1 = 1 ∧ vp_in a1 (x_h M7 b36).2 ∧ Q (some (.int (x_i M7 b36 a1.toNatClampNeg))) M7) ∧ (¬ (x_i M7 b32 a1.toNatClampNeg) = (-1) → Q (some (.int (-2))) M7))) ∧ (a2 = 7 → ∃ b39, x_r M7 o 12 = some b39 ∧ (x_h M7 b39).1 = 1 ∧ vp_in a1 (x_h M7 b39).2 ∧ Q (some (.int (x_i M7 b39 a1.toNatClampNeg))) M7)) ∧ (¬ (x_i M7 b13 a1.toNatClampNeg) = 0 → Q (some (.int (-2))) M7))) ∧ (a2 = 2 → (x_h M7 o).1 = 28 ∧ (∃ b43, x_r M7 o 10 = some b43 ∧ (x_h M7 b43).1 = 1 ∧ vp_in a1 (x_h M7 b43).2 ∧ Q (some (.int (x_i M7 b43 a1.toNatClampNeg))) M7))) ∧ (¬ 2 ≤ a2 → (¬ a2 = 0 → (x_h M7 o).1 = 28 ∧ (∃ b48, x_r M7 o 9 = some b48 ∧ (x_h M7 b48).1 = 1 ∧ vp_in a1 (x_h M7 b48).2 ∧ Q (some (.int (x_i M7 b48 a1.toNatClampNeg))) M7)) ∧ (a2 = 0 → (x_h M7 o).1 = 28 ∧ (∃ b52, x_r M7 o 8 = some b52 ∧ (x_h M7 b52).1 = 1 ∧ vp_in a1 (x_h M7 b52).2 ∧ Q (some (.int (x_i M7 b52 a1.toNatClampNeg))) M7)))) ∧ (v8 = 0 → Q (some (.int (-1))) M7))))) : Call G (d + 1) rc rs mX12_told [.ref o, .int a1, .int a2] M Q := by
  refine call_of (by decide) (Nat.le_of_ble_eq_true rfl) ?_
  show Wk G (d + 1) rc rs mX12_told 0 [some (.ref o), some (.int a1), some (.int a2)] [] M Q
  refine r_iload_n (pc := 0) (i := 1) dX12_told_0 rfl rfl ?_
  refine r_iconst (pc := 1) (v := 0) dX12_told_1 (by decide) ?_
  refine r_aload_n (pc := 2) (i := 0) dX12_told_2 rfl rfl ?_
  obtain ⟨k1, h⟩ := h
  refine r_geti (pc := 3) flX12_256 dX12_told_3 (Or.inl rfl) k1 ?_
  refine r_iconst (pc := 6) (v := 1) dX12_told_6 (by decide) ?_
  refine r_isub (pc := 7) dX12_told_7 ?_
  refine r_callS (pc := 8) (as := [_, _, _]) (st := []) okX12_in lkX12_218 stX12_in dX12_told_8 rfl (Nat.le_of_ble_eq_true rfl) (Nat.zero_le _) (Nat.zero_le _) (Call.mono h (fun r2 M3 h => ?_))
  obtain ⟨v4, rfl, h⟩ := h
  refine r_if_eq (pc := 11) (tgt := 24) dX12_told_11 (by decide) (fun c5 => ?_) (fun c5 => ?_)
  · replace h := h.1 c5
    refine r_iconst (pc := 24) (v := (-1)) dX12_told_24 (by decide) ?_
    exact r_iret (pc := 25) dX12_told_25 rfl h
  · replace h := h.2 c5
    refine r_iload_n (pc := 14) (i := 2) dX12_told_14 rfl rfl ?_
    refine r_iconst (pc := 15) (v := 0) dX12_told_15 (by decide) ?_
    refine r_bipush (pc := 16) (v := 8) dX12_told_16 (by decide) ?_
    refine r_callS (pc := 18) (as := [_, _, _]) (st := []) okX12_in lkX12_218 stX12_in dX12_told_18 rfl (Nat.le_of_ble_eq_true rfl) (Nat.zero_le _) (Nat.zero_le _) (Call.mono h (fun r6 M7 h => ?_))
    obtain ⟨v8, rfl, h⟩ := h
    refine r_if_ne (pc := 21) (tgt := 26) dX12_told_21 (by decide) (fun c9 => ?_) (fun c9 => ?_)
    · replace h := h.1 c9
      refine r_iload_n (pc := 26) (i := 2) dX12_told_26 rfl rfl ?_
      refine r_iconst (pc := 27) (v := 2) dX12_told_27 (by decide) ?_
      refine r_icmp_ge (pc := 28) (tgt := 51) dX12_told_28 (by decide) (fun c10 => ?_) (fun c10 => ?_)
      · replace h := h.1 c10
        refine r_iload_n (pc := 51) (i := 2) dX12_told_51 rfl rfl ?_
        refine r_iconst (pc := 52) (v := 2) dX12_told_52 (by decide) ?_
        refine r_icmp_ne (pc := 53) (tgt := 63) dX12_told_53 (by decide) (fun c11 => ?_) (fun c11 => ?_)
        · replace h := h.1 c11
          refine r_aload_n (pc := 63) (i := 0) dX12_told_63 rfl rfl ?_
          obtain ⟨k12, h⟩ := h
          obtain ⟨b13, hb13, h⟩ := h
          refine r_getr (pc := 64) flX12_29 dX12_told_64 rfl k12 hb13 ?_
          refine r_iload_n (pc := 67) (i := 1) dX12_told_67 rfl rfl ?_
          obtain ⟨k14, h⟩ := h
          obtain ⟨i15, h⟩ := h
          refine r_iald (pc := 68) dX12_told_68 k14 i15 ?_
          refine r_if_eq (pc := 69) (tgt := 75) dX12_told_69 (by decide) (fun c16 => ?_) (fun c16 => ?_)
          · replace h := h.1 c16
            refine r_iload_n (pc := 75) (i := 2) dX12_told_75 rfl rfl ?_
            refine r_bipush (pc := 76) (v := 7) dX12_told_76 (by decide) ?_
            refine r_icmp_ne (pc := 78) (tgt := 88) dX12_told_78 (by decide) (fun c17 => ?_) (fun c17 => ?_)
            · replace h := h.1 c17
              refine r_iload_n (pc := 88) (i := 2) dX12_told_88 rfl rfl ?_
              refine r_bipush (pc := 89) (v := 8) dX12_told_89 (by decide) ?_
              refine r_icmp_ne (pc := 91) (tgt := 116) dX12_told_91 (by decide) (fun c18 => ?_) (fun c18 => ?_)
              · replace h := h.1 c18
                refine r_iload_n (pc := 116) (i := 2) dX12_told_116 rfl rfl ?_
                refine r_iconst (pc := 117) (v := 3) dX12_told_117 (by decide) ?_
                refine r_icmp_ne (pc := 118) (tgt := 133) dX12_told_118 (by decide) (fun c19 => ?_) (fun c19 => ?_)
                · replace h := h.1 c19
                  refine r_aload_n (pc := 133) (i := 0) dX12_told_133 rfl rfl ?_
                  obtain ⟨b20, hb20, h⟩ := h
                  refine r_getr (pc := 134) flX12_38 dX12_told_134 rfl k12 hb20 ?_
                  refine r_iload_n (pc := 137) (i := 1) dX12_told_137 rfl rfl ?_
                  obtain ⟨k21, h⟩ := h
                  obtain ⟨i22, h⟩ := h
                  refine r_iald (pc := 138) dX12_told_138 k21 i22 ?_
                  refine r_iload_n (pc := 139) (i := 2) dX12_told_139 rfl rfl ?_
                  refine r_iconst (pc := 140) (v := 4) dX12_told_140 (by decide) ?_
                  refine r_isub (pc := 141) dX12_told_141 ?_
                  refine r_callS (pc := 142) (as := [_, _]) (st := []) okX12_nameOf lkX12_503 stX12_nameOf dX12_told_142 rfl (Nat.le_of_ble_eq_true rfl) (Nat.zero_le _) (Nat.zero_le _) (Call.mono h (fun r23 M24 h => ?_))
                  obtain ⟨v25, rfl, h⟩ := h
                  exact r_iret (pc := 145) dX12_told_145 rfl h
                · replace h := h.2 c19
                  refine r_aload_n (pc := 121) (i := 0) dX12_told_121 rfl rfl ?_
                  obtain ⟨b26, hb26, h⟩ := h
                  refine r_getr (pc := 122) flX12_38 dX12_told_122 rfl k12 hb26 ?_
                  refine r_iload_n (pc := 125) (i := 1) dX12_told_125 rfl rfl ?_
                  obtain ⟨k27, h⟩ := h
                  obtain ⟨i28, h⟩ := h
                  refine r_iald (pc := 126) dX12_told_126 k27 i28 ?_
                  refine r_callS (pc := 127) (as := [_]) (st := []) okX12_bits lkX12_222 stX12_bits dX12_told_127 rfl (Nat.le_of_ble_eq_true rfl) (Nat.zero_le _) (Nat.zero_le _) (Call.mono h (fun r29 M30 h => ?_))
                  obtain ⟨v31, rfl, h⟩ := h
                  refine r_goto (pc := 130) (tgt := 145) dX12_told_130 (by decide) ?_
                  exact r_iret (pc := 145) dX12_told_145 rfl h
              · replace h := h.2 c18
                refine r_aload_n (pc := 94) (i := 0) dX12_told_94 rfl rfl ?_
                obtain ⟨b32, hb32, h⟩ := h
                refine r_getr (pc := 95) flX12_35 dX12_told_95 rfl k12 hb32 ?_
                refine r_iload_n (pc := 98) (i := 1) dX12_told_98 rfl rfl ?_
                obtain ⟨k33, h⟩ := h
                obtain ⟨i34, h⟩ := h
                refine r_iald (pc := 99) dX12_told_99 k33 i34 ?_
                refine r_iconst (pc := 100) (v := (-1)) dX12_told_100 (by decide) ?_
                refine r_icmp_eq (pc := 101) (tgt := 109) dX12_told_101 (by decide) (fun c35 => ?_) (fun c35 => ?_)
                · replace h := h.1 c35
                  refine r_aload_n (pc := 109) (i := 0) dX12_told_109 rfl rfl ?_
                  obtain ⟨b36, hb36, h⟩ := h
                  refine r_getr (pc := 110) flX12_47 dX12_told_110 rfl k12 hb36 ?_
                  refine r_iload_n (pc := 113) (i := 1) dX12_told_113 rfl rfl ?_
                  obtain ⟨k37, h⟩ := h
                  obtain ⟨i38, h⟩ := h
                  refine r_iald (pc := 114) dX12_told_114 k37 i38 ?_
                  exact r_iret (pc := 115) dX12_told_115 rfl h
                · replace h := h.2 c35
                  refine r_bipush (pc := 104) (v := (-2)) dX12_told_104 (by decide) ?_
                  refine r_goto (pc := 106) (tgt := 115) dX12_told_106 (by decide) ?_
                  exact r_iret (pc := 115) dX12_told_115 rfl h
            · replace h := h.2 c17
              refine r_aload_n (pc := 81) (i := 0) dX12_told_81 rfl rfl ?_
              obtain ⟨b39, hb39, h⟩ := h
              refine r_getr (pc := 82) flX12_41 dX12_told_82 rfl k12 hb39 ?_
              refine r_iload_n (pc := 85) (i := 1) dX12_told_85 rfl rfl ?_
              obtain ⟨k40, h⟩ := h
              obtain ⟨i41, h⟩ := h
              refine r_iald (pc := 86) dX12_told_86 k40 i41 ?_
              exact r_iret (pc := 87) dX12_told_87 rfl h
          · replace h := h.2 c16
            refine r_bipush (pc := 72) (v := (-2)) dX12_told_72 (by decide) ?_
            exact r_iret (pc := 74) dX12_told_74 rfl h
        · replace h := h.2 c11
          refine r_aload_n (pc := 56) (i := 0) dX12_told_56 rfl rfl ?_
          obtain ⟨k42, h⟩ := h
          obtain ⟨b43, hb43, h⟩ := h
          refine r_getr (pc := 57) flX12_35 dX12_told_57 rfl k42 hb43 ?_
          refine r_iload_n (pc := 60) (i := 1) dX12_told_60 rfl rfl ?_
          obtain ⟨k44, h⟩ := h
          obtain ⟨i45, h⟩ := h
          refine r_iald (pc := 61) dX12_told_61 k44 i45 ?_
          exact r_iret (pc := 62) dX12_told_62 rfl h
      · replace h := h.2 c10
        refine r_iload_n (pc := 31) (i := 2) dX12_told_31 rfl rfl ?_
        refine r_if_ne (pc := 32) (tgt := 44) dX12_told_32 (by decide) (fun c46 => ?_) (fun c46 => ?_)
        · replace h := h.1 c46
          refine r_aload_n (pc := 44) (i := 0) dX12_told_44 rfl rfl ?_
          obtain ⟨k47, h⟩ := h
          obtain ⟨b48, hb48, h⟩ := h
          refine r_getr (pc := 45) flX12_32 dX12_told_45 rfl k47 hb48 ?_
          refine r_iload_n (pc := 48) (i := 1) dX12_told_48 rfl rfl ?_
          obtain ⟨k49, h⟩ := h
          obtain ⟨i50, h⟩ := h
          refine r_iald (pc := 49) dX12_told_49 k49 i50 ?_
          exact r_iret (pc := 50) dX12_told_50 rfl h
        · replace h := h.2 c46
          refine r_aload_n (pc := 35) (i := 0) dX12_told_35 rfl rfl ?_
          obtain ⟨k51, h⟩ := h
          obtain ⟨b52, hb52, h⟩ := h
          refine r_getr (pc := 36) flX12_29 dX12_told_36 rfl k51 hb52 ?_
          refine r_iload_n (pc := 39) (i := 1) dX12_told_39 rfl rfl ?_
          obtain ⟨k53, h⟩ := h
          obtain ⟨i54, h⟩ := h
          refine r_iald (pc := 40) dX12_told_40 k53 i54 ?_
          refine r_goto (pc := 41) (tgt := 50) dX12_told_41 (by decide) ?_
          exact r_iret (pc := 50) dX12_told_50 rfl h
    · replace h := h.2 c9
      refine r_iconst (pc := 24) (v := (-1)) dX12_told_24 (by decide) ?_
      exact r_iret (pc := 25) dX12_told_25 rfl h
abbrev LX12_nameOf_4 (G : GG) (d rc rs : Nat) (x0 : Int32) (x1 : Int32) (x2 : Int32) (x3 : Int32) (M : Mem) (Q : Option Value → Mem → Prop) : Prop := Wk G (d + 1) rc rs mX12_nameOf 4 [some (.int x0), some (.int x1), some (.int x2), some (.int x3)] [] M Q
theorem eX12_nameOf {G : GG} {d rc rs : Nat} (a1 : Int32) (a2 : Int32)  {M : Mem} {Q : Option Value → Mem → Prop} (h : LX12_nameOf_4 G d rc rs a1 a2 a2 0 M Q) : Call G (d + 1) rc rs mX12_nameOf [.int a1, .int a2] M Q := by
  refine call_of (by decide) (Nat.le_of_ble_eq_true rfl) ?_
  show Wk G (d + 1) rc rs mX12_nameOf 0 [some (.int a1), some (.int a2), none, none] [] M Q
  refine r_iload_n (pc := 0) (i := 1) dX12_nameOf_0 rfl rfl ?_
  refine r_istore_n (pc := 1) (i := 2) dX12_nameOf_1 rfl rfl (Nat.le_of_ble_eq_true rfl) ?_
  refine r_iconst (pc := 2) (v := 0) dX12_nameOf_2 (by decide) ?_
  refine r_istore_n (pc := 3) (i := 3) dX12_nameOf_3 rfl rfl (Nat.le_of_ble_eq_true rfl) ?_
  exact h
theorem vX12_nameOf_4 {G : GG} {d rc rs : Nat} (x0 : Int32) (x1 : Int32) (x2 : Int32) (x3 : Int32)  {M : Mem} {Q : Option Value → Mem → Prop} (h : (8 ≤ x3 → Q (some (.int (-1))) M) ∧ (¬ 8 ≤ x3 → (¬ ((x0 >>> (x3 &&& 31)) &&& 1) = 1 → LX12_nameOf_4 G d rc rs x0 x1 x2 (x3 + 1) M Q) ∧ (((x0 >>> (x3 &&& 31)) &&& 1) = 1 → (¬ x2 = 0 → LX12_nameOf_4 G d rc rs x0 x1 (x2 + (-1)) (x3 + 1) M Q) ∧ (x2 = 0 → Q (some (.int x3)) M)))) : LX12_nameOf_4 G d rc rs x0 x1 x2 x3 M Q := by
  show Wk G (d + 1) rc rs mX12_nameOf 4 _ _ M Q
  refine r_iload_n (pc := 4) (i := 3) dX12_nameOf_4 rfl rfl ?_
  refine r_bipush (pc := 5) (v := 8) dX12_nameOf_5 (by decide) ?_
  refine r_icmp_ge (pc := 7) (tgt := 34) dX12_nameOf_7 (by decide) (fun c1 => ?_) (fun c1 => ?_)
  · replace h := h.1 c1
    refine r_iconst (pc := 34) (v := (-1)) dX12_nameOf_34 (by decide) ?_
    exact r_iret (pc := 35) dX12_nameOf_35 rfl h
  · replace h := h.2 c1
    refine r_iload_n (pc := 10) (i := 0) dX12_nameOf_10 rfl rfl ?_
    refine r_iload_n (pc := 11) (i := 3) dX12_nameOf_11 rfl rfl ?_
    refine r_ishr (pc := 12) dX12_nameOf_12 ?_
    refine r_iconst (pc := 13) (v := 1) dX12_nameOf_13 (by decide) ?_
    refine r_iand (pc := 14) dX12_nameOf_14 ?_
    refine r_iconst (pc := 15) (v := 1) dX12_nameOf_15 (by decide) ?_
    refine r_icmp_ne (pc := 16) (tgt := 28) dX12_nameOf_16 (by decide) (fun c2 => ?_) (fun c2 => ?_)
    · replace h := h.1 c2
      refine r_iinc (pc := 28) (i := 3) (v := _ + 1) dX12_nameOf_28 rfl rfl rfl ?_
      refine r_goto (pc := 31) (tgt := 4) dX12_nameOf_31 (by decide) ?_
      exact h
    · replace h := h.2 c2
      refine r_iload_n (pc := 19) (i := 2) dX12_nameOf_19 rfl rfl ?_
      refine r_if_ne (pc := 20) (tgt := 25) dX12_nameOf_20 (by decide) (fun c3 => ?_) (fun c3 => ?_)
      · replace h := h.1 c3
        refine r_iinc (pc := 25) (i := 2) (v := _ + (-1)) dX12_nameOf_25 rfl rfl rfl ?_
        refine r_iinc (pc := 28) (i := 3) (v := _ + 1) dX12_nameOf_28 rfl rfl rfl ?_
        refine r_goto (pc := 31) (tgt := 4) dX12_nameOf_31 (by decide) ?_
        exact h
      · replace h := h.2 c3
        refine r_iload_n (pc := 23) (i := 3) dX12_nameOf_23 rfl rfl ?_
        exact r_iret (pc := 24) dX12_nameOf_24 rfl h
theorem eX12_to {G : GG} {d rc rs : Nat} (o : Nat) (a1 : Int32) (a2 : Int32) (a3 : Int32)  {M : Mem} {Q : Option Value → Mem → Prop} (h : (x_h M o).1 = 28 ∧ (∃ b2, x_r M o 15 = some b2 ∧ (x_h M b2).1 = 1 ∧ vp_in ((27 * ((40 * a1) + a2)) + a3) (x_h M b2).2 ∧ Q (some (.int (x_i M b2 ((27 * ((40 * a1) + a2)) + a3).toNatClampNeg))) M)) : Call G (d + 1) rc rs mX12_to [.ref o, .int a1, .int a2, .int a3] M Q := by
  refine call_of (by decide) (Nat.le_of_ble_eq_true rfl) ?_
  show Wk G (d + 1) rc rs mX12_to 0 [some (.ref o), some (.int a1), some (.int a2), some (.int a3)] [] M Q
  refine r_aload_n (pc := 0) (i := 0) dX12_to_0 rfl rfl ?_
  obtain ⟨k1, h⟩ := h
  obtain ⟨b2, hb2, h⟩ := h
  refine r_getr (pc := 1) flX12_50 dX12_to_1 rfl k1 hb2 ?_
  refine r_bipush (pc := 4) (v := 27) dX12_to_4 (by decide) ?_
  refine r_bipush (pc := 6) (v := 40) dX12_to_6 (by decide) ?_
  refine r_iload_n (pc := 8) (i := 1) dX12_to_8 rfl rfl ?_
  refine r_imul (pc := 9) dX12_to_9 ?_
  refine r_iload_n (pc := 10) (i := 2) dX12_to_10 rfl rfl ?_
  refine r_iadd (pc := 11) dX12_to_11 ?_
  refine r_imul (pc := 12) dX12_to_12 ?_
  refine r_iload_n (pc := 13) (i := 3) dX12_to_13 rfl rfl ?_
  refine r_iadd (pc := 14) dX12_to_14 ?_
  obtain ⟨k3, h⟩ := h
  obtain ⟨i4, h⟩ := h
  refine r_iald (pc := 15) dX12_to_15 k3 i4 ?_
  exact r_iret (pc := 16) dX12_to_16 rfl h
theorem eX12_step {G : GG} {d rc rs : Nat} (o : Nat) (a1 : Int32) (a2 : Int32) (a3 : Int32)  {M : Mem} {Q : Option Value → Mem → Prop} (h : (x_h M o).1 = 28 ∧ Call G d 0 0 mX12_canAsk [.ref o, .int a1] M (fun r2 M3 => ∃ v4 : Int32, r2 = some (.int v4) ∧ (v4 = 0 → Q (some (.int (-1))) M3) ∧ (¬ v4 = 0 → (x_h M3 o).1 = 28 ∧ (∃ b7, x_r M3 o 14 = some b7 ∧ (x_h M3 b7).1 = 1 ∧ vp_in a1 (x_h M3 b7).2 ∧ Call G d 0 0 mX12_in [.int a2, .int 0, .int ((x_i M3 b7 a1.toNatClampNeg) - 1)] M3 (fun r10 M11 => ∃ v12 : Int32, r10 = some (.int v12) ∧ (¬ v12 = 0 → (x_h M11 o).1 = 28 ∧ (∃ b15, x_r M11 o 11 = some b15 ∧ (x_h M11 b15).1 = 1 ∧ vp_in a1 (x_h M11 b15).2 ∧ Call G d 0 0 mX12_across [.ref o, .int (x_i M11 b15 a1.toNatClampNeg)] M11 (fun r18 M19 => ∃ v20 : Int32, r18 = some (.int v20) ∧ Call G d 0 0 mX12_in [.int a3, .int 0, .int (v20 - 1)] M19 (fun r21 M22 => ∃ v23 : Int32, r21 = some (.int v23) ∧ (v23 = 0 → Q (some (.int (-1))) M22) ∧ (¬ v23 = 0 → (x_h M22 o).1 = 28 ∧ Call G d 0 0 mX12_to [.ref o, .int a1, .int a2, .int a3] M22 (fun r26 M27 => ∃ v28 : Int32, r26 = some (.int v28) ∧ Q (some (.int v28)) M27)))))) ∧ (v12 = 0 → Q (some (.int (-1))) M11)))))) : Call G (d + 1) rc rs mX12_step [.ref o, .int a1, .int a2, .int a3] M Q := by
  refine call_of (by decide) (Nat.le_of_ble_eq_true rfl) ?_
  show Wk G (d + 1) rc rs mX12_step 0 [some (.ref o), some (.int a1), some (.int a2), some (.int a3)] [] M Q
  refine r_aload_n (pc := 0) (i := 0) dX12_step_0 rfl rfl ?_
  refine r_iload_n (pc := 1) (i := 1) dX12_step_1 rfl rfl ?_
  obtain ⟨k1, h⟩ := h
  refine r_callV (pc := 2) (ci := 12) (as := [_]) (st := []) okX12_canAsk lkX12_286 inX12_canAsk seX12_canAsk ⟨_, rfl, rfl⟩ dX12_step_2 rfl k1 (Nat.le_of_ble_eq_true rfl) (Nat.zero_le _) (Nat.zero_le _) (Call.mono h (fun r2 M3 h => ?_))
  obtain ⟨v4, rfl, h⟩ := h
  refine r_if_eq (pc := 5) (tgt := 24) dX12_step_5 (by decide) (fun c5 => ?_) (fun c5 => ?_)
  · replace h := h.1 c5
    refine r_iconst (pc := 24) (v := (-1)) dX12_step_24 (by decide) ?_
    exact r_iret (pc := 25) dX12_step_25 rfl h
  · replace h := h.2 c5
    refine r_iload_n (pc := 8) (i := 2) dX12_step_8 rfl rfl ?_
    refine r_iconst (pc := 9) (v := 0) dX12_step_9 (by decide) ?_
    refine r_aload_n (pc := 10) (i := 0) dX12_step_10 rfl rfl ?_
    obtain ⟨k6, h⟩ := h
    obtain ⟨b7, hb7, h⟩ := h
    refine r_getr (pc := 11) flX12_47 dX12_step_11 rfl k6 hb7 ?_
    refine r_iload_n (pc := 14) (i := 1) dX12_step_14 rfl rfl ?_
    obtain ⟨k8, h⟩ := h
    obtain ⟨i9, h⟩ := h
    refine r_iald (pc := 15) dX12_step_15 k8 i9 ?_
    refine r_iconst (pc := 16) (v := 1) dX12_step_16 (by decide) ?_
    refine r_isub (pc := 17) dX12_step_17 ?_
    refine r_callS (pc := 18) (as := [_, _, _]) (st := []) okX12_in lkX12_218 stX12_in dX12_step_18 rfl (Nat.le_of_ble_eq_true rfl) (Nat.zero_le _) (Nat.zero_le _) (Call.mono h (fun r10 M11 h => ?_))
    obtain ⟨v12, rfl, h⟩ := h
    refine r_if_ne (pc := 21) (tgt := 26) dX12_step_21 (by decide) (fun c13 => ?_) (fun c13 => ?_)
    · replace h := h.1 c13
      refine r_iload_n (pc := 26) (i := 3) dX12_step_26 rfl rfl ?_
      refine r_iconst (pc := 27) (v := 0) dX12_step_27 (by decide) ?_
      refine r_aload_n (pc := 28) (i := 0) dX12_step_28 rfl rfl ?_
      refine r_aload_n (pc := 29) (i := 0) dX12_step_29 rfl rfl ?_
      obtain ⟨k14, h⟩ := h
      obtain ⟨b15, hb15, h⟩ := h
      refine r_getr (pc := 30) flX12_38 dX12_step_30 rfl k14 hb15 ?_
      refine r_iload_n (pc := 33) (i := 1) dX12_step_33 rfl rfl ?_
      obtain ⟨k16, h⟩ := h
      obtain ⟨i17, h⟩ := h
      refine r_iald (pc := 34) dX12_step_34 k16 i17 ?_
      refine r_callV (pc := 35) (ci := 12) (as := [_]) (st := [_, _]) okX12_across lkX12_417 inX12_across seX12_across ⟨_, rfl, rfl⟩ dX12_step_35 rfl k14 (Nat.le_of_ble_eq_true rfl) (Nat.zero_le _) (Nat.zero_le _) (Call.mono h (fun r18 M19 h => ?_))
      obtain ⟨v20, rfl, h⟩ := h
      refine r_iconst (pc := 38) (v := 1) dX12_step_38 (by decide) ?_
      refine r_isub (pc := 39) dX12_step_39 ?_
      refine r_callS (pc := 40) (as := [_, _, _]) (st := []) okX12_in lkX12_218 stX12_in dX12_step_40 rfl (Nat.le_of_ble_eq_true rfl) (Nat.zero_le _) (Nat.zero_le _) (Call.mono h (fun r21 M22 h => ?_))
      obtain ⟨v23, rfl, h⟩ := h
      refine r_if_eq (pc := 43) (tgt := 56) dX12_step_43 (by decide) (fun c24 => ?_) (fun c24 => ?_)
      · replace h := h.1 c24
        refine r_iconst (pc := 56) (v := (-1)) dX12_step_56 (by decide) ?_
        exact r_iret (pc := 57) dX12_step_57 rfl h
      · replace h := h.2 c24
        refine r_aload_n (pc := 46) (i := 0) dX12_step_46 rfl rfl ?_
        refine r_iload_n (pc := 47) (i := 1) dX12_step_47 rfl rfl ?_
        refine r_iload_n (pc := 48) (i := 2) dX12_step_48 rfl rfl ?_
        refine r_iload_n (pc := 49) (i := 3) dX12_step_49 rfl rfl ?_
        obtain ⟨k25, h⟩ := h
        refine r_callV (pc := 50) (ci := 12) (as := [_, _, _]) (st := []) okX12_to lkX12_506 inX12_to seX12_to ⟨_, rfl, rfl⟩ dX12_step_50 rfl k25 (Nat.le_of_ble_eq_true rfl) (Nat.zero_le _) (Nat.zero_le _) (Call.mono h (fun r26 M27 h => ?_))
        obtain ⟨v28, rfl, h⟩ := h
        refine r_goto (pc := 53) (tgt := 57) dX12_step_53 (by decide) ?_
        exact r_iret (pc := 57) dX12_step_57 rfl h
    · replace h := h.2 c13
      refine r_iconst (pc := 24) (v := (-1)) dX12_step_24 (by decide) ?_
      exact r_iret (pc := 25) dX12_step_25 rfl h
theorem eX12_takes {G : GG} {d rc rs : Nat} (o : Nat) (a1 : Int32) (a2 : Int32)  {M : Mem} {Q : Option Value → Mem → Prop} (h : (x_h M o).1 = 28 ∧ Call G d 0 0 mX12_canAsk [.ref o, .int a1] M (fun r2 M3 => ∃ v4 : Int32, r2 = some (.int v4) ∧ (v4 = 0 → Q (some (.int (-1))) M3) ∧ (¬ v4 = 0 → (x_h M3 o).1 = 28 ∧ (∃ b7, x_r M3 o 14 = some b7 ∧ (x_h M3 b7).1 = 1 ∧ vp_in a1 (x_h M3 b7).2 ∧ Call G d 0 0 mX12_in [.int a2, .int 0, .int ((x_i M3 b7 a1.toNatClampNeg) - 1)] M3 (fun r10 M11 => ∃ v12 : Int32, r10 = some (.int v12) ∧ (v12 = 0 → Q (some (.int (-1))) M11) ∧ (¬ v12 = 0 → (x_h M11 o).1 = 28 ∧ (∃ b15, x_r M11 o 16 = some b15 ∧ (x_h M11 b15).1 = 3 ∧ vp_in ((40 * a1) + a2) (x_h M11 b15).2 ∧ ((x_i M11 b15 ((40 * a1) + a2).toNatClampNeg) = 0 → Q (some (.int 0)) M11) ∧ (¬ (x_i M11 b15 ((40 * a1) + a2).toNatClampNeg) = 0 → Q (some (.int 1)) M11)))))))) : Call G (d + 1) rc rs mX12_takes [.ref o, .int a1, .int a2] M Q := by
  refine call_of (by decide) (Nat.le_of_ble_eq_true rfl) ?_
  show Wk G (d + 1) rc rs mX12_takes 0 [some (.ref o), some (.int a1), some (.int a2)] [] M Q
  refine r_aload_n (pc := 0) (i := 0) dX12_takes_0 rfl rfl ?_
  refine r_iload_n (pc := 1) (i := 1) dX12_takes_1 rfl rfl ?_
  obtain ⟨k1, h⟩ := h
  refine r_callV (pc := 2) (ci := 12) (as := [_]) (st := []) okX12_canAsk lkX12_286 inX12_canAsk seX12_canAsk ⟨_, rfl, rfl⟩ dX12_takes_2 rfl k1 (Nat.le_of_ble_eq_true rfl) (Nat.zero_le _) (Nat.zero_le _) (Call.mono h (fun r2 M3 h => ?_))
  obtain ⟨v4, rfl, h⟩ := h
  refine r_if_eq (pc := 5) (tgt := 46) dX12_takes_5 (by decide) (fun c5 => ?_) (fun c5 => ?_)
  · replace h := h.1 c5
    refine r_iconst (pc := 46) (v := (-1)) dX12_takes_46 (by decide) ?_
    exact r_iret (pc := 47) dX12_takes_47 rfl h
  · replace h := h.2 c5
    refine r_iload_n (pc := 8) (i := 2) dX12_takes_8 rfl rfl ?_
    refine r_iconst (pc := 9) (v := 0) dX12_takes_9 (by decide) ?_
    refine r_aload_n (pc := 10) (i := 0) dX12_takes_10 rfl rfl ?_
    obtain ⟨k6, h⟩ := h
    obtain ⟨b7, hb7, h⟩ := h
    refine r_getr (pc := 11) flX12_47 dX12_takes_11 rfl k6 hb7 ?_
    refine r_iload_n (pc := 14) (i := 1) dX12_takes_14 rfl rfl ?_
    obtain ⟨k8, h⟩ := h
    obtain ⟨i9, h⟩ := h
    refine r_iald (pc := 15) dX12_takes_15 k8 i9 ?_
    refine r_iconst (pc := 16) (v := 1) dX12_takes_16 (by decide) ?_
    refine r_isub (pc := 17) dX12_takes_17 ?_
    refine r_callS (pc := 18) (as := [_, _, _]) (st := []) okX12_in lkX12_218 stX12_in dX12_takes_18 rfl (Nat.le_of_ble_eq_true rfl) (Nat.zero_le _) (Nat.zero_le _) (Call.mono h (fun r10 M11 h => ?_))
    obtain ⟨v12, rfl, h⟩ := h
    refine r_if_eq (pc := 21) (tgt := 46) dX12_takes_21 (by decide) (fun c13 => ?_) (fun c13 => ?_)
    · replace h := h.1 c13
      refine r_iconst (pc := 46) (v := (-1)) dX12_takes_46 (by decide) ?_
      exact r_iret (pc := 47) dX12_takes_47 rfl h
    · replace h := h.2 c13
      refine r_aload_n (pc := 24) (i := 0) dX12_takes_24 rfl rfl ?_
      obtain ⟨k14, h⟩ := h
      obtain ⟨b15, hb15, h⟩ := h
      refine r_getr (pc := 25) flX12_53 dX12_takes_25 rfl k14 hb15 ?_
      refine r_bipush (pc := 28) (v := 40) dX12_takes_28 (by decide) ?_
      refine r_iload_n (pc := 30) (i := 1) dX12_takes_30 rfl rfl ?_
      refine r_imul (pc := 31) dX12_takes_31 ?_
      refine r_iload_n (pc := 32) (i := 2) dX12_takes_32 rfl rfl ?_
      refine r_iadd (pc := 33) dX12_takes_33 ?_
      obtain ⟨k16, h⟩ := h
      obtain ⟨i17, h⟩ := h
      refine r_zald (pc := 34) dX12_takes_34 k16 i17 ?_
      refine r_if_eq (pc := 35) (tgt := 42) dX12_takes_35 (by decide) (fun c18 => ?_) (fun c18 => ?_)
      · replace h := h.1 c18
        refine r_iconst (pc := 42) (v := 0) dX12_takes_42 (by decide) ?_
        refine r_goto (pc := 43) (tgt := 47) dX12_takes_43 (by decide) ?_
        exact r_iret (pc := 47) dX12_takes_47 rfl h
      · replace h := h.2 c18
        refine r_iconst (pc := 38) (v := 1) dX12_takes_38 (by decide) ?_
        refine r_goto (pc := 39) (tgt := 47) dX12_takes_39 (by decide) ?_
        exact r_iret (pc := 47) dX12_takes_47 rfl h
abbrev LX12_holds_55 (G : GG) (d rc rs : Nat) (p0 : Nat) (x1 : Int32) (l2 : Int64) (l4 : Int64) (l6 : Int64) (x8 : Int32) (M : Mem) (Q : Option Value → Mem → Prop) : Prop := Wk G (d + 1) rc rs mX12_holds 55 [some (.ref p0), some (.int x1), some (.long l2), none, some (.long l4), none, some (.long l6), none, some (.int x8), none, none, none, none, none] [] M Q
abbrev LX12_holds_99 (G : GG) (d rc rs : Nat) (p0 : Nat) (x1 : Int32) (l2 : Int64) (l4 : Int64) (l6 : Int64) (x8 : Int32) (x9 : Int32) (q0 : Nat) (u1 : Int32) (v2 : Int64) (M : Mem) (Q : Option Value → Mem → Prop) : Prop := Wk G (d + 1) rc rs mX12_holds 99 [some (.ref p0), some (.int x1), some (.long l2), none, some (.long l4), none, some (.long l6), none, some (.int x8), some (.int x9), none, none, none, none] [.long v2, .int u1, .ref q0] M Q
abbrev LX12_holds_148 (G : GG) (d rc rs : Nat) (p0 : Nat) (x1 : Int32) (l2 : Int64) (l4 : Int64) (l6 : Int64) (x8 : Int32) (x9 : Int32) (x10 : Int32) (x11 : Int32) (z12 : Option Value) (z13 : Option Value) (M : Mem) (Q : Option Value → Mem → Prop) : Prop := Wk G (d + 1) rc rs mX12_holds 148 [some (.ref p0), some (.int x1), some (.long l2), none, some (.long l4), none, some (.long l6), none, some (.int x8), some (.int x9), some (.int x10), some (.int x11), z12, z13] [] M Q
abbrev LX12_holds_161 (G : GG) (d rc rs : Nat) (p0 : Nat) (x1 : Int32) (l2 : Int64) (l4 : Int64) (l6 : Int64) (x8 : Int32) (x9 : Int32) (x10 : Int32) (x11 : Int32) (x12 : Int32) (x13 : Int32) (M : Mem) (Q : Option Value → Mem → Prop) : Prop := Wk G (d + 1) rc rs mX12_holds 161 [some (.ref p0), some (.int x1), some (.long l2), none, some (.long l4), none, some (.long l6), none, some (.int x8), some (.int x9), some (.int x10), some (.int x11), some (.int x12), some (.int x13)] [] M Q
theorem eX12_holds {G : GG} {d rc rs : Nat} (o : Nat) (a1 : Int32) (a2 : Int64) (a3 : Int64) (a4 : Int64)  {M : Mem} {Q : Option Value → Mem → Prop} (h : (x_h M o).1 = 28 ∧ Call G d 0 0 mX12_canAsk [.ref o, .int a1] M (fun r2 M3 => ∃ v4 : Int32, r2 = some (.int v4) ∧ (¬ v4 = 0 → (x_h M3 o).1 = 28 ∧ (∃ b7, x_r M3 o 11 = some b7 ∧ (x_h M3 b7).1 = 1 ∧ vp_in a1 (x_h M3 b7).2 ∧ Call G d 0 0 mX12_bits [.int (x_i M3 b7 a1.toNatClampNeg)] M3 (fun r10 M11 => ∃ v12 : Int32, r10 = some (.int v12) ∧ (v12 ≤ 0 → (v12 ≤ 1 → LX12_holds_55 G d rc rs o a1 a2 a3 a4 v12 M11 Q) ∧ (¬ v12 ≤ 1 → Call G d 0 0 mX12_isOutside [.long a3, .long 0, .long 4611686018427387904] M11 (fun r15 M16 => ∃ v17 : Int32, r15 = some (.int v17) ∧ (¬ v17 = 0 → ((1 : Int32) = 0 → (v12 ≤ 0 → LX12_holds_99 G d rc rs o a1 a2 a3 a4 v12 1 o 0 0 M16 Q) ∧ (¬ v12 ≤ 0 → LX12_holds_99 G d rc rs o a1 a2 a3 a4 v12 1 o 0 a2 M16 Q)) ∧ (¬ (1 : Int32) = 0 → Q (some (.int (-1))) M16)) ∧ (v17 = 0 → LX12_holds_55 G d rc rs o a1 a2 a3 a4 v12 M16 Q)))) ∧ (¬ v12 ≤ 0 → Call G d 0 0 mX12_isOutside [.long a2, .long 0, .long 4611686018427387904] M11 (fun r21 M22 => ∃ v23 : Int32, r21 = some (.int v23) ∧ (¬ v23 = 0 → ((1 : Int32) = 0 → (v12 ≤ 0 → LX12_holds_99 G d rc rs o a1 a2 a3 a4 v12 1 o 0 0 M22 Q) ∧ (¬ v12 ≤ 0 → LX12_holds_99 G d rc rs o a1 a2 a3 a4 v12 1 o 0 a2 M22 Q)) ∧ (¬ (1 : Int32) = 0 → Q (some (.int (-1))) M22)) ∧ (v23 = 0 → (v12 ≤ 1 → LX12_holds_55 G d rc rs o a1 a2 a3 a4 v12 M22 Q) ∧ (¬ v12 ≤ 1 → Call G d 0 0 mX12_isOutside [.long a3, .long 0, .long 4611686018427387904] M22 (fun r28 M29 => ∃ v30 : Int32, r28 = some (.int v30) ∧ (¬ v30 = 0 → ((1 : Int32) = 0 → (v12 ≤ 0 → LX12_holds_99 G d rc rs o a1 a2 a3 a4 v12 1 o 0 0 M29 Q) ∧ (¬ v12 ≤ 0 → LX12_holds_99 G d rc rs o a1 a2 a3 a4 v12 1 o 0 a2 M29 Q)) ∧ (¬ (1 : Int32) = 0 → Q (some (.int (-1))) M29)) ∧ (v30 = 0 → LX12_holds_55 G d rc rs o a1 a2 a3 a4 v12 M29 Q))))))))) ∧ (v4 = 0 → Q (some (.int (-1))) M3))) : Call G (d + 1) rc rs mX12_holds [.ref o, .int a1, .long a2, .long a3, .long a4] M Q := by
  refine call_of (by decide) (Nat.le_of_ble_eq_true rfl) ?_
  show Wk G (d + 1) rc rs mX12_holds 0 [some (.ref o), some (.int a1), some (.long a2), none, some (.long a3), none, some (.long a4), none, none, none, none, none, none, none] [] M Q
  refine r_aload_n (pc := 0) (i := 0) dX12_holds_0 rfl rfl ?_
  refine r_iload_n (pc := 1) (i := 1) dX12_holds_1 rfl rfl ?_
  obtain ⟨k1, h⟩ := h
  refine r_callV (pc := 2) (ci := 12) (as := [_]) (st := []) okX12_canAsk lkX12_286 inX12_canAsk seX12_canAsk ⟨_, rfl, rfl⟩ dX12_holds_2 rfl k1 (Nat.le_of_ble_eq_true rfl) (Nat.zero_le _) (Nat.zero_le _) (Call.mono h (fun r2 M3 h => ?_))
  obtain ⟨v4, rfl, h⟩ := h
  refine r_if_ne (pc := 5) (tgt := 10) dX12_holds_5 (by decide) (fun c5 => ?_) (fun c5 => ?_)
  · replace h := h.1 c5
    refine r_aload_n (pc := 10) (i := 0) dX12_holds_10 rfl rfl ?_
    obtain ⟨k6, h⟩ := h
    obtain ⟨b7, hb7, h⟩ := h
    refine r_getr (pc := 11) flX12_38 dX12_holds_11 rfl k6 hb7 ?_
    refine r_iload_n (pc := 14) (i := 1) dX12_holds_14 rfl rfl ?_
    obtain ⟨k8, h⟩ := h
    obtain ⟨i9, h⟩ := h
    refine r_iald (pc := 15) dX12_holds_15 k8 i9 ?_
    refine r_callS (pc := 16) (as := [_]) (st := []) okX12_bits lkX12_222 stX12_bits dX12_holds_16 rfl (Nat.le_of_ble_eq_true rfl) (Nat.zero_le _) (Nat.zero_le _) (Call.mono h (fun r10 M11 h => ?_))
    obtain ⟨v12, rfl, h⟩ := h
    refine r_istore (pc := 19) (i := 8) dX12_holds_19 rfl (Nat.le_of_ble_eq_true rfl) ?_
    refine r_iload (pc := 21) (i := 8) dX12_holds_21 rfl ?_
    refine r_if_le (pc := 23) (tgt := 37) dX12_holds_23 (by decide) (fun c13 => ?_) (fun c13 => ?_)
    · replace h := h.1 c13
      refine r_iload (pc := 37) (i := 8) dX12_holds_37 rfl ?_
      refine r_iconst (pc := 39) (v := 1) dX12_holds_39 (by decide) ?_
      refine r_icmp_le (pc := 40) (tgt := 55) dX12_holds_40 (by decide) (fun c14 => ?_) (fun c14 => ?_)
      · replace h := h.1 c14
        exact h
      · replace h := h.2 c14
        refine r_lload (pc := 43) (i := 4) dX12_holds_43 rfl ?_
        refine r_lconst (pc := 45) (v := 0) dX12_holds_45 (by decide) ?_
        refine r_ldc2 (pc := 46) (v := 4611686018427387904) dX12_holds_46 ww_1761 ?_
        refine r_callS (pc := 49) (as := [_, _, _]) (st := []) okX12_isOutside lkX12_483 stX12_isOutside dX12_holds_49 rfl (Nat.le_of_ble_eq_true rfl) (Nat.zero_le _) (Nat.zero_le _) (Call.mono h (fun r15 M16 h => ?_))
        obtain ⟨v17, rfl, h⟩ := h
        refine r_if_ne (pc := 52) (tgt := 73) dX12_holds_52 (by decide) (fun c18 => ?_) (fun c18 => ?_)
        · replace h := h.1 c18
          refine r_iconst (pc := 73) (v := 1) dX12_holds_73 (by decide) ?_
          refine r_goto (pc := 74) (tgt := 78) dX12_holds_74 (by decide) ?_
          refine r_istore (pc := 78) (i := 9) dX12_holds_78 rfl (Nat.le_of_ble_eq_true rfl) ?_
          refine r_iload (pc := 80) (i := 9) dX12_holds_80 rfl ?_
          refine r_if_eq (pc := 82) (tgt := 87) dX12_holds_82 (by decide) (fun c19 => ?_) (fun c19 => ?_)
          · replace h := h.1 c19
            refine r_aload_n (pc := 87) (i := 0) dX12_holds_87 rfl rfl ?_
            refine r_iconst (pc := 88) (v := 0) dX12_holds_88 (by decide) ?_
            refine r_iload (pc := 89) (i := 8) dX12_holds_89 rfl ?_
            refine r_if_le (pc := 91) (tgt := 98) dX12_holds_91 (by decide) (fun c20 => ?_) (fun c20 => ?_)
            · replace h := h.1 c20
              refine r_lconst (pc := 98) (v := 0) dX12_holds_98 (by decide) ?_
              exact h
            · replace h := h.2 c20
              refine r_lload_n (pc := 94) (i := 2) dX12_holds_94 rfl rfl ?_
              refine r_goto (pc := 95) (tgt := 99) dX12_holds_95 (by decide) ?_
              exact h
          · replace h := h.2 c19
            refine r_iconst (pc := 85) (v := (-1)) dX12_holds_85 (by decide) ?_
            exact r_iret (pc := 86) dX12_holds_86 rfl h
        · replace h := h.2 c18
          exact h
    · replace h := h.2 c13
      refine r_lload_n (pc := 26) (i := 2) dX12_holds_26 rfl rfl ?_
      refine r_lconst (pc := 27) (v := 0) dX12_holds_27 (by decide) ?_
      refine r_ldc2 (pc := 28) (v := 4611686018427387904) dX12_holds_28 ww_1761 ?_
      refine r_callS (pc := 31) (as := [_, _, _]) (st := []) okX12_isOutside lkX12_483 stX12_isOutside dX12_holds_31 rfl (Nat.le_of_ble_eq_true rfl) (Nat.zero_le _) (Nat.zero_le _) (Call.mono h (fun r21 M22 h => ?_))
      obtain ⟨v23, rfl, h⟩ := h
      refine r_if_ne (pc := 34) (tgt := 73) dX12_holds_34 (by decide) (fun c24 => ?_) (fun c24 => ?_)
      · replace h := h.1 c24
        refine r_iconst (pc := 73) (v := 1) dX12_holds_73 (by decide) ?_
        refine r_goto (pc := 74) (tgt := 78) dX12_holds_74 (by decide) ?_
        refine r_istore (pc := 78) (i := 9) dX12_holds_78 rfl (Nat.le_of_ble_eq_true rfl) ?_
        refine r_iload (pc := 80) (i := 9) dX12_holds_80 rfl ?_
        refine r_if_eq (pc := 82) (tgt := 87) dX12_holds_82 (by decide) (fun c25 => ?_) (fun c25 => ?_)
        · replace h := h.1 c25
          refine r_aload_n (pc := 87) (i := 0) dX12_holds_87 rfl rfl ?_
          refine r_iconst (pc := 88) (v := 0) dX12_holds_88 (by decide) ?_
          refine r_iload (pc := 89) (i := 8) dX12_holds_89 rfl ?_
          refine r_if_le (pc := 91) (tgt := 98) dX12_holds_91 (by decide) (fun c26 => ?_) (fun c26 => ?_)
          · replace h := h.1 c26
            refine r_lconst (pc := 98) (v := 0) dX12_holds_98 (by decide) ?_
            exact h
          · replace h := h.2 c26
            refine r_lload_n (pc := 94) (i := 2) dX12_holds_94 rfl rfl ?_
            refine r_goto (pc := 95) (tgt := 99) dX12_holds_95 (by decide) ?_
            exact h
        · replace h := h.2 c25
          refine r_iconst (pc := 85) (v := (-1)) dX12_holds_85 (by decide) ?_
          exact r_iret (pc := 86) dX12_holds_86 rfl h
      · replace h := h.2 c24
        refine r_iload (pc := 37) (i := 8) dX12_holds_37 rfl ?_
        refine r_iconst (pc := 39) (v := 1) dX12_holds_39 (by decide) ?_
        refine r_icmp_le (pc := 40) (tgt := 55) dX12_holds_40 (by decide) (fun c27 => ?_) (fun c27 => ?_)
        · replace h := h.1 c27
          exact h
        · replace h := h.2 c27
          refine r_lload (pc := 43) (i := 4) dX12_holds_43 rfl ?_
          refine r_lconst (pc := 45) (v := 0) dX12_holds_45 (by decide) ?_
          refine r_ldc2 (pc := 46) (v := 4611686018427387904) dX12_holds_46 ww_1761 ?_
          refine r_callS (pc := 49) (as := [_, _, _]) (st := []) okX12_isOutside lkX12_483 stX12_isOutside dX12_holds_49 rfl (Nat.le_of_ble_eq_true rfl) (Nat.zero_le _) (Nat.zero_le _) (Call.mono h (fun r28 M29 h => ?_))
          obtain ⟨v30, rfl, h⟩ := h
          refine r_if_ne (pc := 52) (tgt := 73) dX12_holds_52 (by decide) (fun c31 => ?_) (fun c31 => ?_)
          · replace h := h.1 c31
            refine r_iconst (pc := 73) (v := 1) dX12_holds_73 (by decide) ?_
            refine r_goto (pc := 74) (tgt := 78) dX12_holds_74 (by decide) ?_
            refine r_istore (pc := 78) (i := 9) dX12_holds_78 rfl (Nat.le_of_ble_eq_true rfl) ?_
            refine r_iload (pc := 80) (i := 9) dX12_holds_80 rfl ?_
            refine r_if_eq (pc := 82) (tgt := 87) dX12_holds_82 (by decide) (fun c32 => ?_) (fun c32 => ?_)
            · replace h := h.1 c32
              refine r_aload_n (pc := 87) (i := 0) dX12_holds_87 rfl rfl ?_
              refine r_iconst (pc := 88) (v := 0) dX12_holds_88 (by decide) ?_
              refine r_iload (pc := 89) (i := 8) dX12_holds_89 rfl ?_
              refine r_if_le (pc := 91) (tgt := 98) dX12_holds_91 (by decide) (fun c33 => ?_) (fun c33 => ?_)
              · replace h := h.1 c33
                refine r_lconst (pc := 98) (v := 0) dX12_holds_98 (by decide) ?_
                exact h
              · replace h := h.2 c33
                refine r_lload_n (pc := 94) (i := 2) dX12_holds_94 rfl rfl ?_
                refine r_goto (pc := 95) (tgt := 99) dX12_holds_95 (by decide) ?_
                exact h
            · replace h := h.2 c32
              refine r_iconst (pc := 85) (v := (-1)) dX12_holds_85 (by decide) ?_
              exact r_iret (pc := 86) dX12_holds_86 rfl h
          · replace h := h.2 c31
            exact h
  · replace h := h.2 c5
    refine r_iconst (pc := 8) (v := (-1)) dX12_holds_8 (by decide) ?_
    exact r_iret (pc := 9) dX12_holds_9 rfl h
theorem vX12_holds_55 {G : GG} {d rc rs : Nat} (p0 : Nat) (x1 : Int32) (l2 : Int64) (l4 : Int64) (l6 : Int64) (x8 : Int32)  {M : Mem} {Q : Option Value → Mem → Prop} (h : (x8 ≤ 2 → ((0 : Int32) = 0 → (x8 ≤ 0 → LX12_holds_99 G d rc rs p0 x1 l2 l4 l6 x8 0 p0 0 0 M Q) ∧ (¬ x8 ≤ 0 → LX12_holds_99 G d rc rs p0 x1 l2 l4 l6 x8 0 p0 0 l2 M Q)) ∧ (¬ (0 : Int32) = 0 → Q (some (.int (-1))) M)) ∧ (¬ x8 ≤ 2 → Call G d 0 0 mX12_isOutside [.long l6, .long 0, .long 4611686018427387904] M (fun r4 M5 => ∃ v6 : Int32, r4 = some (.int v6) ∧ (v6 = 0 → ((0 : Int32) = 0 → (x8 ≤ 0 → LX12_holds_99 G d rc rs p0 x1 l2 l4 l6 x8 0 p0 0 0 M5 Q) ∧ (¬ x8 ≤ 0 → LX12_holds_99 G d rc rs p0 x1 l2 l4 l6 x8 0 p0 0 l2 M5 Q)) ∧ (¬ (0 : Int32) = 0 → Q (some (.int (-1))) M5)) ∧ (¬ v6 = 0 → ((1 : Int32) = 0 → (x8 ≤ 0 → LX12_holds_99 G d rc rs p0 x1 l2 l4 l6 x8 1 p0 0 0 M5 Q) ∧ (¬ x8 ≤ 0 → LX12_holds_99 G d rc rs p0 x1 l2 l4 l6 x8 1 p0 0 l2 M5 Q)) ∧ (¬ (1 : Int32) = 0 → Q (some (.int (-1))) M5))))) : LX12_holds_55 G d rc rs p0 x1 l2 l4 l6 x8 M Q := by
  show Wk G (d + 1) rc rs mX12_holds 55 _ _ M Q
  refine r_iload (pc := 55) (i := 8) dX12_holds_55 rfl ?_
  refine r_iconst (pc := 57) (v := 2) dX12_holds_57 (by decide) ?_
  refine r_icmp_le (pc := 58) (tgt := 77) dX12_holds_58 (by decide) (fun c1 => ?_) (fun c1 => ?_)
  · replace h := h.1 c1
    refine r_iconst (pc := 77) (v := 0) dX12_holds_77 (by decide) ?_
    refine r_istore (pc := 78) (i := 9) dX12_holds_78 rfl (Nat.le_of_ble_eq_true rfl) ?_
    refine r_iload (pc := 80) (i := 9) dX12_holds_80 rfl ?_
    refine r_if_eq (pc := 82) (tgt := 87) dX12_holds_82 (by decide) (fun c2 => ?_) (fun c2 => ?_)
    · replace h := h.1 c2
      refine r_aload_n (pc := 87) (i := 0) dX12_holds_87 rfl rfl ?_
      refine r_iconst (pc := 88) (v := 0) dX12_holds_88 (by decide) ?_
      refine r_iload (pc := 89) (i := 8) dX12_holds_89 rfl ?_
      refine r_if_le (pc := 91) (tgt := 98) dX12_holds_91 (by decide) (fun c3 => ?_) (fun c3 => ?_)
      · replace h := h.1 c3
        refine r_lconst (pc := 98) (v := 0) dX12_holds_98 (by decide) ?_
        exact h
      · replace h := h.2 c3
        refine r_lload_n (pc := 94) (i := 2) dX12_holds_94 rfl rfl ?_
        refine r_goto (pc := 95) (tgt := 99) dX12_holds_95 (by decide) ?_
        exact h
    · replace h := h.2 c2
      refine r_iconst (pc := 85) (v := (-1)) dX12_holds_85 (by decide) ?_
      exact r_iret (pc := 86) dX12_holds_86 rfl h
  · replace h := h.2 c1
    refine r_lload (pc := 61) (i := 6) dX12_holds_61 rfl ?_
    refine r_lconst (pc := 63) (v := 0) dX12_holds_63 (by decide) ?_
    refine r_ldc2 (pc := 64) (v := 4611686018427387904) dX12_holds_64 ww_1761 ?_
    refine r_callS (pc := 67) (as := [_, _, _]) (st := []) okX12_isOutside lkX12_483 stX12_isOutside dX12_holds_67 rfl (Nat.le_of_ble_eq_true rfl) (Nat.zero_le _) (Nat.zero_le _) (Call.mono h (fun r4 M5 h => ?_))
    obtain ⟨v6, rfl, h⟩ := h
    refine r_if_eq (pc := 70) (tgt := 77) dX12_holds_70 (by decide) (fun c7 => ?_) (fun c7 => ?_)
    · replace h := h.1 c7
      refine r_iconst (pc := 77) (v := 0) dX12_holds_77 (by decide) ?_
      refine r_istore (pc := 78) (i := 9) dX12_holds_78 rfl (Nat.le_of_ble_eq_true rfl) ?_
      refine r_iload (pc := 80) (i := 9) dX12_holds_80 rfl ?_
      refine r_if_eq (pc := 82) (tgt := 87) dX12_holds_82 (by decide) (fun c8 => ?_) (fun c8 => ?_)
      · replace h := h.1 c8
        refine r_aload_n (pc := 87) (i := 0) dX12_holds_87 rfl rfl ?_
        refine r_iconst (pc := 88) (v := 0) dX12_holds_88 (by decide) ?_
        refine r_iload (pc := 89) (i := 8) dX12_holds_89 rfl ?_
        refine r_if_le (pc := 91) (tgt := 98) dX12_holds_91 (by decide) (fun c9 => ?_) (fun c9 => ?_)
        · replace h := h.1 c9
          refine r_lconst (pc := 98) (v := 0) dX12_holds_98 (by decide) ?_
          exact h
        · replace h := h.2 c9
          refine r_lload_n (pc := 94) (i := 2) dX12_holds_94 rfl rfl ?_
          refine r_goto (pc := 95) (tgt := 99) dX12_holds_95 (by decide) ?_
          exact h
      · replace h := h.2 c8
        refine r_iconst (pc := 85) (v := (-1)) dX12_holds_85 (by decide) ?_
        exact r_iret (pc := 86) dX12_holds_86 rfl h
    · replace h := h.2 c7
      refine r_iconst (pc := 73) (v := 1) dX12_holds_73 (by decide) ?_
      refine r_goto (pc := 74) (tgt := 78) dX12_holds_74 (by decide) ?_
      refine r_istore (pc := 78) (i := 9) dX12_holds_78 rfl (Nat.le_of_ble_eq_true rfl) ?_
      refine r_iload (pc := 80) (i := 9) dX12_holds_80 rfl ?_
      refine r_if_eq (pc := 82) (tgt := 87) dX12_holds_82 (by decide) (fun c10 => ?_) (fun c10 => ?_)
      · replace h := h.1 c10
        refine r_aload_n (pc := 87) (i := 0) dX12_holds_87 rfl rfl ?_
        refine r_iconst (pc := 88) (v := 0) dX12_holds_88 (by decide) ?_
        refine r_iload (pc := 89) (i := 8) dX12_holds_89 rfl ?_
        refine r_if_le (pc := 91) (tgt := 98) dX12_holds_91 (by decide) (fun c11 => ?_) (fun c11 => ?_)
        · replace h := h.1 c11
          refine r_lconst (pc := 98) (v := 0) dX12_holds_98 (by decide) ?_
          exact h
        · replace h := h.2 c11
          refine r_lload_n (pc := 94) (i := 2) dX12_holds_94 rfl rfl ?_
          refine r_goto (pc := 95) (tgt := 99) dX12_holds_95 (by decide) ?_
          exact h
      · replace h := h.2 c10
        refine r_iconst (pc := 85) (v := (-1)) dX12_holds_85 (by decide) ?_
        exact r_iret (pc := 86) dX12_holds_86 rfl h
theorem vX12_holds_99 {G : GG} {d rc rs : Nat} (p0 : Nat) (x1 : Int32) (l2 : Int64) (l4 : Int64) (l6 : Int64) (x8 : Int32) (x9 : Int32) (q0 : Nat) (u1 : Int32) (v2 : Int64)  {M : Mem} {Q : Option Value → Mem → Prop} (h : (x_h M q0).1 = 28 ∧ Call G d 0 0 mX12_digitsOf [.ref q0, .int u1, .long v2, .int 64] M (fun r2 M3 => r2 = none ∧ (x8 ≤ 1 → (x_h M3 p0).1 = 28 ∧ Call G d 0 0 mX12_digitsOf [.ref p0, .int 1, .long 0, .int 64] M3 (fun r6 M7 => r6 = none ∧ (x8 ≤ 2 → (x_h M7 p0).1 = 28 ∧ Call G d 0 0 mX12_digitsOf [.ref p0, .int 2, .long 0, .int 64] M7 (fun r10 M11 => r10 = none ∧ LX12_holds_148 G d rc rs p0 x1 l2 l4 l6 x8 x9 0 0 none none M11 Q)) ∧ (¬ x8 ≤ 2 → (x_h M7 p0).1 = 28 ∧ Call G d 0 0 mX12_digitsOf [.ref p0, .int 2, .long l6, .int 64] M7 (fun r13 M14 => r13 = none ∧ LX12_holds_148 G d rc rs p0 x1 l2 l4 l6 x8 x9 0 0 none none M14 Q)))) ∧ (¬ x8 ≤ 1 → (x_h M3 p0).1 = 28 ∧ Call G d 0 0 mX12_digitsOf [.ref p0, .int 1, .long l4, .int 64] M3 (fun r16 M17 => r16 = none ∧ (x8 ≤ 2 → (x_h M17 p0).1 = 28 ∧ Call G d 0 0 mX12_digitsOf [.ref p0, .int 2, .long 0, .int 64] M17 (fun r20 M21 => r20 = none ∧ LX12_holds_148 G d rc rs p0 x1 l2 l4 l6 x8 x9 0 0 none none M21 Q)) ∧ (¬ x8 ≤ 2 → (x_h M17 p0).1 = 28 ∧ Call G d 0 0 mX12_digitsOf [.ref p0, .int 2, .long l6, .int 64] M17 (fun r23 M24 => r23 = none ∧ LX12_holds_148 G d rc rs p0 x1 l2 l4 l6 x8 x9 0 0 none none M24 Q)))))) : LX12_holds_99 G d rc rs p0 x1 l2 l4 l6 x8 x9 q0 u1 v2 M Q := by
  show Wk G (d + 1) rc rs mX12_holds 99 _ _ M Q
  refine r_bipush (pc := 99) (v := 64) dX12_holds_99 (by decide) ?_
  obtain ⟨k1, h⟩ := h
  refine r_callV (pc := 101) (ci := 12) (as := [_, _, _]) (st := []) okX12_digitsOf lkX12_487 inX12_digitsOf seX12_digitsOf ⟨_, rfl, rfl⟩ dX12_holds_101 rfl k1 (Nat.le_of_ble_eq_true rfl) (Nat.zero_le _) (Nat.zero_le _) (Call.mono h (fun r2 M3 h => ?_))
  obtain ⟨rfl, h⟩ := h
  refine r_aload_n (pc := 104) (i := 0) dX12_holds_104 rfl rfl ?_
  refine r_iconst (pc := 105) (v := 1) dX12_holds_105 (by decide) ?_
  refine r_iload (pc := 106) (i := 8) dX12_holds_106 rfl ?_
  refine r_iconst (pc := 108) (v := 1) dX12_holds_108 (by decide) ?_
  refine r_icmp_le (pc := 109) (tgt := 117) dX12_holds_109 (by decide) (fun c4 => ?_) (fun c4 => ?_)
  · replace h := h.1 c4
    refine r_lconst (pc := 117) (v := 0) dX12_holds_117 (by decide) ?_
    refine r_bipush (pc := 118) (v := 64) dX12_holds_118 (by decide) ?_
    obtain ⟨k5, h⟩ := h
    refine r_callV (pc := 120) (ci := 12) (as := [_, _, _]) (st := []) okX12_digitsOf lkX12_487 inX12_digitsOf seX12_digitsOf ⟨_, rfl, rfl⟩ dX12_holds_120 rfl k5 (Nat.le_of_ble_eq_true rfl) (Nat.zero_le _) (Nat.zero_le _) (Call.mono h (fun r6 M7 h => ?_))
    obtain ⟨rfl, h⟩ := h
    refine r_aload_n (pc := 123) (i := 0) dX12_holds_123 rfl rfl ?_
    refine r_iconst (pc := 124) (v := 2) dX12_holds_124 (by decide) ?_
    refine r_iload (pc := 125) (i := 8) dX12_holds_125 rfl ?_
    refine r_iconst (pc := 127) (v := 2) dX12_holds_127 (by decide) ?_
    refine r_icmp_le (pc := 128) (tgt := 136) dX12_holds_128 (by decide) (fun c8 => ?_) (fun c8 => ?_)
    · replace h := h.1 c8
      refine r_lconst (pc := 136) (v := 0) dX12_holds_136 (by decide) ?_
      refine r_bipush (pc := 137) (v := 64) dX12_holds_137 (by decide) ?_
      obtain ⟨k9, h⟩ := h
      refine r_callV (pc := 139) (ci := 12) (as := [_, _, _]) (st := []) okX12_digitsOf lkX12_487 inX12_digitsOf seX12_digitsOf ⟨_, rfl, rfl⟩ dX12_holds_139 rfl k9 (Nat.le_of_ble_eq_true rfl) (Nat.zero_le _) (Nat.zero_le _) (Call.mono h (fun r10 M11 h => ?_))
      obtain ⟨rfl, h⟩ := h
      refine r_iconst (pc := 142) (v := 0) dX12_holds_142 (by decide) ?_
      refine r_istore (pc := 143) (i := 10) dX12_holds_143 rfl (Nat.le_of_ble_eq_true rfl) ?_
      refine r_iconst (pc := 145) (v := 0) dX12_holds_145 (by decide) ?_
      refine r_istore (pc := 146) (i := 11) dX12_holds_146 rfl (Nat.le_of_ble_eq_true rfl) ?_
      exact h
    · replace h := h.2 c8
      refine r_lload (pc := 131) (i := 6) dX12_holds_131 rfl ?_
      refine r_goto (pc := 133) (tgt := 137) dX12_holds_133 (by decide) ?_
      refine r_bipush (pc := 137) (v := 64) dX12_holds_137 (by decide) ?_
      obtain ⟨k12, h⟩ := h
      refine r_callV (pc := 139) (ci := 12) (as := [_, _, _]) (st := []) okX12_digitsOf lkX12_487 inX12_digitsOf seX12_digitsOf ⟨_, rfl, rfl⟩ dX12_holds_139 rfl k12 (Nat.le_of_ble_eq_true rfl) (Nat.zero_le _) (Nat.zero_le _) (Call.mono h (fun r13 M14 h => ?_))
      obtain ⟨rfl, h⟩ := h
      refine r_iconst (pc := 142) (v := 0) dX12_holds_142 (by decide) ?_
      refine r_istore (pc := 143) (i := 10) dX12_holds_143 rfl (Nat.le_of_ble_eq_true rfl) ?_
      refine r_iconst (pc := 145) (v := 0) dX12_holds_145 (by decide) ?_
      refine r_istore (pc := 146) (i := 11) dX12_holds_146 rfl (Nat.le_of_ble_eq_true rfl) ?_
      exact h
  · replace h := h.2 c4
    refine r_lload (pc := 112) (i := 4) dX12_holds_112 rfl ?_
    refine r_goto (pc := 114) (tgt := 118) dX12_holds_114 (by decide) ?_
    refine r_bipush (pc := 118) (v := 64) dX12_holds_118 (by decide) ?_
    obtain ⟨k15, h⟩ := h
    refine r_callV (pc := 120) (ci := 12) (as := [_, _, _]) (st := []) okX12_digitsOf lkX12_487 inX12_digitsOf seX12_digitsOf ⟨_, rfl, rfl⟩ dX12_holds_120 rfl k15 (Nat.le_of_ble_eq_true rfl) (Nat.zero_le _) (Nat.zero_le _) (Call.mono h (fun r16 M17 h => ?_))
    obtain ⟨rfl, h⟩ := h
    refine r_aload_n (pc := 123) (i := 0) dX12_holds_123 rfl rfl ?_
    refine r_iconst (pc := 124) (v := 2) dX12_holds_124 (by decide) ?_
    refine r_iload (pc := 125) (i := 8) dX12_holds_125 rfl ?_
    refine r_iconst (pc := 127) (v := 2) dX12_holds_127 (by decide) ?_
    refine r_icmp_le (pc := 128) (tgt := 136) dX12_holds_128 (by decide) (fun c18 => ?_) (fun c18 => ?_)
    · replace h := h.1 c18
      refine r_lconst (pc := 136) (v := 0) dX12_holds_136 (by decide) ?_
      refine r_bipush (pc := 137) (v := 64) dX12_holds_137 (by decide) ?_
      obtain ⟨k19, h⟩ := h
      refine r_callV (pc := 139) (ci := 12) (as := [_, _, _]) (st := []) okX12_digitsOf lkX12_487 inX12_digitsOf seX12_digitsOf ⟨_, rfl, rfl⟩ dX12_holds_139 rfl k19 (Nat.le_of_ble_eq_true rfl) (Nat.zero_le _) (Nat.zero_le _) (Call.mono h (fun r20 M21 h => ?_))
      obtain ⟨rfl, h⟩ := h
      refine r_iconst (pc := 142) (v := 0) dX12_holds_142 (by decide) ?_
      refine r_istore (pc := 143) (i := 10) dX12_holds_143 rfl (Nat.le_of_ble_eq_true rfl) ?_
      refine r_iconst (pc := 145) (v := 0) dX12_holds_145 (by decide) ?_
      refine r_istore (pc := 146) (i := 11) dX12_holds_146 rfl (Nat.le_of_ble_eq_true rfl) ?_
      exact h
    · replace h := h.2 c18
      refine r_lload (pc := 131) (i := 6) dX12_holds_131 rfl ?_
      refine r_goto (pc := 133) (tgt := 137) dX12_holds_133 (by decide) ?_
      refine r_bipush (pc := 137) (v := 64) dX12_holds_137 (by decide) ?_
      obtain ⟨k22, h⟩ := h
      refine r_callV (pc := 139) (ci := 12) (as := [_, _, _]) (st := []) okX12_digitsOf lkX12_487 inX12_digitsOf seX12_digitsOf ⟨_, rfl, rfl⟩ dX12_holds_139 rfl k22 (Nat.le_of_ble_eq_true rfl) (Nat.zero_le _) (Nat.zero_le _) (Call.mono h (fun r23 M24 h => ?_))
      obtain ⟨rfl, h⟩ := h
      refine r_iconst (pc := 142) (v := 0) dX12_holds_142 (by decide) ?_
      refine r_istore (pc := 143) (i := 10) dX12_holds_143 rfl (Nat.le_of_ble_eq_true rfl) ?_
      refine r_iconst (pc := 145) (v := 0) dX12_holds_145 (by decide) ?_
      refine r_istore (pc := 146) (i := 11) dX12_holds_146 rfl (Nat.le_of_ble_eq_true rfl) ?_
      exact h
theorem vX12_holds_148 {G : GG} {d rc rs : Nat} (p0 : Nat) (x1 : Int32) (l2 : Int64) (l4 : Int64) (l6 : Int64) (x8 : Int32) (x9 : Int32) (x10 : Int32) (x11 : Int32) (z12 : Option Value) (z13 : Option Value) (hz12 : c1 z12 = true) (hz13 : c1 z13 = true) {M : Mem} {Q : Option Value → Mem → Prop} (h : (64 ≤ x11 → (x_h M p0).1 = 28 ∧ (∃ b3, x_r M p0 16 = some b3 ∧ (x_h M b3).1 = 3 ∧ vp_in ((40 * x1) + x10) (x_h M b3).2 ∧ ((x_i M b3 ((40 * x1) + x10).toNatClampNeg) = 0 → Q (some (.int 0)) M) ∧ (¬ (x_i M b3 ((40 * x1) + x10).toNatClampNeg) = 0 → Q (some (.int 1)) M))) ∧ (¬ 64 ≤ x11 → LX12_holds_161 G d rc rs p0 x1 l2 l4 l6 x8 x9 x10 x11 0 0 M Q)) : LX12_holds_148 G d rc rs p0 x1 l2 l4 l6 x8 x9 x10 x11 z12 z13 M Q := by
  show Wk G (d + 1) rc rs mX12_holds 148 _ _ M Q
  refine r_iload (pc := 148) (i := 11) dX12_holds_148 rfl ?_
  refine r_bipush (pc := 150) (v := 64) dX12_holds_150 (by decide) ?_
  refine r_icmp_ge (pc := 152) (tgt := 214) dX12_holds_152 (by decide) (fun c1 => ?_) (fun c1 => ?_)
  · replace h := h.1 c1
    refine r_aload_n (pc := 214) (i := 0) dX12_holds_214 rfl rfl ?_
    obtain ⟨k2, h⟩ := h
    obtain ⟨b3, hb3, h⟩ := h
    refine r_getr (pc := 215) flX12_53 dX12_holds_215 rfl k2 hb3 ?_
    refine r_bipush (pc := 218) (v := 40) dX12_holds_218 (by decide) ?_
    refine r_iload_n (pc := 220) (i := 1) dX12_holds_220 rfl rfl ?_
    refine r_imul (pc := 221) dX12_holds_221 ?_
    refine r_iload (pc := 222) (i := 10) dX12_holds_222 rfl ?_
    refine r_iadd (pc := 224) dX12_holds_224 ?_
    obtain ⟨k4, h⟩ := h
    obtain ⟨i5, h⟩ := h
    refine r_zald (pc := 225) dX12_holds_225 k4 i5 ?_
    refine r_if_eq (pc := 226) (tgt := 233) dX12_holds_226 (by decide) (fun c6 => ?_) (fun c6 => ?_)
    · replace h := h.1 c6
      refine r_iconst (pc := 233) (v := 0) dX12_holds_233 (by decide) ?_
      exact r_iret (pc := 234) dX12_holds_234 rfl h
    · replace h := h.2 c6
      refine r_iconst (pc := 229) (v := 1) dX12_holds_229 (by decide) ?_
      refine r_goto (pc := 230) (tgt := 234) dX12_holds_230 (by decide) ?_
      exact r_iret (pc := 234) dX12_holds_234 rfl h
  · replace h := h.2 c1
    refine r_iconst (pc := 155) (v := 0) dX12_holds_155 (by decide) ?_
    refine r_istore (pc := 156) (i := 12) dX12_holds_156 rfl (Nat.le_of_ble_eq_true rfl) ?_
    refine r_iconst (pc := 158) (v := 0) dX12_holds_158 (by decide) ?_
    refine r_istore (pc := 159) (i := 13) dX12_holds_159 rfl (Nat.le_of_ble_eq_true rfl) ?_
    exact h
theorem vX12_holds_161 {G : GG} {d rc rs : Nat} (p0 : Nat) (x1 : Int32) (l2 : Int64) (l4 : Int64) (l6 : Int64) (x8 : Int32) (x9 : Int32) (x10 : Int32) (x11 : Int32) (x12 : Int32) (x13 : Int32)  {M : Mem} {Q : Option Value → Mem → Prop} (h : (x8 ≤ x13 → (x_h M p0).1 = 28 ∧ Call G d 0 0 mX12_to [.ref p0, .int x1, .int x10, .int x12] M (fun r3 M4 => ∃ v5 : Int32, r3 = some (.int v5) ∧ LX12_holds_148 G d rc rs p0 x1 l2 l4 l6 x8 x9 v5 (x11 + 1) (some (.int x12)) (some (.int x13)) M4 Q)) ∧ (¬ x8 ≤ x13 → (x_h M p0).1 = 28 ∧ (∃ b7, x_r M p0 85 = some b7 ∧ (x_h M b7).1 = 1 ∧ vp_in ((110 * x13) + x11) (x_h M b7).2 ∧ LX12_holds_161 G d rc rs p0 x1 l2 l4 l6 x8 x9 x10 x11 (((x_i M p0 0) * x12) + (x_i M b7 ((110 * x13) + x11).toNatClampNeg)) (x13 + 1) M Q))) : LX12_holds_161 G d rc rs p0 x1 l2 l4 l6 x8 x9 x10 x11 x12 x13 M Q := by
  show Wk G (d + 1) rc rs mX12_holds 161 _ _ M Q
  refine r_iload (pc := 161) (i := 13) dX12_holds_161 rfl ?_
  refine r_iload (pc := 163) (i := 8) dX12_holds_163 rfl ?_
  refine r_icmp_ge (pc := 165) (tgt := 197) dX12_holds_165 (by decide) (fun c1 => ?_) (fun c1 => ?_)
  · replace h := h.1 c1
    refine r_aload_n (pc := 197) (i := 0) dX12_holds_197 rfl rfl ?_
    refine r_iload_n (pc := 198) (i := 1) dX12_holds_198 rfl rfl ?_
    refine r_iload (pc := 199) (i := 10) dX12_holds_199 rfl ?_
    refine r_iload (pc := 201) (i := 12) dX12_holds_201 rfl ?_
    obtain ⟨k2, h⟩ := h
    refine r_callV (pc := 203) (ci := 12) (as := [_, _, _]) (st := []) okX12_to lkX12_506 inX12_to seX12_to ⟨_, rfl, rfl⟩ dX12_holds_203 rfl k2 (Nat.le_of_ble_eq_true rfl) (Nat.zero_le _) (Nat.zero_le _) (Call.mono h (fun r3 M4 h => ?_))
    obtain ⟨v5, rfl, h⟩ := h
    refine r_istore (pc := 206) (i := 10) dX12_holds_206 rfl (Nat.le_of_ble_eq_true rfl) ?_
    refine r_iinc (pc := 208) (i := 11) (v := _ + 1) dX12_holds_208 rfl rfl rfl ?_
    refine r_goto (pc := 211) (tgt := 148) dX12_holds_211 (by decide) ?_
    exact h
  · replace h := h.2 c1
    refine r_aload_n (pc := 168) (i := 0) dX12_holds_168 rfl rfl ?_
    obtain ⟨k6, h⟩ := h
    refine r_geti (pc := 169) flX12_7 dX12_holds_169 (Or.inl rfl) k6 ?_
    refine r_iload (pc := 172) (i := 12) dX12_holds_172 rfl ?_
    refine r_imul (pc := 174) dX12_holds_174 ?_
    refine r_aload_n (pc := 175) (i := 0) dX12_holds_175 rfl rfl ?_
    obtain ⟨b7, hb7, h⟩ := h
    refine r_getr (pc := 176) flX12_191 dX12_holds_176 rfl k6 hb7 ?_
    refine r_bipush (pc := 179) (v := 110) dX12_holds_179 (by decide) ?_
    refine r_iload (pc := 181) (i := 13) dX12_holds_181 rfl ?_
    refine r_imul (pc := 183) dX12_holds_183 ?_
    refine r_iload (pc := 184) (i := 11) dX12_holds_184 rfl ?_
    refine r_iadd (pc := 186) dX12_holds_186 ?_
    obtain ⟨k8, h⟩ := h
    obtain ⟨i9, h⟩ := h
    refine r_iald (pc := 187) dX12_holds_187 k8 i9 ?_
    refine r_iadd (pc := 188) dX12_holds_188 ?_
    refine r_istore (pc := 189) (i := 12) dX12_holds_189 rfl (Nat.le_of_ble_eq_true rfl) ?_
    refine r_iinc (pc := 191) (i := 13) (v := _ + 1) dX12_holds_191 rfl rfl rfl ?_
    refine r_goto (pc := 194) (tgt := 161) dX12_holds_194 (by decide) ?_
    exact h
abbrev LX12_leadsAll_2 (G : GG) (d rc rs : Nat) (p0 : Nat) (x1 : Int32) (x2 : Int32) (M : Mem) (Q : Option Value → Mem → Prop) : Prop := Wk G (d + 1) rc rs mX12_leadsAll 2 [some (.ref p0), some (.int x1), some (.int x2), none, none] [] M Q
abbrev LX12_leadsAll_37 (G : GG) (d rc rs : Nat) (p0 : Nat) (x1 : Int32) (x2 : Int32) (z3 : Option Value) (z4 : Option Value) (M : Mem) (Q : Option Value → Mem → Prop) : Prop := Wk G (d + 1) rc rs mX12_leadsAll 37 [some (.ref p0), some (.int x1), some (.int x2), z3, z4] [] M Q
abbrev LX12_leadsAll_45 (G : GG) (d rc rs : Nat) (p0 : Nat) (x1 : Int32) (x2 : Int32) (x3 : Int32) (z4 : Option Value) (M : Mem) (Q : Option Value → Mem → Prop) : Prop := Wk G (d + 1) rc rs mX12_leadsAll 45 [some (.ref p0), some (.int x1), some (.int x2), some (.int x3), z4] [] M Q
abbrev LX12_leadsAll_70 (G : GG) (d rc rs : Nat) (p0 : Nat) (x1 : Int32) (x2 : Int32) (x3 : Int32) (x4 : Int32) (M : Mem) (Q : Option Value → Mem → Prop) : Prop := Wk G (d + 1) rc rs mX12_leadsAll 70 [some (.ref p0), some (.int x1), some (.int x2), some (.int x3), some (.int x4)] [] M Q
theorem eX12_leadsAll {G : GG} {d rc rs : Nat} (o : Nat) (a1 : Int32)  {M : Mem} {Q : Option Value → Mem → Prop} (h : LX12_leadsAll_2 G d rc rs o a1 0 M Q) : Call G (d + 1) rc rs mX12_leadsAll [.ref o, .int a1] M Q := by
  refine call_of (by decide) (Nat.le_of_ble_eq_true rfl) ?_
  show Wk G (d + 1) rc rs mX12_leadsAll 0 [some (.ref o), some (.int a1), none, none, none] [] M Q
  refine r_iconst (pc := 0) (v := 0) dX12_leadsAll_0 (by decide) ?_
  refine r_istore_n (pc := 1) (i := 2) dX12_leadsAll_1 rfl rfl (Nat.le_of_ble_eq_true rfl) ?_
  exact h
theorem vX12_leadsAll_2 {G : GG} {d rc rs : Nat} (p0 : Nat) (x1 : Int32) (x2 : Int32)  {M : Mem} {Q : Option Value → Mem → Prop} (h : (x_h M p0).1 = 28 ∧ (∃ b2, x_r M p0 14 = some b2 ∧ (x_h M b2).1 = 1 ∧ vp_in x1 (x_h M b2).2 ∧ ((x_i M b2 x1.toNatClampNeg) ≤ x2 → LX12_leadsAll_37 G d rc rs p0 x1 1 none none M Q) ∧ (¬ (x_i M b2 x1.toNatClampNeg) ≤ x2 → ∃ b6, x_r M p0 87 = some b6 ∧ ∃ b7, x_r M p0 16 = some b7 ∧ (x_h M b7).1 = 3 ∧ vp_in ((40 * x1) + x2) (x_h M b7).2 ∧ (x_h M b6).1 = 3 ∧ vp_in x2 (x_h M b6).2 ∧ ((x_i M b7 ((40 * x1) + x2).toNatClampNeg) = 0 ∨ (x_i M b7 ((40 * x1) + x2).toNatClampNeg) = 1) ∧ (∀ M12, M12 = x_si M b6 x2.toNatClampNeg (x_i M b7 ((40 * x1) + x2).toNatClampNeg) → LX12_leadsAll_2 G d rc rs p0 x1 (x2 + 1) M12 Q)))) : LX12_leadsAll_2 G d rc rs p0 x1 x2 M Q := by
  show Wk G (d + 1) rc rs mX12_leadsAll 2 _ _ M Q
  refine r_iload_n (pc := 2) (i := 2) dX12_leadsAll_2 rfl rfl ?_
  refine r_aload_n (pc := 3) (i := 0) dX12_leadsAll_3 rfl rfl ?_
  obtain ⟨k1, h⟩ := h
  obtain ⟨b2, hb2, h⟩ := h
  refine r_getr (pc := 4) flX12_47 dX12_leadsAll_4 rfl k1 hb2 ?_
  refine r_iload_n (pc := 7) (i := 1) dX12_leadsAll_7 rfl rfl ?_
  obtain ⟨k3, h⟩ := h
  obtain ⟨i4, h⟩ := h
  refine r_iald (pc := 8) dX12_leadsAll_8 k3 i4 ?_
  refine r_icmp_ge (pc := 9) (tgt := 35) dX12_leadsAll_9 (by decide) (fun c5 => ?_) (fun c5 => ?_)
  · replace h := h.1 c5
    refine r_iconst (pc := 35) (v := 1) dX12_leadsAll_35 (by decide) ?_
    refine r_istore_n (pc := 36) (i := 2) dX12_leadsAll_36 rfl rfl (Nat.le_of_ble_eq_true rfl) ?_
    exact h
  · replace h := h.2 c5
    refine r_aload_n (pc := 12) (i := 0) dX12_leadsAll_12 rfl rfl ?_
    obtain ⟨b6, hb6, h⟩ := h
    refine r_getr (pc := 13) flX12_197 dX12_leadsAll_13 rfl k1 hb6 ?_
    refine r_iload_n (pc := 16) (i := 2) dX12_leadsAll_16 rfl rfl ?_
    refine r_aload_n (pc := 17) (i := 0) dX12_leadsAll_17 rfl rfl ?_
    obtain ⟨b7, hb7, h⟩ := h
    refine r_getr (pc := 18) flX12_53 dX12_leadsAll_18 rfl k1 hb7 ?_
    refine r_bipush (pc := 21) (v := 40) dX12_leadsAll_21 (by decide) ?_
    refine r_iload_n (pc := 23) (i := 1) dX12_leadsAll_23 rfl rfl ?_
    refine r_imul (pc := 24) dX12_leadsAll_24 ?_
    refine r_iload_n (pc := 25) (i := 2) dX12_leadsAll_25 rfl rfl ?_
    refine r_iadd (pc := 26) dX12_leadsAll_26 ?_
    obtain ⟨k8, h⟩ := h
    obtain ⟨i9, h⟩ := h
    refine r_zald (pc := 27) dX12_leadsAll_27 k8 i9 ?_
    obtain ⟨k10, h⟩ := h
    obtain ⟨i11, h⟩ := h
    obtain ⟨w13, h⟩ := h
    refine r_zast (pc := 28) dX12_leadsAll_28 w13 k10 i11 ?_
    replace h := h _ rfl
    refine r_iinc (pc := 29) (i := 2) (v := _ + 1) dX12_leadsAll_29 rfl rfl rfl ?_
    refine r_goto (pc := 32) (tgt := 2) dX12_leadsAll_32 (by decide) ?_
    exact h
theorem vX12_leadsAll_37 {G : GG} {d rc rs : Nat} (p0 : Nat) (x1 : Int32) (x2 : Int32) (z3 : Option Value) (z4 : Option Value) (hz3 : c1 z3 = true) (hz4 : c1 z4 = true) {M : Mem} {Q : Option Value → Mem → Prop} (h : (110 < x2 → Q none M) ∧ (¬ 110 < x2 → LX12_leadsAll_45 G d rc rs p0 x1 x2 0 z4 M Q)) : LX12_leadsAll_37 G d rc rs p0 x1 x2 z3 z4 M Q := by
  show Wk G (d + 1) rc rs mX12_leadsAll 37 _ _ M Q
  refine r_iload_n (pc := 37) (i := 2) dX12_leadsAll_37 rfl rfl ?_
  refine r_bipush (pc := 38) (v := 110) dX12_leadsAll_38 (by decide) ?_
  refine r_icmp_gt (pc := 40) (tgt := 150) dX12_leadsAll_40 (by decide) (fun c1 => ?_) (fun c1 => ?_)
  · replace h := h.1 c1
    exact r_vret (pc := 150) dX12_leadsAll_150 rfl h
  · replace h := h.2 c1
    refine r_iconst (pc := 43) (v := 0) dX12_leadsAll_43 (by decide) ?_
    refine r_istore_n (pc := 44) (i := 3) dX12_leadsAll_44 rfl rfl (Nat.le_of_ble_eq_true rfl) ?_
    exact h
theorem vX12_leadsAll_45 {G : GG} {d rc rs : Nat} (p0 : Nat) (x1 : Int32) (x2 : Int32) (x3 : Int32) (z4 : Option Value) (hz4 : c1 z4 = true) {M : Mem} {Q : Option Value → Mem → Prop} (h : (x_h M p0).1 = 28 ∧ (∃ b2, x_r M p0 14 = some b2 ∧ (x_h M b2).1 = 1 ∧ vp_in x1 (x_h M b2).2 ∧ ((x_i M b2 x1.toNatClampNeg) ≤ x3 → LX12_leadsAll_37 G d rc rs p0 x1 (x2 + 1) (some (.int x3)) z4 M Q) ∧ (¬ (x_i M b2 x1.toNatClampNeg) ≤ x3 → ∃ b6, x_r M p0 87 = some b6 ∧ (x_h M b6).1 = 3 ∧ vp_in ((40 * x2) + x3) (x_h M b6).2 ∧ (∀ M9, M9 = x_si M b6 ((40 * x2) + x3).toNatClampNeg 0 → LX12_leadsAll_70 G d rc rs p0 x1 x2 x3 0 M9 Q)))) : LX12_leadsAll_45 G d rc rs p0 x1 x2 x3 z4 M Q := by
  show Wk G (d + 1) rc rs mX12_leadsAll 45 _ _ M Q
  refine r_iload_n (pc := 45) (i := 3) dX12_leadsAll_45 rfl rfl ?_
  refine r_aload_n (pc := 46) (i := 0) dX12_leadsAll_46 rfl rfl ?_
  obtain ⟨k1, h⟩ := h
  obtain ⟨b2, hb2, h⟩ := h
  refine r_getr (pc := 47) flX12_47 dX12_leadsAll_47 rfl k1 hb2 ?_
  refine r_iload_n (pc := 50) (i := 1) dX12_leadsAll_50 rfl rfl ?_
  obtain ⟨k3, h⟩ := h
  obtain ⟨i4, h⟩ := h
  refine r_iald (pc := 51) dX12_leadsAll_51 k3 i4 ?_
  refine r_icmp_ge (pc := 52) (tgt := 144) dX12_leadsAll_52 (by decide) (fun c5 => ?_) (fun c5 => ?_)
  · replace h := h.1 c5
    refine r_iinc (pc := 144) (i := 2) (v := _ + 1) dX12_leadsAll_144 rfl rfl rfl ?_
    refine r_goto (pc := 147) (tgt := 37) dX12_leadsAll_147 (by decide) ?_
    exact h
  · replace h := h.2 c5
    refine r_aload_n (pc := 55) (i := 0) dX12_leadsAll_55 rfl rfl ?_
    obtain ⟨b6, hb6, h⟩ := h
    refine r_getr (pc := 56) flX12_197 dX12_leadsAll_56 rfl k1 hb6 ?_
    refine r_bipush (pc := 59) (v := 40) dX12_leadsAll_59 (by decide) ?_
    refine r_iload_n (pc := 61) (i := 2) dX12_leadsAll_61 rfl rfl ?_
    refine r_imul (pc := 62) dX12_leadsAll_62 ?_
    refine r_iload_n (pc := 63) (i := 3) dX12_leadsAll_63 rfl rfl ?_
    refine r_iadd (pc := 64) dX12_leadsAll_64 ?_
    refine r_iconst (pc := 65) (v := 0) dX12_leadsAll_65 (by decide) ?_
    obtain ⟨k7, h⟩ := h
    obtain ⟨i8, h⟩ := h
    refine r_zast (pc := 66) dX12_leadsAll_66 (Or.inl rfl) k7 i8 ?_
    replace h := h _ rfl
    refine r_iconst (pc := 67) (v := 0) dX12_leadsAll_67 (by decide) ?_
    refine r_istore (pc := 68) (i := 4) dX12_leadsAll_68 rfl (Nat.le_of_ble_eq_true rfl) ?_
    exact h
theorem vX12_leadsAll_70 {G : GG} {d rc rs : Nat} (p0 : Nat) (x1 : Int32) (x2 : Int32) (x3 : Int32) (x4 : Int32)  {M : Mem} {Q : Option Value → Mem → Prop} (h : (x_h M p0).1 = 28 ∧ ((x_i M p0 0) ≤ x4 → LX12_leadsAll_45 G d rc rs p0 x1 x2 (x3 + 1) (some (.int x4)) M Q) ∧ (¬ (x_i M p0 0) ≤ x4 → ∃ b3, x_r M p0 87 = some b3 ∧ (x_h M b3).1 = 3 ∧ vp_in ((40 * x2) + x3) (x_h M b3).2 ∧ (¬ (x_i M b3 ((40 * x2) + x3).toNatClampNeg) = 0 → ∀ M7, M7 = x_si M b3 ((40 * x2) + x3).toNatClampNeg 1 → LX12_leadsAll_70 G d rc rs p0 x1 x2 x3 (x4 + 1) M7 Q) ∧ ((x_i M b3 ((40 * x2) + x3).toNatClampNeg) = 0 → Call G d 0 0 mX12_to [.ref p0, .int x1, .int x3, .int x4] M (fun r8 M9 => ∃ v10 : Int32, r8 = some (.int v10) ∧ (x_h M9 b3).1 = 3 ∧ vp_in ((40 * (x2 - 1)) + v10) (x_h M9 b3).2 ∧ ((x_i M9 b3 ((40 * (x2 - 1)) + v10).toNatClampNeg) = 0 → vp_in ((40 * x2) + x3) (x_h M9 b3).2 ∧ (∀ M15, M15 = x_si M9 b3 ((40 * x2) + x3).toNatClampNeg 0 → LX12_leadsAll_70 G d rc rs p0 x1 x2 x3 (x4 + 1) M15 Q)) ∧ (¬ (x_i M9 b3 ((40 * (x2 - 1)) + v10).toNatClampNeg) = 0 → vp_in ((40 * x2) + x3) (x_h M9 b3).2 ∧ (∀ M17, M17 = x_si M9 b3 ((40 * x2) + x3).toNatClampNeg 1 → LX12_leadsAll_70 G d rc rs p0 x1 x2 x3 (x4 + 1) M17 Q)))))) : LX12_leadsAll_70 G d rc rs p0 x1 x2 x3 x4 M Q := by
  show Wk G (d + 1) rc rs mX12_leadsAll 70 _ _ M Q
  refine r_iload (pc := 70) (i := 4) dX12_leadsAll_70 rfl ?_
  refine r_aload_n (pc := 72) (i := 0) dX12_leadsAll_72 rfl rfl ?_
  obtain ⟨k1, h⟩ := h
  refine r_geti (pc := 73) flX12_7 dX12_leadsAll_73 (Or.inl rfl) k1 ?_
  refine r_icmp_ge (pc := 76) (tgt := 138) dX12_leadsAll_76 (by decide) (fun c2 => ?_) (fun c2 => ?_)
  · replace h := h.1 c2
    refine r_iinc (pc := 138) (i := 3) (v := _ + 1) dX12_leadsAll_138 rfl rfl rfl ?_
    refine r_goto (pc := 141) (tgt := 45) dX12_leadsAll_141 (by decide) ?_
    exact h
  · replace h := h.2 c2
    refine r_aload_n (pc := 79) (i := 0) dX12_leadsAll_79 rfl rfl ?_
    obtain ⟨b3, hb3, h⟩ := h
    refine r_getr (pc := 80) flX12_197 dX12_leadsAll_80 rfl k1 hb3 ?_
    refine r_bipush (pc := 83) (v := 40) dX12_leadsAll_83 (by decide) ?_
    refine r_iload_n (pc := 85) (i := 2) dX12_leadsAll_85 rfl rfl ?_
    refine r_imul (pc := 86) dX12_leadsAll_86 ?_
    refine r_iload_n (pc := 87) (i := 3) dX12_leadsAll_87 rfl rfl ?_
    refine r_iadd (pc := 88) dX12_leadsAll_88 ?_
    refine r_aload_n (pc := 89) (i := 0) dX12_leadsAll_89 rfl rfl ?_
    refine r_getr (pc := 90) flX12_197 dX12_leadsAll_90 rfl k1 hb3 ?_
    refine r_bipush (pc := 93) (v := 40) dX12_leadsAll_93 (by decide) ?_
    refine r_iload_n (pc := 95) (i := 2) dX12_leadsAll_95 rfl rfl ?_
    refine r_imul (pc := 96) dX12_leadsAll_96 ?_
    refine r_iload_n (pc := 97) (i := 3) dX12_leadsAll_97 rfl rfl ?_
    refine r_iadd (pc := 98) dX12_leadsAll_98 ?_
    obtain ⟨k4, h⟩ := h
    obtain ⟨i5, h⟩ := h
    refine r_zald (pc := 99) dX12_leadsAll_99 k4 i5 ?_
    refine r_if_ne (pc := 100) (tgt := 126) dX12_leadsAll_100 (by decide) (fun c6 => ?_) (fun c6 => ?_)
    · replace h := h.1 c6
      refine r_iconst (pc := 126) (v := 1) dX12_leadsAll_126 (by decide) ?_
      refine r_goto (pc := 127) (tgt := 131) dX12_leadsAll_127 (by decide) ?_
      refine r_zast (pc := 131) dX12_leadsAll_131 (Or.inr rfl) k4 i5 ?_
      replace h := h _ rfl
      refine r_iinc (pc := 132) (i := 4) (v := _ + 1) dX12_leadsAll_132 rfl rfl rfl ?_
      refine r_goto (pc := 135) (tgt := 70) dX12_leadsAll_135 (by decide) ?_
      exact h
    · replace h := h.2 c6
      refine r_aload_n (pc := 103) (i := 0) dX12_leadsAll_103 rfl rfl ?_
      refine r_getr (pc := 104) flX12_197 dX12_leadsAll_104 rfl k1 hb3 ?_
      refine r_bipush (pc := 107) (v := 40) dX12_leadsAll_107 (by decide) ?_
      refine r_iload_n (pc := 109) (i := 2) dX12_leadsAll_109 rfl rfl ?_
      refine r_iconst (pc := 110) (v := 1) dX12_leadsAll_110 (by decide) ?_
      refine r_isub (pc := 111) dX12_leadsAll_111 ?_
      refine r_imul (pc := 112) dX12_leadsAll_112 ?_
      refine r_aload_n (pc := 113) (i := 0) dX12_leadsAll_113 rfl rfl ?_
      refine r_iload_n (pc := 114) (i := 1) dX12_leadsAll_114 rfl rfl ?_
      refine r_iload_n (pc := 115) (i := 3) dX12_leadsAll_115 rfl rfl ?_
      refine r_iload (pc := 116) (i := 4) dX12_leadsAll_116 rfl ?_
      refine r_callV (pc := 118) (ci := 12) (as := [_, _, _]) (st := [_, _, _, _]) okX12_to lkX12_506 inX12_to seX12_to ⟨_, rfl, rfl⟩ dX12_leadsAll_118 rfl k1 (Nat.le_of_ble_eq_true rfl) (Nat.zero_le _) (Nat.zero_le _) (Call.mono h (fun r8 M9 h => ?_))
      obtain ⟨v10, rfl, h⟩ := h
      refine r_iadd (pc := 121) dX12_leadsAll_121 ?_
      obtain ⟨k11, h⟩ := h
      obtain ⟨i12, h⟩ := h
      refine r_zald (pc := 122) dX12_leadsAll_122 k11 i12 ?_
      refine r_if_eq (pc := 123) (tgt := 130) dX12_leadsAll_123 (by decide) (fun c13 => ?_) (fun c13 => ?_)
      · replace h := h.1 c13
        refine r_iconst (pc := 130) (v := 0) dX12_leadsAll_130 (by decide) ?_
        obtain ⟨i14, h⟩ := h
        refine r_zast (pc := 131) dX12_leadsAll_131 (Or.inl rfl) k11 i14 ?_
        replace h := h _ rfl
        refine r_iinc (pc := 132) (i := 4) (v := _ + 1) dX12_leadsAll_132 rfl rfl rfl ?_
        refine r_goto (pc := 135) (tgt := 70) dX12_leadsAll_135 (by decide) ?_
        exact h
      · replace h := h.2 c13
        refine r_iconst (pc := 126) (v := 1) dX12_leadsAll_126 (by decide) ?_
        refine r_goto (pc := 127) (tgt := 131) dX12_leadsAll_127 (by decide) ?_
        obtain ⟨i16, h⟩ := h
        refine r_zast (pc := 131) dX12_leadsAll_131 (Or.inr rfl) k11 i16 ?_
        replace h := h _ rfl
        refine r_iinc (pc := 132) (i := 4) (v := _ + 1) dX12_leadsAll_132 rfl rfl rfl ?_
        refine r_goto (pc := 135) (tgt := 70) dX12_leadsAll_135 (by decide) ?_
        exact h
