/-! EndlessRowsModel: decode rows and verification conditions, by program -/
theorem dX12_drop_0 : decode cX12_drop 0 = .ok (.iload_n 1, 1) := by decide +kernel
theorem dX12_drop_1 : decode cX12_drop 1 = .ok (.iconst 0, 1) := by decide +kernel
theorem dX12_drop_2 : decode cX12_drop 2 = .ok (.iconst 1, 1) := by decide +kernel
theorem dX12_drop_3 : decode cX12_drop 3 = .ok (.invokestatic 218, 3) := by decide +kernel
theorem dX12_drop_6 : decode cX12_drop 6 = .ok (.ifCond .ne 9, 3) := by decide +kernel
theorem dX12_drop_9 : decode cX12_drop 9 = .ok (.aload_n 0, 1) := by decide +kernel
theorem dX12_drop_10 : decode cX12_drop 10 = .ok (.iconst 1, 1) := by decide +kernel
theorem dX12_drop_11 : decode cX12_drop 11 = .ok (.invokevirtual 253, 3) := by decide +kernel
theorem dX12_drop_14 : decode cX12_drop 14 = .ok (.ireturn, 1) := by decide +kernel
theorem dX12_drop_15 : decode cX12_drop 15 = .ok (.iload_n 1, 1) := by decide +kernel
theorem dX12_drop_16 : decode cX12_drop 16 = .ok (.ifCond .ne 10, 3) := by decide +kernel
theorem dX12_drop_19 : decode cX12_drop 19 = .ok (.aload_n 0, 1) := by decide +kernel
theorem dX12_drop_20 : decode cX12_drop 20 = .ok (.getfield 215, 3) := by decide +kernel
theorem dX12_drop_23 : decode cX12_drop 23 = .ok (.goto 7, 3) := by decide +kernel
theorem dX12_drop_26 : decode cX12_drop 26 = .ok (.aload_n 0, 1) := by decide +kernel
theorem dX12_drop_27 : decode cX12_drop 27 = .ok (.getfield 256, 3) := by decide +kernel
theorem dX12_drop_30 : decode cX12_drop 30 = .ok (.iconst 1, 1) := by decide +kernel
theorem dX12_drop_31 : decode cX12_drop 31 = .ok (.isub, 1) := by decide +kernel
theorem dX12_drop_32 : decode cX12_drop 32 = .ok (.istore_n 2, 1) := by decide +kernel
theorem dX12_drop_33 : decode cX12_drop 33 = .ok (.iload_n 2, 1) := by decide +kernel
theorem dX12_drop_34 : decode cX12_drop 34 = .ok (.ifCond .ge 7, 3) := by decide +kernel
theorem dX12_drop_37 : decode cX12_drop 37 = .ok (.iconst 1, 1) := by decide +kernel
theorem dX12_drop_38 : decode cX12_drop 38 = .ok (.goto 4, 3) := by decide +kernel
theorem dX12_drop_41 : decode cX12_drop 41 = .ok (.iconst 0, 1) := by decide +kernel
theorem dX12_drop_42 : decode cX12_drop 42 = .ok (.istore_n 3, 1) := by decide +kernel
theorem dX12_drop_43 : decode cX12_drop 43 = .ok (.iconst 0, 1) := by decide +kernel
theorem dX12_drop_44 : decode cX12_drop 44 = .ok (.istore 4, 2) := by decide +kernel
theorem dX12_drop_46 : decode cX12_drop 46 = .ok (.iload 4, 2) := by decide +kernel
theorem dX12_drop_48 : decode cX12_drop 48 = .ok (.aload_n 0, 1) := by decide +kernel
theorem dX12_drop_49 : decode cX12_drop 49 = .ok (.getfield 256, 3) := by decide +kernel
theorem dX12_drop_52 : decode cX12_drop 52 = .ok (.if_icmp .ge 48, 3) := by decide +kernel
theorem dX12_drop_55 : decode cX12_drop 55 = .ok (.iload_n 1, 1) := by decide +kernel
theorem dX12_drop_56 : decode cX12_drop 56 = .ok (.ifCond .ne 44, 3) := by decide +kernel
theorem dX12_drop_59 : decode cX12_drop 59 = .ok (.iload_n 3, 1) := by decide +kernel
theorem dX12_drop_60 : decode cX12_drop 60 = .ok (.ifCond .ne 28, 3) := by decide +kernel
theorem dX12_drop_63 : decode cX12_drop 63 = .ok (.aload_n 0, 1) := by decide +kernel
theorem dX12_drop_64 : decode cX12_drop 64 = .ok (.getfield 29, 3) := by decide +kernel
theorem dX12_drop_67 : decode cX12_drop 67 = .ok (.iload 4, 2) := by decide +kernel
theorem dX12_drop_69 : decode cX12_drop 69 = .ok (.iaload, 1) := by decide +kernel
theorem dX12_drop_70 : decode cX12_drop 70 = .ok (.ifCond .ne 22, 3) := by decide +kernel
theorem dX12_drop_73 : decode cX12_drop 73 = .ok (.aload_n 0, 1) := by decide +kernel
theorem dX12_drop_74 : decode cX12_drop 74 = .ok (.getfield 44, 3) := by decide +kernel
theorem dX12_drop_77 : decode cX12_drop 77 = .ok (.iload 4, 2) := by decide +kernel
theorem dX12_drop_79 : decode cX12_drop 79 = .ok (.iaload, 1) := by decide +kernel
theorem dX12_drop_80 : decode cX12_drop 80 = .ok (.iload_n 2, 1) := by decide +kernel
theorem dX12_drop_81 : decode cX12_drop 81 = .ok (.ishr, 1) := by decide +kernel
theorem dX12_drop_82 : decode cX12_drop 82 = .ok (.iconst 1, 1) := by decide +kernel
theorem dX12_drop_83 : decode cX12_drop 83 = .ok (.iand, 1) := by decide +kernel
theorem dX12_drop_84 : decode cX12_drop 84 = .ok (.iconst 1, 1) := by decide +kernel
theorem dX12_drop_85 : decode cX12_drop 85 = .ok (.if_icmp .ne 7, 3) := by decide +kernel
theorem dX12_drop_88 : decode cX12_drop 88 = .ok (.iconst 1, 1) := by decide +kernel
theorem dX12_drop_89 : decode cX12_drop 89 = .ok (.goto 4, 3) := by decide +kernel
theorem dX12_drop_92 : decode cX12_drop 92 = .ok (.iconst 0, 1) := by decide +kernel
theorem dX12_drop_93 : decode cX12_drop 93 = .ok (.istore_n 3, 1) := by decide +kernel
theorem dX12_drop_94 : decode cX12_drop 94 = .ok (.iinc 4 1, 3) := by decide +kernel
theorem dX12_drop_97 : decode cX12_drop 97 = .ok (.goto (-51), 3) := by decide +kernel
theorem dX12_drop_100 : decode cX12_drop 100 = .ok (.iconst 0, 1) := by decide +kernel
theorem dX12_drop_101 : decode cX12_drop 101 = .ok (.istore 4, 2) := by decide +kernel
theorem dX12_drop_103 : decode cX12_drop 103 = .ok (.iload 4, 2) := by decide +kernel
theorem dX12_drop_105 : decode cX12_drop 105 = .ok (.aload_n 0, 1) := by decide +kernel
theorem dX12_drop_106 : decode cX12_drop 106 = .ok (.getfield 215, 3) := by decide +kernel
theorem dX12_drop_109 : decode cX12_drop 109 = .ok (.if_icmp .ge 46, 3) := by decide +kernel
theorem dX12_drop_112 : decode cX12_drop 112 = .ok (.iload_n 1, 1) := by decide +kernel
theorem dX12_drop_113 : decode cX12_drop 113 = .ok (.iconst 1, 1) := by decide +kernel
theorem dX12_drop_114 : decode cX12_drop 114 = .ok (.if_icmp .ne 41, 3) := by decide +kernel
theorem dX12_drop_117 : decode cX12_drop 117 = .ok (.iload_n 3, 1) := by decide +kernel
theorem dX12_drop_118 : decode cX12_drop 118 = .ok (.ifCond .ne 25, 3) := by decide +kernel
theorem dX12_drop_121 : decode cX12_drop 121 = .ok (.aload_n 0, 1) := by decide +kernel
theorem dX12_drop_122 : decode cX12_drop 122 = .ok (.getfield 13, 3) := by decide +kernel
theorem dX12_drop_125 : decode cX12_drop 125 = .ok (.iload 4, 2) := by decide +kernel
theorem dX12_drop_127 : decode cX12_drop 127 = .ok (.iaload, 1) := by decide +kernel
theorem dX12_drop_128 : decode cX12_drop 128 = .ok (.iconst 4, 1) := by decide +kernel
theorem dX12_drop_129 : decode cX12_drop 129 = .ok (.if_icmp .ne 18, 3) := by decide +kernel
theorem dX12_drop_132 : decode cX12_drop 132 = .ok (.aload_n 0, 1) := by decide +kernel
theorem dX12_drop_133 : decode cX12_drop 133 = .ok (.getfield 26, 3) := by decide +kernel
theorem dX12_drop_136 : decode cX12_drop 136 = .ok (.iload 4, 2) := by decide +kernel
theorem dX12_drop_138 : decode cX12_drop 138 = .ok (.iaload, 1) := by decide +kernel
theorem dX12_drop_139 : decode cX12_drop 139 = .ok (.iload_n 2, 1) := by decide +kernel
theorem dX12_drop_140 : decode cX12_drop 140 = .ok (.if_icmp .ne 7, 3) := by decide +kernel
theorem dX12_drop_143 : decode cX12_drop 143 = .ok (.iconst 1, 1) := by decide +kernel
theorem dX12_drop_144 : decode cX12_drop 144 = .ok (.goto 4, 3) := by decide +kernel
theorem dX12_drop_147 : decode cX12_drop 147 = .ok (.iconst 0, 1) := by decide +kernel
theorem dX12_drop_148 : decode cX12_drop 148 = .ok (.istore_n 3, 1) := by decide +kernel
theorem dX12_drop_149 : decode cX12_drop 149 = .ok (.iinc 4 1, 3) := by decide +kernel
theorem dX12_drop_152 : decode cX12_drop 152 = .ok (.goto (-49), 3) := by decide +kernel
theorem dX12_drop_155 : decode cX12_drop 155 = .ok (.iload_n 3, 1) := by decide +kernel
theorem dX12_drop_156 : decode cX12_drop 156 = .ok (.ifCond .eq 9, 3) := by decide +kernel
theorem dX12_drop_159 : decode cX12_drop 159 = .ok (.aload_n 0, 1) := by decide +kernel
theorem dX12_drop_160 : decode cX12_drop 160 = .ok (.iconst 3, 1) := by decide +kernel
theorem dX12_drop_161 : decode cX12_drop 161 = .ok (.invokevirtual 253, 3) := by decide +kernel
theorem dX12_drop_164 : decode cX12_drop 164 = .ok (.ireturn, 1) := by decide +kernel
theorem dX12_drop_165 : decode cX12_drop 165 = .ok (.aload_n 0, 1) := by decide +kernel
theorem dX12_drop_166 : decode cX12_drop 166 = .ok (.dup, 1) := by decide +kernel
theorem dX12_drop_167 : decode cX12_drop 167 = .ok (.getfield 215, 3) := by decide +kernel
theorem dX12_drop_170 : decode cX12_drop 170 = .ok (.iload_n 1, 1) := by decide +kernel
theorem dX12_drop_171 : decode cX12_drop 171 = .ok (.ifCond .ne 7, 3) := by decide +kernel
theorem dX12_drop_174 : decode cX12_drop 174 = .ok (.iconst 1, 1) := by decide +kernel
theorem dX12_drop_175 : decode cX12_drop 175 = .ok (.goto 4, 3) := by decide +kernel
theorem dX12_drop_178 : decode cX12_drop 178 = .ok (.iconst 0, 1) := by decide +kernel
theorem dX12_drop_179 : decode cX12_drop 179 = .ok (.isub, 1) := by decide +kernel
theorem dX12_drop_180 : decode cX12_drop 180 = .ok (.putfield 215, 3) := by decide +kernel
theorem dX12_drop_183 : decode cX12_drop 183 = .ok (.aload_n 0, 1) := by decide +kernel
theorem dX12_drop_184 : decode cX12_drop 184 = .ok (.dup, 1) := by decide +kernel
theorem dX12_drop_185 : decode cX12_drop 185 = .ok (.getfield 256, 3) := by decide +kernel
theorem dX12_drop_188 : decode cX12_drop 188 = .ok (.iload_n 1, 1) := by decide +kernel
theorem dX12_drop_189 : decode cX12_drop 189 = .ok (.iconst 1, 1) := by decide +kernel
theorem dX12_drop_190 : decode cX12_drop 190 = .ok (.if_icmp .ne 7, 3) := by decide +kernel
theorem dX12_drop_193 : decode cX12_drop 193 = .ok (.iconst 1, 1) := by decide +kernel
theorem dX12_drop_194 : decode cX12_drop 194 = .ok (.goto 4, 3) := by decide +kernel
theorem dX12_drop_197 : decode cX12_drop 197 = .ok (.iconst 0, 1) := by decide +kernel
theorem dX12_drop_198 : decode cX12_drop 198 = .ok (.isub, 1) := by decide +kernel
theorem dX12_drop_199 : decode cX12_drop 199 = .ok (.putfield 256, 3) := by decide +kernel
theorem dX12_drop_202 : decode cX12_drop 202 = .ok (.aload_n 0, 1) := by decide +kernel
theorem dX12_drop_203 : decode cX12_drop 203 = .ok (.iload_n 2, 1) := by decide +kernel
theorem dX12_drop_204 : decode cX12_drop 204 = .ok (.invokevirtual 250, 3) := by decide +kernel
theorem dX12_drop_207 : decode cX12_drop 207 = .ok (.ireturn, 1) := by decide +kernel
theorem dX12_byteAt_0 : decode cX12_byteAt 0 = .ok (.iload_n 1, 1) := by decide +kernel
theorem dX12_byteAt_1 : decode cX12_byteAt 1 = .ok (.aload_n 0, 1) := by decide +kernel
theorem dX12_byteAt_2 : decode cX12_byteAt 2 = .ok (.getfield 289, 3) := by decide +kernel
theorem dX12_byteAt_5 : decode cX12_byteAt 5 = .ok (.if_icmp .ge 12, 3) := by decide +kernel
theorem dX12_byteAt_8 : decode cX12_byteAt 8 = .ok (.aload_n 0, 1) := by decide +kernel
theorem dX12_byteAt_9 : decode cX12_byteAt 9 = .ok (.getfield 57, 3) := by decide +kernel
theorem dX12_byteAt_12 : decode cX12_byteAt 12 = .ok (.iload_n 1, 1) := by decide +kernel
theorem dX12_byteAt_13 : decode cX12_byteAt 13 = .ok (.iaload, 1) := by decide +kernel
theorem dX12_byteAt_14 : decode cX12_byteAt 14 = .ok (.goto 4, 3) := by decide +kernel
theorem dX12_byteAt_17 : decode cX12_byteAt 17 = .ok (.iconst (-1), 1) := by decide +kernel
theorem dX12_byteAt_18 : decode cX12_byteAt 18 = .ok (.ireturn, 1) := by decide +kernel
theorem dX12_isDigit_0 : decode cX12_isDigit 0 = .ok (.iload_n 0, 1) := by decide +kernel
theorem dX12_isDigit_1 : decode cX12_isDigit 1 = .ok (.bipush 48, 2) := by decide +kernel
theorem dX12_isDigit_3 : decode cX12_isDigit 3 = .ok (.bipush 57, 2) := by decide +kernel
theorem dX12_isDigit_5 : decode cX12_isDigit 5 = .ok (.invokestatic 218, 3) := by decide +kernel
theorem dX12_isDigit_8 : decode cX12_isDigit 8 = .ok (.ireturn, 1) := by decide +kernel
theorem dX12_isLetter_0 : decode cX12_isLetter 0 = .ok (.iload_n 0, 1) := by decide +kernel
theorem dX12_isLetter_1 : decode cX12_isLetter 1 = .ok (.bipush 97, 2) := by decide +kernel
theorem dX12_isLetter_3 : decode cX12_isLetter 3 = .ok (.bipush 122, 2) := by decide +kernel
theorem dX12_isLetter_5 : decode cX12_isLetter 5 = .ok (.invokestatic 218, 3) := by decide +kernel
theorem dX12_isLetter_8 : decode cX12_isLetter 8 = .ok (.ireturn, 1) := by decide +kernel
theorem dX12_cannot_0 : decode cX12_cannot 0 = .ok (.aload_n 0, 1) := by decide +kernel
theorem dX12_cannot_1 : decode cX12_cannot 1 = .ok (.getfield 294, 3) := by decide +kernel
theorem dX12_cannot_4 : decode cX12_cannot 4 = .ok (.ifCond .ne 21, 3) := by decide +kernel
theorem dX12_cannot_7 : decode cX12_cannot 7 = .ok (.aload_n 0, 1) := by decide +kernel
theorem dX12_cannot_8 : decode cX12_cannot 8 = .ok (.iconst 1, 1) := by decide +kernel
theorem dX12_cannot_9 : decode cX12_cannot 9 = .ok (.putfield 294, 3) := by decide +kernel
theorem dX12_cannot_12 : decode cX12_cannot 12 = .ok (.aload_n 0, 1) := by decide +kernel
theorem dX12_cannot_13 : decode cX12_cannot 13 = .ok (.iconst 1, 1) := by decide +kernel
theorem dX12_cannot_14 : decode cX12_cannot 14 = .ok (.putfield 298, 3) := by decide +kernel
theorem dX12_cannot_17 : decode cX12_cannot 17 = .ok (.aload_n 0, 1) := by decide +kernel
theorem dX12_cannot_18 : decode cX12_cannot 18 = .ok (.aload_n 0, 1) := by decide +kernel
theorem dX12_cannot_19 : decode cX12_cannot 19 = .ok (.getfield 301, 3) := by decide +kernel
theorem dX12_cannot_22 : decode cX12_cannot 22 = .ok (.putfield 304, 3) := by decide +kernel
theorem dX12_cannot_25 : decode cX12_cannot 25 = .ok (.aload_n 0, 1) := by decide +kernel
theorem dX12_cannot_26 : decode cX12_cannot 26 = .ok (.iconst 0, 1) := by decide +kernel
theorem dX12_cannot_27 : decode cX12_cannot 27 = .ok (.putfield 307, 3) := by decide +kernel
theorem dX12_cannot_30 : decode cX12_cannot 30 = .ok (.return_, 1) := by decide +kernel
theorem dX12_notes_0 : decode cX12_notes 0 = .ok (.aload_n 0, 1) := by decide +kernel
theorem dX12_notes_1 : decode cX12_notes 1 = .ok (.getfield 294, 3) := by decide +kernel
theorem dX12_notes_4 : decode cX12_notes 4 = .ok (.ifCond .ne 28, 3) := by decide +kernel
theorem dX12_notes_7 : decode cX12_notes 7 = .ok (.aload_n 0, 1) := by decide +kernel
theorem dX12_notes_8 : decode cX12_notes 8 = .ok (.getfield 298, 3) := by decide +kernel
theorem dX12_notes_11 : decode cX12_notes 11 = .ok (.ifCond .eq 11, 3) := by decide +kernel
theorem dX12_notes_14 : decode cX12_notes 14 = .ok (.iload_n 1, 1) := by decide +kernel
theorem dX12_notes_15 : decode cX12_notes 15 = .ok (.aload_n 0, 1) := by decide +kernel
theorem dX12_notes_16 : decode cX12_notes 16 = .ok (.getfield 304, 3) := by decide +kernel
theorem dX12_notes_19 : decode cX12_notes 19 = .ok (.if_icmp .ge 13, 3) := by decide +kernel
theorem dX12_notes_22 : decode cX12_notes 22 = .ok (.aload_n 0, 1) := by decide +kernel
theorem dX12_notes_23 : decode cX12_notes 23 = .ok (.iconst 2, 1) := by decide +kernel
theorem dX12_notes_24 : decode cX12_notes 24 = .ok (.putfield 298, 3) := by decide +kernel
theorem dX12_notes_27 : decode cX12_notes 27 = .ok (.aload_n 0, 1) := by decide +kernel
theorem dX12_notes_28 : decode cX12_notes 28 = .ok (.iload_n 1, 1) := by decide +kernel
theorem dX12_notes_29 : decode cX12_notes 29 = .ok (.putfield 304, 3) := by decide +kernel
theorem dX12_notes_32 : decode cX12_notes 32 = .ok (.return_, 1) := by decide +kernel
theorem dX12_next_0 : decode cX12_next 0 = .ok (.aload_n 0, 1) := by decide +kernel
theorem dX12_next_1 : decode cX12_next 1 = .ok (.aload_n 0, 1) := by decide +kernel
theorem dX12_next_2 : decode cX12_next 2 = .ok (.getfield 310, 3) := by decide +kernel
theorem dX12_next_5 : decode cX12_next 5 = .ok (.invokevirtual 313, 3) := by decide +kernel
theorem dX12_next_8 : decode cX12_next 8 = .ok (.bipush 32, 2) := by decide +kernel
theorem dX12_next_10 : decode cX12_next 10 = .ok (.if_icmp .ne 16, 3) := by decide +kernel
theorem dX12_next_13 : decode cX12_next 13 = .ok (.aload_n 0, 1) := by decide +kernel
theorem dX12_next_14 : decode cX12_next 14 = .ok (.dup, 1) := by decide +kernel
theorem dX12_next_15 : decode cX12_next 15 = .ok (.getfield 310, 3) := by decide +kernel
theorem dX12_next_18 : decode cX12_next 18 = .ok (.iconst 1, 1) := by decide +kernel
theorem dX12_next_19 : decode cX12_next 19 = .ok (.iadd, 1) := by decide +kernel
theorem dX12_next_20 : decode cX12_next 20 = .ok (.putfield 310, 3) := by decide +kernel
theorem dX12_next_23 : decode cX12_next 23 = .ok (.goto (-23), 3) := by decide +kernel
theorem dX12_next_26 : decode cX12_next 26 = .ok (.aload_n 0, 1) := by decide +kernel
theorem dX12_next_27 : decode cX12_next 27 = .ok (.aload_n 0, 1) := by decide +kernel
theorem dX12_next_28 : decode cX12_next 28 = .ok (.getfield 310, 3) := by decide +kernel
theorem dX12_next_31 : decode cX12_next 31 = .ok (.putfield 301, 3) := by decide +kernel
theorem dX12_next_34 : decode cX12_next 34 = .ok (.aload_n 0, 1) := by decide +kernel
theorem dX12_next_35 : decode cX12_next 35 = .ok (.aload_n 0, 1) := by decide +kernel
theorem dX12_next_36 : decode cX12_next 36 = .ok (.getfield 310, 3) := by decide +kernel
theorem dX12_next_39 : decode cX12_next 39 = .ok (.invokevirtual 313, 3) := by decide +kernel
theorem dX12_next_42 : decode cX12_next 42 = .ok (.istore_n 1, 1) := by decide +kernel
theorem dX12_next_43 : decode cX12_next 43 = .ok (.iload_n 1, 1) := by decide +kernel
theorem dX12_next_44 : decode cX12_next 44 = .ok (.iconst (-1), 1) := by decide +kernel
theorem dX12_next_45 : decode cX12_next 45 = .ok (.if_icmp .ne 11, 3) := by decide +kernel
theorem dX12_next_48 : decode cX12_next 48 = .ok (.aload_n 0, 1) := by decide +kernel
theorem dX12_next_49 : decode cX12_next 49 = .ok (.iconst 0, 1) := by decide +kernel
theorem dX12_next_50 : decode cX12_next 50 = .ok (.putfield 307, 3) := by decide +kernel
theorem dX12_next_53 : decode cX12_next 53 = .ok (.goto 146, 3) := by decide +kernel
theorem dX12_next_56 : decode cX12_next 56 = .ok (.iload_n 1, 1) := by decide +kernel
theorem dX12_next_57 : decode cX12_next 57 = .ok (.invokestatic 316, 3) := by decide +kernel
theorem dX12_next_60 : decode cX12_next 60 = .ok (.ifCond .eq 10, 3) := by decide +kernel
theorem dX12_next_63 : decode cX12_next 63 = .ok (.aload_n 0, 1) := by decide +kernel
theorem dX12_next_64 : decode cX12_next 64 = .ok (.invokevirtual 319, 3) := by decide +kernel
theorem dX12_next_67 : decode cX12_next 67 = .ok (.goto 132, 3) := by decide +kernel
theorem dX12_next_70 : decode cX12_next 70 = .ok (.iload_n 1, 1) := by decide +kernel
theorem dX12_next_71 : decode cX12_next 71 = .ok (.invokestatic 322, 3) := by decide +kernel
theorem dX12_next_74 : decode cX12_next 74 = .ok (.ifCond .eq 10, 3) := by decide +kernel
theorem dX12_next_77 : decode cX12_next 77 = .ok (.aload_n 0, 1) := by decide +kernel
theorem dX12_next_78 : decode cX12_next 78 = .ok (.invokevirtual 325, 3) := by decide +kernel
theorem dX12_next_81 : decode cX12_next 81 = .ok (.goto 118, 3) := by decide +kernel
theorem dX12_next_84 : decode cX12_next 84 = .ok (.aload_n 0, 1) := by decide +kernel
theorem dX12_next_85 : decode cX12_next 85 = .ok (.bipush 10, 2) := by decide +kernel
theorem dX12_next_87 : decode cX12_next 87 = .ok (.putfield 307, 3) := by decide +kernel
theorem dX12_next_90 : decode cX12_next 90 = .ok (.aload_n 0, 1) := by decide +kernel
theorem dX12_next_91 : decode cX12_next 91 = .ok (.iload_n 1, 1) := by decide +kernel
theorem dX12_next_92 : decode cX12_next 92 = .ok (.putfield 328, 3) := by decide +kernel
theorem dX12_next_95 : decode cX12_next 95 = .ok (.aload_n 0, 1) := by decide +kernel
theorem dX12_next_96 : decode cX12_next 96 = .ok (.dup, 1) := by decide +kernel
theorem dX12_next_97 : decode cX12_next 97 = .ok (.getfield 310, 3) := by decide +kernel
theorem dX12_next_100 : decode cX12_next 100 = .ok (.iconst 1, 1) := by decide +kernel
theorem dX12_next_101 : decode cX12_next 101 = .ok (.iadd, 1) := by decide +kernel
theorem dX12_next_102 : decode cX12_next 102 = .ok (.putfield 310, 3) := by decide +kernel
theorem dX12_next_105 : decode cX12_next 105 = .ok (.iload_n 1, 1) := by decide +kernel
theorem dX12_next_106 : decode cX12_next 106 = .ok (.bipush 40, 2) := by decide +kernel
theorem dX12_next_108 : decode cX12_next 108 = .ok (.if_icmp .eq 39, 3) := by decide +kernel
theorem dX12_next_111 : decode cX12_next 111 = .ok (.iload_n 1, 1) := by decide +kernel
theorem dX12_next_112 : decode cX12_next 112 = .ok (.bipush 41, 2) := by decide +kernel
theorem dX12_next_114 : decode cX12_next 114 = .ok (.if_icmp .eq 33, 3) := by decide +kernel
theorem dX12_next_117 : decode cX12_next 117 = .ok (.iload_n 1, 1) := by decide +kernel
theorem dX12_next_118 : decode cX12_next 118 = .ok (.bipush 91, 2) := by decide +kernel
theorem dX12_next_120 : decode cX12_next 120 = .ok (.if_icmp .eq 27, 3) := by decide +kernel
theorem dX12_next_123 : decode cX12_next 123 = .ok (.iload_n 1, 1) := by decide +kernel
theorem dX12_next_124 : decode cX12_next 124 = .ok (.bipush 93, 2) := by decide +kernel
theorem dX12_next_126 : decode cX12_next 126 = .ok (.if_icmp .eq 21, 3) := by decide +kernel
theorem dX12_next_129 : decode cX12_next 129 = .ok (.iload_n 1, 1) := by decide +kernel
theorem dX12_next_130 : decode cX12_next 130 = .ok (.bipush 43, 2) := by decide +kernel
theorem dX12_next_132 : decode cX12_next 132 = .ok (.if_icmp .eq 15, 3) := by decide +kernel
theorem dX12_next_135 : decode cX12_next 135 = .ok (.iload_n 1, 1) := by decide +kernel
theorem dX12_next_136 : decode cX12_next 136 = .ok (.bipush 61, 2) := by decide +kernel
theorem dX12_next_138 : decode cX12_next 138 = .ok (.if_icmp .eq 9, 3) := by decide +kernel
theorem dX12_next_141 : decode cX12_next 141 = .ok (.iload_n 1, 1) := by decide +kernel
theorem dX12_next_142 : decode cX12_next 142 = .ok (.bipush 60, 2) := by decide +kernel
theorem dX12_next_144 : decode cX12_next 144 = .ok (.if_icmp .ne 7, 3) := by decide +kernel
theorem dX12_next_147 : decode cX12_next 147 = .ok (.iconst 1, 1) := by decide +kernel
theorem dX12_next_148 : decode cX12_next 148 = .ok (.goto 4, 3) := by decide +kernel
theorem dX12_next_151 : decode cX12_next 151 = .ok (.iconst 0, 1) := by decide +kernel
theorem dX12_next_152 : decode cX12_next 152 = .ok (.istore_n 2, 1) := by decide +kernel
theorem dX12_next_153 : decode cX12_next 153 = .ok (.iload_n 2, 1) := by decide +kernel
theorem dX12_next_154 : decode cX12_next 154 = .ok (.ifCond .ne 10, 3) := by decide +kernel
theorem dX12_next_157 : decode cX12_next 157 = .ok (.aload_n 0, 1) := by decide +kernel
theorem dX12_next_158 : decode cX12_next 158 = .ok (.invokevirtual 331, 3) := by decide +kernel
theorem dX12_next_161 : decode cX12_next 161 = .ok (.goto 38, 3) := by decide +kernel
theorem dX12_next_164 : decode cX12_next 164 = .ok (.iload_n 1, 1) := by decide +kernel
theorem dX12_next_165 : decode cX12_next 165 = .ok (.bipush 60, 2) := by decide +kernel
theorem dX12_next_167 : decode cX12_next 167 = .ok (.if_icmp .ne 32, 3) := by decide +kernel
theorem dX12_next_170 : decode cX12_next 170 = .ok (.aload_n 0, 1) := by decide +kernel
theorem dX12_next_171 : decode cX12_next 171 = .ok (.aload_n 0, 1) := by decide +kernel
theorem dX12_next_172 : decode cX12_next 172 = .ok (.getfield 310, 3) := by decide +kernel
theorem dX12_next_175 : decode cX12_next 175 = .ok (.invokevirtual 313, 3) := by decide +kernel
theorem dX12_next_178 : decode cX12_next 178 = .ok (.bipush 61, 2) := by decide +kernel
theorem dX12_next_180 : decode cX12_next 180 = .ok (.if_icmp .ne 19, 3) := by decide +kernel
theorem dX12_next_183 : decode cX12_next 183 = .ok (.aload_n 0, 1) := by decide +kernel
theorem dX12_next_184 : decode cX12_next 184 = .ok (.bipush 11, 2) := by decide +kernel
theorem dX12_next_186 : decode cX12_next 186 = .ok (.putfield 307, 3) := by decide +kernel
theorem dX12_next_189 : decode cX12_next 189 = .ok (.aload_n 0, 1) := by decide +kernel
theorem dX12_next_190 : decode cX12_next 190 = .ok (.dup, 1) := by decide +kernel
theorem dX12_next_191 : decode cX12_next 191 = .ok (.getfield 310, 3) := by decide +kernel
theorem dX12_next_194 : decode cX12_next 194 = .ok (.iconst 1, 1) := by decide +kernel
theorem dX12_next_195 : decode cX12_next 195 = .ok (.iadd, 1) := by decide +kernel
theorem dX12_next_196 : decode cX12_next 196 = .ok (.putfield 310, 3) := by decide +kernel
theorem dX12_next_199 : decode cX12_next 199 = .ok (.return_, 1) := by decide +kernel
theorem dX12_digits_0 : decode cX12_digits 0 = .ok (.aload_n 0, 1) := by decide +kernel
theorem dX12_digits_1 : decode cX12_digits 1 = .ok (.iconst 0, 1) := by decide +kernel
theorem dX12_digits_2 : decode cX12_digits 2 = .ok (.putfield 328, 3) := by decide +kernel
theorem dX12_digits_5 : decode cX12_digits 5 = .ok (.aload_n 0, 1) := by decide +kernel
theorem dX12_digits_6 : decode cX12_digits 6 = .ok (.aload_n 0, 1) := by decide +kernel
theorem dX12_digits_7 : decode cX12_digits 7 = .ok (.getfield 310, 3) := by decide +kernel
theorem dX12_digits_10 : decode cX12_digits 10 = .ok (.invokevirtual 313, 3) := by decide +kernel
theorem dX12_digits_13 : decode cX12_digits 13 = .ok (.invokestatic 316, 3) := by decide +kernel
theorem dX12_digits_16 : decode cX12_digits 16 = .ok (.ifCond .eq 56, 3) := by decide +kernel
theorem dX12_digits_19 : decode cX12_digits 19 = .ok (.aload_n 0, 1) := by decide +kernel
theorem dX12_digits_20 : decode cX12_digits 20 = .ok (.aload_n 0, 1) := by decide +kernel
theorem dX12_digits_21 : decode cX12_digits 21 = .ok (.getfield 328, 3) := by decide +kernel
theorem dX12_digits_24 : decode cX12_digits 24 = .ok (.sipush 1000, 3) := by decide +kernel
theorem dX12_digits_27 : decode cX12_digits 27 = .ok (.if_icmp .ge 25, 3) := by decide +kernel
theorem dX12_digits_30 : decode cX12_digits 30 = .ok (.bipush 10, 2) := by decide +kernel
theorem dX12_digits_32 : decode cX12_digits 32 = .ok (.aload_n 0, 1) := by decide +kernel
theorem dX12_digits_33 : decode cX12_digits 33 = .ok (.getfield 328, 3) := by decide +kernel
theorem dX12_digits_36 : decode cX12_digits 36 = .ok (.imul, 1) := by decide +kernel
theorem dX12_digits_37 : decode cX12_digits 37 = .ok (.aload_n 0, 1) := by decide +kernel
theorem dX12_digits_38 : decode cX12_digits 38 = .ok (.aload_n 0, 1) := by decide +kernel
theorem dX12_digits_39 : decode cX12_digits 39 = .ok (.getfield 310, 3) := by decide +kernel
theorem dX12_digits_42 : decode cX12_digits 42 = .ok (.invokevirtual 313, 3) := by decide +kernel
theorem dX12_digits_45 : decode cX12_digits 45 = .ok (.iadd, 1) := by decide +kernel
theorem dX12_digits_46 : decode cX12_digits 46 = .ok (.bipush 48, 2) := by decide +kernel
theorem dX12_digits_48 : decode cX12_digits 48 = .ok (.isub, 1) := by decide +kernel
theorem dX12_digits_49 : decode cX12_digits 49 = .ok (.goto 7, 3) := by decide +kernel
theorem dX12_digits_52 : decode cX12_digits 52 = .ok (.aload_n 0, 1) := by decide +kernel
theorem dX12_digits_53 : decode cX12_digits 53 = .ok (.getfield 328, 3) := by decide +kernel
theorem dX12_digits_56 : decode cX12_digits 56 = .ok (.putfield 328, 3) := by decide +kernel
theorem dX12_digits_59 : decode cX12_digits 59 = .ok (.aload_n 0, 1) := by decide +kernel
theorem dX12_digits_60 : decode cX12_digits 60 = .ok (.dup, 1) := by decide +kernel
theorem dX12_digits_61 : decode cX12_digits 61 = .ok (.getfield 310, 3) := by decide +kernel
theorem dX12_digits_64 : decode cX12_digits 64 = .ok (.iconst 1, 1) := by decide +kernel
theorem dX12_digits_65 : decode cX12_digits 65 = .ok (.iadd, 1) := by decide +kernel
theorem dX12_digits_66 : decode cX12_digits 66 = .ok (.putfield 310, 3) := by decide +kernel
theorem dX12_digits_69 : decode cX12_digits 69 = .ok (.goto (-64), 3) := by decide +kernel
theorem dX12_digits_72 : decode cX12_digits 72 = .ok (.aload_n 0, 1) := by decide +kernel
theorem dX12_digits_73 : decode cX12_digits 73 = .ok (.iconst 1, 1) := by decide +kernel
theorem dX12_digits_74 : decode cX12_digits 74 = .ok (.putfield 307, 3) := by decide +kernel
theorem dX12_digits_77 : decode cX12_digits 77 = .ok (.aload_n 0, 1) := by decide +kernel
theorem dX12_digits_78 : decode cX12_digits 78 = .ok (.getfield 310, 3) := by decide +kernel
theorem dX12_digits_81 : decode cX12_digits 81 = .ok (.aload_n 0, 1) := by decide +kernel
theorem dX12_digits_82 : decode cX12_digits 82 = .ok (.getfield 301, 3) := by decide +kernel
theorem dX12_digits_85 : decode cX12_digits 85 = .ok (.isub, 1) := by decide +kernel
theorem dX12_digits_86 : decode cX12_digits 86 = .ok (.iconst 2, 1) := by decide +kernel
theorem dX12_digits_87 : decode cX12_digits 87 = .ok (.if_icmp .le 7, 3) := by decide +kernel
theorem dX12_digits_90 : decode cX12_digits 90 = .ok (.aload_n 0, 1) := by decide +kernel
theorem dX12_digits_91 : decode cX12_digits 91 = .ok (.invokevirtual 331, 3) := by decide +kernel
theorem dX12_digits_94 : decode cX12_digits 94 = .ok (.return_, 1) := by decide +kernel
theorem dX12_isWord_0 : decode cX12_isWord 0 = .ok (.aload_n 0, 1) := by decide +kernel
theorem dX12_isWord_1 : decode cX12_isWord 1 = .ok (.getfield 310, 3) := by decide +kernel
theorem dX12_isWord_4 : decode cX12_isWord 4 = .ok (.aload_n 0, 1) := by decide +kernel
theorem dX12_isWord_5 : decode cX12_isWord 5 = .ok (.getfield 301, 3) := by decide +kernel
theorem dX12_isWord_8 : decode cX12_isWord 8 = .ok (.isub, 1) := by decide +kernel
theorem dX12_isWord_9 : decode cX12_isWord 9 = .ok (.iload_n 1, 1) := by decide +kernel
theorem dX12_isWord_10 : decode cX12_isWord 10 = .ok (.if_icmp .ne 58, 3) := by decide +kernel
theorem dX12_isWord_13 : decode cX12_isWord 13 = .ok (.aload_n 0, 1) := by decide +kernel
theorem dX12_isWord_14 : decode cX12_isWord 14 = .ok (.aload_n 0, 1) := by decide +kernel
theorem dX12_isWord_15 : decode cX12_isWord 15 = .ok (.getfield 301, 3) := by decide +kernel
theorem dX12_isWord_18 : decode cX12_isWord 18 = .ok (.invokevirtual 313, 3) := by decide +kernel
theorem dX12_isWord_21 : decode cX12_isWord 21 = .ok (.iload_n 2, 1) := by decide +kernel
theorem dX12_isWord_22 : decode cX12_isWord 22 = .ok (.if_icmp .ne 46, 3) := by decide +kernel
theorem dX12_isWord_25 : decode cX12_isWord 25 = .ok (.iload_n 1, 1) := by decide +kernel
theorem dX12_isWord_26 : decode cX12_isWord 26 = .ok (.iconst 2, 1) := by decide +kernel
theorem dX12_isWord_27 : decode cX12_isWord 27 = .ok (.if_icmp .lt 17, 3) := by decide +kernel
theorem dX12_isWord_30 : decode cX12_isWord 30 = .ok (.aload_n 0, 1) := by decide +kernel
theorem dX12_isWord_31 : decode cX12_isWord 31 = .ok (.aload_n 0, 1) := by decide +kernel
theorem dX12_isWord_32 : decode cX12_isWord 32 = .ok (.getfield 301, 3) := by decide +kernel
theorem dX12_isWord_35 : decode cX12_isWord 35 = .ok (.iconst 1, 1) := by decide +kernel
theorem dX12_isWord_36 : decode cX12_isWord 36 = .ok (.iadd, 1) := by decide +kernel
theorem dX12_isWord_37 : decode cX12_isWord 37 = .ok (.invokevirtual 313, 3) := by decide +kernel
theorem dX12_isWord_40 : decode cX12_isWord 40 = .ok (.iload_n 3, 1) := by decide +kernel
theorem dX12_isWord_41 : decode cX12_isWord 41 = .ok (.if_icmp .ne 27, 3) := by decide +kernel
theorem dX12_isWord_44 : decode cX12_isWord 44 = .ok (.iload_n 1, 1) := by decide +kernel
theorem dX12_isWord_45 : decode cX12_isWord 45 = .ok (.iconst 3, 1) := by decide +kernel
theorem dX12_isWord_46 : decode cX12_isWord 46 = .ok (.if_icmp .lt 18, 3) := by decide +kernel
theorem dX12_isWord_49 : decode cX12_isWord 49 = .ok (.aload_n 0, 1) := by decide +kernel
theorem dX12_isWord_50 : decode cX12_isWord 50 = .ok (.aload_n 0, 1) := by decide +kernel
theorem dX12_isWord_51 : decode cX12_isWord 51 = .ok (.getfield 301, 3) := by decide +kernel
theorem dX12_isWord_54 : decode cX12_isWord 54 = .ok (.iconst 2, 1) := by decide +kernel
theorem dX12_isWord_55 : decode cX12_isWord 55 = .ok (.iadd, 1) := by decide +kernel
theorem dX12_isWord_56 : decode cX12_isWord 56 = .ok (.invokevirtual 313, 3) := by decide +kernel
theorem dX12_isWord_59 : decode cX12_isWord 59 = .ok (.iload 4, 2) := by decide +kernel
theorem dX12_isWord_61 : decode cX12_isWord 61 = .ok (.if_icmp .ne 7, 3) := by decide +kernel
theorem dX12_isWord_64 : decode cX12_isWord 64 = .ok (.iconst 1, 1) := by decide +kernel
theorem dX12_isWord_65 : decode cX12_isWord 65 = .ok (.goto 4, 3) := by decide +kernel
theorem dX12_isWord_68 : decode cX12_isWord 68 = .ok (.iconst 0, 1) := by decide +kernel
theorem dX12_isWord_69 : decode cX12_isWord 69 = .ok (.ireturn, 1) := by decide +kernel
theorem dX12_letters_0 : decode cX12_letters 0 = .ok (.aload_n 0, 1) := by decide +kernel
theorem dX12_letters_1 : decode cX12_letters 1 = .ok (.aload_n 0, 1) := by decide +kernel
theorem dX12_letters_2 : decode cX12_letters 2 = .ok (.getfield 310, 3) := by decide +kernel
theorem dX12_letters_5 : decode cX12_letters 5 = .ok (.invokevirtual 313, 3) := by decide +kernel
theorem dX12_letters_8 : decode cX12_letters 8 = .ok (.istore_n 1, 1) := by decide +kernel
theorem dX12_letters_9 : decode cX12_letters 9 = .ok (.iload_n 1, 1) := by decide +kernel
theorem dX12_letters_10 : decode cX12_letters 10 = .ok (.bipush 114, 2) := by decide +kernel
theorem dX12_letters_12 : decode cX12_letters 12 = .ok (.if_icmp .ne 52, 3) := by decide +kernel
theorem dX12_letters_15 : decode cX12_letters 15 = .ok (.aload_n 0, 1) := by decide +kernel
theorem dX12_letters_16 : decode cX12_letters 16 = .ok (.aload_n 0, 1) := by decide +kernel
theorem dX12_letters_17 : decode cX12_letters 17 = .ok (.getfield 310, 3) := by decide +kernel
theorem dX12_letters_20 : decode cX12_letters 20 = .ok (.iconst 1, 1) := by decide +kernel
theorem dX12_letters_21 : decode cX12_letters 21 = .ok (.iadd, 1) := by decide +kernel
theorem dX12_letters_22 : decode cX12_letters 22 = .ok (.invokevirtual 313, 3) := by decide +kernel
theorem dX12_letters_25 : decode cX12_letters 25 = .ok (.invokestatic 316, 3) := by decide +kernel
theorem dX12_letters_28 : decode cX12_letters 28 = .ok (.ifCond .eq 36, 3) := by decide +kernel
theorem dX12_letters_31 : decode cX12_letters 31 = .ok (.aload_n 0, 1) := by decide +kernel
theorem dX12_letters_32 : decode cX12_letters 32 = .ok (.iconst 3, 1) := by decide +kernel
theorem dX12_letters_33 : decode cX12_letters 33 = .ok (.putfield 307, 3) := by decide +kernel
theorem dX12_letters_36 : decode cX12_letters 36 = .ok (.aload_n 0, 1) := by decide +kernel
theorem dX12_letters_37 : decode cX12_letters 37 = .ok (.aload_n 0, 1) := by decide +kernel
theorem dX12_letters_38 : decode cX12_letters 38 = .ok (.aload_n 0, 1) := by decide +kernel
theorem dX12_letters_39 : decode cX12_letters 39 = .ok (.getfield 310, 3) := by decide +kernel
theorem dX12_letters_42 : decode cX12_letters 42 = .ok (.iconst 1, 1) := by decide +kernel
theorem dX12_letters_43 : decode cX12_letters 43 = .ok (.iadd, 1) := by decide +kernel
theorem dX12_letters_44 : decode cX12_letters 44 = .ok (.invokevirtual 313, 3) := by decide +kernel
theorem dX12_letters_47 : decode cX12_letters 47 = .ok (.bipush 48, 2) := by decide +kernel
theorem dX12_letters_49 : decode cX12_letters 49 = .ok (.isub, 1) := by decide +kernel
theorem dX12_letters_50 : decode cX12_letters 50 = .ok (.putfield 328, 3) := by decide +kernel
theorem dX12_letters_53 : decode cX12_letters 53 = .ok (.aload_n 0, 1) := by decide +kernel
theorem dX12_letters_54 : decode cX12_letters 54 = .ok (.dup, 1) := by decide +kernel
theorem dX12_letters_55 : decode cX12_letters 55 = .ok (.getfield 310, 3) := by decide +kernel
theorem dX12_letters_58 : decode cX12_letters 58 = .ok (.iconst 2, 1) := by decide +kernel
theorem dX12_letters_59 : decode cX12_letters 59 = .ok (.iadd, 1) := by decide +kernel
theorem dX12_letters_60 : decode cX12_letters 60 = .ok (.putfield 310, 3) := by decide +kernel
theorem dX12_letters_63 : decode cX12_letters 63 = .ok (.return_, 1) := by decide +kernel
theorem dX12_letters_64 : decode cX12_letters 64 = .ok (.aload_n 0, 1) := by decide +kernel
theorem dX12_letters_65 : decode cX12_letters 65 = .ok (.aload_n 0, 1) := by decide +kernel
theorem dX12_letters_66 : decode cX12_letters 66 = .ok (.getfield 310, 3) := by decide +kernel
theorem dX12_letters_69 : decode cX12_letters 69 = .ok (.invokevirtual 313, 3) := by decide +kernel
theorem dX12_letters_72 : decode cX12_letters 72 = .ok (.invokestatic 322, 3) := by decide +kernel
theorem dX12_letters_75 : decode cX12_letters 75 = .ok (.ifCond .eq 16, 3) := by decide +kernel
theorem dX12_letters_78 : decode cX12_letters 78 = .ok (.aload_n 0, 1) := by decide +kernel
theorem dX12_letters_79 : decode cX12_letters 79 = .ok (.dup, 1) := by decide +kernel
theorem dX12_letters_80 : decode cX12_letters 80 = .ok (.getfield 310, 3) := by decide +kernel
theorem dX12_letters_83 : decode cX12_letters 83 = .ok (.iconst 1, 1) := by decide +kernel
theorem dX12_letters_84 : decode cX12_letters 84 = .ok (.iadd, 1) := by decide +kernel
theorem dX12_letters_85 : decode cX12_letters 85 = .ok (.putfield 310, 3) := by decide +kernel
theorem dX12_letters_88 : decode cX12_letters 88 = .ok (.goto (-24), 3) := by decide +kernel
theorem dX12_letters_91 : decode cX12_letters 91 = .ok (.aload_n 0, 1) := by decide +kernel
theorem dX12_letters_92 : decode cX12_letters 92 = .ok (.getfield 310, 3) := by decide +kernel
theorem dX12_letters_95 : decode cX12_letters 95 = .ok (.aload_n 0, 1) := by decide +kernel
theorem dX12_letters_96 : decode cX12_letters 96 = .ok (.getfield 301, 3) := by decide +kernel
theorem dX12_letters_99 : decode cX12_letters 99 = .ok (.isub, 1) := by decide +kernel
theorem dX12_letters_100 : decode cX12_letters 100 = .ok (.iconst 1, 1) := by decide +kernel
theorem dX12_letters_101 : decode cX12_letters 101 = .ok (.if_icmp .ne 30, 3) := by decide +kernel
theorem dX12_letters_104 : decode cX12_letters 104 = .ok (.iload_n 1, 1) := by decide +kernel
theorem dX12_letters_105 : decode cX12_letters 105 = .ok (.bipush 97, 2) := by decide +kernel
theorem dX12_letters_107 : decode cX12_letters 107 = .ok (.bipush 104, 2) := by decide +kernel
theorem dX12_letters_109 : decode cX12_letters 109 = .ok (.invokestatic 218, 3) := by decide +kernel
theorem dX12_letters_112 : decode cX12_letters 112 = .ok (.ifCond .eq 19, 3) := by decide +kernel
theorem dX12_letters_115 : decode cX12_letters 115 = .ok (.aload_n 0, 1) := by decide +kernel
theorem dX12_letters_116 : decode cX12_letters 116 = .ok (.iconst 2, 1) := by decide +kernel
theorem dX12_letters_117 : decode cX12_letters 117 = .ok (.putfield 307, 3) := by decide +kernel
theorem dX12_letters_120 : decode cX12_letters 120 = .ok (.aload_n 0, 1) := by decide +kernel
theorem dX12_letters_121 : decode cX12_letters 121 = .ok (.iload_n 1, 1) := by decide +kernel
theorem dX12_letters_122 : decode cX12_letters 122 = .ok (.bipush 97, 2) := by decide +kernel
theorem dX12_letters_124 : decode cX12_letters 124 = .ok (.isub, 1) := by decide +kernel
theorem dX12_letters_125 : decode cX12_letters 125 = .ok (.putfield 328, 3) := by decide +kernel
theorem dX12_letters_128 : decode cX12_letters 128 = .ok (.goto 140, 3) := by decide +kernel
theorem dX12_letters_131 : decode cX12_letters 131 = .ok (.aload_n 0, 1) := by decide +kernel
theorem dX12_letters_132 : decode cX12_letters 132 = .ok (.iconst 3, 1) := by decide +kernel
theorem dX12_letters_133 : decode cX12_letters 133 = .ok (.bipush 97, 2) := by decide +kernel
theorem dX12_letters_135 : decode cX12_letters 135 = .ok (.bipush 108, 2) := by decide +kernel
theorem dX12_letters_137 : decode cX12_letters 137 = .ok (.bipush 108, 2) := by decide +kernel
theorem dX12_letters_139 : decode cX12_letters 139 = .ok (.invokevirtual 334, 3) := by decide +kernel
theorem dX12_letters_142 : decode cX12_letters 142 = .ok (.ifCond .eq 11, 3) := by decide +kernel
theorem dX12_letters_145 : decode cX12_letters 145 = .ok (.aload_n 0, 1) := by decide +kernel
theorem dX12_letters_146 : decode cX12_letters 146 = .ok (.iconst 4, 1) := by decide +kernel
theorem dX12_letters_147 : decode cX12_letters 147 = .ok (.putfield 307, 3) := by decide +kernel
theorem dX12_letters_150 : decode cX12_letters 150 = .ok (.goto 118, 3) := by decide +kernel
theorem dX12_letters_153 : decode cX12_letters 153 = .ok (.aload_n 0, 1) := by decide +kernel
theorem dX12_letters_154 : decode cX12_letters 154 = .ok (.iconst 2, 1) := by decide +kernel
theorem dX12_letters_155 : decode cX12_letters 155 = .ok (.bipush 105, 2) := by decide +kernel
theorem dX12_letters_157 : decode cX12_letters 157 = .ok (.bipush 115, 2) := by decide +kernel
theorem dX12_letters_159 : decode cX12_letters 159 = .ok (.iconst 0, 1) := by decide +kernel
theorem dX12_letters_160 : decode cX12_letters 160 = .ok (.invokevirtual 334, 3) := by decide +kernel
theorem dX12_letters_163 : decode cX12_letters 163 = .ok (.ifCond .eq 11, 3) := by decide +kernel
theorem dX12_letters_166 : decode cX12_letters 166 = .ok (.aload_n 0, 1) := by decide +kernel
theorem dX12_letters_167 : decode cX12_letters 167 = .ok (.iconst 5, 1) := by decide +kernel
theorem dX12_letters_168 : decode cX12_letters 168 = .ok (.putfield 307, 3) := by decide +kernel
theorem dX12_letters_171 : decode cX12_letters 171 = .ok (.goto 97, 3) := by decide +kernel
theorem dX12_letters_174 : decode cX12_letters 174 = .ok (.aload_n 0, 1) := by decide +kernel
theorem dX12_letters_175 : decode cX12_letters 175 = .ok (.iconst 3, 1) := by decide +kernel
theorem dX12_letters_176 : decode cX12_letters 176 = .ok (.bipush 110, 2) := by decide +kernel
theorem dX12_letters_178 : decode cX12_letters 178 = .ok (.bipush 111, 2) := by decide +kernel
theorem dX12_letters_180 : decode cX12_letters 180 = .ok (.bipush 116, 2) := by decide +kernel
theorem dX12_letters_182 : decode cX12_letters 182 = .ok (.invokevirtual 334, 3) := by decide +kernel
theorem dX12_letters_185 : decode cX12_letters 185 = .ok (.ifCond .eq 12, 3) := by decide +kernel
theorem dX12_letters_188 : decode cX12_letters 188 = .ok (.aload_n 0, 1) := by decide +kernel
theorem dX12_letters_189 : decode cX12_letters 189 = .ok (.bipush 6, 2) := by decide +kernel
theorem dX12_letters_191 : decode cX12_letters 191 = .ok (.putfield 307, 3) := by decide +kernel
theorem dX12_letters_194 : decode cX12_letters 194 = .ok (.goto 74, 3) := by decide +kernel
theorem dX12_letters_197 : decode cX12_letters 197 = .ok (.aload_n 0, 1) := by decide +kernel
theorem dX12_letters_198 : decode cX12_letters 198 = .ok (.iconst 3, 1) := by decide +kernel
theorem dX12_letters_199 : decode cX12_letters 199 = .ok (.bipush 97, 2) := by decide +kernel
theorem dX12_letters_201 : decode cX12_letters 201 = .ok (.bipush 110, 2) := by decide +kernel
theorem dX12_letters_203 : decode cX12_letters 203 = .ok (.bipush 100, 2) := by decide +kernel
theorem dX12_letters_205 : decode cX12_letters 205 = .ok (.invokevirtual 334, 3) := by decide +kernel
theorem dX12_letters_208 : decode cX12_letters 208 = .ok (.ifCond .eq 12, 3) := by decide +kernel
theorem dX12_letters_211 : decode cX12_letters 211 = .ok (.aload_n 0, 1) := by decide +kernel
theorem dX12_letters_212 : decode cX12_letters 212 = .ok (.bipush 7, 2) := by decide +kernel
theorem dX12_letters_214 : decode cX12_letters 214 = .ok (.putfield 307, 3) := by decide +kernel
theorem dX12_letters_217 : decode cX12_letters 217 = .ok (.goto 51, 3) := by decide +kernel
theorem dX12_letters_220 : decode cX12_letters 220 = .ok (.aload_n 0, 1) := by decide +kernel
theorem dX12_letters_221 : decode cX12_letters 221 = .ok (.iconst 2, 1) := by decide +kernel
theorem dX12_letters_222 : decode cX12_letters 222 = .ok (.bipush 111, 2) := by decide +kernel
theorem dX12_letters_224 : decode cX12_letters 224 = .ok (.bipush 114, 2) := by decide +kernel
theorem dX12_letters_226 : decode cX12_letters 226 = .ok (.iconst 0, 1) := by decide +kernel
theorem dX12_letters_227 : decode cX12_letters 227 = .ok (.invokevirtual 334, 3) := by decide +kernel
theorem dX12_letters_230 : decode cX12_letters 230 = .ok (.ifCond .eq 12, 3) := by decide +kernel
theorem dX12_letters_233 : decode cX12_letters 233 = .ok (.aload_n 0, 1) := by decide +kernel
theorem dX12_letters_234 : decode cX12_letters 234 = .ok (.bipush 8, 2) := by decide +kernel
theorem dX12_letters_236 : decode cX12_letters 236 = .ok (.putfield 307, 3) := by decide +kernel
theorem dX12_letters_239 : decode cX12_letters 239 = .ok (.goto 29, 3) := by decide +kernel
theorem dX12_letters_242 : decode cX12_letters 242 = .ok (.aload_n 0, 1) := by decide +kernel
theorem dX12_letters_243 : decode cX12_letters 243 = .ok (.iconst 2, 1) := by decide +kernel
theorem dX12_letters_244 : decode cX12_letters 244 = .ok (.bipush 115, 2) := by decide +kernel
theorem dX12_letters_246 : decode cX12_letters 246 = .ok (.bipush 111, 2) := by decide +kernel
theorem dX12_letters_248 : decode cX12_letters 248 = .ok (.iconst 0, 1) := by decide +kernel
theorem dX12_letters_249 : decode cX12_letters 249 = .ok (.invokevirtual 334, 3) := by decide +kernel
theorem dX12_letters_252 : decode cX12_letters 252 = .ok (.ifCond .eq 12, 3) := by decide +kernel
theorem dX12_letters_255 : decode cX12_letters 255 = .ok (.aload_n 0, 1) := by decide +kernel
theorem dX12_letters_256 : decode cX12_letters 256 = .ok (.bipush 9, 2) := by decide +kernel
theorem dX12_letters_258 : decode cX12_letters 258 = .ok (.putfield 307, 3) := by decide +kernel
theorem dX12_letters_261 : decode cX12_letters 261 = .ok (.goto 7, 3) := by decide +kernel
theorem dX12_letters_264 : decode cX12_letters 264 = .ok (.aload_n 0, 1) := by decide +kernel
theorem dX12_letters_265 : decode cX12_letters 265 = .ok (.invokevirtual 331, 3) := by decide +kernel
theorem dX12_letters_268 : decode cX12_letters 268 = .ok (.return_, 1) := by decide +kernel
theorem dX12_isSign_0 : decode cX12_isSign 0 = .ok (.aload_n 0, 1) := by decide +kernel
theorem dX12_isSign_1 : decode cX12_isSign 1 = .ok (.getfield 307, 3) := by decide +kernel
theorem dX12_isSign_4 : decode cX12_isSign 4 = .ok (.bipush 10, 2) := by decide +kernel
theorem dX12_isSign_6 : decode cX12_isSign 6 = .ok (.if_icmp .ne 15, 3) := by decide +kernel
theorem dX12_isSign_9 : decode cX12_isSign 9 = .ok (.aload_n 0, 1) := by decide +kernel
theorem dX12_isSign_10 : decode cX12_isSign 10 = .ok (.getfield 328, 3) := by decide +kernel
theorem dX12_isSign_13 : decode cX12_isSign 13 = .ok (.iload_n 1, 1) := by decide +kernel
theorem dX12_isSign_14 : decode cX12_isSign 14 = .ok (.if_icmp .ne 7, 3) := by decide +kernel
theorem dX12_isSign_17 : decode cX12_isSign 17 = .ok (.iconst 1, 1) := by decide +kernel
theorem dX12_isSign_18 : decode cX12_isSign 18 = .ok (.goto 4, 3) := by decide +kernel
theorem dX12_isSign_21 : decode cX12_isSign 21 = .ok (.iconst 0, 1) := by decide +kernel
theorem dX12_isSign_22 : decode cX12_isSign 22 = .ok (.ireturn, 1) := by decide +kernel
theorem dX12_need_0 : decode cX12_need 0 = .ok (.aload_n 0, 1) := by decide +kernel
theorem dX12_need_1 : decode cX12_need 1 = .ok (.iload_n 1, 1) := by decide +kernel
theorem dX12_need_2 : decode cX12_need 2 = .ok (.invokevirtual 337, 3) := by decide +kernel
theorem dX12_need_5 : decode cX12_need 5 = .ok (.ifCond .eq 10, 3) := by decide +kernel
theorem dX12_need_8 : decode cX12_need 8 = .ok (.aload_n 0, 1) := by decide +kernel
theorem dX12_need_9 : decode cX12_need 9 = .ok (.invokevirtual 340, 3) := by decide +kernel
theorem dX12_need_12 : decode cX12_need 12 = .ok (.goto 7, 3) := by decide +kernel
theorem dX12_need_15 : decode cX12_need 15 = .ok (.aload_n 0, 1) := by decide +kernel
theorem dX12_need_16 : decode cX12_need 16 = .ok (.invokevirtual 331, 3) := by decide +kernel
theorem dX12_need_19 : decode cX12_need 19 = .ok (.return_, 1) := by decide +kernel
theorem dX12_ended_0 : decode cX12_ended 0 = .ok (.aload_n 0, 1) := by decide +kernel
theorem dX12_ended_1 : decode cX12_ended 1 = .ok (.getfield 343, 3) := by decide +kernel
theorem dX12_ended_4 : decode cX12_ended 4 = .ok (.istore 6, 2) := by decide +kernel
theorem dX12_ended_6 : decode cX12_ended 6 = .ok (.iload 6, 2) := by decide +kernel
theorem dX12_ended_8 : decode cX12_ended 8 = .ok (.sipush 129, 3) := by decide +kernel
theorem dX12_ended_11 : decode cX12_ended 11 = .ok (.if_icmp .ge 13, 3) := by decide +kernel
theorem dX12_ended_14 : decode cX12_ended 14 = .ok (.aload_n 0, 1) := by decide +kernel
theorem dX12_ended_15 : decode cX12_ended 15 = .ok (.dup, 1) := by decide +kernel
theorem dX12_ended_16 : decode cX12_ended 16 = .ok (.getfield 343, 3) := by decide +kernel
theorem dX12_ended_19 : decode cX12_ended 19 = .ok (.iconst 1, 1) := by decide +kernel
theorem dX12_ended_20 : decode cX12_ended 20 = .ok (.iadd, 1) := by decide +kernel
theorem dX12_ended_21 : decode cX12_ended 21 = .ok (.putfield 343, 3) := by decide +kernel
theorem dX12_ended_24 : decode cX12_ended 24 = .ok (.aload_n 0, 1) := by decide +kernel
theorem dX12_ended_25 : decode cX12_ended 25 = .ok (.getfield 104, 3) := by decide +kernel
theorem dX12_ended_28 : decode cX12_ended 28 = .ok (.iload 6, 2) := by decide +kernel
theorem dX12_ended_30 : decode cX12_ended 30 = .ok (.iload_n 1, 1) := by decide +kernel
theorem dX12_ended_31 : decode cX12_ended 31 = .ok (.iastore, 1) := by decide +kernel
theorem dX12_ended_32 : decode cX12_ended 32 = .ok (.aload_n 0, 1) := by decide +kernel
theorem dX12_ended_33 : decode cX12_ended 33 = .ok (.getfield 107, 3) := by decide +kernel
theorem dX12_ended_36 : decode cX12_ended 36 = .ok (.iload 6, 2) := by decide +kernel
theorem dX12_ended_38 : decode cX12_ended 38 = .ok (.iload_n 2, 1) := by decide +kernel
theorem dX12_ended_39 : decode cX12_ended 39 = .ok (.iastore, 1) := by decide +kernel
theorem dX12_ended_40 : decode cX12_ended 40 = .ok (.aload_n 0, 1) := by decide +kernel
theorem dX12_ended_41 : decode cX12_ended 41 = .ok (.getfield 110, 3) := by decide +kernel
theorem dX12_ended_44 : decode cX12_ended 44 = .ok (.iload 6, 2) := by decide +kernel
theorem dX12_ended_46 : decode cX12_ended 46 = .ok (.iload_n 3, 1) := by decide +kernel
theorem dX12_ended_47 : decode cX12_ended 47 = .ok (.iastore, 1) := by decide +kernel
theorem dX12_ended_48 : decode cX12_ended 48 = .ok (.aload_n 0, 1) := by decide +kernel
theorem dX12_ended_49 : decode cX12_ended 49 = .ok (.getfield 113, 3) := by decide +kernel
theorem dX12_ended_52 : decode cX12_ended 52 = .ok (.iload 6, 2) := by decide +kernel
theorem dX12_ended_54 : decode cX12_ended 54 = .ok (.iload 4, 2) := by decide +kernel
theorem dX12_ended_56 : decode cX12_ended 56 = .ok (.iastore, 1) := by decide +kernel
theorem dX12_ended_57 : decode cX12_ended 57 = .ok (.aload_n 0, 1) := by decide +kernel
theorem dX12_ended_58 : decode cX12_ended 58 = .ok (.getfield 116, 3) := by decide +kernel
theorem dX12_ended_61 : decode cX12_ended 61 = .ok (.iload 6, 2) := by decide +kernel
theorem dX12_ended_63 : decode cX12_ended 63 = .ok (.iload 5, 2) := by decide +kernel
theorem dX12_ended_65 : decode cX12_ended 65 = .ok (.iastore, 1) := by decide +kernel
theorem dX12_ended_66 : decode cX12_ended 66 = .ok (.iload 6, 2) := by decide +kernel
theorem dX12_ended_68 : decode cX12_ended 68 = .ok (.ireturn, 1) := by decide +kernel
theorem dX12_f_0 : decode cX12_f 0 = .ok (.aload_n 0, 1) := by decide +kernel
theorem dX12_f_1 : decode cX12_f 1 = .ok (.invokestatic 346, 3) := by decide +kernel
theorem dX12_f_4 : decode cX12_f 4 = .ok (.istore_n 1, 1) := by decide +kernel
theorem dX12_f_5 : decode cX12_f 5 = .ok (.aload_n 0, 1) := by decide +kernel
theorem dX12_f_6 : decode cX12_f 6 = .ok (.getfield 307, 3) := by decide +kernel
theorem dX12_f_9 : decode cX12_f 9 = .ok (.bipush 9, 2) := by decide +kernel
theorem dX12_f_11 : decode cX12_f 11 = .ok (.if_icmp .eq 5, 3) := by decide +kernel
theorem dX12_f_14 : decode cX12_f 14 = .ok (.iload_n 1, 1) := by decide +kernel
theorem dX12_f_15 : decode cX12_f 15 = .ok (.ireturn, 1) := by decide +kernel
theorem dX12_f_16 : decode cX12_f 16 = .ok (.aload_n 0, 1) := by decide +kernel
theorem dX12_f_17 : decode cX12_f 17 = .ok (.getfield 301, 3) := by decide +kernel
theorem dX12_f_20 : decode cX12_f 20 = .ok (.istore_n 2, 1) := by decide +kernel
theorem dX12_f_21 : decode cX12_f 21 = .ok (.aload_n 0, 1) := by decide +kernel
theorem dX12_f_22 : decode cX12_f 22 = .ok (.invokevirtual 340, 3) := by decide +kernel
theorem dX12_f_25 : decode cX12_f 25 = .ok (.aload_n 0, 1) := by decide +kernel
theorem dX12_f_26 : decode cX12_f 26 = .ok (.invokestatic 350, 3) := by decide +kernel
theorem dX12_f_29 : decode cX12_f 29 = .ok (.istore_n 3, 1) := by decide +kernel
theorem dX12_f_30 : decode cX12_f 30 = .ok (.aload_n 0, 1) := by decide +kernel
theorem dX12_f_31 : decode cX12_f 31 = .ok (.iconst 5, 1) := by decide +kernel
theorem dX12_f_32 : decode cX12_f 32 = .ok (.iload_n 1, 1) := by decide +kernel
theorem dX12_f_33 : decode cX12_f 33 = .ok (.iload_n 3, 1) := by decide +kernel
theorem dX12_f_34 : decode cX12_f 34 = .ok (.iconst 0, 1) := by decide +kernel
theorem dX12_f_35 : decode cX12_f 35 = .ok (.iload_n 2, 1) := by decide +kernel
theorem dX12_f_36 : decode cX12_f 36 = .ok (.invokevirtual 353, 3) := by decide +kernel
theorem dX12_f_39 : decode cX12_f 39 = .ok (.istore 4, 2) := by decide +kernel
theorem dX12_f_41 : decode cX12_f 41 = .ok (.aload_n 0, 1) := by decide +kernel
theorem dX12_f_42 : decode cX12_f 42 = .ok (.getfield 119, 3) := by decide +kernel
theorem dX12_f_45 : decode cX12_f 45 = .ok (.iload 4, 2) := by decide +kernel
theorem dX12_f_47 : decode cX12_f 47 = .ok (.aload_n 0, 1) := by decide +kernel
theorem dX12_f_48 : decode cX12_f 48 = .ok (.getfield 119, 3) := by decide +kernel
theorem dX12_f_51 : decode cX12_f 51 = .ok (.iload_n 1, 1) := by decide +kernel
theorem dX12_f_52 : decode cX12_f 52 = .ok (.iaload, 1) := by decide +kernel
theorem dX12_f_53 : decode cX12_f 53 = .ok (.aload_n 0, 1) := by decide +kernel
theorem dX12_f_54 : decode cX12_f 54 = .ok (.getfield 119, 3) := by decide +kernel
theorem dX12_f_57 : decode cX12_f 57 = .ok (.iload_n 3, 1) := by decide +kernel
theorem dX12_f_58 : decode cX12_f 58 = .ok (.iaload, 1) := by decide +kernel
theorem dX12_f_59 : decode cX12_f 59 = .ok (.ior, 1) := by decide +kernel
theorem dX12_f_60 : decode cX12_f 60 = .ok (.iastore, 1) := by decide +kernel
theorem dX12_f_61 : decode cX12_f 61 = .ok (.iload 4, 2) := by decide +kernel
theorem dX12_f_63 : decode cX12_f 63 = .ok (.ireturn, 1) := by decide +kernel
theorem dX12_or_0 : decode cX12_or 0 = .ok (.aload_n 0, 1) := by decide +kernel
theorem dX12_or_1 : decode cX12_or 1 = .ok (.invokestatic 357, 3) := by decide +kernel
theorem dX12_or_4 : decode cX12_or 4 = .ok (.istore_n 1, 1) := by decide +kernel
theorem dX12_or_5 : decode cX12_or 5 = .ok (.aload_n 0, 1) := by decide +kernel
theorem dX12_or_6 : decode cX12_or 6 = .ok (.getfield 307, 3) := by decide +kernel
theorem dX12_or_9 : decode cX12_or 9 = .ok (.bipush 8, 2) := by decide +kernel
theorem dX12_or_11 : decode cX12_or 11 = .ok (.if_icmp .ne 54, 3) := by decide +kernel
theorem dX12_or_14 : decode cX12_or 14 = .ok (.aload_n 0, 1) := by decide +kernel
theorem dX12_or_15 : decode cX12_or 15 = .ok (.getfield 301, 3) := by decide +kernel
theorem dX12_or_18 : decode cX12_or 18 = .ok (.istore_n 2, 1) := by decide +kernel
theorem dX12_or_19 : decode cX12_or 19 = .ok (.aload_n 0, 1) := by decide +kernel
theorem dX12_or_20 : decode cX12_or 20 = .ok (.invokevirtual 340, 3) := by decide +kernel
theorem dX12_or_23 : decode cX12_or 23 = .ok (.aload_n 0, 1) := by decide +kernel
theorem dX12_or_24 : decode cX12_or 24 = .ok (.invokestatic 357, 3) := by decide +kernel
theorem dX12_or_27 : decode cX12_or 27 = .ok (.istore_n 3, 1) := by decide +kernel
theorem dX12_or_28 : decode cX12_or 28 = .ok (.aload_n 0, 1) := by decide +kernel
theorem dX12_or_29 : decode cX12_or 29 = .ok (.iconst 4, 1) := by decide +kernel
theorem dX12_or_30 : decode cX12_or 30 = .ok (.iload_n 1, 1) := by decide +kernel
theorem dX12_or_31 : decode cX12_or 31 = .ok (.iload_n 3, 1) := by decide +kernel
theorem dX12_or_32 : decode cX12_or 32 = .ok (.iconst 0, 1) := by decide +kernel
theorem dX12_or_33 : decode cX12_or 33 = .ok (.iload_n 2, 1) := by decide +kernel
theorem dX12_or_34 : decode cX12_or 34 = .ok (.invokevirtual 353, 3) := by decide +kernel
theorem dX12_or_37 : decode cX12_or 37 = .ok (.istore 4, 2) := by decide +kernel
theorem dX12_or_39 : decode cX12_or 39 = .ok (.aload_n 0, 1) := by decide +kernel
theorem dX12_or_40 : decode cX12_or 40 = .ok (.getfield 119, 3) := by decide +kernel
theorem dX12_or_43 : decode cX12_or 43 = .ok (.iload 4, 2) := by decide +kernel
theorem dX12_or_45 : decode cX12_or 45 = .ok (.aload_n 0, 1) := by decide +kernel
theorem dX12_or_46 : decode cX12_or 46 = .ok (.getfield 119, 3) := by decide +kernel
theorem dX12_or_49 : decode cX12_or 49 = .ok (.iload_n 1, 1) := by decide +kernel
theorem dX12_or_50 : decode cX12_or 50 = .ok (.iaload, 1) := by decide +kernel
theorem dX12_or_51 : decode cX12_or 51 = .ok (.aload_n 0, 1) := by decide +kernel
theorem dX12_or_52 : decode cX12_or 52 = .ok (.getfield 119, 3) := by decide +kernel
theorem dX12_or_55 : decode cX12_or 55 = .ok (.iload_n 3, 1) := by decide +kernel
theorem dX12_or_56 : decode cX12_or 56 = .ok (.iaload, 1) := by decide +kernel
theorem dX12_or_57 : decode cX12_or 57 = .ok (.ior, 1) := by decide +kernel
theorem dX12_or_58 : decode cX12_or 58 = .ok (.iastore, 1) := by decide +kernel
theorem dX12_or_59 : decode cX12_or 59 = .ok (.iload 4, 2) := by decide +kernel
theorem dX12_or_61 : decode cX12_or 61 = .ok (.istore_n 1, 1) := by decide +kernel
theorem dX12_or_62 : decode cX12_or 62 = .ok (.goto (-57), 3) := by decide +kernel
theorem dX12_or_65 : decode cX12_or 65 = .ok (.iload_n 1, 1) := by decide +kernel
theorem dX12_or_66 : decode cX12_or 66 = .ok (.ireturn, 1) := by decide +kernel
theorem dX12_and_0 : decode cX12_and 0 = .ok (.aload_n 0, 1) := by decide +kernel
theorem dX12_and_1 : decode cX12_and 1 = .ok (.invokestatic 360, 3) := by decide +kernel
theorem dX12_and_4 : decode cX12_and 4 = .ok (.istore_n 1, 1) := by decide +kernel
theorem dX12_and_5 : decode cX12_and 5 = .ok (.aload_n 0, 1) := by decide +kernel
theorem dX12_and_6 : decode cX12_and 6 = .ok (.getfield 307, 3) := by decide +kernel
theorem dX12_and_9 : decode cX12_and 9 = .ok (.bipush 7, 2) := by decide +kernel
theorem dX12_and_11 : decode cX12_and 11 = .ok (.if_icmp .ne 54, 3) := by decide +kernel
theorem dX12_and_14 : decode cX12_and 14 = .ok (.aload_n 0, 1) := by decide +kernel
theorem dX12_and_15 : decode cX12_and 15 = .ok (.getfield 301, 3) := by decide +kernel
theorem dX12_and_18 : decode cX12_and 18 = .ok (.istore_n 2, 1) := by decide +kernel
theorem dX12_and_19 : decode cX12_and 19 = .ok (.aload_n 0, 1) := by decide +kernel
theorem dX12_and_20 : decode cX12_and 20 = .ok (.invokevirtual 340, 3) := by decide +kernel
theorem dX12_and_23 : decode cX12_and 23 = .ok (.aload_n 0, 1) := by decide +kernel
theorem dX12_and_24 : decode cX12_and 24 = .ok (.invokestatic 360, 3) := by decide +kernel
theorem dX12_and_27 : decode cX12_and 27 = .ok (.istore_n 3, 1) := by decide +kernel
theorem dX12_and_28 : decode cX12_and 28 = .ok (.aload_n 0, 1) := by decide +kernel
theorem dX12_and_29 : decode cX12_and 29 = .ok (.iconst 3, 1) := by decide +kernel
theorem dX12_and_30 : decode cX12_and 30 = .ok (.iload_n 1, 1) := by decide +kernel
theorem dX12_and_31 : decode cX12_and 31 = .ok (.iload_n 3, 1) := by decide +kernel
theorem dX12_and_32 : decode cX12_and 32 = .ok (.iconst 0, 1) := by decide +kernel
theorem dX12_and_33 : decode cX12_and 33 = .ok (.iload_n 2, 1) := by decide +kernel
theorem dX12_and_34 : decode cX12_and 34 = .ok (.invokevirtual 353, 3) := by decide +kernel
theorem dX12_and_37 : decode cX12_and 37 = .ok (.istore 4, 2) := by decide +kernel
theorem dX12_and_39 : decode cX12_and 39 = .ok (.aload_n 0, 1) := by decide +kernel
theorem dX12_and_40 : decode cX12_and 40 = .ok (.getfield 119, 3) := by decide +kernel
theorem dX12_and_43 : decode cX12_and 43 = .ok (.iload 4, 2) := by decide +kernel
theorem dX12_and_45 : decode cX12_and 45 = .ok (.aload_n 0, 1) := by decide +kernel
theorem dX12_and_46 : decode cX12_and 46 = .ok (.getfield 119, 3) := by decide +kernel
theorem dX12_and_49 : decode cX12_and 49 = .ok (.iload_n 1, 1) := by decide +kernel
theorem dX12_and_50 : decode cX12_and 50 = .ok (.iaload, 1) := by decide +kernel
theorem dX12_and_51 : decode cX12_and 51 = .ok (.aload_n 0, 1) := by decide +kernel
theorem dX12_and_52 : decode cX12_and 52 = .ok (.getfield 119, 3) := by decide +kernel
theorem dX12_and_55 : decode cX12_and 55 = .ok (.iload_n 3, 1) := by decide +kernel
theorem dX12_and_56 : decode cX12_and 56 = .ok (.iaload, 1) := by decide +kernel
theorem dX12_and_57 : decode cX12_and 57 = .ok (.ior, 1) := by decide +kernel
theorem dX12_and_58 : decode cX12_and 58 = .ok (.iastore, 1) := by decide +kernel
theorem dX12_and_59 : decode cX12_and 59 = .ok (.iload 4, 2) := by decide +kernel
theorem dX12_and_61 : decode cX12_and 61 = .ok (.istore_n 1, 1) := by decide +kernel
theorem dX12_and_62 : decode cX12_and 62 = .ok (.goto (-57), 3) := by decide +kernel
theorem dX12_and_65 : decode cX12_and 65 = .ok (.iload_n 1, 1) := by decide +kernel
theorem dX12_and_66 : decode cX12_and 66 = .ok (.ireturn, 1) := by decide +kernel
theorem dX12_not_0 : decode cX12_not 0 = .ok (.aload_n 0, 1) := by decide +kernel
theorem dX12_not_1 : decode cX12_not 1 = .ok (.getfield 363, 3) := by decide +kernel
theorem dX12_not_4 : decode cX12_not 4 = .ok (.bipush 10, 2) := by decide +kernel
theorem dX12_not_6 : decode cX12_not 6 = .ok (.if_icmp .ne 7, 3) := by decide +kernel
theorem dX12_not_9 : decode cX12_not 9 = .ok (.aload_n 0, 1) := by decide +kernel
theorem dX12_not_10 : decode cX12_not 10 = .ok (.invokevirtual 331, 3) := by decide +kernel
theorem dX12_not_13 : decode cX12_not 13 = .ok (.aload_n 0, 1) := by decide +kernel
theorem dX12_not_14 : decode cX12_not 14 = .ok (.dup, 1) := by decide +kernel
theorem dX12_not_15 : decode cX12_not 15 = .ok (.getfield 363, 3) := by decide +kernel
theorem dX12_not_18 : decode cX12_not 18 = .ok (.iconst 1, 1) := by decide +kernel
theorem dX12_not_19 : decode cX12_not 19 = .ok (.iadd, 1) := by decide +kernel
theorem dX12_not_20 : decode cX12_not 20 = .ok (.putfield 363, 3) := by decide +kernel
theorem dX12_not_23 : decode cX12_not 23 = .ok (.iconst 0, 1) := by decide +kernel
theorem dX12_not_24 : decode cX12_not 24 = .ok (.istore_n 1, 1) := by decide +kernel
theorem dX12_not_25 : decode cX12_not 25 = .ok (.aload_n 0, 1) := by decide +kernel
theorem dX12_not_26 : decode cX12_not 26 = .ok (.getfield 301, 3) := by decide +kernel
theorem dX12_not_29 : decode cX12_not 29 = .ok (.istore_n 2, 1) := by decide +kernel
theorem dX12_not_30 : decode cX12_not 30 = .ok (.aload_n 0, 1) := by decide +kernel
theorem dX12_not_31 : decode cX12_not 31 = .ok (.getfield 307, 3) := by decide +kernel
theorem dX12_not_34 : decode cX12_not 34 = .ok (.bipush 6, 2) := by decide +kernel
theorem dX12_not_36 : decode cX12_not 36 = .ok (.if_icmp .ne 37, 3) := by decide +kernel
theorem dX12_not_39 : decode cX12_not 39 = .ok (.aload_n 0, 1) := by decide +kernel
theorem dX12_not_40 : decode cX12_not 40 = .ok (.invokevirtual 340, 3) := by decide +kernel
theorem dX12_not_43 : decode cX12_not 43 = .ok (.aload_n 0, 1) := by decide +kernel
theorem dX12_not_44 : decode cX12_not 44 = .ok (.invokestatic 360, 3) := by decide +kernel
theorem dX12_not_47 : decode cX12_not 47 = .ok (.istore_n 3, 1) := by decide +kernel
theorem dX12_not_48 : decode cX12_not 48 = .ok (.aload_n 0, 1) := by decide +kernel
theorem dX12_not_49 : decode cX12_not 49 = .ok (.iconst 2, 1) := by decide +kernel
theorem dX12_not_50 : decode cX12_not 50 = .ok (.iload_n 3, 1) := by decide +kernel
theorem dX12_not_51 : decode cX12_not 51 = .ok (.iconst 0, 1) := by decide +kernel
theorem dX12_not_52 : decode cX12_not 52 = .ok (.iconst 0, 1) := by decide +kernel
theorem dX12_not_53 : decode cX12_not 53 = .ok (.iload_n 2, 1) := by decide +kernel
theorem dX12_not_54 : decode cX12_not 54 = .ok (.invokevirtual 353, 3) := by decide +kernel
theorem dX12_not_57 : decode cX12_not 57 = .ok (.istore_n 1, 1) := by decide +kernel
theorem dX12_not_58 : decode cX12_not 58 = .ok (.aload_n 0, 1) := by decide +kernel
theorem dX12_not_59 : decode cX12_not 59 = .ok (.getfield 119, 3) := by decide +kernel
theorem dX12_not_62 : decode cX12_not 62 = .ok (.iload_n 1, 1) := by decide +kernel
theorem dX12_not_63 : decode cX12_not 63 = .ok (.aload_n 0, 1) := by decide +kernel
theorem dX12_not_64 : decode cX12_not 64 = .ok (.getfield 119, 3) := by decide +kernel
theorem dX12_not_67 : decode cX12_not 67 = .ok (.iload_n 3, 1) := by decide +kernel
theorem dX12_not_68 : decode cX12_not 68 = .ok (.iaload, 1) := by decide +kernel
theorem dX12_not_69 : decode cX12_not 69 = .ok (.iastore, 1) := by decide +kernel
theorem dX12_not_70 : decode cX12_not 70 = .ok (.goto 75, 3) := by decide +kernel
theorem dX12_not_73 : decode cX12_not 73 = .ok (.aload_n 0, 1) := by decide +kernel
theorem dX12_not_74 : decode cX12_not 74 = .ok (.getfield 307, 3) := by decide +kernel
theorem dX12_not_77 : decode cX12_not 77 = .ok (.iconst 4, 1) := by decide +kernel
theorem dX12_not_78 : decode cX12_not 78 = .ok (.if_icmp .eq 11, 3) := by decide +kernel
theorem dX12_not_81 : decode cX12_not 81 = .ok (.aload_n 0, 1) := by decide +kernel
theorem dX12_not_82 : decode cX12_not 82 = .ok (.getfield 307, 3) := by decide +kernel
theorem dX12_not_85 : decode cX12_not 85 = .ok (.iconst 5, 1) := by decide +kernel
theorem dX12_not_86 : decode cX12_not 86 = .ok (.if_icmp .ne 27, 3) := by decide +kernel
theorem dX12_not_89 : decode cX12_not 89 = .ok (.aload_n 0, 1) := by decide +kernel
theorem dX12_not_90 : decode cX12_not 90 = .ok (.aload_n 0, 1) := by decide +kernel
theorem dX12_not_91 : decode cX12_not 91 = .ok (.getfield 307, 3) := by decide +kernel
theorem dX12_not_94 : decode cX12_not 94 = .ok (.iconst 4, 1) := by decide +kernel
theorem dX12_not_95 : decode cX12_not 95 = .ok (.if_icmp .ne 8, 3) := by decide +kernel
theorem dX12_not_98 : decode cX12_not 98 = .ok (.bipush 6, 2) := by decide +kernel
theorem dX12_not_100 : decode cX12_not 100 = .ok (.goto 5, 3) := by decide +kernel
theorem dX12_not_103 : decode cX12_not 103 = .ok (.bipush 7, 2) := by decide +kernel
theorem dX12_not_105 : decode cX12_not 105 = .ok (.iload_n 2, 1) := by decide +kernel
theorem dX12_not_106 : decode cX12_not 106 = .ok (.invokestatic 366, 3) := by decide +kernel
theorem dX12_not_109 : decode cX12_not 109 = .ok (.istore_n 1, 1) := by decide +kernel
theorem dX12_not_110 : decode cX12_not 110 = .ok (.goto 35, 3) := by decide +kernel
theorem dX12_not_113 : decode cX12_not 113 = .ok (.aload_n 0, 1) := by decide +kernel
theorem dX12_not_114 : decode cX12_not 114 = .ok (.bipush 40, 2) := by decide +kernel
theorem dX12_not_116 : decode cX12_not 116 = .ok (.invokevirtual 337, 3) := by decide +kernel
theorem dX12_not_119 : decode cX12_not 119 = .ok (.ifCond .eq 21, 3) := by decide +kernel
theorem dX12_not_122 : decode cX12_not 122 = .ok (.aload_n 0, 1) := by decide +kernel
theorem dX12_not_123 : decode cX12_not 123 = .ok (.invokevirtual 340, 3) := by decide +kernel
theorem dX12_not_126 : decode cX12_not 126 = .ok (.aload_n 0, 1) := by decide +kernel
theorem dX12_not_127 : decode cX12_not 127 = .ok (.invokestatic 350, 3) := by decide +kernel
theorem dX12_not_130 : decode cX12_not 130 = .ok (.istore_n 1, 1) := by decide +kernel
theorem dX12_not_131 : decode cX12_not 131 = .ok (.aload_n 0, 1) := by decide +kernel
theorem dX12_not_132 : decode cX12_not 132 = .ok (.bipush 41, 2) := by decide +kernel
theorem dX12_not_134 : decode cX12_not 134 = .ok (.invokevirtual 370, 3) := by decide +kernel
theorem dX12_not_137 : decode cX12_not 137 = .ok (.goto 8, 3) := by decide +kernel
theorem dX12_not_140 : decode cX12_not 140 = .ok (.aload_n 0, 1) := by decide +kernel
theorem dX12_not_141 : decode cX12_not 141 = .ok (.invokevirtual 374, 3) := by decide +kernel
theorem dX12_not_144 : decode cX12_not 144 = .ok (.istore_n 1, 1) := by decide +kernel
theorem dX12_not_145 : decode cX12_not 145 = .ok (.aload_n 0, 1) := by decide +kernel
theorem dX12_not_146 : decode cX12_not 146 = .ok (.dup, 1) := by decide +kernel
theorem dX12_not_147 : decode cX12_not 147 = .ok (.getfield 363, 3) := by decide +kernel
theorem dX12_not_150 : decode cX12_not 150 = .ok (.iconst 1, 1) := by decide +kernel
theorem dX12_not_151 : decode cX12_not 151 = .ok (.isub, 1) := by decide +kernel
theorem dX12_not_152 : decode cX12_not 152 = .ok (.putfield 363, 3) := by decide +kernel
theorem dX12_not_155 : decode cX12_not 155 = .ok (.iload_n 1, 1) := by decide +kernel
theorem dX12_not_156 : decode cX12_not 156 = .ok (.ireturn, 1) := by decide +kernel
theorem dX12_bounded_0 : decode cX12_bounded 0 = .ok (.aload_n 0, 1) := by decide +kernel
theorem dX12_bounded_1 : decode cX12_bounded 1 = .ok (.invokevirtual 340, 3) := by decide +kernel
theorem dX12_bounded_4 : decode cX12_bounded 4 = .ok (.aload_n 0, 1) := by decide +kernel
theorem dX12_bounded_5 : decode cX12_bounded 5 = .ok (.getfield 328, 3) := by decide +kernel
theorem dX12_bounded_8 : decode cX12_bounded 8 = .ok (.istore_n 3, 1) := by decide +kernel
theorem dX12_bounded_9 : decode cX12_bounded 9 = .ok (.aload_n 0, 1) := by decide +kernel
theorem dX12_bounded_10 : decode cX12_bounded 10 = .ok (.getfield 307, 3) := by decide +kernel
theorem dX12_bounded_13 : decode cX12_bounded 13 = .ok (.iconst 2, 1) := by decide +kernel
theorem dX12_bounded_14 : decode cX12_bounded 14 = .ok (.if_icmp .eq 9, 3) := by decide +kernel
theorem dX12_bounded_17 : decode cX12_bounded 17 = .ok (.aload_n 0, 1) := by decide +kernel
theorem dX12_bounded_18 : decode cX12_bounded 18 = .ok (.invokevirtual 331, 3) := by decide +kernel
theorem dX12_bounded_21 : decode cX12_bounded 21 = .ok (.iconst 0, 1) := by decide +kernel
theorem dX12_bounded_22 : decode cX12_bounded 22 = .ok (.ireturn, 1) := by decide +kernel
theorem dX12_bounded_23 : decode cX12_bounded 23 = .ok (.aload_n 0, 1) := by decide +kernel
theorem dX12_bounded_24 : decode cX12_bounded 24 = .ok (.getfield 378, 3) := by decide +kernel
theorem dX12_bounded_27 : decode cX12_bounded 27 = .ok (.iload_n 3, 1) := by decide +kernel
theorem dX12_bounded_28 : decode cX12_bounded 28 = .ok (.ishr, 1) := by decide +kernel
theorem dX12_bounded_29 : decode cX12_bounded 29 = .ok (.iconst 1, 1) := by decide +kernel
theorem dX12_bounded_30 : decode cX12_bounded 30 = .ok (.iand, 1) := by decide +kernel
theorem dX12_bounded_31 : decode cX12_bounded 31 = .ok (.iconst 1, 1) := by decide +kernel
theorem dX12_bounded_32 : decode cX12_bounded 32 = .ok (.if_icmp .ne 7, 3) := by decide +kernel
theorem dX12_bounded_35 : decode cX12_bounded 35 = .ok (.iconst 1, 1) := by decide +kernel
theorem dX12_bounded_36 : decode cX12_bounded 36 = .ok (.goto 4, 3) := by decide +kernel
theorem dX12_bounded_39 : decode cX12_bounded 39 = .ok (.iconst 0, 1) := by decide +kernel
theorem dX12_bounded_40 : decode cX12_bounded 40 = .ok (.istore 4, 2) := by decide +kernel
theorem dX12_bounded_42 : decode cX12_bounded 42 = .ok (.iload 4, 2) := by decide +kernel
theorem dX12_bounded_44 : decode cX12_bounded 44 = .ok (.ifCond .eq 11, 3) := by decide +kernel
theorem dX12_bounded_47 : decode cX12_bounded 47 = .ok (.aload_n 0, 1) := by decide +kernel
theorem dX12_bounded_48 : decode cX12_bounded 48 = .ok (.aload_n 0, 1) := by decide +kernel
theorem dX12_bounded_49 : decode cX12_bounded 49 = .ok (.getfield 301, 3) := by decide +kernel
theorem dX12_bounded_52 : decode cX12_bounded 52 = .ok (.invokevirtual 381, 3) := by decide +kernel
theorem dX12_bounded_55 : decode cX12_bounded 55 = .ok (.aload_n 0, 1) := by decide +kernel
theorem dX12_bounded_56 : decode cX12_bounded 56 = .ok (.dup, 1) := by decide +kernel
theorem dX12_bounded_57 : decode cX12_bounded 57 = .ok (.getfield 378, 3) := by decide +kernel
theorem dX12_bounded_60 : decode cX12_bounded 60 = .ok (.iconst 1, 1) := by decide +kernel
theorem dX12_bounded_61 : decode cX12_bounded 61 = .ok (.iload_n 3, 1) := by decide +kernel
theorem dX12_bounded_62 : decode cX12_bounded 62 = .ok (.ishl, 1) := by decide +kernel
theorem dX12_bounded_63 : decode cX12_bounded 63 = .ok (.ior, 1) := by decide +kernel
theorem dX12_bounded_64 : decode cX12_bounded 64 = .ok (.putfield 378, 3) := by decide +kernel
theorem dX12_bounded_67 : decode cX12_bounded 67 = .ok (.aload_n 0, 1) := by decide +kernel
theorem dX12_bounded_68 : decode cX12_bounded 68 = .ok (.invokevirtual 340, 3) := by decide +kernel
theorem dX12_bounded_71 : decode cX12_bounded 71 = .ok (.aload_n 0, 1) := by decide +kernel
theorem dX12_bounded_72 : decode cX12_bounded 72 = .ok (.invokestatic 360, 3) := by decide +kernel
theorem dX12_bounded_75 : decode cX12_bounded 75 = .ok (.istore 5, 2) := by decide +kernel
theorem dX12_bounded_77 : decode cX12_bounded 77 = .ok (.iload 4, 2) := by decide +kernel
theorem dX12_bounded_79 : decode cX12_bounded 79 = .ok (.ifCond .ne 17, 3) := by decide +kernel
theorem dX12_bounded_82 : decode cX12_bounded 82 = .ok (.aload_n 0, 1) := by decide +kernel
theorem dX12_bounded_83 : decode cX12_bounded 83 = .ok (.dup, 1) := by decide +kernel
theorem dX12_bounded_84 : decode cX12_bounded 84 = .ok (.getfield 378, 3) := by decide +kernel
theorem dX12_bounded_87 : decode cX12_bounded 87 = .ok (.iconst 1, 1) := by decide +kernel
theorem dX12_bounded_88 : decode cX12_bounded 88 = .ok (.iload_n 3, 1) := by decide +kernel
theorem dX12_bounded_89 : decode cX12_bounded 89 = .ok (.ishl, 1) := by decide +kernel
theorem dX12_bounded_90 : decode cX12_bounded 90 = .ok (.iconst (-1), 1) := by decide +kernel
theorem dX12_bounded_91 : decode cX12_bounded 91 = .ok (.ixor, 1) := by decide +kernel
theorem dX12_bounded_92 : decode cX12_bounded 92 = .ok (.iand, 1) := by decide +kernel
theorem dX12_bounded_93 : decode cX12_bounded 93 = .ok (.putfield 378, 3) := by decide +kernel
theorem dX12_bounded_96 : decode cX12_bounded 96 = .ok (.aload_n 0, 1) := by decide +kernel
theorem dX12_bounded_97 : decode cX12_bounded 97 = .ok (.iload_n 1, 1) := by decide +kernel
theorem dX12_bounded_98 : decode cX12_bounded 98 = .ok (.iload 5, 2) := by decide +kernel
theorem dX12_bounded_100 : decode cX12_bounded 100 = .ok (.iconst 0, 1) := by decide +kernel
theorem dX12_bounded_101 : decode cX12_bounded 101 = .ok (.iload_n 3, 1) := by decide +kernel
theorem dX12_bounded_102 : decode cX12_bounded 102 = .ok (.iload_n 2, 1) := by decide +kernel
theorem dX12_bounded_103 : decode cX12_bounded 103 = .ok (.invokevirtual 353, 3) := by decide +kernel
theorem dX12_bounded_106 : decode cX12_bounded 106 = .ok (.istore 6, 2) := by decide +kernel
theorem dX12_bounded_108 : decode cX12_bounded 108 = .ok (.aload_n 0, 1) := by decide +kernel
theorem dX12_bounded_109 : decode cX12_bounded 109 = .ok (.getfield 119, 3) := by decide +kernel
theorem dX12_bounded_112 : decode cX12_bounded 112 = .ok (.iload 6, 2) := by decide +kernel
theorem dX12_bounded_114 : decode cX12_bounded 114 = .ok (.aload_n 0, 1) := by decide +kernel
theorem dX12_bounded_115 : decode cX12_bounded 115 = .ok (.getfield 119, 3) := by decide +kernel
theorem dX12_bounded_118 : decode cX12_bounded 118 = .ok (.iload 5, 2) := by decide +kernel
theorem dX12_bounded_120 : decode cX12_bounded 120 = .ok (.iaload, 1) := by decide +kernel
theorem dX12_bounded_121 : decode cX12_bounded 121 = .ok (.iconst 1, 1) := by decide +kernel
theorem dX12_bounded_122 : decode cX12_bounded 122 = .ok (.iload_n 3, 1) := by decide +kernel
theorem dX12_bounded_123 : decode cX12_bounded 123 = .ok (.ishl, 1) := by decide +kernel
theorem dX12_bounded_124 : decode cX12_bounded 124 = .ok (.iconst (-1), 1) := by decide +kernel
theorem dX12_bounded_125 : decode cX12_bounded 125 = .ok (.ixor, 1) := by decide +kernel
theorem dX12_bounded_126 : decode cX12_bounded 126 = .ok (.iand, 1) := by decide +kernel
theorem dX12_bounded_127 : decode cX12_bounded 127 = .ok (.iastore, 1) := by decide +kernel
theorem dX12_bounded_128 : decode cX12_bounded 128 = .ok (.iload 6, 2) := by decide +kernel
theorem dX12_bounded_130 : decode cX12_bounded 130 = .ok (.ireturn, 1) := by decide +kernel
theorem dX12_sums_0 : decode cX12_sums 0 = .ok (.aload_n 0, 1) := by decide +kernel
theorem dX12_sums_1 : decode cX12_sums 1 = .ok (.iconst 0, 1) := by decide +kernel
theorem dX12_sums_2 : decode cX12_sums 2 = .ok (.putfield 384, 3) := by decide +kernel
theorem dX12_sums_5 : decode cX12_sums 5 = .ok (.aload_n 0, 1) := by decide +kernel
theorem dX12_sums_6 : decode cX12_sums 6 = .ok (.iload_n 1, 1) := by decide +kernel
theorem dX12_sums_7 : decode cX12_sums 7 = .ok (.invokevirtual 387, 3) := by decide +kernel
theorem dX12_sums_10 : decode cX12_sums 10 = .ok (.aload_n 0, 1) := by decide +kernel
theorem dX12_sums_11 : decode cX12_sums 11 = .ok (.bipush 43, 2) := by decide +kernel
theorem dX12_sums_13 : decode cX12_sums 13 = .ok (.invokevirtual 337, 3) := by decide +kernel
theorem dX12_sums_16 : decode cX12_sums 16 = .ok (.ifCond .eq 15, 3) := by decide +kernel
theorem dX12_sums_19 : decode cX12_sums 19 = .ok (.aload_n 0, 1) := by decide +kernel
theorem dX12_sums_20 : decode cX12_sums 20 = .ok (.invokevirtual 340, 3) := by decide +kernel
theorem dX12_sums_23 : decode cX12_sums 23 = .ok (.aload_n 0, 1) := by decide +kernel
theorem dX12_sums_24 : decode cX12_sums 24 = .ok (.iload_n 1, 1) := by decide +kernel
theorem dX12_sums_25 : decode cX12_sums 25 = .ok (.invokevirtual 387, 3) := by decide +kernel
theorem dX12_sums_28 : decode cX12_sums 28 = .ok (.goto (-18), 3) := by decide +kernel
theorem dX12_sums_31 : decode cX12_sums 31 = .ok (.return_, 1) := by decide +kernel
theorem dX12_term_0 : decode cX12_term 0 = .ok (.aload_n 0, 1) := by decide +kernel
theorem dX12_term_1 : decode cX12_term 1 = .ok (.getfield 307, 3) := by decide +kernel
theorem dX12_term_4 : decode cX12_term 4 = .ok (.iconst 2, 1) := by decide +kernel
theorem dX12_term_5 : decode cX12_term 5 = .ok (.if_icmp .ne 38, 3) := by decide +kernel
theorem dX12_term_8 : decode cX12_term 8 = .ok (.aload_n 0, 1) := by decide +kernel
theorem dX12_term_9 : decode cX12_term 9 = .ok (.getfield 155, 3) := by decide +kernel
theorem dX12_term_12 : decode cX12_term 12 = .ok (.aload_n 0, 1) := by decide +kernel
theorem dX12_term_13 : decode cX12_term 13 = .ok (.getfield 328, 3) := by decide +kernel
theorem dX12_term_16 : decode cX12_term 16 = .ok (.dup2, 1) := by decide +kernel
theorem dX12_term_17 : decode cX12_term 17 = .ok (.iaload, 1) := by decide +kernel
theorem dX12_term_18 : decode cX12_term 18 = .ok (.iload_n 1, 1) := by decide +kernel
theorem dX12_term_19 : decode cX12_term 19 = .ok (.iadd, 1) := by decide +kernel
theorem dX12_term_20 : decode cX12_term 20 = .ok (.iastore, 1) := by decide +kernel
theorem dX12_term_21 : decode cX12_term 21 = .ok (.aload_n 0, 1) := by decide +kernel
theorem dX12_term_22 : decode cX12_term 22 = .ok (.dup, 1) := by decide +kernel
theorem dX12_term_23 : decode cX12_term 23 = .ok (.getfield 390, 3) := by decide +kernel
theorem dX12_term_26 : decode cX12_term 26 = .ok (.iconst 1, 1) := by decide +kernel
theorem dX12_term_27 : decode cX12_term 27 = .ok (.aload_n 0, 1) := by decide +kernel
theorem dX12_term_28 : decode cX12_term 28 = .ok (.getfield 328, 3) := by decide +kernel
theorem dX12_term_31 : decode cX12_term 31 = .ok (.ishl, 1) := by decide +kernel
theorem dX12_term_32 : decode cX12_term 32 = .ok (.ior, 1) := by decide +kernel
theorem dX12_term_33 : decode cX12_term 33 = .ok (.putfield 390, 3) := by decide +kernel
theorem dX12_term_36 : decode cX12_term 36 = .ok (.aload_n 0, 1) := by decide +kernel
theorem dX12_term_37 : decode cX12_term 37 = .ok (.invokevirtual 340, 3) := by decide +kernel
theorem dX12_term_40 : decode cX12_term 40 = .ok (.goto 67, 3) := by decide +kernel
theorem dX12_term_43 : decode cX12_term 43 = .ok (.aload_n 0, 1) := by decide +kernel
theorem dX12_term_44 : decode cX12_term 44 = .ok (.getfield 307, 3) := by decide +kernel
theorem dX12_term_47 : decode cX12_term 47 = .ok (.iconst 1, 1) := by decide +kernel
theorem dX12_term_48 : decode cX12_term 48 = .ok (.if_icmp .ne 55, 3) := by decide +kernel
theorem dX12_term_51 : decode cX12_term 51 = .ok (.aload_n 0, 1) := by decide +kernel
theorem dX12_term_52 : decode cX12_term 52 = .ok (.dup, 1) := by decide +kernel
theorem dX12_term_53 : decode cX12_term 53 = .ok (.getfield 393, 3) := by decide +kernel
theorem dX12_term_56 : decode cX12_term 56 = .ok (.iload_n 1, 1) := by decide +kernel
theorem dX12_term_57 : decode cX12_term 57 = .ok (.aload_n 0, 1) := by decide +kernel
theorem dX12_term_58 : decode cX12_term 58 = .ok (.getfield 328, 3) := by decide +kernel
theorem dX12_term_61 : decode cX12_term 61 = .ok (.imul, 1) := by decide +kernel
theorem dX12_term_62 : decode cX12_term 62 = .ok (.iadd, 1) := by decide +kernel
theorem dX12_term_63 : decode cX12_term 63 = .ok (.putfield 393, 3) := by decide +kernel
theorem dX12_term_66 : decode cX12_term 66 = .ok (.aload_n 0, 1) := by decide +kernel
theorem dX12_term_67 : decode cX12_term 67 = .ok (.dup, 1) := by decide +kernel
theorem dX12_term_68 : decode cX12_term 68 = .ok (.getfield 384, 3) := by decide +kernel
theorem dX12_term_71 : decode cX12_term 71 = .ok (.aload_n 0, 1) := by decide +kernel
theorem dX12_term_72 : decode cX12_term 72 = .ok (.getfield 328, 3) := by decide +kernel
theorem dX12_term_75 : decode cX12_term 75 = .ok (.iadd, 1) := by decide +kernel
theorem dX12_term_76 : decode cX12_term 76 = .ok (.putfield 384, 3) := by decide +kernel
theorem dX12_term_79 : decode cX12_term 79 = .ok (.aload_n 0, 1) := by decide +kernel
theorem dX12_term_80 : decode cX12_term 80 = .ok (.getfield 384, 3) := by decide +kernel
theorem dX12_term_83 : decode cX12_term 83 = .ok (.bipush 99, 2) := by decide +kernel
theorem dX12_term_85 : decode cX12_term 85 = .ok (.if_icmp .le 11, 3) := by decide +kernel
theorem dX12_term_88 : decode cX12_term 88 = .ok (.aload_n 0, 1) := by decide +kernel
theorem dX12_term_89 : decode cX12_term 89 = .ok (.aload_n 0, 1) := by decide +kernel
theorem dX12_term_90 : decode cX12_term 90 = .ok (.getfield 301, 3) := by decide +kernel
theorem dX12_term_93 : decode cX12_term 93 = .ok (.invokevirtual 381, 3) := by decide +kernel
theorem dX12_term_96 : decode cX12_term 96 = .ok (.aload_n 0, 1) := by decide +kernel
theorem dX12_term_97 : decode cX12_term 97 = .ok (.invokevirtual 340, 3) := by decide +kernel
theorem dX12_term_100 : decode cX12_term 100 = .ok (.goto 7, 3) := by decide +kernel
theorem dX12_term_103 : decode cX12_term 103 = .ok (.aload_n 0, 1) := by decide +kernel
theorem dX12_term_104 : decode cX12_term 104 = .ok (.invokevirtual 331, 3) := by decide +kernel
theorem dX12_term_107 : decode cX12_term 107 = .ok (.return_, 1) := by decide +kernel
theorem dX12_atom_0 : decode cX12_atom 0 = .ok (.aload_n 0, 1) := by decide +kernel
theorem dX12_atom_1 : decode cX12_atom 1 = .ok (.getfield 307, 3) := by decide +kernel
theorem dX12_atom_4 : decode cX12_atom 4 = .ok (.iconst 3, 1) := by decide +kernel
theorem dX12_atom_5 : decode cX12_atom 5 = .ok (.if_icmp .ne 8, 3) := by decide +kernel
theorem dX12_atom_8 : decode cX12_atom 8 = .ok (.aload_n 0, 1) := by decide +kernel
theorem dX12_atom_9 : decode cX12_atom 9 = .ok (.invokevirtual 396, 3) := by decide +kernel
theorem dX12_atom_12 : decode cX12_atom 12 = .ok (.ireturn, 1) := by decide +kernel
theorem dX12_atom_13 : decode cX12_atom 13 = .ok (.iconst 0, 1) := by decide +kernel
theorem dX12_atom_14 : decode cX12_atom 14 = .ok (.istore_n 1, 1) := by decide +kernel
theorem dX12_atom_15 : decode cX12_atom 15 = .ok (.iload_n 1, 1) := by decide +kernel
theorem dX12_atom_16 : decode cX12_atom 16 = .ok (.bipush 8, 2) := by decide +kernel
theorem dX12_atom_18 : decode cX12_atom 18 = .ok (.if_icmp .ge 16, 3) := by decide +kernel
theorem dX12_atom_21 : decode cX12_atom 21 = .ok (.aload_n 0, 1) := by decide +kernel
theorem dX12_atom_22 : decode cX12_atom 22 = .ok (.getfield 155, 3) := by decide +kernel
theorem dX12_atom_25 : decode cX12_atom 25 = .ok (.iload_n 1, 1) := by decide +kernel
theorem dX12_atom_26 : decode cX12_atom 26 = .ok (.iconst 0, 1) := by decide +kernel
theorem dX12_atom_27 : decode cX12_atom 27 = .ok (.iastore, 1) := by decide +kernel
theorem dX12_atom_28 : decode cX12_atom 28 = .ok (.iinc 1 1, 3) := by decide +kernel
theorem dX12_atom_31 : decode cX12_atom 31 = .ok (.goto (-16), 3) := by decide +kernel
theorem dX12_atom_34 : decode cX12_atom 34 = .ok (.aload_n 0, 1) := by decide +kernel
theorem dX12_atom_35 : decode cX12_atom 35 = .ok (.iconst 0, 1) := by decide +kernel
theorem dX12_atom_36 : decode cX12_atom 36 = .ok (.putfield 393, 3) := by decide +kernel
theorem dX12_atom_39 : decode cX12_atom 39 = .ok (.aload_n 0, 1) := by decide +kernel
theorem dX12_atom_40 : decode cX12_atom 40 = .ok (.iconst 0, 1) := by decide +kernel
theorem dX12_atom_41 : decode cX12_atom 41 = .ok (.putfield 390, 3) := by decide +kernel
theorem dX12_atom_44 : decode cX12_atom 44 = .ok (.aload_n 0, 1) := by decide +kernel
theorem dX12_atom_45 : decode cX12_atom 45 = .ok (.iconst 1, 1) := by decide +kernel
theorem dX12_atom_46 : decode cX12_atom 46 = .ok (.invokevirtual 399, 3) := by decide +kernel
theorem dX12_atom_49 : decode cX12_atom 49 = .ok (.aload_n 0, 1) := by decide +kernel
theorem dX12_atom_50 : decode cX12_atom 50 = .ok (.getfield 301, 3) := by decide +kernel
theorem dX12_atom_53 : decode cX12_atom 53 = .ok (.istore_n 1, 1) := by decide +kernel
theorem dX12_atom_54 : decode cX12_atom 54 = .ok (.aload_n 0, 1) := by decide +kernel
theorem dX12_atom_55 : decode cX12_atom 55 = .ok (.getfield 307, 3) := by decide +kernel
theorem dX12_atom_58 : decode cX12_atom 58 = .ok (.bipush 11, 2) := by decide +kernel
theorem dX12_atom_60 : decode cX12_atom 60 = .ok (.if_icmp .ne 7, 3) := by decide +kernel
theorem dX12_atom_63 : decode cX12_atom 63 = .ok (.iconst 2, 1) := by decide +kernel
theorem dX12_atom_64 : decode cX12_atom 64 = .ok (.goto 30, 3) := by decide +kernel
theorem dX12_atom_67 : decode cX12_atom 67 = .ok (.aload_n 0, 1) := by decide +kernel
theorem dX12_atom_68 : decode cX12_atom 68 = .ok (.bipush 60, 2) := by decide +kernel
theorem dX12_atom_70 : decode cX12_atom 70 = .ok (.invokevirtual 337, 3) := by decide +kernel
theorem dX12_atom_73 : decode cX12_atom 73 = .ok (.ifCond .eq 7, 3) := by decide +kernel
theorem dX12_atom_76 : decode cX12_atom 76 = .ok (.iconst 1, 1) := by decide +kernel
theorem dX12_atom_77 : decode cX12_atom 77 = .ok (.goto 17, 3) := by decide +kernel
theorem dX12_atom_80 : decode cX12_atom 80 = .ok (.aload_n 0, 1) := by decide +kernel
theorem dX12_atom_81 : decode cX12_atom 81 = .ok (.bipush 61, 2) := by decide +kernel
theorem dX12_atom_83 : decode cX12_atom 83 = .ok (.invokevirtual 337, 3) := by decide +kernel
theorem dX12_atom_86 : decode cX12_atom 86 = .ok (.ifCond .eq 7, 3) := by decide +kernel
theorem dX12_atom_89 : decode cX12_atom 89 = .ok (.iconst 0, 1) := by decide +kernel
theorem dX12_atom_90 : decode cX12_atom 90 = .ok (.goto 4, 3) := by decide +kernel
theorem dX12_atom_93 : decode cX12_atom 93 = .ok (.iconst (-1), 1) := by decide +kernel
theorem dX12_atom_94 : decode cX12_atom 94 = .ok (.istore_n 2, 1) := by decide +kernel
theorem dX12_atom_95 : decode cX12_atom 95 = .ok (.iload_n 2, 1) := by decide +kernel
theorem dX12_atom_96 : decode cX12_atom 96 = .ok (.iconst (-1), 1) := by decide +kernel
theorem dX12_atom_97 : decode cX12_atom 97 = .ok (.if_icmp .ne 9, 3) := by decide +kernel
theorem dX12_atom_100 : decode cX12_atom 100 = .ok (.aload_n 0, 1) := by decide +kernel
theorem dX12_atom_101 : decode cX12_atom 101 = .ok (.invokevirtual 331, 3) := by decide +kernel
theorem dX12_atom_104 : decode cX12_atom 104 = .ok (.iconst 0, 1) := by decide +kernel
theorem dX12_atom_105 : decode cX12_atom 105 = .ok (.ireturn, 1) := by decide +kernel
theorem dX12_atom_106 : decode cX12_atom 106 = .ok (.aload_n 0, 1) := by decide +kernel
theorem dX12_atom_107 : decode cX12_atom 107 = .ok (.invokevirtual 340, 3) := by decide +kernel
theorem dX12_atom_110 : decode cX12_atom 110 = .ok (.aload_n 0, 1) := by decide +kernel
theorem dX12_atom_111 : decode cX12_atom 111 = .ok (.iconst (-1), 1) := by decide +kernel
theorem dX12_atom_112 : decode cX12_atom 112 = .ok (.invokevirtual 399, 3) := by decide +kernel
theorem dX12_atom_115 : decode cX12_atom 115 = .ok (.aload_n 0, 1) := by decide +kernel
theorem dX12_atom_116 : decode cX12_atom 116 = .ok (.iconst 0, 1) := by decide +kernel
theorem dX12_atom_117 : decode cX12_atom 117 = .ok (.iconst 0, 1) := by decide +kernel
theorem dX12_atom_118 : decode cX12_atom 118 = .ok (.iconst 0, 1) := by decide +kernel
theorem dX12_atom_119 : decode cX12_atom 119 = .ok (.iconst 0, 1) := by decide +kernel
theorem dX12_atom_120 : decode cX12_atom 120 = .ok (.iload_n 1, 1) := by decide +kernel
theorem dX12_atom_121 : decode cX12_atom 121 = .ok (.invokevirtual 353, 3) := by decide +kernel
theorem dX12_atom_124 : decode cX12_atom 124 = .ok (.istore_n 3, 1) := by decide +kernel
theorem dX12_atom_125 : decode cX12_atom 125 = .ok (.iconst 0, 1) := by decide +kernel
theorem dX12_atom_126 : decode cX12_atom 126 = .ok (.istore 4, 2) := by decide +kernel
theorem dX12_atom_128 : decode cX12_atom 128 = .ok (.iload 4, 2) := by decide +kernel
theorem dX12_atom_130 : decode cX12_atom 130 = .ok (.bipush 8, 2) := by decide +kernel
theorem dX12_atom_132 : decode cX12_atom 132 = .ok (.if_icmp .ge 28, 3) := by decide +kernel
theorem dX12_atom_135 : decode cX12_atom 135 = .ok (.aload_n 0, 1) := by decide +kernel
theorem dX12_atom_136 : decode cX12_atom 136 = .ok (.getfield 122, 3) := by decide +kernel
theorem dX12_atom_139 : decode cX12_atom 139 = .ok (.bipush 8, 2) := by decide +kernel
theorem dX12_atom_141 : decode cX12_atom 141 = .ok (.iload_n 3, 1) := by decide +kernel
theorem dX12_atom_142 : decode cX12_atom 142 = .ok (.imul, 1) := by decide +kernel
theorem dX12_atom_143 : decode cX12_atom 143 = .ok (.iload 4, 2) := by decide +kernel
theorem dX12_atom_145 : decode cX12_atom 145 = .ok (.iadd, 1) := by decide +kernel
theorem dX12_atom_146 : decode cX12_atom 146 = .ok (.aload_n 0, 1) := by decide +kernel
theorem dX12_atom_147 : decode cX12_atom 147 = .ok (.getfield 155, 3) := by decide +kernel
theorem dX12_atom_150 : decode cX12_atom 150 = .ok (.iload 4, 2) := by decide +kernel
theorem dX12_atom_152 : decode cX12_atom 152 = .ok (.iaload, 1) := by decide +kernel
theorem dX12_atom_153 : decode cX12_atom 153 = .ok (.iastore, 1) := by decide +kernel
theorem dX12_atom_154 : decode cX12_atom 154 = .ok (.iinc 4 1, 3) := by decide +kernel
theorem dX12_atom_157 : decode cX12_atom 157 = .ok (.goto (-29), 3) := by decide +kernel
theorem dX12_atom_160 : decode cX12_atom 160 = .ok (.aload_n 0, 1) := by decide +kernel
theorem dX12_atom_161 : decode cX12_atom 161 = .ok (.getfield 125, 3) := by decide +kernel
theorem dX12_atom_164 : decode cX12_atom 164 = .ok (.iload_n 3, 1) := by decide +kernel
theorem dX12_atom_165 : decode cX12_atom 165 = .ok (.aload_n 0, 1) := by decide +kernel
theorem dX12_atom_166 : decode cX12_atom 166 = .ok (.getfield 393, 3) := by decide +kernel
theorem dX12_atom_169 : decode cX12_atom 169 = .ok (.iastore, 1) := by decide +kernel
theorem dX12_atom_170 : decode cX12_atom 170 = .ok (.aload_n 0, 1) := by decide +kernel
theorem dX12_atom_171 : decode cX12_atom 171 = .ok (.getfield 128, 3) := by decide +kernel
theorem dX12_atom_174 : decode cX12_atom 174 = .ok (.iload_n 3, 1) := by decide +kernel
theorem dX12_atom_175 : decode cX12_atom 175 = .ok (.iload_n 2, 1) := by decide +kernel
theorem dX12_atom_176 : decode cX12_atom 176 = .ok (.iastore, 1) := by decide +kernel
theorem dX12_atom_177 : decode cX12_atom 177 = .ok (.aload_n 0, 1) := by decide +kernel
theorem dX12_atom_178 : decode cX12_atom 178 = .ok (.getfield 119, 3) := by decide +kernel
theorem dX12_atom_181 : decode cX12_atom 181 = .ok (.iload_n 3, 1) := by decide +kernel
theorem dX12_atom_182 : decode cX12_atom 182 = .ok (.aload_n 0, 1) := by decide +kernel
theorem dX12_atom_183 : decode cX12_atom 183 = .ok (.getfield 390, 3) := by decide +kernel
theorem dX12_atom_186 : decode cX12_atom 186 = .ok (.iastore, 1) := by decide +kernel
theorem dX12_atom_187 : decode cX12_atom 187 = .ok (.iload_n 3, 1) := by decide +kernel
theorem dX12_atom_188 : decode cX12_atom 188 = .ok (.ireturn, 1) := by decide +kernel
theorem dX12_rowPlace_0 : decode cX12_rowPlace 0 = .ok (.aload_n 0, 1) := by decide +kernel
theorem dX12_rowPlace_1 : decode cX12_rowPlace 1 = .ok (.aload_n 0, 1) := by decide +kernel
theorem dX12_rowPlace_2 : decode cX12_rowPlace 2 = .ok (.getfield 328, 3) := by decide +kernel
theorem dX12_rowPlace_5 : decode cX12_rowPlace 5 = .ok (.putfield 402, 3) := by decide +kernel
theorem dX12_rowPlace_8 : decode cX12_rowPlace 8 = .ok (.aload_n 0, 1) := by decide +kernel
theorem dX12_rowPlace_9 : decode cX12_rowPlace 9 = .ok (.getfield 301, 3) := by decide +kernel
theorem dX12_rowPlace_12 : decode cX12_rowPlace 12 = .ok (.istore_n 1, 1) := by decide +kernel
theorem dX12_rowPlace_13 : decode cX12_rowPlace 13 = .ok (.aload_n 0, 1) := by decide +kernel
theorem dX12_rowPlace_14 : decode cX12_rowPlace 14 = .ok (.aload_n 0, 1) := by decide +kernel
theorem dX12_rowPlace_15 : decode cX12_rowPlace 15 = .ok (.getfield 328, 3) := by decide +kernel
theorem dX12_rowPlace_18 : decode cX12_rowPlace 18 = .ok (.invokevirtual 275, 3) := by decide +kernel
theorem dX12_rowPlace_21 : decode cX12_rowPlace 21 = .ok (.istore_n 2, 1) := by decide +kernel
theorem dX12_rowPlace_22 : decode cX12_rowPlace 22 = .ok (.iload_n 2, 1) := by decide +kernel
theorem dX12_rowPlace_23 : decode cX12_rowPlace 23 = .ok (.ifCond .ne 8, 3) := by decide +kernel
theorem dX12_rowPlace_26 : decode cX12_rowPlace 26 = .ok (.aload_n 0, 1) := by decide +kernel
theorem dX12_rowPlace_27 : decode cX12_rowPlace 27 = .ok (.iload_n 1, 1) := by decide +kernel
theorem dX12_rowPlace_28 : decode cX12_rowPlace 28 = .ok (.invokevirtual 381, 3) := by decide +kernel
theorem dX12_rowPlace_31 : decode cX12_rowPlace 31 = .ok (.aload_n 0, 1) := by decide +kernel
theorem dX12_rowPlace_32 : decode cX12_rowPlace 32 = .ok (.invokevirtual 340, 3) := by decide +kernel
theorem dX12_rowPlace_35 : decode cX12_rowPlace 35 = .ok (.aload_n 0, 1) := by decide +kernel
theorem dX12_rowPlace_36 : decode cX12_rowPlace 36 = .ok (.bipush 91, 2) := by decide +kernel
theorem dX12_rowPlace_38 : decode cX12_rowPlace 38 = .ok (.invokevirtual 370, 3) := by decide +kernel
theorem dX12_rowPlace_41 : decode cX12_rowPlace 41 = .ok (.aload_n 0, 1) := by decide +kernel
theorem dX12_rowPlace_42 : decode cX12_rowPlace 42 = .ok (.iconst (-1), 1) := by decide +kernel
theorem dX12_rowPlace_43 : decode cX12_rowPlace 43 = .ok (.putfield 405, 3) := by decide +kernel
theorem dX12_rowPlace_46 : decode cX12_rowPlace 46 = .ok (.aload_n 0, 1) := by decide +kernel
theorem dX12_rowPlace_47 : decode cX12_rowPlace 47 = .ok (.iconst 0, 1) := by decide +kernel
theorem dX12_rowPlace_48 : decode cX12_rowPlace 48 = .ok (.putfield 408, 3) := by decide +kernel
theorem dX12_rowPlace_51 : decode cX12_rowPlace 51 = .ok (.aload_n 0, 1) := by decide +kernel
theorem dX12_rowPlace_52 : decode cX12_rowPlace 52 = .ok (.getfield 307, 3) := by decide +kernel
theorem dX12_rowPlace_55 : decode cX12_rowPlace 55 = .ok (.iconst 2, 1) := by decide +kernel
theorem dX12_rowPlace_56 : decode cX12_rowPlace 56 = .ok (.if_icmp .eq 8, 3) := by decide +kernel
theorem dX12_rowPlace_59 : decode cX12_rowPlace 59 = .ok (.aload_n 0, 1) := by decide +kernel
theorem dX12_rowPlace_60 : decode cX12_rowPlace 60 = .ok (.invokevirtual 331, 3) := by decide +kernel
theorem dX12_rowPlace_63 : decode cX12_rowPlace 63 = .ok (.return_, 1) := by decide +kernel
theorem dX12_rowPlace_64 : decode cX12_rowPlace 64 = .ok (.aload_n 0, 1) := by decide +kernel
theorem dX12_rowPlace_65 : decode cX12_rowPlace 65 = .ok (.aload_n 0, 1) := by decide +kernel
theorem dX12_rowPlace_66 : decode cX12_rowPlace 66 = .ok (.getfield 328, 3) := by decide +kernel
theorem dX12_rowPlace_69 : decode cX12_rowPlace 69 = .ok (.putfield 411, 3) := by decide +kernel
theorem dX12_rowPlace_72 : decode cX12_rowPlace 72 = .ok (.aload_n 0, 1) := by decide +kernel
theorem dX12_rowPlace_73 : decode cX12_rowPlace 73 = .ok (.invokevirtual 340, 3) := by decide +kernel
theorem dX12_rowPlace_76 : decode cX12_rowPlace 76 = .ok (.aload_n 0, 1) := by decide +kernel
theorem dX12_rowPlace_77 : decode cX12_rowPlace 77 = .ok (.bipush 43, 2) := by decide +kernel
theorem dX12_rowPlace_79 : decode cX12_rowPlace 79 = .ok (.invokevirtual 337, 3) := by decide +kernel
theorem dX12_rowPlace_82 : decode cX12_rowPlace 82 = .ok (.ifCond .eq 93, 3) := by decide +kernel
theorem dX12_rowPlace_85 : decode cX12_rowPlace 85 = .ok (.aload_n 0, 1) := by decide +kernel
theorem dX12_rowPlace_86 : decode cX12_rowPlace 86 = .ok (.invokevirtual 340, 3) := by decide +kernel
theorem dX12_rowPlace_89 : decode cX12_rowPlace 89 = .ok (.iload_n 2, 1) := by decide +kernel
theorem dX12_rowPlace_90 : decode cX12_rowPlace 90 = .ok (.ifCond .eq 22, 3) := by decide +kernel
theorem dX12_rowPlace_93 : decode cX12_rowPlace 93 = .ok (.aload_n 0, 1) := by decide +kernel
theorem dX12_rowPlace_94 : decode cX12_rowPlace 94 = .ok (.getfield 17, 3) := by decide +kernel
theorem dX12_rowPlace_97 : decode cX12_rowPlace 97 = .ok (.aload_n 0, 1) := by decide +kernel
theorem dX12_rowPlace_98 : decode cX12_rowPlace 98 = .ok (.getfield 402, 3) := by decide +kernel
theorem dX12_rowPlace_101 : decode cX12_rowPlace 101 = .ok (.iaload, 1) := by decide +kernel
theorem dX12_rowPlace_102 : decode cX12_rowPlace 102 = .ok (.bipush 6, 2) := by decide +kernel
theorem dX12_rowPlace_104 : decode cX12_rowPlace 104 = .ok (.if_icmp .le 8, 3) := by decide +kernel
theorem dX12_rowPlace_107 : decode cX12_rowPlace 107 = .ok (.aload_n 0, 1) := by decide +kernel
theorem dX12_rowPlace_108 : decode cX12_rowPlace 108 = .ok (.iload_n 1, 1) := by decide +kernel
theorem dX12_rowPlace_109 : decode cX12_rowPlace 109 = .ok (.invokevirtual 381, 3) := by decide +kernel
theorem dX12_rowPlace_112 : decode cX12_rowPlace 112 = .ok (.aload_n 0, 1) := by decide +kernel
theorem dX12_rowPlace_113 : decode cX12_rowPlace 113 = .ok (.getfield 307, 3) := by decide +kernel
theorem dX12_rowPlace_116 : decode cX12_rowPlace 116 = .ok (.iconst 2, 1) := by decide +kernel
theorem dX12_rowPlace_117 : decode cX12_rowPlace 117 = .ok (.if_icmp .ne 14, 3) := by decide +kernel
theorem dX12_rowPlace_120 : decode cX12_rowPlace 120 = .ok (.aload_n 0, 1) := by decide +kernel
theorem dX12_rowPlace_121 : decode cX12_rowPlace 121 = .ok (.aload_n 0, 1) := by decide +kernel
theorem dX12_rowPlace_122 : decode cX12_rowPlace 122 = .ok (.getfield 328, 3) := by decide +kernel
theorem dX12_rowPlace_125 : decode cX12_rowPlace 125 = .ok (.putfield 405, 3) := by decide +kernel
theorem dX12_rowPlace_128 : decode cX12_rowPlace 128 = .ok (.goto 43, 3) := by decide +kernel
theorem dX12_rowPlace_131 : decode cX12_rowPlace 131 = .ok (.aload_n 0, 1) := by decide +kernel
theorem dX12_rowPlace_132 : decode cX12_rowPlace 132 = .ok (.getfield 307, 3) := by decide +kernel
theorem dX12_rowPlace_135 : decode cX12_rowPlace 135 = .ok (.iconst 1, 1) := by decide +kernel
theorem dX12_rowPlace_136 : decode cX12_rowPlace 136 = .ok (.if_icmp .ne 30, 3) := by decide +kernel
theorem dX12_rowPlace_139 : decode cX12_rowPlace 139 = .ok (.aload_n 0, 1) := by decide +kernel
theorem dX12_rowPlace_140 : decode cX12_rowPlace 140 = .ok (.aload_n 0, 1) := by decide +kernel
theorem dX12_rowPlace_141 : decode cX12_rowPlace 141 = .ok (.getfield 328, 3) := by decide +kernel
theorem dX12_rowPlace_144 : decode cX12_rowPlace 144 = .ok (.putfield 408, 3) := by decide +kernel
theorem dX12_rowPlace_147 : decode cX12_rowPlace 147 = .ok (.aload_n 0, 1) := by decide +kernel
theorem dX12_rowPlace_148 : decode cX12_rowPlace 148 = .ok (.getfield 328, 3) := by decide +kernel
theorem dX12_rowPlace_151 : decode cX12_rowPlace 151 = .ok (.iconst 3, 1) := by decide +kernel
theorem dX12_rowPlace_152 : decode cX12_rowPlace 152 = .ok (.if_icmp .le 19, 3) := by decide +kernel
theorem dX12_rowPlace_155 : decode cX12_rowPlace 155 = .ok (.aload_n 0, 1) := by decide +kernel
theorem dX12_rowPlace_156 : decode cX12_rowPlace 156 = .ok (.aload_n 0, 1) := by decide +kernel
theorem dX12_rowPlace_157 : decode cX12_rowPlace 157 = .ok (.getfield 301, 3) := by decide +kernel
theorem dX12_rowPlace_160 : decode cX12_rowPlace 160 = .ok (.invokevirtual 381, 3) := by decide +kernel
theorem dX12_rowPlace_163 : decode cX12_rowPlace 163 = .ok (.goto 8, 3) := by decide +kernel
theorem dX12_rowPlace_166 : decode cX12_rowPlace 166 = .ok (.aload_n 0, 1) := by decide +kernel
theorem dX12_rowPlace_167 : decode cX12_rowPlace 167 = .ok (.invokevirtual 331, 3) := by decide +kernel
theorem dX12_rowPlace_170 : decode cX12_rowPlace 170 = .ok (.return_, 1) := by decide +kernel
theorem dX12_rowPlace_171 : decode cX12_rowPlace 171 = .ok (.aload_n 0, 1) := by decide +kernel
theorem dX12_rowPlace_172 : decode cX12_rowPlace 172 = .ok (.invokevirtual 340, 3) := by decide +kernel
theorem dX12_rowPlace_175 : decode cX12_rowPlace 175 = .ok (.aload_n 0, 1) := by decide +kernel
theorem dX12_rowPlace_176 : decode cX12_rowPlace 176 = .ok (.bipush 93, 2) := by decide +kernel
theorem dX12_rowPlace_178 : decode cX12_rowPlace 178 = .ok (.invokevirtual 370, 3) := by decide +kernel
theorem dX12_rowPlace_181 : decode cX12_rowPlace 181 = .ok (.return_, 1) := by decide +kernel
theorem dX12_lettersAtom_0 : decode cX12_lettersAtom 0 = .ok (.aload_n 0, 1) := by decide +kernel
theorem dX12_lettersAtom_1 : decode cX12_lettersAtom 1 = .ok (.invokevirtual 414, 3) := by decide +kernel
theorem dX12_lettersAtom_4 : decode cX12_lettersAtom 4 = .ok (.aload_n 0, 1) := by decide +kernel
theorem dX12_lettersAtom_5 : decode cX12_lettersAtom 5 = .ok (.getfield 402, 3) := by decide +kernel
theorem dX12_lettersAtom_8 : decode cX12_lettersAtom 8 = .ok (.istore_n 1, 1) := by decide +kernel
theorem dX12_lettersAtom_9 : decode cX12_lettersAtom 9 = .ok (.aload_n 0, 1) := by decide +kernel
theorem dX12_lettersAtom_10 : decode cX12_lettersAtom 10 = .ok (.getfield 411, 3) := by decide +kernel
theorem dX12_lettersAtom_13 : decode cX12_lettersAtom 13 = .ok (.istore_n 2, 1) := by decide +kernel
theorem dX12_lettersAtom_14 : decode cX12_lettersAtom 14 = .ok (.aload_n 0, 1) := by decide +kernel
theorem dX12_lettersAtom_15 : decode cX12_lettersAtom 15 = .ok (.getfield 405, 3) := by decide +kernel
theorem dX12_lettersAtom_18 : decode cX12_lettersAtom 18 = .ok (.istore_n 3, 1) := by decide +kernel
theorem dX12_lettersAtom_19 : decode cX12_lettersAtom 19 = .ok (.aload_n 0, 1) := by decide +kernel
theorem dX12_lettersAtom_20 : decode cX12_lettersAtom 20 = .ok (.getfield 408, 3) := by decide +kernel
theorem dX12_lettersAtom_23 : decode cX12_lettersAtom 23 = .ok (.istore 4, 2) := by decide +kernel
theorem dX12_lettersAtom_25 : decode cX12_lettersAtom 25 = .ok (.aload_n 0, 1) := by decide +kernel
theorem dX12_lettersAtom_26 : decode cX12_lettersAtom 26 = .ok (.getfield 301, 3) := by decide +kernel
theorem dX12_lettersAtom_29 : decode cX12_lettersAtom 29 = .ok (.istore 5, 2) := by decide +kernel
theorem dX12_lettersAtom_31 : decode cX12_lettersAtom 31 = .ok (.aload_n 0, 1) := by decide +kernel
theorem dX12_lettersAtom_32 : decode cX12_lettersAtom 32 = .ok (.bipush 61, 2) := by decide +kernel
theorem dX12_lettersAtom_34 : decode cX12_lettersAtom 34 = .ok (.invokevirtual 370, 3) := by decide +kernel
theorem dX12_lettersAtom_37 : decode cX12_lettersAtom 37 = .ok (.iconst 1, 1) := by decide +kernel
theorem dX12_lettersAtom_38 : decode cX12_lettersAtom 38 = .ok (.iload_n 2, 1) := by decide +kernel
theorem dX12_lettersAtom_39 : decode cX12_lettersAtom 39 = .ok (.ishl, 1) := by decide +kernel
theorem dX12_lettersAtom_40 : decode cX12_lettersAtom 40 = .ok (.iload_n 3, 1) := by decide +kernel
theorem dX12_lettersAtom_41 : decode cX12_lettersAtom 41 = .ok (.iconst (-1), 1) := by decide +kernel
theorem dX12_lettersAtom_42 : decode cX12_lettersAtom 42 = .ok (.if_icmp .ne 7, 3) := by decide +kernel
theorem dX12_lettersAtom_45 : decode cX12_lettersAtom 45 = .ok (.iconst 0, 1) := by decide +kernel
theorem dX12_lettersAtom_46 : decode cX12_lettersAtom 46 = .ok (.goto 6, 3) := by decide +kernel
theorem dX12_lettersAtom_49 : decode cX12_lettersAtom 49 = .ok (.iconst 1, 1) := by decide +kernel
theorem dX12_lettersAtom_50 : decode cX12_lettersAtom 50 = .ok (.iload_n 3, 1) := by decide +kernel
theorem dX12_lettersAtom_51 : decode cX12_lettersAtom 51 = .ok (.ishl, 1) := by decide +kernel
theorem dX12_lettersAtom_52 : decode cX12_lettersAtom 52 = .ok (.ior, 1) := by decide +kernel
theorem dX12_lettersAtom_53 : decode cX12_lettersAtom 53 = .ok (.istore 6, 2) := by decide +kernel
theorem dX12_lettersAtom_55 : decode cX12_lettersAtom 55 = .ok (.aload_n 0, 1) := by decide +kernel
theorem dX12_lettersAtom_56 : decode cX12_lettersAtom 56 = .ok (.iconst (-1), 1) := by decide +kernel
theorem dX12_lettersAtom_57 : decode cX12_lettersAtom 57 = .ok (.putfield 402, 3) := by decide +kernel
theorem dX12_lettersAtom_60 : decode cX12_lettersAtom 60 = .ok (.aload_n 0, 1) := by decide +kernel
theorem dX12_lettersAtom_61 : decode cX12_lettersAtom 61 = .ok (.getfield 307, 3) := by decide +kernel
theorem dX12_lettersAtom_64 : decode cX12_lettersAtom 64 = .ok (.iconst 3, 1) := by decide +kernel
theorem dX12_lettersAtom_65 : decode cX12_lettersAtom 65 = .ok (.if_icmp .ne 40, 3) := by decide +kernel
theorem dX12_lettersAtom_68 : decode cX12_lettersAtom 68 = .ok (.aload_n 0, 1) := by decide +kernel
theorem dX12_lettersAtom_69 : decode cX12_lettersAtom 69 = .ok (.invokevirtual 414, 3) := by decide +kernel
theorem dX12_lettersAtom_72 : decode cX12_lettersAtom 72 = .ok (.iload 6, 2) := by decide +kernel
theorem dX12_lettersAtom_74 : decode cX12_lettersAtom 74 = .ok (.iconst 1, 1) := by decide +kernel
theorem dX12_lettersAtom_75 : decode cX12_lettersAtom 75 = .ok (.aload_n 0, 1) := by decide +kernel
theorem dX12_lettersAtom_76 : decode cX12_lettersAtom 76 = .ok (.getfield 411, 3) := by decide +kernel
theorem dX12_lettersAtom_79 : decode cX12_lettersAtom 79 = .ok (.ishl, 1) := by decide +kernel
theorem dX12_lettersAtom_80 : decode cX12_lettersAtom 80 = .ok (.aload_n 0, 1) := by decide +kernel
theorem dX12_lettersAtom_81 : decode cX12_lettersAtom 81 = .ok (.getfield 405, 3) := by decide +kernel
theorem dX12_lettersAtom_84 : decode cX12_lettersAtom 84 = .ok (.iconst (-1), 1) := by decide +kernel
theorem dX12_lettersAtom_85 : decode cX12_lettersAtom 85 = .ok (.if_icmp .ne 7, 3) := by decide +kernel
theorem dX12_lettersAtom_88 : decode cX12_lettersAtom 88 = .ok (.iconst 0, 1) := by decide +kernel
theorem dX12_lettersAtom_89 : decode cX12_lettersAtom 89 = .ok (.goto 9, 3) := by decide +kernel
theorem dX12_lettersAtom_92 : decode cX12_lettersAtom 92 = .ok (.iconst 1, 1) := by decide +kernel
theorem dX12_lettersAtom_93 : decode cX12_lettersAtom 93 = .ok (.aload_n 0, 1) := by decide +kernel
theorem dX12_lettersAtom_94 : decode cX12_lettersAtom 94 = .ok (.getfield 405, 3) := by decide +kernel
theorem dX12_lettersAtom_97 : decode cX12_lettersAtom 97 = .ok (.ishl, 1) := by decide +kernel
theorem dX12_lettersAtom_98 : decode cX12_lettersAtom 98 = .ok (.ior, 1) := by decide +kernel
theorem dX12_lettersAtom_99 : decode cX12_lettersAtom 99 = .ok (.ior, 1) := by decide +kernel
theorem dX12_lettersAtom_100 : decode cX12_lettersAtom 100 = .ok (.istore 6, 2) := by decide +kernel
theorem dX12_lettersAtom_102 : decode cX12_lettersAtom 102 = .ok (.goto 47, 3) := by decide +kernel
theorem dX12_lettersAtom_105 : decode cX12_lettersAtom 105 = .ok (.aload_n 0, 1) := by decide +kernel
theorem dX12_lettersAtom_106 : decode cX12_lettersAtom 106 = .ok (.getfield 307, 3) := by decide +kernel
theorem dX12_lettersAtom_109 : decode cX12_lettersAtom 109 = .ok (.iconst 1, 1) := by decide +kernel
theorem dX12_lettersAtom_110 : decode cX12_lettersAtom 110 = .ok (.if_icmp .ne 35, 3) := by decide +kernel
theorem dX12_lettersAtom_113 : decode cX12_lettersAtom 113 = .ok (.aload_n 0, 1) := by decide +kernel
theorem dX12_lettersAtom_114 : decode cX12_lettersAtom 114 = .ok (.aload_n 0, 1) := by decide +kernel
theorem dX12_lettersAtom_115 : decode cX12_lettersAtom 115 = .ok (.getfield 328, 3) := by decide +kernel
theorem dX12_lettersAtom_118 : decode cX12_lettersAtom 118 = .ok (.putfield 408, 3) := by decide +kernel
theorem dX12_lettersAtom_121 : decode cX12_lettersAtom 121 = .ok (.aload_n 0, 1) := by decide +kernel
theorem dX12_lettersAtom_122 : decode cX12_lettersAtom 122 = .ok (.getfield 328, 3) := by decide +kernel
theorem dX12_lettersAtom_125 : decode cX12_lettersAtom 125 = .ok (.bipush 7, 2) := by decide +kernel
theorem dX12_lettersAtom_127 : decode cX12_lettersAtom 127 = .ok (.if_icmp .le 11, 3) := by decide +kernel
theorem dX12_lettersAtom_130 : decode cX12_lettersAtom 130 = .ok (.aload_n 0, 1) := by decide +kernel
theorem dX12_lettersAtom_131 : decode cX12_lettersAtom 131 = .ok (.aload_n 0, 1) := by decide +kernel
theorem dX12_lettersAtom_132 : decode cX12_lettersAtom 132 = .ok (.getfield 301, 3) := by decide +kernel
theorem dX12_lettersAtom_135 : decode cX12_lettersAtom 135 = .ok (.invokevirtual 381, 3) := by decide +kernel
theorem dX12_lettersAtom_138 : decode cX12_lettersAtom 138 = .ok (.aload_n 0, 1) := by decide +kernel
theorem dX12_lettersAtom_139 : decode cX12_lettersAtom 139 = .ok (.invokevirtual 340, 3) := by decide +kernel
theorem dX12_lettersAtom_142 : decode cX12_lettersAtom 142 = .ok (.goto 7, 3) := by decide +kernel
theorem dX12_lettersAtom_145 : decode cX12_lettersAtom 145 = .ok (.aload_n 0, 1) := by decide +kernel
theorem dX12_lettersAtom_146 : decode cX12_lettersAtom 146 = .ok (.invokevirtual 331, 3) := by decide +kernel
theorem dX12_lettersAtom_149 : decode cX12_lettersAtom 149 = .ok (.aload_n 0, 1) := by decide +kernel
theorem dX12_lettersAtom_150 : decode cX12_lettersAtom 150 = .ok (.iconst 1, 1) := by decide +kernel
theorem dX12_lettersAtom_151 : decode cX12_lettersAtom 151 = .ok (.iconst 0, 1) := by decide +kernel
theorem dX12_lettersAtom_152 : decode cX12_lettersAtom 152 = .ok (.iconst 0, 1) := by decide +kernel
theorem dX12_lettersAtom_153 : decode cX12_lettersAtom 153 = .ok (.iconst 0, 1) := by decide +kernel
theorem dX12_lettersAtom_154 : decode cX12_lettersAtom 154 = .ok (.iload 5, 2) := by decide +kernel
theorem dX12_lettersAtom_156 : decode cX12_lettersAtom 156 = .ok (.invokevirtual 353, 3) := by decide +kernel
theorem dX12_lettersAtom_159 : decode cX12_lettersAtom 159 = .ok (.istore 7, 2) := by decide +kernel
theorem dX12_lettersAtom_161 : decode cX12_lettersAtom 161 = .ok (.aload_n 0, 1) := by decide +kernel
theorem dX12_lettersAtom_162 : decode cX12_lettersAtom 162 = .ok (.getfield 131, 3) := by decide +kernel
theorem dX12_lettersAtom_165 : decode cX12_lettersAtom 165 = .ok (.iload 7, 2) := by decide +kernel
theorem dX12_lettersAtom_167 : decode cX12_lettersAtom 167 = .ok (.iload_n 1, 1) := by decide +kernel
theorem dX12_lettersAtom_168 : decode cX12_lettersAtom 168 = .ok (.iastore, 1) := by decide +kernel
theorem dX12_lettersAtom_169 : decode cX12_lettersAtom 169 = .ok (.aload_n 0, 1) := by decide +kernel
theorem dX12_lettersAtom_170 : decode cX12_lettersAtom 170 = .ok (.getfield 134, 3) := by decide +kernel
theorem dX12_lettersAtom_173 : decode cX12_lettersAtom 173 = .ok (.iload 7, 2) := by decide +kernel
theorem dX12_lettersAtom_175 : decode cX12_lettersAtom 175 = .ok (.iload_n 2, 1) := by decide +kernel
theorem dX12_lettersAtom_176 : decode cX12_lettersAtom 176 = .ok (.iastore, 1) := by decide +kernel
theorem dX12_lettersAtom_177 : decode cX12_lettersAtom 177 = .ok (.aload_n 0, 1) := by decide +kernel
theorem dX12_lettersAtom_178 : decode cX12_lettersAtom 178 = .ok (.getfield 137, 3) := by decide +kernel
theorem dX12_lettersAtom_181 : decode cX12_lettersAtom 181 = .ok (.iload 7, 2) := by decide +kernel
theorem dX12_lettersAtom_183 : decode cX12_lettersAtom 183 = .ok (.iload_n 3, 1) := by decide +kernel
theorem dX12_lettersAtom_184 : decode cX12_lettersAtom 184 = .ok (.iastore, 1) := by decide +kernel
theorem dX12_lettersAtom_185 : decode cX12_lettersAtom 185 = .ok (.aload_n 0, 1) := by decide +kernel
theorem dX12_lettersAtom_186 : decode cX12_lettersAtom 186 = .ok (.getfield 140, 3) := by decide +kernel
theorem dX12_lettersAtom_189 : decode cX12_lettersAtom 189 = .ok (.iload 7, 2) := by decide +kernel
theorem dX12_lettersAtom_191 : decode cX12_lettersAtom 191 = .ok (.iload 4, 2) := by decide +kernel
theorem dX12_lettersAtom_193 : decode cX12_lettersAtom 193 = .ok (.iastore, 1) := by decide +kernel
theorem dX12_lettersAtom_194 : decode cX12_lettersAtom 194 = .ok (.aload_n 0, 1) := by decide +kernel
theorem dX12_lettersAtom_195 : decode cX12_lettersAtom 195 = .ok (.getfield 143, 3) := by decide +kernel
theorem dX12_lettersAtom_198 : decode cX12_lettersAtom 198 = .ok (.iload 7, 2) := by decide +kernel
theorem dX12_lettersAtom_200 : decode cX12_lettersAtom 200 = .ok (.aload_n 0, 1) := by decide +kernel
theorem dX12_lettersAtom_201 : decode cX12_lettersAtom 201 = .ok (.getfield 402, 3) := by decide +kernel
theorem dX12_lettersAtom_204 : decode cX12_lettersAtom 204 = .ok (.iastore, 1) := by decide +kernel
theorem dX12_lettersAtom_205 : decode cX12_lettersAtom 205 = .ok (.aload_n 0, 1) := by decide +kernel
theorem dX12_lettersAtom_206 : decode cX12_lettersAtom 206 = .ok (.getfield 146, 3) := by decide +kernel
theorem dX12_lettersAtom_209 : decode cX12_lettersAtom 209 = .ok (.iload 7, 2) := by decide +kernel
theorem dX12_lettersAtom_211 : decode cX12_lettersAtom 211 = .ok (.aload_n 0, 1) := by decide +kernel
theorem dX12_lettersAtom_212 : decode cX12_lettersAtom 212 = .ok (.getfield 411, 3) := by decide +kernel
theorem dX12_lettersAtom_215 : decode cX12_lettersAtom 215 = .ok (.iastore, 1) := by decide +kernel
theorem dX12_lettersAtom_216 : decode cX12_lettersAtom 216 = .ok (.aload_n 0, 1) := by decide +kernel
theorem dX12_lettersAtom_217 : decode cX12_lettersAtom 217 = .ok (.getfield 149, 3) := by decide +kernel
theorem dX12_lettersAtom_220 : decode cX12_lettersAtom 220 = .ok (.iload 7, 2) := by decide +kernel
theorem dX12_lettersAtom_222 : decode cX12_lettersAtom 222 = .ok (.aload_n 0, 1) := by decide +kernel
theorem dX12_lettersAtom_223 : decode cX12_lettersAtom 223 = .ok (.getfield 405, 3) := by decide +kernel
theorem dX12_lettersAtom_226 : decode cX12_lettersAtom 226 = .ok (.iastore, 1) := by decide +kernel
theorem dX12_lettersAtom_227 : decode cX12_lettersAtom 227 = .ok (.aload_n 0, 1) := by decide +kernel
theorem dX12_lettersAtom_228 : decode cX12_lettersAtom 228 = .ok (.getfield 152, 3) := by decide +kernel
theorem dX12_lettersAtom_231 : decode cX12_lettersAtom 231 = .ok (.iload 7, 2) := by decide +kernel
theorem dX12_lettersAtom_233 : decode cX12_lettersAtom 233 = .ok (.aload_n 0, 1) := by decide +kernel
theorem dX12_lettersAtom_234 : decode cX12_lettersAtom 234 = .ok (.getfield 408, 3) := by decide +kernel
theorem dX12_lettersAtom_237 : decode cX12_lettersAtom 237 = .ok (.iastore, 1) := by decide +kernel
theorem dX12_lettersAtom_238 : decode cX12_lettersAtom 238 = .ok (.aload_n 0, 1) := by decide +kernel
theorem dX12_lettersAtom_239 : decode cX12_lettersAtom 239 = .ok (.getfield 119, 3) := by decide +kernel
theorem dX12_lettersAtom_242 : decode cX12_lettersAtom 242 = .ok (.iload 7, 2) := by decide +kernel
theorem dX12_lettersAtom_244 : decode cX12_lettersAtom 244 = .ok (.iload 6, 2) := by decide +kernel
theorem dX12_lettersAtom_246 : decode cX12_lettersAtom 246 = .ok (.iastore, 1) := by decide +kernel
theorem dX12_lettersAtom_247 : decode cX12_lettersAtom 247 = .ok (.iload 7, 2) := by decide +kernel
theorem dX12_lettersAtom_249 : decode cX12_lettersAtom 249 = .ok (.ireturn, 1) := by decide +kernel
theorem dX12_read_0 : decode cX12_read 0 = .ok (.aload_n 0, 1) := by decide +kernel
theorem dX12_read_1 : decode cX12_read 1 = .ok (.iconst 0, 1) := by decide +kernel
theorem dX12_read_2 : decode cX12_read 2 = .ok (.putfield 310, 3) := by decide +kernel
theorem dX12_read_5 : decode cX12_read 5 = .ok (.aload_n 0, 1) := by decide +kernel
theorem dX12_read_6 : decode cX12_read 6 = .ok (.iconst 0, 1) := by decide +kernel
theorem dX12_read_7 : decode cX12_read 7 = .ok (.putfield 294, 3) := by decide +kernel
theorem dX12_read_10 : decode cX12_read 10 = .ok (.aload_n 0, 1) := by decide +kernel
theorem dX12_read_11 : decode cX12_read 11 = .ok (.iconst 0, 1) := by decide +kernel
theorem dX12_read_12 : decode cX12_read 12 = .ok (.putfield 363, 3) := by decide +kernel
theorem dX12_read_15 : decode cX12_read 15 = .ok (.aload_n 0, 1) := by decide +kernel
theorem dX12_read_16 : decode cX12_read 16 = .ok (.iconst 0, 1) := by decide +kernel
theorem dX12_read_17 : decode cX12_read 17 = .ok (.putfield 378, 3) := by decide +kernel
theorem dX12_read_20 : decode cX12_read 20 = .ok (.aload_n 0, 1) := by decide +kernel
theorem dX12_read_21 : decode cX12_read 21 = .ok (.iconst 0, 1) := by decide +kernel
theorem dX12_read_22 : decode cX12_read 22 = .ok (.putfield 343, 3) := by decide +kernel
theorem dX12_read_25 : decode cX12_read 25 = .ok (.aload_n 0, 1) := by decide +kernel
theorem dX12_read_26 : decode cX12_read 26 = .ok (.iconst 0, 1) := by decide +kernel
theorem dX12_read_27 : decode cX12_read 27 = .ok (.putfield 298, 3) := by decide +kernel
theorem dX12_read_30 : decode cX12_read 30 = .ok (.aload_n 0, 1) := by decide +kernel
theorem dX12_read_31 : decode cX12_read 31 = .ok (.iconst (-1), 1) := by decide +kernel
theorem dX12_read_32 : decode cX12_read 32 = .ok (.putfield 304, 3) := by decide +kernel
theorem dX12_read_35 : decode cX12_read 35 = .ok (.aload_n 0, 1) := by decide +kernel
theorem dX12_read_36 : decode cX12_read 36 = .ok (.invokevirtual 340, 3) := by decide +kernel
theorem dX12_read_39 : decode cX12_read 39 = .ok (.aload_n 0, 1) := by decide +kernel
theorem dX12_read_40 : decode cX12_read 40 = .ok (.invokestatic 350, 3) := by decide +kernel
theorem dX12_read_43 : decode cX12_read 43 = .ok (.pop, 1) := by decide +kernel
theorem dX12_read_44 : decode cX12_read 44 = .ok (.aload_n 0, 1) := by decide +kernel
theorem dX12_read_45 : decode cX12_read 45 = .ok (.getfield 294, 3) := by decide +kernel
theorem dX12_read_48 : decode cX12_read 48 = .ok (.ifCond .ne 14, 3) := by decide +kernel
theorem dX12_read_51 : decode cX12_read 51 = .ok (.aload_n 0, 1) := by decide +kernel
theorem dX12_read_52 : decode cX12_read 52 = .ok (.getfield 307, 3) := by decide +kernel
theorem dX12_read_55 : decode cX12_read 55 = .ok (.ifCond .eq 7, 3) := by decide +kernel
theorem dX12_read_58 : decode cX12_read 58 = .ok (.aload_n 0, 1) := by decide +kernel
theorem dX12_read_59 : decode cX12_read 59 = .ok (.invokevirtual 331, 3) := by decide +kernel
theorem dX12_read_62 : decode cX12_read 62 = .ok (.iconst 0, 1) := by decide +kernel
theorem dX12_read_63 : decode cX12_read 63 = .ok (.istore_n 1, 1) := by decide +kernel
theorem dX12_read_64 : decode cX12_read 64 = .ok (.iload_n 1, 1) := by decide +kernel
theorem dX12_read_65 : decode cX12_read 65 = .ok (.aload_n 0, 1) := by decide +kernel
theorem dX12_read_66 : decode cX12_read 66 = .ok (.getfield 343, 3) := by decide +kernel
theorem dX12_read_69 : decode cX12_read 69 = .ok (.if_icmp .ge 44, 3) := by decide +kernel
theorem dX12_read_72 : decode cX12_read 72 = .ok (.aload_n 0, 1) := by decide +kernel
theorem dX12_read_73 : decode cX12_read 73 = .ok (.getfield 298, 3) := by decide +kernel
theorem dX12_read_76 : decode cX12_read 76 = .ok (.ifCond .ne 37, 3) := by decide +kernel
theorem dX12_read_79 : decode cX12_read 79 = .ok (.aload_n 0, 1) := by decide +kernel
theorem dX12_read_80 : decode cX12_read 80 = .ok (.getfield 119, 3) := by decide +kernel
theorem dX12_read_83 : decode cX12_read 83 = .ok (.iload_n 1, 1) := by decide +kernel
theorem dX12_read_84 : decode cX12_read 84 = .ok (.iaload, 1) := by decide +kernel
theorem dX12_read_85 : decode cX12_read 85 = .ok (.invokestatic 222, 3) := by decide +kernel
theorem dX12_read_88 : decode cX12_read 88 = .ok (.iconst 3, 1) := by decide +kernel
theorem dX12_read_89 : decode cX12_read 89 = .ok (.if_icmp .le 18, 3) := by decide +kernel
theorem dX12_read_92 : decode cX12_read 92 = .ok (.aload_n 0, 1) := by decide +kernel
theorem dX12_read_93 : decode cX12_read 93 = .ok (.iconst 3, 1) := by decide +kernel
theorem dX12_read_94 : decode cX12_read 94 = .ok (.putfield 298, 3) := by decide +kernel
theorem dX12_read_97 : decode cX12_read 97 = .ok (.aload_n 0, 1) := by decide +kernel
theorem dX12_read_98 : decode cX12_read 98 = .ok (.aload_n 0, 1) := by decide +kernel
theorem dX12_read_99 : decode cX12_read 99 = .ok (.getfield 116, 3) := by decide +kernel
theorem dX12_read_102 : decode cX12_read 102 = .ok (.iload_n 1, 1) := by decide +kernel
theorem dX12_read_103 : decode cX12_read 103 = .ok (.iaload, 1) := by decide +kernel
theorem dX12_read_104 : decode cX12_read 104 = .ok (.putfield 304, 3) := by decide +kernel
theorem dX12_read_107 : decode cX12_read 107 = .ok (.iinc 1 1, 3) := by decide +kernel
theorem dX12_read_110 : decode cX12_read 110 = .ok (.goto (-46), 3) := by decide +kernel
theorem dX12_read_113 : decode cX12_read 113 = .ok (.return_, 1) := by decide +kernel
theorem dX12_pTo_0 : decode cX12_pTo 0 = .ok (.aload_n 0, 1) := by decide +kernel
theorem dX12_pTo_1 : decode cX12_pTo 1 = .ok (.getfield 162, 3) := by decide +kernel
theorem dX12_pTo_4 : decode cX12_pTo 4 = .ok (.bipush 27, 2) := by decide +kernel
theorem dX12_pTo_6 : decode cX12_pTo 6 = .ok (.bipush 40, 2) := by decide +kernel
theorem dX12_pTo_8 : decode cX12_pTo 8 = .ok (.iload_n 1, 1) := by decide +kernel
theorem dX12_pTo_9 : decode cX12_pTo 9 = .ok (.imul, 1) := by decide +kernel
theorem dX12_pTo_10 : decode cX12_pTo 10 = .ok (.iload_n 2, 1) := by decide +kernel
theorem dX12_pTo_11 : decode cX12_pTo 11 = .ok (.iadd, 1) := by decide +kernel
theorem dX12_pTo_12 : decode cX12_pTo 12 = .ok (.imul, 1) := by decide +kernel
theorem dX12_pTo_13 : decode cX12_pTo 13 = .ok (.iload_n 3, 1) := by decide +kernel
theorem dX12_pTo_14 : decode cX12_pTo 14 = .ok (.iadd, 1) := by decide +kernel
theorem dX12_pTo_15 : decode cX12_pTo 15 = .ok (.iaload, 1) := by decide +kernel
theorem dX12_pTo_16 : decode cX12_pTo 16 = .ok (.ireturn, 1) := by decide +kernel
theorem dX12_becomes_0 : decode cX12_becomes 0 = .ok (.aload_n 0, 1) := by decide +kernel
theorem dX12_becomes_1 : decode cX12_becomes 1 = .ok (.invokevirtual 266, 3) := by decide +kernel
theorem dX12_becomes_4 : decode cX12_becomes 4 = .ok (.aload_n 0, 1) := by decide +kernel
theorem dX12_becomes_5 : decode cX12_becomes 5 = .ok (.getfield 243, 3) := by decide +kernel
theorem dX12_becomes_8 : decode cX12_becomes 8 = .ok (.bipush 40, 2) := by decide +kernel
theorem dX12_becomes_10 : decode cX12_becomes 10 = .ok (.if_icmp .le 5, 3) := by decide +kernel
theorem dX12_becomes_13 : decode cX12_becomes 13 = .ok (.iconst 0, 1) := by decide +kernel
theorem dX12_becomes_14 : decode cX12_becomes 14 = .ok (.ireturn, 1) := by decide +kernel
theorem dX12_becomes_15 : decode cX12_becomes 15 = .ok (.aload_n 0, 1) := by decide +kernel
theorem dX12_becomes_16 : decode cX12_becomes 16 = .ok (.getfield 158, 3) := by decide +kernel
theorem dX12_becomes_19 : decode cX12_becomes 19 = .ok (.iload_n 1, 1) := by decide +kernel
theorem dX12_becomes_20 : decode cX12_becomes 20 = .ok (.aload_n 0, 1) := by decide +kernel
theorem dX12_becomes_21 : decode cX12_becomes 21 = .ok (.getfield 243, 3) := by decide +kernel
theorem dX12_becomes_24 : decode cX12_becomes 24 = .ok (.iastore, 1) := by decide +kernel
theorem dX12_becomes_25 : decode cX12_becomes 25 = .ok (.iconst 0, 1) := by decide +kernel
theorem dX12_becomes_26 : decode cX12_becomes 26 = .ok (.istore_n 2, 1) := by decide +kernel
theorem dX12_becomes_27 : decode cX12_becomes 27 = .ok (.iload_n 2, 1) := by decide +kernel
theorem dX12_becomes_28 : decode cX12_becomes 28 = .ok (.aload_n 0, 1) := by decide +kernel
theorem dX12_becomes_29 : decode cX12_becomes 29 = .ok (.getfield 243, 3) := by decide +kernel
theorem dX12_becomes_32 : decode cX12_becomes 32 = .ok (.if_icmp .ge 78, 3) := by decide +kernel
theorem dX12_becomes_35 : decode cX12_becomes 35 = .ok (.aload_n 0, 1) := by decide +kernel
theorem dX12_becomes_36 : decode cX12_becomes 36 = .ok (.getfield 165, 3) := by decide +kernel
theorem dX12_becomes_39 : decode cX12_becomes 39 = .ok (.bipush 40, 2) := by decide +kernel
theorem dX12_becomes_41 : decode cX12_becomes 41 = .ok (.iload_n 1, 1) := by decide +kernel
theorem dX12_becomes_42 : decode cX12_becomes 42 = .ok (.imul, 1) := by decide +kernel
theorem dX12_becomes_43 : decode cX12_becomes 43 = .ok (.iload_n 2, 1) := by decide +kernel
theorem dX12_becomes_44 : decode cX12_becomes 44 = .ok (.iadd, 1) := by decide +kernel
theorem dX12_becomes_45 : decode cX12_becomes 45 = .ok (.aload_n 0, 1) := by decide +kernel
theorem dX12_becomes_46 : decode cX12_becomes 46 = .ok (.getfield 76, 3) := by decide +kernel
theorem dX12_becomes_49 : decode cX12_becomes 49 = .ok (.aload_n 0, 1) := by decide +kernel
theorem dX12_becomes_50 : decode cX12_becomes 50 = .ok (.getfield 89, 3) := by decide +kernel
theorem dX12_becomes_53 : decode cX12_becomes 53 = .ok (.iload_n 2, 1) := by decide +kernel
theorem dX12_becomes_54 : decode cX12_becomes 54 = .ok (.iaload, 1) := by decide +kernel
theorem dX12_becomes_55 : decode cX12_becomes 55 = .ok (.iaload, 1) := by decide +kernel
theorem dX12_becomes_56 : decode cX12_becomes 56 = .ok (.iconst 1, 1) := by decide +kernel
theorem dX12_becomes_57 : decode cX12_becomes 57 = .ok (.if_icmp .ne 7, 3) := by decide +kernel
theorem dX12_becomes_60 : decode cX12_becomes 60 = .ok (.iconst 1, 1) := by decide +kernel
theorem dX12_becomes_61 : decode cX12_becomes 61 = .ok (.goto 4, 3) := by decide +kernel
theorem dX12_becomes_64 : decode cX12_becomes 64 = .ok (.iconst 0, 1) := by decide +kernel
theorem dX12_becomes_65 : decode cX12_becomes 65 = .ok (.bastore, 1) := by decide +kernel
theorem dX12_becomes_66 : decode cX12_becomes 66 = .ok (.iconst 0, 1) := by decide +kernel
theorem dX12_becomes_67 : decode cX12_becomes 67 = .ok (.istore_n 3, 1) := by decide +kernel
theorem dX12_becomes_68 : decode cX12_becomes 68 = .ok (.iload_n 3, 1) := by decide +kernel
theorem dX12_becomes_69 : decode cX12_becomes 69 = .ok (.aload_n 0, 1) := by decide +kernel
theorem dX12_becomes_70 : decode cX12_becomes 70 = .ok (.getfield 226, 3) := by decide +kernel
theorem dX12_becomes_73 : decode cX12_becomes 73 = .ok (.if_icmp .ge 31, 3) := by decide +kernel
theorem dX12_becomes_76 : decode cX12_becomes 76 = .ok (.aload_n 0, 1) := by decide +kernel
theorem dX12_becomes_77 : decode cX12_becomes 77 = .ok (.getfield 162, 3) := by decide +kernel
theorem dX12_becomes_80 : decode cX12_becomes 80 = .ok (.bipush 27, 2) := by decide +kernel
theorem dX12_becomes_82 : decode cX12_becomes 82 = .ok (.bipush 40, 2) := by decide +kernel
theorem dX12_becomes_84 : decode cX12_becomes 84 = .ok (.iload_n 1, 1) := by decide +kernel
theorem dX12_becomes_85 : decode cX12_becomes 85 = .ok (.imul, 1) := by decide +kernel
theorem dX12_becomes_86 : decode cX12_becomes 86 = .ok (.iload_n 2, 1) := by decide +kernel
theorem dX12_becomes_87 : decode cX12_becomes 87 = .ok (.iadd, 1) := by decide +kernel
theorem dX12_becomes_88 : decode cX12_becomes 88 = .ok (.imul, 1) := by decide +kernel
theorem dX12_becomes_89 : decode cX12_becomes 89 = .ok (.iload_n 3, 1) := by decide +kernel
theorem dX12_becomes_90 : decode cX12_becomes 90 = .ok (.iadd, 1) := by decide +kernel
theorem dX12_becomes_91 : decode cX12_becomes 91 = .ok (.aload_n 0, 1) := by decide +kernel
theorem dX12_becomes_92 : decode cX12_becomes 92 = .ok (.iload_n 2, 1) := by decide +kernel
theorem dX12_becomes_93 : decode cX12_becomes 93 = .ok (.iload_n 3, 1) := by decide +kernel
theorem dX12_becomes_94 : decode cX12_becomes 94 = .ok (.invokevirtual 246, 3) := by decide +kernel
theorem dX12_becomes_97 : decode cX12_becomes 97 = .ok (.iastore, 1) := by decide +kernel
theorem dX12_becomes_98 : decode cX12_becomes 98 = .ok (.iinc 3 1, 3) := by decide +kernel
theorem dX12_becomes_101 : decode cX12_becomes 101 = .ok (.goto (-33), 3) := by decide +kernel
theorem dX12_becomes_104 : decode cX12_becomes 104 = .ok (.iinc 2 1, 3) := by decide +kernel
theorem dX12_becomes_107 : decode cX12_becomes 107 = .ok (.goto (-80), 3) := by decide +kernel
theorem dX12_becomes_110 : decode cX12_becomes 110 = .ok (.iconst 1, 1) := by decide +kernel
theorem dX12_becomes_111 : decode cX12_becomes 111 = .ok (.ireturn, 1) := by decide +kernel
theorem dX12_digitOf_0 : decode cX12_digitOf 0 = .ok (.aload_n 0, 1) := by decide +kernel
theorem dX12_digitOf_1 : decode cX12_digitOf 1 = .ok (.iload_n 2, 1) := by decide +kernel
theorem dX12_digitOf_2 : decode cX12_digitOf 2 = .ok (.iconst 2, 1) := by decide +kernel
theorem dX12_digitOf_3 : decode cX12_digitOf 3 = .ok (.iload_n 3, 1) := by decide +kernel
theorem dX12_digitOf_4 : decode cX12_digitOf 4 = .ok (.ishl, 1) := by decide +kernel
theorem dX12_digitOf_5 : decode cX12_digitOf 5 = .ok (.iconst 1, 1) := by decide +kernel
theorem dX12_digitOf_6 : decode cX12_digitOf 6 = .ok (.isub, 1) := by decide +kernel
theorem dX12_digitOf_7 : decode cX12_digitOf 7 = .ok (.iconst (-1), 1) := by decide +kernel
theorem dX12_digitOf_8 : decode cX12_digitOf 8 = .ok (.ixor, 1) := by decide +kernel
theorem dX12_digitOf_9 : decode cX12_digitOf 9 = .ok (.iand, 1) := by decide +kernel
theorem dX12_digitOf_10 : decode cX12_digitOf 10 = .ok (.invokevirtual 417, 3) := by decide +kernel
theorem dX12_digitOf_13 : decode cX12_digitOf 13 = .ok (.istore 4, 2) := by decide +kernel
theorem dX12_digitOf_15 : decode cX12_digitOf 15 = .ok (.iload_n 1, 1) := by decide +kernel
theorem dX12_digitOf_16 : decode cX12_digitOf 16 = .ok (.iload 4, 2) := by decide +kernel
theorem dX12_digitOf_18 : decode cX12_digitOf 18 = .ok (.idiv, 1) := by decide +kernel
theorem dX12_digitOf_19 : decode cX12_digitOf 19 = .ok (.aload_n 0, 1) := by decide +kernel
theorem dX12_digitOf_20 : decode cX12_digitOf 20 = .ok (.getfield 7, 3) := by decide +kernel
theorem dX12_digitOf_23 : decode cX12_digitOf 23 = .ok (.irem, 1) := by decide +kernel
theorem dX12_digitOf_24 : decode cX12_digitOf 24 = .ok (.ireturn, 1) := by decide +kernel
theorem dX12_within_0 : decode cX12_within 0 = .ok (.iconst 0, 1) := by decide +kernel
theorem dX12_within_1 : decode cX12_within 1 = .ok (.istore 4, 2) := by decide +kernel
theorem dX12_within_3 : decode cX12_within 3 = .ok (.iconst 0, 1) := by decide +kernel
theorem dX12_within_4 : decode cX12_within 4 = .ok (.istore 5, 2) := by decide +kernel
theorem dX12_within_6 : decode cX12_within 6 = .ok (.iload 5, 2) := by decide +kernel
theorem dX12_within_8 : decode cX12_within 8 = .ok (.bipush 8, 2) := by decide +kernel
theorem dX12_within_10 : decode cX12_within 10 = .ok (.if_icmp .ge 42, 3) := by decide +kernel
theorem dX12_within_13 : decode cX12_within 13 = .ok (.iload_n 3, 1) := by decide +kernel
theorem dX12_within_14 : decode cX12_within 14 = .ok (.iload 5, 2) := by decide +kernel
theorem dX12_within_16 : decode cX12_within 16 = .ok (.ishr, 1) := by decide +kernel
theorem dX12_within_17 : decode cX12_within 17 = .ok (.iconst 1, 1) := by decide +kernel
theorem dX12_within_18 : decode cX12_within 18 = .ok (.iand, 1) := by decide +kernel
theorem dX12_within_19 : decode cX12_within 19 = .ok (.iconst 1, 1) := by decide +kernel
theorem dX12_within_20 : decode cX12_within 20 = .ok (.if_icmp .ne 22, 3) := by decide +kernel
theorem dX12_within_23 : decode cX12_within 23 = .ok (.aload_n 0, 1) := by decide +kernel
theorem dX12_within_24 : decode cX12_within 24 = .ok (.getfield 7, 3) := by decide +kernel
theorem dX12_within_27 : decode cX12_within 27 = .ok (.iload 4, 2) := by decide +kernel
theorem dX12_within_29 : decode cX12_within 29 = .ok (.imul, 1) := by decide +kernel
theorem dX12_within_30 : decode cX12_within 30 = .ok (.aload_n 0, 1) := by decide +kernel
theorem dX12_within_31 : decode cX12_within 31 = .ok (.iload_n 1, 1) := by decide +kernel
theorem dX12_within_32 : decode cX12_within 32 = .ok (.iload_n 2, 1) := by decide +kernel
theorem dX12_within_33 : decode cX12_within 33 = .ok (.iload 5, 2) := by decide +kernel
theorem dX12_within_35 : decode cX12_within 35 = .ok (.invokevirtual 420, 3) := by decide +kernel
theorem dX12_within_38 : decode cX12_within 38 = .ok (.iadd, 1) := by decide +kernel
theorem dX12_within_39 : decode cX12_within 39 = .ok (.goto 5, 3) := by decide +kernel
theorem dX12_within_42 : decode cX12_within 42 = .ok (.iload 4, 2) := by decide +kernel
theorem dX12_within_44 : decode cX12_within 44 = .ok (.istore 4, 2) := by decide +kernel
theorem dX12_within_46 : decode cX12_within 46 = .ok (.iinc 5 1, 3) := by decide +kernel
theorem dX12_within_49 : decode cX12_within 49 = .ok (.goto (-43), 3) := by decide +kernel
theorem dX12_within_52 : decode cX12_within 52 = .ok (.iload 4, 2) := by decide +kernel
theorem dX12_within_54 : decode cX12_within 54 = .ok (.ireturn, 1) := by decide +kernel
abbrev LX12_drop_46 (G : GG) (d rc rs : Nat) (p0 : Nat) (x1 : Int32) (x2 : Int32) (x3 : Int32) (x4 : Int32) (M : Mem) (Q : Option Value → Mem → Prop) : Prop := Wk G (d + 1) rc rs mX12_drop 46 [some (.ref p0), some (.int x1), some (.int x2), some (.int x3), some (.int x4)] [] M Q
abbrev LX12_drop_103 (G : GG) (d rc rs : Nat) (p0 : Nat) (x1 : Int32) (x2 : Int32) (x3 : Int32) (x4 : Int32) (M : Mem) (Q : Option Value → Mem → Prop) : Prop := Wk G (d + 1) rc rs mX12_drop 103 [some (.ref p0), some (.int x1), some (.int x2), some (.int x3), some (.int x4)] [] M Q
abbrev LX12_drop_155 (G : GG) (d rc rs : Nat) (p0 : Nat) (x1 : Int32) (x2 : Int32) (x3 : Int32) (x4 : Int32) (M : Mem) (Q : Option Value → Mem → Prop) : Prop := Wk G (d + 1) rc rs mX12_drop 155 [some (.ref p0), some (.int x1), some (.int x2), some (.int x3), some (.int x4)] [] M Q
theorem eX12_drop {G : GG} {d rc rs : Nat} (o : Nat) (a1 : Int32)  {M : Mem} {Q : Option Value → Mem → Prop} (h : Call G d 0 0 mX12_in [.int a1, .int 0, .int 1] M (fun r1 M2 => ∃ v3 : Int32, r1 = some (.int v3) ∧ (¬ v3 = 0 → (¬ a1 = 0 → (x_h M2 o).1 = 28 ∧ (0 ≤ ((x_i M2 o 7) - 1) → LX12_drop_46 G d rc rs o a1 ((x_i M2 o 7) - 1) 0 0 M2 Q) ∧ (¬ 0 ≤ ((x_i M2 o 7) - 1) → LX12_drop_46 G d rc rs o a1 ((x_i M2 o 7) - 1) 1 0 M2 Q)) ∧ (a1 = 0 → (x_h M2 o).1 = 28 ∧ (0 ≤ ((x_i M2 o 1) - 1) → LX12_drop_46 G d rc rs o a1 ((x_i M2 o 1) - 1) 0 0 M2 Q) ∧ (¬ 0 ≤ ((x_i M2 o 1) - 1) → LX12_drop_46 G d rc rs o a1 ((x_i M2 o 1) - 1) 1 0 M2 Q))) ∧ (v3 = 0 → (x_h M2 o).1 = 28 ∧ Call G d 0 0 mX12_refused [.ref o, .int 1] M2 (fun r11 M12 => ∃ v13 : Int32, r11 = some (.int v13) ∧ Q (some (.int v13)) M12)))) : Call G (d + 1) rc rs mX12_drop [.ref o, .int a1] M Q := by
  refine call_of (by decide) (Nat.le_of_ble_eq_true rfl) ?_
  show Wk G (d + 1) rc rs mX12_drop 0 [some (.ref o), some (.int a1), none, none, none] [] M Q
  refine r_iload_n (pc := 0) (i := 1) dX12_drop_0 rfl rfl ?_
  refine r_iconst (pc := 1) (v := 0) dX12_drop_1 (by decide) ?_
  refine r_iconst (pc := 2) (v := 1) dX12_drop_2 (by decide) ?_
  refine r_callS (pc := 3) (as := [_, _, _]) (st := []) okX12_in lkX12_218 stX12_in dX12_drop_3 rfl (Nat.le_of_ble_eq_true rfl) (Nat.zero_le _) (Nat.zero_le _) (Call.mono h (fun r1 M2 h => ?_))
  obtain ⟨v3, rfl, h⟩ := h
  refine r_if_ne (pc := 6) (tgt := 15) dX12_drop_6 (by decide) (fun c4 => ?_) (fun c4 => ?_)
  · replace h := h.1 c4
    refine r_iload_n (pc := 15) (i := 1) dX12_drop_15 rfl rfl ?_
    refine r_if_ne (pc := 16) (tgt := 26) dX12_drop_16 (by decide) (fun c5 => ?_) (fun c5 => ?_)
    · replace h := h.1 c5
      refine r_aload_n (pc := 26) (i := 0) dX12_drop_26 rfl rfl ?_
      obtain ⟨k6, h⟩ := h
      refine r_geti (pc := 27) flX12_256 dX12_drop_27 (Or.inl rfl) k6 ?_
      refine r_iconst (pc := 30) (v := 1) dX12_drop_30 (by decide) ?_
      refine r_isub (pc := 31) dX12_drop_31 ?_
      refine r_istore_n (pc := 32) (i := 2) dX12_drop_32 rfl rfl (Nat.le_of_ble_eq_true rfl) ?_
      refine r_iload_n (pc := 33) (i := 2) dX12_drop_33 rfl rfl ?_
      refine r_if_ge (pc := 34) (tgt := 41) dX12_drop_34 (by decide) (fun c7 => ?_) (fun c7 => ?_)
      · replace h := h.1 c7
        refine r_iconst (pc := 41) (v := 0) dX12_drop_41 (by decide) ?_
        refine r_istore_n (pc := 42) (i := 3) dX12_drop_42 rfl rfl (Nat.le_of_ble_eq_true rfl) ?_
        refine r_iconst (pc := 43) (v := 0) dX12_drop_43 (by decide) ?_
        refine r_istore (pc := 44) (i := 4) dX12_drop_44 rfl (Nat.le_of_ble_eq_true rfl) ?_
        exact h
      · replace h := h.2 c7
        refine r_iconst (pc := 37) (v := 1) dX12_drop_37 (by decide) ?_
        refine r_goto (pc := 38) (tgt := 42) dX12_drop_38 (by decide) ?_
        refine r_istore_n (pc := 42) (i := 3) dX12_drop_42 rfl rfl (Nat.le_of_ble_eq_true rfl) ?_
        refine r_iconst (pc := 43) (v := 0) dX12_drop_43 (by decide) ?_
        refine r_istore (pc := 44) (i := 4) dX12_drop_44 rfl (Nat.le_of_ble_eq_true rfl) ?_
        exact h
    · replace h := h.2 c5
      refine r_aload_n (pc := 19) (i := 0) dX12_drop_19 rfl rfl ?_
      obtain ⟨k8, h⟩ := h
      refine r_geti (pc := 20) flX12_215 dX12_drop_20 (Or.inl rfl) k8 ?_
      refine r_goto (pc := 23) (tgt := 30) dX12_drop_23 (by decide) ?_
      refine r_iconst (pc := 30) (v := 1) dX12_drop_30 (by decide) ?_
      refine r_isub (pc := 31) dX12_drop_31 ?_
      refine r_istore_n (pc := 32) (i := 2) dX12_drop_32 rfl rfl (Nat.le_of_ble_eq_true rfl) ?_
      refine r_iload_n (pc := 33) (i := 2) dX12_drop_33 rfl rfl ?_
      refine r_if_ge (pc := 34) (tgt := 41) dX12_drop_34 (by decide) (fun c9 => ?_) (fun c9 => ?_)
      · replace h := h.1 c9
        refine r_iconst (pc := 41) (v := 0) dX12_drop_41 (by decide) ?_
        refine r_istore_n (pc := 42) (i := 3) dX12_drop_42 rfl rfl (Nat.le_of_ble_eq_true rfl) ?_
        refine r_iconst (pc := 43) (v := 0) dX12_drop_43 (by decide) ?_
        refine r_istore (pc := 44) (i := 4) dX12_drop_44 rfl (Nat.le_of_ble_eq_true rfl) ?_
        exact h
      · replace h := h.2 c9
        refine r_iconst (pc := 37) (v := 1) dX12_drop_37 (by decide) ?_
        refine r_goto (pc := 38) (tgt := 42) dX12_drop_38 (by decide) ?_
        refine r_istore_n (pc := 42) (i := 3) dX12_drop_42 rfl rfl (Nat.le_of_ble_eq_true rfl) ?_
        refine r_iconst (pc := 43) (v := 0) dX12_drop_43 (by decide) ?_
        refine r_istore (pc := 44) (i := 4) dX12_drop_44 rfl (Nat.le_of_ble_eq_true rfl) ?_
        exact h
  · replace h := h.2 c4
    refine r_aload_n (pc := 9) (i := 0) dX12_drop_9 rfl rfl ?_
    refine r_iconst (pc := 10) (v := 1) dX12_drop_10 (by decide) ?_
    obtain ⟨k10, h⟩ := h
    refine r_callV (pc := 11) (ci := 12) (as := [_]) (st := []) okX12_refused lkX12_253 inX12_refused seX12_refused ⟨_, rfl, rfl⟩ dX12_drop_11 rfl k10 (Nat.le_of_ble_eq_true rfl) (Nat.zero_le _) (Nat.zero_le _) (Call.mono h (fun r11 M12 h => ?_))
    obtain ⟨v13, rfl, h⟩ := h
    exact r_iret (pc := 14) dX12_drop_14 rfl h
theorem vX12_drop_46 {G : GG} {d rc rs : Nat} (p0 : Nat) (x1 : Int32) (x2 : Int32) (x3 : Int32) (x4 : Int32)  {M : Mem} {Q : Option Value → Mem → Prop} (h : (x_h M p0).1 = 28 ∧ ((x_i M p0 7) ≤ x4 → LX12_drop_103 G d rc rs p0 x1 x2 x3 0 M Q) ∧ (¬ (x_i M p0 7) ≤ x4 → (¬ x1 = 0 → LX12_drop_103 G d rc rs p0 x1 x2 x3 0 M Q) ∧ (x1 = 0 → (¬ x3 = 0 → LX12_drop_46 G d rc rs p0 x1 x2 1 (x4 + 1) M Q) ∧ (x3 = 0 → ∃ b5, x_r M p0 8 = some b5 ∧ (x_h M b5).1 = 1 ∧ vp_in x4 (x_h M b5).2 ∧ (¬ (x_i M b5 x4.toNatClampNeg) = 0 → LX12_drop_46 G d rc rs p0 x1 x2 0 (x4 + 1) M Q) ∧ ((x_i M b5 x4.toNatClampNeg) = 0 → ∃ b9, x_r M p0 13 = some b9 ∧ (x_h M b9).1 = 1 ∧ vp_in x4 (x_h M b9).2 ∧ (¬ (((x_i M b9 x4.toNatClampNeg) >>> (x2 &&& 31)) &&& 1) = 1 → LX12_drop_46 G d rc rs p0 x1 x2 0 (x4 + 1) M Q) ∧ ((((x_i M b9 x4.toNatClampNeg) >>> (x2 &&& 31)) &&& 1) = 1 → LX12_drop_46 G d rc rs p0 x1 x2 1 (x4 + 1) M Q)))))) : LX12_drop_46 G d rc rs p0 x1 x2 x3 x4 M Q := by
  show Wk G (d + 1) rc rs mX12_drop 46 _ _ M Q
  refine r_iload (pc := 46) (i := 4) dX12_drop_46 rfl ?_
  refine r_aload_n (pc := 48) (i := 0) dX12_drop_48 rfl rfl ?_
  obtain ⟨k1, h⟩ := h
  refine r_geti (pc := 49) flX12_256 dX12_drop_49 (Or.inl rfl) k1 ?_
  refine r_icmp_ge (pc := 52) (tgt := 100) dX12_drop_52 (by decide) (fun c2 => ?_) (fun c2 => ?_)
  · replace h := h.1 c2
    refine r_iconst (pc := 100) (v := 0) dX12_drop_100 (by decide) ?_
    refine r_istore (pc := 101) (i := 4) dX12_drop_101 rfl (Nat.le_of_ble_eq_true rfl) ?_
    exact h
  · replace h := h.2 c2
    refine r_iload_n (pc := 55) (i := 1) dX12_drop_55 rfl rfl ?_
    refine r_if_ne (pc := 56) (tgt := 100) dX12_drop_56 (by decide) (fun c3 => ?_) (fun c3 => ?_)
    · replace h := h.1 c3
      refine r_iconst (pc := 100) (v := 0) dX12_drop_100 (by decide) ?_
      refine r_istore (pc := 101) (i := 4) dX12_drop_101 rfl (Nat.le_of_ble_eq_true rfl) ?_
      exact h
    · replace h := h.2 c3
      refine r_iload_n (pc := 59) (i := 3) dX12_drop_59 rfl rfl ?_
      refine r_if_ne (pc := 60) (tgt := 88) dX12_drop_60 (by decide) (fun c4 => ?_) (fun c4 => ?_)
      · replace h := h.1 c4
        refine r_iconst (pc := 88) (v := 1) dX12_drop_88 (by decide) ?_
        refine r_goto (pc := 89) (tgt := 93) dX12_drop_89 (by decide) ?_
        refine r_istore_n (pc := 93) (i := 3) dX12_drop_93 rfl rfl (Nat.le_of_ble_eq_true rfl) ?_
        refine r_iinc (pc := 94) (i := 4) (v := _ + 1) dX12_drop_94 rfl rfl rfl ?_
        refine r_goto (pc := 97) (tgt := 46) dX12_drop_97 (by decide) ?_
        exact h
      · replace h := h.2 c4
        refine r_aload_n (pc := 63) (i := 0) dX12_drop_63 rfl rfl ?_
        obtain ⟨b5, hb5, h⟩ := h
        refine r_getr (pc := 64) flX12_29 dX12_drop_64 rfl k1 hb5 ?_
        refine r_iload (pc := 67) (i := 4) dX12_drop_67 rfl ?_
        obtain ⟨k6, h⟩ := h
        obtain ⟨i7, h⟩ := h
        refine r_iald (pc := 69) dX12_drop_69 k6 i7 ?_
        refine r_if_ne (pc := 70) (tgt := 92) dX12_drop_70 (by decide) (fun c8 => ?_) (fun c8 => ?_)
        · replace h := h.1 c8
          refine r_iconst (pc := 92) (v := 0) dX12_drop_92 (by decide) ?_
          refine r_istore_n (pc := 93) (i := 3) dX12_drop_93 rfl rfl (Nat.le_of_ble_eq_true rfl) ?_
          refine r_iinc (pc := 94) (i := 4) (v := _ + 1) dX12_drop_94 rfl rfl rfl ?_
          refine r_goto (pc := 97) (tgt := 46) dX12_drop_97 (by decide) ?_
          exact h
        · replace h := h.2 c8
          refine r_aload_n (pc := 73) (i := 0) dX12_drop_73 rfl rfl ?_
          obtain ⟨b9, hb9, h⟩ := h
          refine r_getr (pc := 74) flX12_44 dX12_drop_74 rfl k1 hb9 ?_
          refine r_iload (pc := 77) (i := 4) dX12_drop_77 rfl ?_
          obtain ⟨k10, h⟩ := h
          obtain ⟨i11, h⟩ := h
          refine r_iald (pc := 79) dX12_drop_79 k10 i11 ?_
          refine r_iload_n (pc := 80) (i := 2) dX12_drop_80 rfl rfl ?_
          refine r_ishr (pc := 81) dX12_drop_81 ?_
          refine r_iconst (pc := 82) (v := 1) dX12_drop_82 (by decide) ?_
          refine r_iand (pc := 83) dX12_drop_83 ?_
          refine r_iconst (pc := 84) (v := 1) dX12_drop_84 (by decide) ?_
          refine r_icmp_ne (pc := 85) (tgt := 92) dX12_drop_85 (by decide) (fun c12 => ?_) (fun c12 => ?_)
          · replace h := h.1 c12
            refine r_iconst (pc := 92) (v := 0) dX12_drop_92 (by decide) ?_
            refine r_istore_n (pc := 93) (i := 3) dX12_drop_93 rfl rfl (Nat.le_of_ble_eq_true rfl) ?_
            refine r_iinc (pc := 94) (i := 4) (v := _ + 1) dX12_drop_94 rfl rfl rfl ?_
            refine r_goto (pc := 97) (tgt := 46) dX12_drop_97 (by decide) ?_
            exact h
          · replace h := h.2 c12
            refine r_iconst (pc := 88) (v := 1) dX12_drop_88 (by decide) ?_
            refine r_goto (pc := 89) (tgt := 93) dX12_drop_89 (by decide) ?_
            refine r_istore_n (pc := 93) (i := 3) dX12_drop_93 rfl rfl (Nat.le_of_ble_eq_true rfl) ?_
            refine r_iinc (pc := 94) (i := 4) (v := _ + 1) dX12_drop_94 rfl rfl rfl ?_
            refine r_goto (pc := 97) (tgt := 46) dX12_drop_97 (by decide) ?_
            exact h
theorem vX12_drop_103 {G : GG} {d rc rs : Nat} (p0 : Nat) (x1 : Int32) (x2 : Int32) (x3 : Int32) (x4 : Int32)  {M : Mem} {Q : Option Value → Mem → Prop} (h : (x_h M p0).1 = 28 ∧ ((x_i M p0 1) ≤ x4 → LX12_drop_155 G d rc rs p0 x1 x2 x3 x4 M Q) ∧ (¬ (x_i M p0 1) ≤ x4 → (¬ x1 = 1 → LX12_drop_155 G d rc rs p0 x1 x2 x3 x4 M Q) ∧ (x1 = 1 → (¬ x3 = 0 → LX12_drop_103 G d rc rs p0 x1 x2 1 (x4 + 1) M Q) ∧ (x3 = 0 → ∃ b5, x_r M p0 2 = some b5 ∧ (x_h M b5).1 = 1 ∧ vp_in x4 (x_h M b5).2 ∧ (¬ (x_i M b5 x4.toNatClampNeg) = 4 → LX12_drop_103 G d rc rs p0 x1 x2 0 (x4 + 1) M Q) ∧ ((x_i M b5 x4.toNatClampNeg) = 4 → ∃ b9, x_r M p0 6 = some b9 ∧ (x_h M b9).1 = 1 ∧ vp_in x4 (x_h M b9).2 ∧ (¬ (x_i M b9 x4.toNatClampNeg) = x2 → LX12_drop_103 G d rc rs p0 x1 x2 0 (x4 + 1) M Q) ∧ ((x_i M b9 x4.toNatClampNeg) = x2 → LX12_drop_103 G d rc rs p0 x1 x2 1 (x4 + 1) M Q)))))) : LX12_drop_103 G d rc rs p0 x1 x2 x3 x4 M Q := by
  show Wk G (d + 1) rc rs mX12_drop 103 _ _ M Q
  refine r_iload (pc := 103) (i := 4) dX12_drop_103 rfl ?_
  refine r_aload_n (pc := 105) (i := 0) dX12_drop_105 rfl rfl ?_
  obtain ⟨k1, h⟩ := h
  refine r_geti (pc := 106) flX12_215 dX12_drop_106 (Or.inl rfl) k1 ?_
  refine r_icmp_ge (pc := 109) (tgt := 155) dX12_drop_109 (by decide) (fun c2 => ?_) (fun c2 => ?_)
  · replace h := h.1 c2
    exact h
  · replace h := h.2 c2
    refine r_iload_n (pc := 112) (i := 1) dX12_drop_112 rfl rfl ?_
    refine r_iconst (pc := 113) (v := 1) dX12_drop_113 (by decide) ?_
    refine r_icmp_ne (pc := 114) (tgt := 155) dX12_drop_114 (by decide) (fun c3 => ?_) (fun c3 => ?_)
    · replace h := h.1 c3
      exact h
    · replace h := h.2 c3
      refine r_iload_n (pc := 117) (i := 3) dX12_drop_117 rfl rfl ?_
      refine r_if_ne (pc := 118) (tgt := 143) dX12_drop_118 (by decide) (fun c4 => ?_) (fun c4 => ?_)
      · replace h := h.1 c4
        refine r_iconst (pc := 143) (v := 1) dX12_drop_143 (by decide) ?_
        refine r_goto (pc := 144) (tgt := 148) dX12_drop_144 (by decide) ?_
        refine r_istore_n (pc := 148) (i := 3) dX12_drop_148 rfl rfl (Nat.le_of_ble_eq_true rfl) ?_
        refine r_iinc (pc := 149) (i := 4) (v := _ + 1) dX12_drop_149 rfl rfl rfl ?_
        refine r_goto (pc := 152) (tgt := 103) dX12_drop_152 (by decide) ?_
        exact h
      · replace h := h.2 c4
        refine r_aload_n (pc := 121) (i := 0) dX12_drop_121 rfl rfl ?_
        obtain ⟨b5, hb5, h⟩ := h
        refine r_getr (pc := 122) flX12_13 dX12_drop_122 rfl k1 hb5 ?_
        refine r_iload (pc := 125) (i := 4) dX12_drop_125 rfl ?_
        obtain ⟨k6, h⟩ := h
        obtain ⟨i7, h⟩ := h
        refine r_iald (pc := 127) dX12_drop_127 k6 i7 ?_
        refine r_iconst (pc := 128) (v := 4) dX12_drop_128 (by decide) ?_
        refine r_icmp_ne (pc := 129) (tgt := 147) dX12_drop_129 (by decide) (fun c8 => ?_) (fun c8 => ?_)
        · replace h := h.1 c8
          refine r_iconst (pc := 147) (v := 0) dX12_drop_147 (by decide) ?_
          refine r_istore_n (pc := 148) (i := 3) dX12_drop_148 rfl rfl (Nat.le_of_ble_eq_true rfl) ?_
          refine r_iinc (pc := 149) (i := 4) (v := _ + 1) dX12_drop_149 rfl rfl rfl ?_
          refine r_goto (pc := 152) (tgt := 103) dX12_drop_152 (by decide) ?_
          exact h
        · replace h := h.2 c8
          refine r_aload_n (pc := 132) (i := 0) dX12_drop_132 rfl rfl ?_
          obtain ⟨b9, hb9, h⟩ := h
          refine r_getr (pc := 133) flX12_26 dX12_drop_133 rfl k1 hb9 ?_
          refine r_iload (pc := 136) (i := 4) dX12_drop_136 rfl ?_
          obtain ⟨k10, h⟩ := h
          obtain ⟨i11, h⟩ := h
          refine r_iald (pc := 138) dX12_drop_138 k10 i11 ?_
          refine r_iload_n (pc := 139) (i := 2) dX12_drop_139 rfl rfl ?_
          refine r_icmp_ne (pc := 140) (tgt := 147) dX12_drop_140 (by decide) (fun c12 => ?_) (fun c12 => ?_)
          · replace h := h.1 c12
            refine r_iconst (pc := 147) (v := 0) dX12_drop_147 (by decide) ?_
            refine r_istore_n (pc := 148) (i := 3) dX12_drop_148 rfl rfl (Nat.le_of_ble_eq_true rfl) ?_
            refine r_iinc (pc := 149) (i := 4) (v := _ + 1) dX12_drop_149 rfl rfl rfl ?_
            refine r_goto (pc := 152) (tgt := 103) dX12_drop_152 (by decide) ?_
            exact h
          · replace h := h.2 c12
            refine r_iconst (pc := 143) (v := 1) dX12_drop_143 (by decide) ?_
            refine r_goto (pc := 144) (tgt := 148) dX12_drop_144 (by decide) ?_
            refine r_istore_n (pc := 148) (i := 3) dX12_drop_148 rfl rfl (Nat.le_of_ble_eq_true rfl) ?_
            refine r_iinc (pc := 149) (i := 4) (v := _ + 1) dX12_drop_149 rfl rfl rfl ?_
            refine r_goto (pc := 152) (tgt := 103) dX12_drop_152 (by decide) ?_
            exact h
theorem vX12_drop_155 {G : GG} {d rc rs : Nat} (p0 : Nat) (x1 : Int32) (x2 : Int32) (x3 : Int32) (x4 : Int32)  {M : Mem} {Q : Option Value → Mem → Prop} (h : (x3 = 0 → (x_h M p0).1 = 28 ∧ (¬ x1 = 0 → ∀ M4, M4 = x_si M p0 1 ((x_i M p0 1) - 0) → (¬ x1 = 1 → ∀ M6, M6 = x_si M4 p0 7 ((x_i M4 p0 7) - 0) → Call G d 0 0 mX12_done [.ref p0, .int x2] M6 (fun r7 M8 => ∃ v9 : Int32, r7 = some (.int v9) ∧ Q (some (.int v9)) M8)) ∧ (x1 = 1 → ∀ M10, M10 = x_si M4 p0 7 ((x_i M4 p0 7) - 1) → Call G d 0 0 mX12_done [.ref p0, .int x2] M10 (fun r11 M12 => ∃ v13 : Int32, r11 = some (.int v13) ∧ Q (some (.int v13)) M12))) ∧ (x1 = 0 → ∀ M14, M14 = x_si M p0 1 ((x_i M p0 1) - 1) → (¬ x1 = 1 → ∀ M16, M16 = x_si M14 p0 7 ((x_i M14 p0 7) - 0) → Call G d 0 0 mX12_done [.ref p0, .int x2] M16 (fun r17 M18 => ∃ v19 : Int32, r17 = some (.int v19) ∧ Q (some (.int v19)) M18)) ∧ (x1 = 1 → ∀ M20, M20 = x_si M14 p0 7 ((x_i M14 p0 7) - 1) → Call G d 0 0 mX12_done [.ref p0, .int x2] M20 (fun r21 M22 => ∃ v23 : Int32, r21 = some (.int v23) ∧ Q (some (.int v23)) M22)))) ∧ (¬ x3 = 0 → (x_h M p0).1 = 28 ∧ Call G d 0 0 mX12_refused [.ref p0, .int 3] M (fun r25 M26 => ∃ v27 : Int32, r25 = some (.int v27) ∧ Q (some (.int v27)) M26))) : LX12_drop_155 G d rc rs p0 x1 x2 x3 x4 M Q := by
  show Wk G (d + 1) rc rs mX12_drop 155 _ _ M Q
  refine r_iload_n (pc := 155) (i := 3) dX12_drop_155 rfl rfl ?_
  refine r_if_eq (pc := 156) (tgt := 165) dX12_drop_156 (by decide) (fun c1 => ?_) (fun c1 => ?_)
  · replace h := h.1 c1
    refine r_aload_n (pc := 165) (i := 0) dX12_drop_165 rfl rfl ?_
    refine r_dup (pc := 166) dX12_drop_166 rfl ?_
    obtain ⟨k2, h⟩ := h
    refine r_geti (pc := 167) flX12_215 dX12_drop_167 (Or.inl rfl) k2 ?_
    refine r_iload_n (pc := 170) (i := 1) dX12_drop_170 rfl rfl ?_
    refine r_if_ne (pc := 171) (tgt := 178) dX12_drop_171 (by decide) (fun c3 => ?_) (fun c3 => ?_)
    · replace h := h.1 c3
      refine r_iconst (pc := 178) (v := 0) dX12_drop_178 (by decide) ?_
      refine r_isub (pc := 179) dX12_drop_179 ?_
      refine r_puti (pc := 180) flX12_215 dX12_drop_180 (Or.inl rfl) (fun q hq => by cases hq; rfl) k2 ?_
      replace h := h _ rfl
      refine r_aload_n (pc := 183) (i := 0) dX12_drop_183 rfl rfl ?_
      refine r_dup (pc := 184) dX12_drop_184 rfl ?_
      refine r_geti (pc := 185) flX12_256 dX12_drop_185 (Or.inl rfl) k2 ?_
      refine r_iload_n (pc := 188) (i := 1) dX12_drop_188 rfl rfl ?_
      refine r_iconst (pc := 189) (v := 1) dX12_drop_189 (by decide) ?_
      refine r_icmp_ne (pc := 190) (tgt := 197) dX12_drop_190 (by decide) (fun c5 => ?_) (fun c5 => ?_)
      · replace h := h.1 c5
        refine r_iconst (pc := 197) (v := 0) dX12_drop_197 (by decide) ?_
        refine r_isub (pc := 198) dX12_drop_198 ?_
        refine r_puti (pc := 199) flX12_256 dX12_drop_199 (Or.inl rfl) (fun q hq => by cases hq; rfl) k2 ?_
        replace h := h _ rfl
        refine r_aload_n (pc := 202) (i := 0) dX12_drop_202 rfl rfl ?_
        refine r_iload_n (pc := 203) (i := 2) dX12_drop_203 rfl rfl ?_
        refine r_callV (pc := 204) (ci := 12) (as := [_]) (st := []) okX12_done lkX12_250 inX12_done seX12_done ⟨_, rfl, rfl⟩ dX12_drop_204 rfl k2 (Nat.le_of_ble_eq_true rfl) (Nat.zero_le _) (Nat.zero_le _) (Call.mono h (fun r7 M8 h => ?_))
        obtain ⟨v9, rfl, h⟩ := h
        exact r_iret (pc := 207) dX12_drop_207 rfl h
      · replace h := h.2 c5
        refine r_iconst (pc := 193) (v := 1) dX12_drop_193 (by decide) ?_
        refine r_goto (pc := 194) (tgt := 198) dX12_drop_194 (by decide) ?_
        refine r_isub (pc := 198) dX12_drop_198 ?_
        refine r_puti (pc := 199) flX12_256 dX12_drop_199 (Or.inl rfl) (fun q hq => by cases hq; rfl) k2 ?_
        replace h := h _ rfl
        refine r_aload_n (pc := 202) (i := 0) dX12_drop_202 rfl rfl ?_
        refine r_iload_n (pc := 203) (i := 2) dX12_drop_203 rfl rfl ?_
        refine r_callV (pc := 204) (ci := 12) (as := [_]) (st := []) okX12_done lkX12_250 inX12_done seX12_done ⟨_, rfl, rfl⟩ dX12_drop_204 rfl k2 (Nat.le_of_ble_eq_true rfl) (Nat.zero_le _) (Nat.zero_le _) (Call.mono h (fun r11 M12 h => ?_))
        obtain ⟨v13, rfl, h⟩ := h
        exact r_iret (pc := 207) dX12_drop_207 rfl h
    · replace h := h.2 c3
      refine r_iconst (pc := 174) (v := 1) dX12_drop_174 (by decide) ?_
      refine r_goto (pc := 175) (tgt := 179) dX12_drop_175 (by decide) ?_
      refine r_isub (pc := 179) dX12_drop_179 ?_
      refine r_puti (pc := 180) flX12_215 dX12_drop_180 (Or.inl rfl) (fun q hq => by cases hq; rfl) k2 ?_
      replace h := h _ rfl
      refine r_aload_n (pc := 183) (i := 0) dX12_drop_183 rfl rfl ?_
      refine r_dup (pc := 184) dX12_drop_184 rfl ?_
      refine r_geti (pc := 185) flX12_256 dX12_drop_185 (Or.inl rfl) k2 ?_
      refine r_iload_n (pc := 188) (i := 1) dX12_drop_188 rfl rfl ?_
      refine r_iconst (pc := 189) (v := 1) dX12_drop_189 (by decide) ?_
      refine r_icmp_ne (pc := 190) (tgt := 197) dX12_drop_190 (by decide) (fun c15 => ?_) (fun c15 => ?_)
      · replace h := h.1 c15
        refine r_iconst (pc := 197) (v := 0) dX12_drop_197 (by decide) ?_
        refine r_isub (pc := 198) dX12_drop_198 ?_
        refine r_puti (pc := 199) flX12_256 dX12_drop_199 (Or.inl rfl) (fun q hq => by cases hq; rfl) k2 ?_
        replace h := h _ rfl
        refine r_aload_n (pc := 202) (i := 0) dX12_drop_202 rfl rfl ?_
        refine r_iload_n (pc := 203) (i := 2) dX12_drop_203 rfl rfl ?_
        refine r_callV (pc := 204) (ci := 12) (as := [_]) (st := []) okX12_done lkX12_250 inX12_done seX12_done ⟨_, rfl, rfl⟩ dX12_drop_204 rfl k2 (Nat.le_of_ble_eq_true rfl) (Nat.zero_le _) (Nat.zero_le _) (Call.mono h (fun r17 M18 h => ?_))
        obtain ⟨v19, rfl, h⟩ := h
        exact r_iret (pc := 207) dX12_drop_207 rfl h
      · replace h := h.2 c15
        refine r_iconst (pc := 193) (v := 1) dX12_drop_193 (by decide) ?_
        refine r_goto (pc := 194) (tgt := 198) dX12_drop_194 (by decide) ?_
        refine r_isub (pc := 198) dX12_drop_198 ?_
        refine r_puti (pc := 199) flX12_256 dX12_drop_199 (Or.inl rfl) (fun q hq => by cases hq; rfl) k2 ?_
        replace h := h _ rfl
        refine r_aload_n (pc := 202) (i := 0) dX12_drop_202 rfl rfl ?_
        refine r_iload_n (pc := 203) (i := 2) dX12_drop_203 rfl rfl ?_
        refine r_callV (pc := 204) (ci := 12) (as := [_]) (st := []) okX12_done lkX12_250 inX12_done seX12_done ⟨_, rfl, rfl⟩ dX12_drop_204 rfl k2 (Nat.le_of_ble_eq_true rfl) (Nat.zero_le _) (Nat.zero_le _) (Call.mono h (fun r21 M22 h => ?_))
        obtain ⟨v23, rfl, h⟩ := h
        exact r_iret (pc := 207) dX12_drop_207 rfl h
  · replace h := h.2 c1
    refine r_aload_n (pc := 159) (i := 0) dX12_drop_159 rfl rfl ?_
    refine r_iconst (pc := 160) (v := 3) dX12_drop_160 (by decide) ?_
    obtain ⟨k24, h⟩ := h
    refine r_callV (pc := 161) (ci := 12) (as := [_]) (st := []) okX12_refused lkX12_253 inX12_refused seX12_refused ⟨_, rfl, rfl⟩ dX12_drop_161 rfl k24 (Nat.le_of_ble_eq_true rfl) (Nat.zero_le _) (Nat.zero_le _) (Call.mono h (fun r25 M26 h => ?_))
    obtain ⟨v27, rfl, h⟩ := h
    exact r_iret (pc := 164) dX12_drop_164 rfl h
theorem eX12_byteAt {G : GG} {d rc rs : Nat} (o : Nat) (a1 : Int32)  {M : Mem} {Q : Option Value → Mem → Prop} (h : (x_h M o).1 = 28 ∧ ((x_i M o 18) ≤ a1 → Q (some (.int (-1))) M) ∧ (¬ (x_i M o 18) ≤ a1 → ∃ b3, x_r M o 17 = some b3 ∧ (x_h M b3).1 = 1 ∧ vp_in a1 (x_h M b3).2 ∧ Q (some (.int (x_i M b3 a1.toNatClampNeg))) M)) : Call G (d + 1) rc rs mX12_byteAt [.ref o, .int a1] M Q := by
  refine call_of (by decide) (Nat.le_of_ble_eq_true rfl) ?_
  show Wk G (d + 1) rc rs mX12_byteAt 0 [some (.ref o), some (.int a1)] [] M Q
  refine r_iload_n (pc := 0) (i := 1) dX12_byteAt_0 rfl rfl ?_
  refine r_aload_n (pc := 1) (i := 0) dX12_byteAt_1 rfl rfl ?_
  obtain ⟨k1, h⟩ := h
  refine r_geti (pc := 2) flX12_289 dX12_byteAt_2 (Or.inl rfl) k1 ?_
  refine r_icmp_ge (pc := 5) (tgt := 17) dX12_byteAt_5 (by decide) (fun c2 => ?_) (fun c2 => ?_)
  · replace h := h.1 c2
    refine r_iconst (pc := 17) (v := (-1)) dX12_byteAt_17 (by decide) ?_
    exact r_iret (pc := 18) dX12_byteAt_18 rfl h
  · replace h := h.2 c2
    refine r_aload_n (pc := 8) (i := 0) dX12_byteAt_8 rfl rfl ?_
    obtain ⟨b3, hb3, h⟩ := h
    refine r_getr (pc := 9) flX12_57 dX12_byteAt_9 rfl k1 hb3 ?_
    refine r_iload_n (pc := 12) (i := 1) dX12_byteAt_12 rfl rfl ?_
    obtain ⟨k4, h⟩ := h
    obtain ⟨i5, h⟩ := h
    refine r_iald (pc := 13) dX12_byteAt_13 k4 i5 ?_
    refine r_goto (pc := 14) (tgt := 18) dX12_byteAt_14 (by decide) ?_
    exact r_iret (pc := 18) dX12_byteAt_18 rfl h
theorem eX12_isDigit {G : GG} {d rc rs : Nat} (a1 : Int32)  {M : Mem} {Q : Option Value → Mem → Prop} (h : Call G d 0 0 mX12_in [.int a1, .int 48, .int 57] M (fun r1 M2 => ∃ v3 : Int32, r1 = some (.int v3) ∧ (v3 = 0 ∨ v3 = 1) ∧ Q (some (.int v3)) M2)) : Call G (d + 1) rc rs mX12_isDigit [.int a1] M Q := by
  refine call_of (by decide) (Nat.le_of_ble_eq_true rfl) ?_
  show Wk G (d + 1) rc rs mX12_isDigit 0 [some (.int a1)] [] M Q
  refine r_iload_n (pc := 0) (i := 0) dX12_isDigit_0 rfl rfl ?_
  refine r_bipush (pc := 1) (v := 48) dX12_isDigit_1 (by decide) ?_
  refine r_bipush (pc := 3) (v := 57) dX12_isDigit_3 (by decide) ?_
  refine r_callS (pc := 5) (as := [_, _, _]) (st := []) okX12_in lkX12_218 stX12_in dX12_isDigit_5 rfl (Nat.le_of_ble_eq_true rfl) (Nat.zero_le _) (Nat.zero_le _) (Call.mono h (fun r1 M2 h => ?_))
  obtain ⟨v3, rfl, h⟩ := h
  exact r_zret (pc := 8) dX12_isDigit_8 rfl h.1 h.2
theorem eX12_isLetter {G : GG} {d rc rs : Nat} (a1 : Int32)  {M : Mem} {Q : Option Value → Mem → Prop} (h : Call G d 0 0 mX12_in [.int a1, .int 97, .int 122] M (fun r1 M2 => ∃ v3 : Int32, r1 = some (.int v3) ∧ (v3 = 0 ∨ v3 = 1) ∧ Q (some (.int v3)) M2)) : Call G (d + 1) rc rs mX12_isLetter [.int a1] M Q := by
  refine call_of (by decide) (Nat.le_of_ble_eq_true rfl) ?_
  show Wk G (d + 1) rc rs mX12_isLetter 0 [some (.int a1)] [] M Q
  refine r_iload_n (pc := 0) (i := 0) dX12_isLetter_0 rfl rfl ?_
  refine r_bipush (pc := 1) (v := 97) dX12_isLetter_1 (by decide) ?_
  refine r_bipush (pc := 3) (v := 122) dX12_isLetter_3 (by decide) ?_
  refine r_callS (pc := 5) (as := [_, _, _]) (st := []) okX12_in lkX12_218 stX12_in dX12_isLetter_5 rfl (Nat.le_of_ble_eq_true rfl) (Nat.zero_le _) (Nat.zero_le _) (Call.mono h (fun r1 M2 h => ?_))
  obtain ⟨v3, rfl, h⟩ := h
  exact r_zret (pc := 8) dX12_isLetter_8 rfl h.1 h.2
theorem eX12_cannot {G : GG} {d rc rs : Nat} (o : Nat)  {M : Mem} {Q : Option Value → Mem → Prop} (h : (x_h M o).1 = 28 ∧ (¬ (x_i M o 42) = 0 → ∀ M3, M3 = x_si M o 39 0 → Q none M3) ∧ ((x_i M o 42) = 0 → ∀ M4, M4 = x_si M o 42 1 → ∀ M5, M5 = x_si M4 o 45 1 → ∀ M6, M6 = x_si M5 o 46 (x_i M5 o 41) → ∀ M7, M7 = x_si M6 o 39 0 → Q none M7)) : Call G (d + 1) rc rs mX12_cannot [.ref o] M Q := by
  refine call_of (by decide) (Nat.le_of_ble_eq_true rfl) ?_
  show Wk G (d + 1) rc rs mX12_cannot 0 [some (.ref o)] [] M Q
  refine r_aload_n (pc := 0) (i := 0) dX12_cannot_0 rfl rfl ?_
  obtain ⟨k1, h⟩ := h
  refine r_geti (pc := 1) flX12_294 dX12_cannot_1 (Or.inr rfl) k1 ?_
  refine r_if_ne (pc := 4) (tgt := 25) dX12_cannot_4 (by decide) (fun c2 => ?_) (fun c2 => ?_)
  · replace h := h.1 c2
    refine r_aload_n (pc := 25) (i := 0) dX12_cannot_25 rfl rfl ?_
    refine r_iconst (pc := 26) (v := 0) dX12_cannot_26 (by decide) ?_
    refine r_puti (pc := 27) flX12_307 dX12_cannot_27 (Or.inl rfl) (fun q hq => by cases hq; rfl) k1 ?_
    replace h := h _ rfl
    exact r_vret (pc := 30) dX12_cannot_30 rfl h
  · replace h := h.2 c2
    refine r_aload_n (pc := 7) (i := 0) dX12_cannot_7 rfl rfl ?_
    refine r_iconst (pc := 8) (v := 1) dX12_cannot_8 (by decide) ?_
    refine r_puti (pc := 9) flX12_294 dX12_cannot_9 (Or.inr ⟨rfl, Or.inr rfl⟩) (fun q hq => by cases hq; rfl) k1 ?_
    replace h := h _ rfl
    refine r_aload_n (pc := 12) (i := 0) dX12_cannot_12 rfl rfl ?_
    refine r_iconst (pc := 13) (v := 1) dX12_cannot_13 (by decide) ?_
    refine r_puti (pc := 14) flX12_298 dX12_cannot_14 (Or.inl rfl) (fun q hq => by cases hq; rfl) k1 ?_
    replace h := h _ rfl
    refine r_aload_n (pc := 17) (i := 0) dX12_cannot_17 rfl rfl ?_
    refine r_aload_n (pc := 18) (i := 0) dX12_cannot_18 rfl rfl ?_
    refine r_geti (pc := 19) flX12_301 dX12_cannot_19 (Or.inl rfl) k1 ?_
    refine r_puti (pc := 22) flX12_304 dX12_cannot_22 (Or.inl rfl) (fun q hq => by cases hq; rfl) k1 ?_
    replace h := h _ rfl
    refine r_aload_n (pc := 25) (i := 0) dX12_cannot_25 rfl rfl ?_
    refine r_iconst (pc := 26) (v := 0) dX12_cannot_26 (by decide) ?_
    refine r_puti (pc := 27) flX12_307 dX12_cannot_27 (Or.inl rfl) (fun q hq => by cases hq; rfl) k1 ?_
    replace h := h _ rfl
    exact r_vret (pc := 30) dX12_cannot_30 rfl h
theorem eX12_notes {G : GG} {d rc rs : Nat} (o : Nat) (a1 : Int32)  {M : Mem} {Q : Option Value → Mem → Prop} (h : (x_h M o).1 = 28 ∧ (¬ (x_i M o 42) = 0 → Q none M) ∧ ((x_i M o 42) = 0 → ((x_i M o 45) = 0 → ∀ M4, M4 = x_si M o 45 2 → ∀ M5, M5 = x_si M4 o 46 a1 → Q none M5) ∧ (¬ (x_i M o 45) = 0 → ((x_i M o 46) ≤ a1 → Q none M) ∧ (¬ (x_i M o 46) ≤ a1 → ∀ M7, M7 = x_si M o 45 2 → ∀ M8, M8 = x_si M7 o 46 a1 → Q none M8)))) : Call G (d + 1) rc rs mX12_notes [.ref o, .int a1] M Q := by
  refine call_of (by decide) (Nat.le_of_ble_eq_true rfl) ?_
  show Wk G (d + 1) rc rs mX12_notes 0 [some (.ref o), some (.int a1)] [] M Q
  refine r_aload_n (pc := 0) (i := 0) dX12_notes_0 rfl rfl ?_
  obtain ⟨k1, h⟩ := h
  refine r_geti (pc := 1) flX12_294 dX12_notes_1 (Or.inr rfl) k1 ?_
  refine r_if_ne (pc := 4) (tgt := 32) dX12_notes_4 (by decide) (fun c2 => ?_) (fun c2 => ?_)
  · replace h := h.1 c2
    exact r_vret (pc := 32) dX12_notes_32 rfl h
  · replace h := h.2 c2
    refine r_aload_n (pc := 7) (i := 0) dX12_notes_7 rfl rfl ?_
    refine r_geti (pc := 8) flX12_298 dX12_notes_8 (Or.inl rfl) k1 ?_
    refine r_if_eq (pc := 11) (tgt := 22) dX12_notes_11 (by decide) (fun c3 => ?_) (fun c3 => ?_)
    · replace h := h.1 c3
      refine r_aload_n (pc := 22) (i := 0) dX12_notes_22 rfl rfl ?_
      refine r_iconst (pc := 23) (v := 2) dX12_notes_23 (by decide) ?_
      refine r_puti (pc := 24) flX12_298 dX12_notes_24 (Or.inl rfl) (fun q hq => by cases hq; rfl) k1 ?_
      replace h := h _ rfl
      refine r_aload_n (pc := 27) (i := 0) dX12_notes_27 rfl rfl ?_
      refine r_iload_n (pc := 28) (i := 1) dX12_notes_28 rfl rfl ?_
      refine r_puti (pc := 29) flX12_304 dX12_notes_29 (Or.inl rfl) (fun q hq => by cases hq; rfl) k1 ?_
      replace h := h _ rfl
      exact r_vret (pc := 32) dX12_notes_32 rfl h
    · replace h := h.2 c3
      refine r_iload_n (pc := 14) (i := 1) dX12_notes_14 rfl rfl ?_
      refine r_aload_n (pc := 15) (i := 0) dX12_notes_15 rfl rfl ?_
      refine r_geti (pc := 16) flX12_304 dX12_notes_16 (Or.inl rfl) k1 ?_
      refine r_icmp_ge (pc := 19) (tgt := 32) dX12_notes_19 (by decide) (fun c6 => ?_) (fun c6 => ?_)
      · replace h := h.1 c6
        exact r_vret (pc := 32) dX12_notes_32 rfl h
      · replace h := h.2 c6
        refine r_aload_n (pc := 22) (i := 0) dX12_notes_22 rfl rfl ?_
        refine r_iconst (pc := 23) (v := 2) dX12_notes_23 (by decide) ?_
        refine r_puti (pc := 24) flX12_298 dX12_notes_24 (Or.inl rfl) (fun q hq => by cases hq; rfl) k1 ?_
        replace h := h _ rfl
        refine r_aload_n (pc := 27) (i := 0) dX12_notes_27 rfl rfl ?_
        refine r_iload_n (pc := 28) (i := 1) dX12_notes_28 rfl rfl ?_
        refine r_puti (pc := 29) flX12_304 dX12_notes_29 (Or.inl rfl) (fun q hq => by cases hq; rfl) k1 ?_
        replace h := h _ rfl
        exact r_vret (pc := 32) dX12_notes_32 rfl h
abbrev LX12_next_0 (G : GG) (d rc rs : Nat) (p0 : Nat) (M : Mem) (Q : Option Value → Mem → Prop) : Prop := Wk G (d + 1) rc rs mX12_next 0 [some (.ref p0), none, none] [] M Q
abbrev LX12_next_152 (G : GG) (d rc rs : Nat) (p0 : Nat) (x1 : Int32) (u0 : Int32) (M : Mem) (Q : Option Value → Mem → Prop) : Prop := Wk G (d + 1) rc rs mX12_next 152 [some (.ref p0), some (.int x1), none] [.int u0] M Q
theorem vX12_next_0 {G : GG} {d rc rs : Nat} (p0 : Nat)  {M : Mem} {Q : Option Value → Mem → Prop} (h : (x_h M p0).1 = 28 ∧ Call G d 0 0 mX12_byteAt [.ref p0, .int (x_i M p0 38)] M (fun r2 M3 => ∃ v4 : Int32, r2 = some (.int v4) ∧ (¬ v4 = 32 → (x_h M3 p0).1 = 28 ∧ (∀ M7, M7 = x_si M3 p0 41 (x_i M3 p0 38) → Call G d 0 0 mX12_byteAt [.ref p0, .int (x_i M7 p0 38)] M7 (fun r8 M9 => ∃ v10 : Int32, r8 = some (.int v10) ∧ (¬ v10 = (-1) → Call G d 0 0 mX12_isDigit [.int v10] M9 (fun r12 M13 => ∃ v14 : Int32, r12 = some (.int v14) ∧ (v14 = 0 → Call G d 0 0 mX12_isLetter [.int v10] M13 (fun r16 M17 => ∃ v18 : Int32, r16 = some (.int v18) ∧ (v18 = 0 → (x_h M17 p0).1 = 28 ∧ (∀ M21, M21 = x_si M17 p0 39 10 → ∀ M22, M22 = x_si M21 p0 40 v10 → ∀ M23, M23 = x_si M22 p0 38 ((x_i M22 p0 38) + 1) → (v10 = 40 → LX12_next_152 G d rc rs p0 v10 1 M23 Q) ∧ (¬ v10 = 40 → (v10 = 41 → LX12_next_152 G d rc rs p0 v10 1 M23 Q) ∧ (¬ v10 = 41 → (v10 = 91 → LX12_next_152 G d rc rs p0 v10 1 M23 Q) ∧ (¬ v10 = 91 → (v10 = 93 → LX12_next_152 G d rc rs p0 v10 1 M23 Q) ∧ (¬ v10 = 93 → (v10 = 43 → LX12_next_152 G d rc rs p0 v10 1 M23 Q) ∧ (¬ v10 = 43 → (v10 = 61 → LX12_next_152 G d rc rs p0 v10 1 M23 Q) ∧ (¬ v10 = 61 → (¬ v10 = 60 → LX12_next_152 G d rc rs p0 v10 0 M23 Q) ∧ (v10 = 60 → LX12_next_152 G d rc rs p0 v10 1 M23 Q))))))))) ∧ (¬ v18 = 0 → (x_h M17 p0).1 = 28 ∧ Call G d 0 0 mX12_letters [.ref p0] M17 (fun r32 M33 => r32 = none ∧ Q none M33)))) ∧ (¬ v14 = 0 → (x_h M13 p0).1 = 28 ∧ Call G d 0 0 mX12_digits [.ref p0] M13 (fun r35 M36 => r35 = none ∧ Q none M36)))) ∧ (v10 = (-1) → (x_h M9 p0).1 = 28 ∧ (∀ M38, M38 = x_si M9 p0 39 0 → Q none M38))))) ∧ (v4 = 32 → (x_h M3 p0).1 = 28 ∧ (∀ M40, M40 = x_si M3 p0 38 ((x_i M3 p0 38) + 1) → LX12_next_0 G d rc rs p0 M40 Q)))) : LX12_next_0 G d rc rs p0 M Q := by
  show Wk G (d + 1) rc rs mX12_next 0 _ _ M Q
  refine r_aload_n (pc := 0) (i := 0) dX12_next_0 rfl rfl ?_
  refine r_aload_n (pc := 1) (i := 0) dX12_next_1 rfl rfl ?_
  obtain ⟨k1, h⟩ := h
  refine r_geti (pc := 2) flX12_310 dX12_next_2 (Or.inl rfl) k1 ?_
  refine r_callV (pc := 5) (ci := 12) (as := [_]) (st := []) okX12_byteAt lkX12_313 inX12_byteAt seX12_byteAt ⟨_, rfl, rfl⟩ dX12_next_5 rfl k1 (Nat.le_of_ble_eq_true rfl) (Nat.zero_le _) (Nat.zero_le _) (Call.mono h (fun r2 M3 h => ?_))
  obtain ⟨v4, rfl, h⟩ := h
  refine r_bipush (pc := 8) (v := 32) dX12_next_8 (by decide) ?_
  refine r_icmp_ne (pc := 10) (tgt := 26) dX12_next_10 (by decide) (fun c5 => ?_) (fun c5 => ?_)
  · replace h := h.1 c5
    refine r_aload_n (pc := 26) (i := 0) dX12_next_26 rfl rfl ?_
    refine r_aload_n (pc := 27) (i := 0) dX12_next_27 rfl rfl ?_
    obtain ⟨k6, h⟩ := h
    refine r_geti (pc := 28) flX12_310 dX12_next_28 (Or.inl rfl) k6 ?_
    refine r_puti (pc := 31) flX12_301 dX12_next_31 (Or.inl rfl) (fun q hq => by cases hq; rfl) k6 ?_
    replace h := h _ rfl
    refine r_aload_n (pc := 34) (i := 0) dX12_next_34 rfl rfl ?_
    refine r_aload_n (pc := 35) (i := 0) dX12_next_35 rfl rfl ?_
    refine r_geti (pc := 36) flX12_310 dX12_next_36 (Or.inl rfl) k6 ?_
    refine r_callV (pc := 39) (ci := 12) (as := [_]) (st := []) okX12_byteAt lkX12_313 inX12_byteAt seX12_byteAt ⟨_, rfl, rfl⟩ dX12_next_39 rfl k6 (Nat.le_of_ble_eq_true rfl) (Nat.zero_le _) (Nat.zero_le _) (Call.mono h (fun r8 M9 h => ?_))
    obtain ⟨v10, rfl, h⟩ := h
    refine r_istore_n (pc := 42) (i := 1) dX12_next_42 rfl rfl (Nat.le_of_ble_eq_true rfl) ?_
    refine r_iload_n (pc := 43) (i := 1) dX12_next_43 rfl rfl ?_
    refine r_iconst (pc := 44) (v := (-1)) dX12_next_44 (by decide) ?_
    refine r_icmp_ne (pc := 45) (tgt := 56) dX12_next_45 (by decide) (fun c11 => ?_) (fun c11 => ?_)
    · replace h := h.1 c11
      refine r_iload_n (pc := 56) (i := 1) dX12_next_56 rfl rfl ?_
      refine r_callS (pc := 57) (as := [_]) (st := []) okX12_isDigit lkX12_316 stX12_isDigit dX12_next_57 rfl (Nat.le_of_ble_eq_true rfl) (Nat.zero_le _) (Nat.zero_le _) (Call.mono h (fun r12 M13 h => ?_))
      obtain ⟨v14, rfl, h⟩ := h
      refine r_if_eq (pc := 60) (tgt := 70) dX12_next_60 (by decide) (fun c15 => ?_) (fun c15 => ?_)
      · replace h := h.1 c15
        refine r_iload_n (pc := 70) (i := 1) dX12_next_70 rfl rfl ?_
        refine r_callS (pc := 71) (as := [_]) (st := []) okX12_isLetter lkX12_322 stX12_isLetter dX12_next_71 rfl (Nat.le_of_ble_eq_true rfl) (Nat.zero_le _) (Nat.zero_le _) (Call.mono h (fun r16 M17 h => ?_))
        obtain ⟨v18, rfl, h⟩ := h
        refine r_if_eq (pc := 74) (tgt := 84) dX12_next_74 (by decide) (fun c19 => ?_) (fun c19 => ?_)
        · replace h := h.1 c19
          refine r_aload_n (pc := 84) (i := 0) dX12_next_84 rfl rfl ?_
          refine r_bipush (pc := 85) (v := 10) dX12_next_85 (by decide) ?_
          obtain ⟨k20, h⟩ := h
          refine r_puti (pc := 87) flX12_307 dX12_next_87 (Or.inl rfl) (fun q hq => by cases hq; rfl) k20 ?_
          replace h := h _ rfl
          refine r_aload_n (pc := 90) (i := 0) dX12_next_90 rfl rfl ?_
          refine r_iload_n (pc := 91) (i := 1) dX12_next_91 rfl rfl ?_
          refine r_puti (pc := 92) flX12_328 dX12_next_92 (Or.inl rfl) (fun q hq => by cases hq; rfl) k20 ?_
          replace h := h _ rfl
          refine r_aload_n (pc := 95) (i := 0) dX12_next_95 rfl rfl ?_
          refine r_dup (pc := 96) dX12_next_96 rfl ?_
          refine r_geti (pc := 97) flX12_310 dX12_next_97 (Or.inl rfl) k20 ?_
          refine r_iconst (pc := 100) (v := 1) dX12_next_100 (by decide) ?_
          refine r_iadd (pc := 101) dX12_next_101 ?_
          refine r_puti (pc := 102) flX12_310 dX12_next_102 (Or.inl rfl) (fun q hq => by cases hq; rfl) k20 ?_
          replace h := h _ rfl
          refine r_iload_n (pc := 105) (i := 1) dX12_next_105 rfl rfl ?_
          refine r_bipush (pc := 106) (v := 40) dX12_next_106 (by decide) ?_
          refine r_icmp_eq (pc := 108) (tgt := 147) dX12_next_108 (by decide) (fun c24 => ?_) (fun c24 => ?_)
          · replace h := h.1 c24
            refine r_iconst (pc := 147) (v := 1) dX12_next_147 (by decide) ?_
            refine r_goto (pc := 148) (tgt := 152) dX12_next_148 (by decide) ?_
            exact h
          · replace h := h.2 c24
            refine r_iload_n (pc := 111) (i := 1) dX12_next_111 rfl rfl ?_
            refine r_bipush (pc := 112) (v := 41) dX12_next_112 (by decide) ?_
            refine r_icmp_eq (pc := 114) (tgt := 147) dX12_next_114 (by decide) (fun c25 => ?_) (fun c25 => ?_)
            · replace h := h.1 c25
              refine r_iconst (pc := 147) (v := 1) dX12_next_147 (by decide) ?_
              refine r_goto (pc := 148) (tgt := 152) dX12_next_148 (by decide) ?_
              exact h
            · replace h := h.2 c25
              refine r_iload_n (pc := 117) (i := 1) dX12_next_117 rfl rfl ?_
              refine r_bipush (pc := 118) (v := 91) dX12_next_118 (by decide) ?_
              refine r_icmp_eq (pc := 120) (tgt := 147) dX12_next_120 (by decide) (fun c26 => ?_) (fun c26 => ?_)
              · replace h := h.1 c26
                refine r_iconst (pc := 147) (v := 1) dX12_next_147 (by decide) ?_
                refine r_goto (pc := 148) (tgt := 152) dX12_next_148 (by decide) ?_
                exact h
              · replace h := h.2 c26
                refine r_iload_n (pc := 123) (i := 1) dX12_next_123 rfl rfl ?_
                refine r_bipush (pc := 124) (v := 93) dX12_next_124 (by decide) ?_
                refine r_icmp_eq (pc := 126) (tgt := 147) dX12_next_126 (by decide) (fun c27 => ?_) (fun c27 => ?_)
                · replace h := h.1 c27
                  refine r_iconst (pc := 147) (v := 1) dX12_next_147 (by decide) ?_
                  refine r_goto (pc := 148) (tgt := 152) dX12_next_148 (by decide) ?_
                  exact h
                · replace h := h.2 c27
                  refine r_iload_n (pc := 129) (i := 1) dX12_next_129 rfl rfl ?_
                  refine r_bipush (pc := 130) (v := 43) dX12_next_130 (by decide) ?_
                  refine r_icmp_eq (pc := 132) (tgt := 147) dX12_next_132 (by decide) (fun c28 => ?_) (fun c28 => ?_)
                  · replace h := h.1 c28
                    refine r_iconst (pc := 147) (v := 1) dX12_next_147 (by decide) ?_
                    refine r_goto (pc := 148) (tgt := 152) dX12_next_148 (by decide) ?_
                    exact h
                  · replace h := h.2 c28
                    refine r_iload_n (pc := 135) (i := 1) dX12_next_135 rfl rfl ?_
                    refine r_bipush (pc := 136) (v := 61) dX12_next_136 (by decide) ?_
                    refine r_icmp_eq (pc := 138) (tgt := 147) dX12_next_138 (by decide) (fun c29 => ?_) (fun c29 => ?_)
                    · replace h := h.1 c29
                      refine r_iconst (pc := 147) (v := 1) dX12_next_147 (by decide) ?_
                      refine r_goto (pc := 148) (tgt := 152) dX12_next_148 (by decide) ?_
                      exact h
                    · replace h := h.2 c29
                      refine r_iload_n (pc := 141) (i := 1) dX12_next_141 rfl rfl ?_
                      refine r_bipush (pc := 142) (v := 60) dX12_next_142 (by decide) ?_
                      refine r_icmp_ne (pc := 144) (tgt := 151) dX12_next_144 (by decide) (fun c30 => ?_) (fun c30 => ?_)
                      · replace h := h.1 c30
                        refine r_iconst (pc := 151) (v := 0) dX12_next_151 (by decide) ?_
                        exact h
                      · replace h := h.2 c30
                        refine r_iconst (pc := 147) (v := 1) dX12_next_147 (by decide) ?_
                        refine r_goto (pc := 148) (tgt := 152) dX12_next_148 (by decide) ?_
                        exact h
        · replace h := h.2 c19
          refine r_aload_n (pc := 77) (i := 0) dX12_next_77 rfl rfl ?_
          obtain ⟨k31, h⟩ := h
          refine r_callV (pc := 78) (ci := 12) (as := []) (st := []) okX12_letters lkX12_325 inX12_letters seX12_letters ⟨_, rfl, rfl⟩ dX12_next_78 rfl k31 (Nat.le_of_ble_eq_true rfl) (Nat.zero_le _) (Nat.zero_le _) (Call.mono h (fun r32 M33 h => ?_))
          obtain ⟨rfl, h⟩ := h
          refine r_goto (pc := 81) (tgt := 199) dX12_next_81 (by decide) ?_
          exact r_vret (pc := 199) dX12_next_199 rfl h
      · replace h := h.2 c15
        refine r_aload_n (pc := 63) (i := 0) dX12_next_63 rfl rfl ?_
        obtain ⟨k34, h⟩ := h
        refine r_callV (pc := 64) (ci := 12) (as := []) (st := []) okX12_digits lkX12_319 inX12_digits seX12_digits ⟨_, rfl, rfl⟩ dX12_next_64 rfl k34 (Nat.le_of_ble_eq_true rfl) (Nat.zero_le _) (Nat.zero_le _) (Call.mono h (fun r35 M36 h => ?_))
        obtain ⟨rfl, h⟩ := h
        refine r_goto (pc := 67) (tgt := 199) dX12_next_67 (by decide) ?_
        exact r_vret (pc := 199) dX12_next_199 rfl h
    · replace h := h.2 c11
      refine r_aload_n (pc := 48) (i := 0) dX12_next_48 rfl rfl ?_
      refine r_iconst (pc := 49) (v := 0) dX12_next_49 (by decide) ?_
      obtain ⟨k37, h⟩ := h
      refine r_puti (pc := 50) flX12_307 dX12_next_50 (Or.inl rfl) (fun q hq => by cases hq; rfl) k37 ?_
      replace h := h _ rfl
      refine r_goto (pc := 53) (tgt := 199) dX12_next_53 (by decide) ?_
      exact r_vret (pc := 199) dX12_next_199 rfl h
  · replace h := h.2 c5
    refine r_aload_n (pc := 13) (i := 0) dX12_next_13 rfl rfl ?_
    refine r_dup (pc := 14) dX12_next_14 rfl ?_
    obtain ⟨k39, h⟩ := h
    refine r_geti (pc := 15) flX12_310 dX12_next_15 (Or.inl rfl) k39 ?_
    refine r_iconst (pc := 18) (v := 1) dX12_next_18 (by decide) ?_
    refine r_iadd (pc := 19) dX12_next_19 ?_
    refine r_puti (pc := 20) flX12_310 dX12_next_20 (Or.inl rfl) (fun q hq => by cases hq; rfl) k39 ?_
    replace h := h _ rfl
    refine r_goto (pc := 23) (tgt := 0) dX12_next_23 (by decide) ?_
    exact h
theorem vX12_next_152 {G : GG} {d rc rs : Nat} (p0 : Nat) (x1 : Int32) (u0 : Int32)  {M : Mem} {Q : Option Value → Mem → Prop} (h : (¬ u0 = 0 → (¬ x1 = 60 → Q none M) ∧ (x1 = 60 → (x_h M p0).1 = 28 ∧ Call G d 0 0 mX12_byteAt [.ref p0, .int (x_i M p0 38)] M (fun r4 M5 => ∃ v6 : Int32, r4 = some (.int v6) ∧ (¬ v6 = 61 → Q none M5) ∧ (v6 = 61 → (x_h M5 p0).1 = 28 ∧ (∀ M9, M9 = x_si M5 p0 39 11 → ∀ M10, M10 = x_si M9 p0 38 ((x_i M9 p0 38) + 1) → Q none M10))))) ∧ (u0 = 0 → (x_h M p0).1 = 28 ∧ Call G d 0 0 mX12_cannot [.ref p0] M (fun r12 M13 => r12 = none ∧ Q none M13))) : LX12_next_152 G d rc rs p0 x1 u0 M Q := by
  show Wk G (d + 1) rc rs mX12_next 152 _ _ M Q
  refine r_istore_n (pc := 152) (i := 2) dX12_next_152 rfl rfl (Nat.le_of_ble_eq_true rfl) ?_
  refine r_iload_n (pc := 153) (i := 2) dX12_next_153 rfl rfl ?_
  refine r_if_ne (pc := 154) (tgt := 164) dX12_next_154 (by decide) (fun c1 => ?_) (fun c1 => ?_)
  · replace h := h.1 c1
    refine r_iload_n (pc := 164) (i := 1) dX12_next_164 rfl rfl ?_
    refine r_bipush (pc := 165) (v := 60) dX12_next_165 (by decide) ?_
    refine r_icmp_ne (pc := 167) (tgt := 199) dX12_next_167 (by decide) (fun c2 => ?_) (fun c2 => ?_)
    · replace h := h.1 c2
      exact r_vret (pc := 199) dX12_next_199 rfl h
    · replace h := h.2 c2
      refine r_aload_n (pc := 170) (i := 0) dX12_next_170 rfl rfl ?_
      refine r_aload_n (pc := 171) (i := 0) dX12_next_171 rfl rfl ?_
      obtain ⟨k3, h⟩ := h
      refine r_geti (pc := 172) flX12_310 dX12_next_172 (Or.inl rfl) k3 ?_
      refine r_callV (pc := 175) (ci := 12) (as := [_]) (st := []) okX12_byteAt lkX12_313 inX12_byteAt seX12_byteAt ⟨_, rfl, rfl⟩ dX12_next_175 rfl k3 (Nat.le_of_ble_eq_true rfl) (Nat.zero_le _) (Nat.zero_le _) (Call.mono h (fun r4 M5 h => ?_))
      obtain ⟨v6, rfl, h⟩ := h
      refine r_bipush (pc := 178) (v := 61) dX12_next_178 (by decide) ?_
      refine r_icmp_ne (pc := 180) (tgt := 199) dX12_next_180 (by decide) (fun c7 => ?_) (fun c7 => ?_)
      · replace h := h.1 c7
        exact r_vret (pc := 199) dX12_next_199 rfl h
      · replace h := h.2 c7
        refine r_aload_n (pc := 183) (i := 0) dX12_next_183 rfl rfl ?_
        refine r_bipush (pc := 184) (v := 11) dX12_next_184 (by decide) ?_
        obtain ⟨k8, h⟩ := h
        refine r_puti (pc := 186) flX12_307 dX12_next_186 (Or.inl rfl) (fun q hq => by cases hq; rfl) k8 ?_
        replace h := h _ rfl
        refine r_aload_n (pc := 189) (i := 0) dX12_next_189 rfl rfl ?_
        refine r_dup (pc := 190) dX12_next_190 rfl ?_
        refine r_geti (pc := 191) flX12_310 dX12_next_191 (Or.inl rfl) k8 ?_
        refine r_iconst (pc := 194) (v := 1) dX12_next_194 (by decide) ?_
        refine r_iadd (pc := 195) dX12_next_195 ?_
        refine r_puti (pc := 196) flX12_310 dX12_next_196 (Or.inl rfl) (fun q hq => by cases hq; rfl) k8 ?_
        replace h := h _ rfl
        exact r_vret (pc := 199) dX12_next_199 rfl h
  · replace h := h.2 c1
    refine r_aload_n (pc := 157) (i := 0) dX12_next_157 rfl rfl ?_
    obtain ⟨k11, h⟩ := h
    refine r_callV (pc := 158) (ci := 12) (as := []) (st := []) okX12_cannot lkX12_331 inX12_cannot seX12_cannot ⟨_, rfl, rfl⟩ dX12_next_158 rfl k11 (Nat.le_of_ble_eq_true rfl) (Nat.zero_le _) (Nat.zero_le _) (Call.mono h (fun r12 M13 h => ?_))
    obtain ⟨rfl, h⟩ := h
    refine r_goto (pc := 161) (tgt := 199) dX12_next_161 (by decide) ?_
    exact r_vret (pc := 199) dX12_next_199 rfl h
abbrev LX12_digits_5 (G : GG) (d rc rs : Nat) (p0 : Nat) (M : Mem) (Q : Option Value → Mem → Prop) : Prop := Wk G (d + 1) rc rs mX12_digits 5 [some (.ref p0)] [] M Q
theorem eX12_digits {G : GG} {d rc rs : Nat} (o : Nat)  {M : Mem} {Q : Option Value → Mem → Prop} (h : (x_h M o).1 = 28 ∧ (∀ M2, M2 = x_si M o 40 0 → LX12_digits_5 G d rc rs o M2 Q)) : Call G (d + 1) rc rs mX12_digits [.ref o] M Q := by
  refine call_of (by decide) (Nat.le_of_ble_eq_true rfl) ?_
  show Wk G (d + 1) rc rs mX12_digits 0 [some (.ref o)] [] M Q
  refine r_aload_n (pc := 0) (i := 0) dX12_digits_0 rfl rfl ?_
  refine r_iconst (pc := 1) (v := 0) dX12_digits_1 (by decide) ?_
  obtain ⟨k1, h⟩ := h
  refine r_puti (pc := 2) flX12_328 dX12_digits_2 (Or.inl rfl) (fun q hq => by cases hq; rfl) k1 ?_
  replace h := h _ rfl
  exact h
theorem vX12_digits_5 {G : GG} {d rc rs : Nat} (p0 : Nat)  {M : Mem} {Q : Option Value → Mem → Prop} (h : (x_h M p0).1 = 28 ∧ Call G d 0 0 mX12_byteAt [.ref p0, .int (x_i M p0 38)] M (fun r2 M3 => ∃ v4 : Int32, r2 = some (.int v4) ∧ Call G d 0 0 mX12_isDigit [.int v4] M3 (fun r5 M6 => ∃ v7 : Int32, r5 = some (.int v7) ∧ (v7 = 0 → (x_h M6 p0).1 = 28 ∧ (∀ M10, M10 = x_si M6 p0 39 1 → (((x_i M10 p0 38) - (x_i M10 p0 41)) ≤ 2 → Q none M10) ∧ (¬ ((x_i M10 p0 38) - (x_i M10 p0 41)) ≤ 2 → Call G d 0 0 mX12_cannot [.ref p0] M10 (fun r12 M13 => r12 = none ∧ Q none M13)))) ∧ (¬ v7 = 0 → (x_h M6 p0).1 = 28 ∧ (1000 ≤ (x_i M6 p0 40) → ∀ M16, M16 = x_si M6 p0 40 (x_i M6 p0 40) → ∀ M17, M17 = x_si M16 p0 38 ((x_i M16 p0 38) + 1) → LX12_digits_5 G d rc rs p0 M17 Q) ∧ (¬ 1000 ≤ (x_i M6 p0 40) → Call G d 0 0 mX12_byteAt [.ref p0, .int (x_i M6 p0 38)] M6 (fun r18 M19 => ∃ v20 : Int32, r18 = some (.int v20) ∧ (x_h M19 p0).1 = 28 ∧ (∀ M22, M22 = x_si M19 p0 40 (((10 * (x_i M6 p0 40)) + v20) - 48) → ∀ M23, M23 = x_si M22 p0 38 ((x_i M22 p0 38) + 1) → LX12_digits_5 G d rc rs p0 M23 Q))))))) : LX12_digits_5 G d rc rs p0 M Q := by
  show Wk G (d + 1) rc rs mX12_digits 5 _ _ M Q
  refine r_aload_n (pc := 5) (i := 0) dX12_digits_5 rfl rfl ?_
  refine r_aload_n (pc := 6) (i := 0) dX12_digits_6 rfl rfl ?_
  obtain ⟨k1, h⟩ := h
  refine r_geti (pc := 7) flX12_310 dX12_digits_7 (Or.inl rfl) k1 ?_
  refine r_callV (pc := 10) (ci := 12) (as := [_]) (st := []) okX12_byteAt lkX12_313 inX12_byteAt seX12_byteAt ⟨_, rfl, rfl⟩ dX12_digits_10 rfl k1 (Nat.le_of_ble_eq_true rfl) (Nat.zero_le _) (Nat.zero_le _) (Call.mono h (fun r2 M3 h => ?_))
  obtain ⟨v4, rfl, h⟩ := h
  refine r_callS (pc := 13) (as := [_]) (st := []) okX12_isDigit lkX12_316 stX12_isDigit dX12_digits_13 rfl (Nat.le_of_ble_eq_true rfl) (Nat.zero_le _) (Nat.zero_le _) (Call.mono h (fun r5 M6 h => ?_))
  obtain ⟨v7, rfl, h⟩ := h
  refine r_if_eq (pc := 16) (tgt := 72) dX12_digits_16 (by decide) (fun c8 => ?_) (fun c8 => ?_)
  · replace h := h.1 c8
    refine r_aload_n (pc := 72) (i := 0) dX12_digits_72 rfl rfl ?_
    refine r_iconst (pc := 73) (v := 1) dX12_digits_73 (by decide) ?_
    obtain ⟨k9, h⟩ := h
    refine r_puti (pc := 74) flX12_307 dX12_digits_74 (Or.inl rfl) (fun q hq => by cases hq; rfl) k9 ?_
    replace h := h _ rfl
    refine r_aload_n (pc := 77) (i := 0) dX12_digits_77 rfl rfl ?_
    refine r_geti (pc := 78) flX12_310 dX12_digits_78 (Or.inl rfl) k9 ?_
    refine r_aload_n (pc := 81) (i := 0) dX12_digits_81 rfl rfl ?_
    refine r_geti (pc := 82) flX12_301 dX12_digits_82 (Or.inl rfl) k9 ?_
    refine r_isub (pc := 85) dX12_digits_85 ?_
    refine r_iconst (pc := 86) (v := 2) dX12_digits_86 (by decide) ?_
    refine r_icmp_le (pc := 87) (tgt := 94) dX12_digits_87 (by decide) (fun c11 => ?_) (fun c11 => ?_)
    · replace h := h.1 c11
      exact r_vret (pc := 94) dX12_digits_94 rfl h
    · replace h := h.2 c11
      refine r_aload_n (pc := 90) (i := 0) dX12_digits_90 rfl rfl ?_
      refine r_callV (pc := 91) (ci := 12) (as := []) (st := []) okX12_cannot lkX12_331 inX12_cannot seX12_cannot ⟨_, rfl, rfl⟩ dX12_digits_91 rfl k9 (Nat.le_of_ble_eq_true rfl) (Nat.zero_le _) (Nat.zero_le _) (Call.mono h (fun r12 M13 h => ?_))
      obtain ⟨rfl, h⟩ := h
      exact r_vret (pc := 94) dX12_digits_94 rfl h
  · replace h := h.2 c8
    refine r_aload_n (pc := 19) (i := 0) dX12_digits_19 rfl rfl ?_
    refine r_aload_n (pc := 20) (i := 0) dX12_digits_20 rfl rfl ?_
    obtain ⟨k14, h⟩ := h
    refine r_geti (pc := 21) flX12_328 dX12_digits_21 (Or.inl rfl) k14 ?_
    refine r_sipush (pc := 24) (v := 1000) dX12_digits_24 (by decide) ?_
    refine r_icmp_ge (pc := 27) (tgt := 52) dX12_digits_27 (by decide) (fun c15 => ?_) (fun c15 => ?_)
    · replace h := h.1 c15
      refine r_aload_n (pc := 52) (i := 0) dX12_digits_52 rfl rfl ?_
      refine r_geti (pc := 53) flX12_328 dX12_digits_53 (Or.inl rfl) k14 ?_
      refine r_puti (pc := 56) flX12_328 dX12_digits_56 (Or.inl rfl) (fun q hq => by cases hq; rfl) k14 ?_
      replace h := h _ rfl
      refine r_aload_n (pc := 59) (i := 0) dX12_digits_59 rfl rfl ?_
      refine r_dup (pc := 60) dX12_digits_60 rfl ?_
      refine r_geti (pc := 61) flX12_310 dX12_digits_61 (Or.inl rfl) k14 ?_
      refine r_iconst (pc := 64) (v := 1) dX12_digits_64 (by decide) ?_
      refine r_iadd (pc := 65) dX12_digits_65 ?_
      refine r_puti (pc := 66) flX12_310 dX12_digits_66 (Or.inl rfl) (fun q hq => by cases hq; rfl) k14 ?_
      replace h := h _ rfl
      refine r_goto (pc := 69) (tgt := 5) dX12_digits_69 (by decide) ?_
      exact h
    · replace h := h.2 c15
      refine r_bipush (pc := 30) (v := 10) dX12_digits_30 (by decide) ?_
      refine r_aload_n (pc := 32) (i := 0) dX12_digits_32 rfl rfl ?_
      refine r_geti (pc := 33) flX12_328 dX12_digits_33 (Or.inl rfl) k14 ?_
      refine r_imul (pc := 36) dX12_digits_36 ?_
      refine r_aload_n (pc := 37) (i := 0) dX12_digits_37 rfl rfl ?_
      refine r_aload_n (pc := 38) (i := 0) dX12_digits_38 rfl rfl ?_
      refine r_geti (pc := 39) flX12_310 dX12_digits_39 (Or.inl rfl) k14 ?_
      refine r_callV (pc := 42) (ci := 12) (as := [_]) (st := [_, _]) okX12_byteAt lkX12_313 inX12_byteAt seX12_byteAt ⟨_, rfl, rfl⟩ dX12_digits_42 rfl k14 (Nat.le_of_ble_eq_true rfl) (Nat.zero_le _) (Nat.zero_le _) (Call.mono h (fun r18 M19 h => ?_))
      obtain ⟨v20, rfl, h⟩ := h
      refine r_iadd (pc := 45) dX12_digits_45 ?_
      refine r_bipush (pc := 46) (v := 48) dX12_digits_46 (by decide) ?_
      refine r_isub (pc := 48) dX12_digits_48 ?_
      refine r_goto (pc := 49) (tgt := 56) dX12_digits_49 (by decide) ?_
      obtain ⟨k21, h⟩ := h
      refine r_puti (pc := 56) flX12_328 dX12_digits_56 (Or.inl rfl) (fun q hq => by cases hq; rfl) k21 ?_
      replace h := h _ rfl
      refine r_aload_n (pc := 59) (i := 0) dX12_digits_59 rfl rfl ?_
      refine r_dup (pc := 60) dX12_digits_60 rfl ?_
      refine r_geti (pc := 61) flX12_310 dX12_digits_61 (Or.inl rfl) k21 ?_
      refine r_iconst (pc := 64) (v := 1) dX12_digits_64 (by decide) ?_
      refine r_iadd (pc := 65) dX12_digits_65 ?_
      refine r_puti (pc := 66) flX12_310 dX12_digits_66 (Or.inl rfl) (fun q hq => by cases hq; rfl) k21 ?_
      replace h := h _ rfl
      refine r_goto (pc := 69) (tgt := 5) dX12_digits_69 (by decide) ?_
      exact h
theorem eX12_isWord {G : GG} {d rc rs : Nat} (o : Nat) (a1 : Int32) (a2 : Int32) (a3 : Int32) (a4 : Int32)  {M : Mem} {Q : Option Value → Mem → Prop} (h : (x_h M o).1 = 28 ∧ (¬ ((x_i M o 38) - (x_i M o 41)) = a1 → Q (some (.int 0)) M) ∧ (((x_i M o 38) - (x_i M o 41)) = a1 → Call G d 0 0 mX12_byteAt [.ref o, .int (x_i M o 41)] M (fun r3 M4 => ∃ v5 : Int32, r3 = some (.int v5) ∧ (¬ v5 = a2 → Q (some (.int 0)) M4) ∧ (v5 = a2 → (a1 < 2 → (a1 < 3 → Q (some (.int 1)) M4) ∧ (¬ a1 < 3 → (x_h M4 o).1 = 28 ∧ Call G d 0 0 mX12_byteAt [.ref o, .int ((x_i M4 o 41) + 2)] M4 (fun r10 M11 => ∃ v12 : Int32, r10 = some (.int v12) ∧ (¬ v12 = a4 → Q (some (.int 0)) M11) ∧ (v12 = a4 → Q (some (.int 1)) M11)))) ∧ (¬ a1 < 2 → (x_h M4 o).1 = 28 ∧ Call G d 0 0 mX12_byteAt [.ref o, .int ((x_i M4 o 41) + 1)] M4 (fun r15 M16 => ∃ v17 : Int32, r15 = some (.int v17) ∧ (¬ v17 = a3 → Q (some (.int 0)) M16) ∧ (v17 = a3 → (a1 < 3 → Q (some (.int 1)) M16) ∧ (¬ a1 < 3 → (x_h M16 o).1 = 28 ∧ Call G d 0 0 mX12_byteAt [.ref o, .int ((x_i M16 o 41) + 2)] M16 (fun r21 M22 => ∃ v23 : Int32, r21 = some (.int v23) ∧ (¬ v23 = a4 → Q (some (.int 0)) M22) ∧ (v23 = a4 → Q (some (.int 1)) M22)))))))))) : Call G (d + 1) rc rs mX12_isWord [.ref o, .int a1, .int a2, .int a3, .int a4] M Q := by
  refine call_of (by decide) (Nat.le_of_ble_eq_true rfl) ?_
  show Wk G (d + 1) rc rs mX12_isWord 0 [some (.ref o), some (.int a1), some (.int a2), some (.int a3), some (.int a4)] [] M Q
  refine r_aload_n (pc := 0) (i := 0) dX12_isWord_0 rfl rfl ?_
  obtain ⟨k1, h⟩ := h
  refine r_geti (pc := 1) flX12_310 dX12_isWord_1 (Or.inl rfl) k1 ?_
  refine r_aload_n (pc := 4) (i := 0) dX12_isWord_4 rfl rfl ?_
  refine r_geti (pc := 5) flX12_301 dX12_isWord_5 (Or.inl rfl) k1 ?_
  refine r_isub (pc := 8) dX12_isWord_8 ?_
  refine r_iload_n (pc := 9) (i := 1) dX12_isWord_9 rfl rfl ?_
  refine r_icmp_ne (pc := 10) (tgt := 68) dX12_isWord_10 (by decide) (fun c2 => ?_) (fun c2 => ?_)
  · replace h := h.1 c2
    refine r_iconst (pc := 68) (v := 0) dX12_isWord_68 (by decide) ?_
    exact r_zret (pc := 69) dX12_isWord_69 rfl (Or.inl rfl) h
  · replace h := h.2 c2
    refine r_aload_n (pc := 13) (i := 0) dX12_isWord_13 rfl rfl ?_
    refine r_aload_n (pc := 14) (i := 0) dX12_isWord_14 rfl rfl ?_
    refine r_geti (pc := 15) flX12_301 dX12_isWord_15 (Or.inl rfl) k1 ?_
    refine r_callV (pc := 18) (ci := 12) (as := [_]) (st := []) okX12_byteAt lkX12_313 inX12_byteAt seX12_byteAt ⟨_, rfl, rfl⟩ dX12_isWord_18 rfl k1 (Nat.le_of_ble_eq_true rfl) (Nat.zero_le _) (Nat.zero_le _) (Call.mono h (fun r3 M4 h => ?_))
    obtain ⟨v5, rfl, h⟩ := h
    refine r_iload_n (pc := 21) (i := 2) dX12_isWord_21 rfl rfl ?_
    refine r_icmp_ne (pc := 22) (tgt := 68) dX12_isWord_22 (by decide) (fun c6 => ?_) (fun c6 => ?_)
    · replace h := h.1 c6
      refine r_iconst (pc := 68) (v := 0) dX12_isWord_68 (by decide) ?_
      exact r_zret (pc := 69) dX12_isWord_69 rfl (Or.inl rfl) h
    · replace h := h.2 c6
      refine r_iload_n (pc := 25) (i := 1) dX12_isWord_25 rfl rfl ?_
      refine r_iconst (pc := 26) (v := 2) dX12_isWord_26 (by decide) ?_
      refine r_icmp_lt (pc := 27) (tgt := 44) dX12_isWord_27 (by decide) (fun c7 => ?_) (fun c7 => ?_)
      · replace h := h.1 c7
        refine r_iload_n (pc := 44) (i := 1) dX12_isWord_44 rfl rfl ?_
        refine r_iconst (pc := 45) (v := 3) dX12_isWord_45 (by decide) ?_
        refine r_icmp_lt (pc := 46) (tgt := 64) dX12_isWord_46 (by decide) (fun c8 => ?_) (fun c8 => ?_)
        · replace h := h.1 c8
          refine r_iconst (pc := 64) (v := 1) dX12_isWord_64 (by decide) ?_
          refine r_goto (pc := 65) (tgt := 69) dX12_isWord_65 (by decide) ?_
          exact r_zret (pc := 69) dX12_isWord_69 rfl (Or.inr rfl) h
        · replace h := h.2 c8
          refine r_aload_n (pc := 49) (i := 0) dX12_isWord_49 rfl rfl ?_
          refine r_aload_n (pc := 50) (i := 0) dX12_isWord_50 rfl rfl ?_
          obtain ⟨k9, h⟩ := h
          refine r_geti (pc := 51) flX12_301 dX12_isWord_51 (Or.inl rfl) k9 ?_
          refine r_iconst (pc := 54) (v := 2) dX12_isWord_54 (by decide) ?_
          refine r_iadd (pc := 55) dX12_isWord_55 ?_
          refine r_callV (pc := 56) (ci := 12) (as := [_]) (st := []) okX12_byteAt lkX12_313 inX12_byteAt seX12_byteAt ⟨_, rfl, rfl⟩ dX12_isWord_56 rfl k9 (Nat.le_of_ble_eq_true rfl) (Nat.zero_le _) (Nat.zero_le _) (Call.mono h (fun r10 M11 h => ?_))
          obtain ⟨v12, rfl, h⟩ := h
          refine r_iload (pc := 59) (i := 4) dX12_isWord_59 rfl ?_
          refine r_icmp_ne (pc := 61) (tgt := 68) dX12_isWord_61 (by decide) (fun c13 => ?_) (fun c13 => ?_)
          · replace h := h.1 c13
            refine r_iconst (pc := 68) (v := 0) dX12_isWord_68 (by decide) ?_
            exact r_zret (pc := 69) dX12_isWord_69 rfl (Or.inl rfl) h
          · replace h := h.2 c13
            refine r_iconst (pc := 64) (v := 1) dX12_isWord_64 (by decide) ?_
            refine r_goto (pc := 65) (tgt := 69) dX12_isWord_65 (by decide) ?_
            exact r_zret (pc := 69) dX12_isWord_69 rfl (Or.inr rfl) h
      · replace h := h.2 c7
        refine r_aload_n (pc := 30) (i := 0) dX12_isWord_30 rfl rfl ?_
        refine r_aload_n (pc := 31) (i := 0) dX12_isWord_31 rfl rfl ?_
        obtain ⟨k14, h⟩ := h
        refine r_geti (pc := 32) flX12_301 dX12_isWord_32 (Or.inl rfl) k14 ?_
        refine r_iconst (pc := 35) (v := 1) dX12_isWord_35 (by decide) ?_
        refine r_iadd (pc := 36) dX12_isWord_36 ?_
        refine r_callV (pc := 37) (ci := 12) (as := [_]) (st := []) okX12_byteAt lkX12_313 inX12_byteAt seX12_byteAt ⟨_, rfl, rfl⟩ dX12_isWord_37 rfl k14 (Nat.le_of_ble_eq_true rfl) (Nat.zero_le _) (Nat.zero_le _) (Call.mono h (fun r15 M16 h => ?_))
        obtain ⟨v17, rfl, h⟩ := h
        refine r_iload_n (pc := 40) (i := 3) dX12_isWord_40 rfl rfl ?_
        refine r_icmp_ne (pc := 41) (tgt := 68) dX12_isWord_41 (by decide) (fun c18 => ?_) (fun c18 => ?_)
        · replace h := h.1 c18
          refine r_iconst (pc := 68) (v := 0) dX12_isWord_68 (by decide) ?_
          exact r_zret (pc := 69) dX12_isWord_69 rfl (Or.inl rfl) h
        · replace h := h.2 c18
          refine r_iload_n (pc := 44) (i := 1) dX12_isWord_44 rfl rfl ?_
          refine r_iconst (pc := 45) (v := 3) dX12_isWord_45 (by decide) ?_
          refine r_icmp_lt (pc := 46) (tgt := 64) dX12_isWord_46 (by decide) (fun c19 => ?_) (fun c19 => ?_)
          · replace h := h.1 c19
            refine r_iconst (pc := 64) (v := 1) dX12_isWord_64 (by decide) ?_
            refine r_goto (pc := 65) (tgt := 69) dX12_isWord_65 (by decide) ?_
            exact r_zret (pc := 69) dX12_isWord_69 rfl (Or.inr rfl) h
          · replace h := h.2 c19
            refine r_aload_n (pc := 49) (i := 0) dX12_isWord_49 rfl rfl ?_
            refine r_aload_n (pc := 50) (i := 0) dX12_isWord_50 rfl rfl ?_
            obtain ⟨k20, h⟩ := h
            refine r_geti (pc := 51) flX12_301 dX12_isWord_51 (Or.inl rfl) k20 ?_
            refine r_iconst (pc := 54) (v := 2) dX12_isWord_54 (by decide) ?_
            refine r_iadd (pc := 55) dX12_isWord_55 ?_
            refine r_callV (pc := 56) (ci := 12) (as := [_]) (st := []) okX12_byteAt lkX12_313 inX12_byteAt seX12_byteAt ⟨_, rfl, rfl⟩ dX12_isWord_56 rfl k20 (Nat.le_of_ble_eq_true rfl) (Nat.zero_le _) (Nat.zero_le _) (Call.mono h (fun r21 M22 h => ?_))
            obtain ⟨v23, rfl, h⟩ := h
            refine r_iload (pc := 59) (i := 4) dX12_isWord_59 rfl ?_
            refine r_icmp_ne (pc := 61) (tgt := 68) dX12_isWord_61 (by decide) (fun c24 => ?_) (fun c24 => ?_)
            · replace h := h.1 c24
              refine r_iconst (pc := 68) (v := 0) dX12_isWord_68 (by decide) ?_
              exact r_zret (pc := 69) dX12_isWord_69 rfl (Or.inl rfl) h
            · replace h := h.2 c24
              refine r_iconst (pc := 64) (v := 1) dX12_isWord_64 (by decide) ?_
              refine r_goto (pc := 65) (tgt := 69) dX12_isWord_65 (by decide) ?_
              exact r_zret (pc := 69) dX12_isWord_69 rfl (Or.inr rfl) h
abbrev LX12_letters_64 (G : GG) (d rc rs : Nat) (p0 : Nat) (x1 : Int32) (M : Mem) (Q : Option Value → Mem → Prop) : Prop := Wk G (d + 1) rc rs mX12_letters 64 [some (.ref p0), some (.int x1)] [] M Q
abbrev LX12_letters_131 (G : GG) (d rc rs : Nat) (p0 : Nat) (x1 : Int32) (M : Mem) (Q : Option Value → Mem → Prop) : Prop := Wk G (d + 1) rc rs mX12_letters 131 [some (.ref p0), some (.int x1)] [] M Q
theorem eX12_letters {G : GG} {d rc rs : Nat} (o : Nat)  {M : Mem} {Q : Option Value → Mem → Prop} (h : (x_h M o).1 = 28 ∧ Call G d 0 0 mX12_byteAt [.ref o, .int (x_i M o 38)] M (fun r2 M3 => ∃ v4 : Int32, r2 = some (.int v4) ∧ (¬ v4 = 114 → LX12_letters_64 G d rc rs o v4 M3 Q) ∧ (v4 = 114 → (x_h M3 o).1 = 28 ∧ Call G d 0 0 mX12_byteAt [.ref o, .int ((x_i M3 o 38) + 1)] M3 (fun r7 M8 => ∃ v9 : Int32, r7 = some (.int v9) ∧ Call G d 0 0 mX12_isDigit [.int v9] M8 (fun r10 M11 => ∃ v12 : Int32, r10 = some (.int v12) ∧ (v12 = 0 → LX12_letters_64 G d rc rs o v4 M11 Q) ∧ (¬ v12 = 0 → (x_h M11 o).1 = 28 ∧ (∀ M15, M15 = x_si M11 o 39 3 → Call G d 0 0 mX12_byteAt [.ref o, .int ((x_i M15 o 38) + 1)] M15 (fun r16 M17 => ∃ v18 : Int32, r16 = some (.int v18) ∧ (x_h M17 o).1 = 28 ∧ (∀ M20, M20 = x_si M17 o 40 (v18 - 48) → ∀ M21, M21 = x_si M20 o 38 ((x_i M20 o 38) + 2) → Q none M21))))))))) : Call G (d + 1) rc rs mX12_letters [.ref o] M Q := by
  refine call_of (by decide) (Nat.le_of_ble_eq_true rfl) ?_
  show Wk G (d + 1) rc rs mX12_letters 0 [some (.ref o), none] [] M Q
  refine r_aload_n (pc := 0) (i := 0) dX12_letters_0 rfl rfl ?_
  refine r_aload_n (pc := 1) (i := 0) dX12_letters_1 rfl rfl ?_
  obtain ⟨k1, h⟩ := h
  refine r_geti (pc := 2) flX12_310 dX12_letters_2 (Or.inl rfl) k1 ?_
  refine r_callV (pc := 5) (ci := 12) (as := [_]) (st := []) okX12_byteAt lkX12_313 inX12_byteAt seX12_byteAt ⟨_, rfl, rfl⟩ dX12_letters_5 rfl k1 (Nat.le_of_ble_eq_true rfl) (Nat.zero_le _) (Nat.zero_le _) (Call.mono h (fun r2 M3 h => ?_))
  obtain ⟨v4, rfl, h⟩ := h
  refine r_istore_n (pc := 8) (i := 1) dX12_letters_8 rfl rfl (Nat.le_of_ble_eq_true rfl) ?_
  refine r_iload_n (pc := 9) (i := 1) dX12_letters_9 rfl rfl ?_
  refine r_bipush (pc := 10) (v := 114) dX12_letters_10 (by decide) ?_
  refine r_icmp_ne (pc := 12) (tgt := 64) dX12_letters_12 (by decide) (fun c5 => ?_) (fun c5 => ?_)
  · replace h := h.1 c5
    exact h
  · replace h := h.2 c5
    refine r_aload_n (pc := 15) (i := 0) dX12_letters_15 rfl rfl ?_
    refine r_aload_n (pc := 16) (i := 0) dX12_letters_16 rfl rfl ?_
    obtain ⟨k6, h⟩ := h
    refine r_geti (pc := 17) flX12_310 dX12_letters_17 (Or.inl rfl) k6 ?_
    refine r_iconst (pc := 20) (v := 1) dX12_letters_20 (by decide) ?_
    refine r_iadd (pc := 21) dX12_letters_21 ?_
    refine r_callV (pc := 22) (ci := 12) (as := [_]) (st := []) okX12_byteAt lkX12_313 inX12_byteAt seX12_byteAt ⟨_, rfl, rfl⟩ dX12_letters_22 rfl k6 (Nat.le_of_ble_eq_true rfl) (Nat.zero_le _) (Nat.zero_le _) (Call.mono h (fun r7 M8 h => ?_))
    obtain ⟨v9, rfl, h⟩ := h
    refine r_callS (pc := 25) (as := [_]) (st := []) okX12_isDigit lkX12_316 stX12_isDigit dX12_letters_25 rfl (Nat.le_of_ble_eq_true rfl) (Nat.zero_le _) (Nat.zero_le _) (Call.mono h (fun r10 M11 h => ?_))
    obtain ⟨v12, rfl, h⟩ := h
    refine r_if_eq (pc := 28) (tgt := 64) dX12_letters_28 (by decide) (fun c13 => ?_) (fun c13 => ?_)
    · replace h := h.1 c13
      exact h
    · replace h := h.2 c13
      refine r_aload_n (pc := 31) (i := 0) dX12_letters_31 rfl rfl ?_
      refine r_iconst (pc := 32) (v := 3) dX12_letters_32 (by decide) ?_
      obtain ⟨k14, h⟩ := h
      refine r_puti (pc := 33) flX12_307 dX12_letters_33 (Or.inl rfl) (fun q hq => by cases hq; rfl) k14 ?_
      replace h := h _ rfl
      refine r_aload_n (pc := 36) (i := 0) dX12_letters_36 rfl rfl ?_
      refine r_aload_n (pc := 37) (i := 0) dX12_letters_37 rfl rfl ?_
      refine r_aload_n (pc := 38) (i := 0) dX12_letters_38 rfl rfl ?_
      refine r_geti (pc := 39) flX12_310 dX12_letters_39 (Or.inl rfl) k14 ?_
      refine r_iconst (pc := 42) (v := 1) dX12_letters_42 (by decide) ?_
      refine r_iadd (pc := 43) dX12_letters_43 ?_
      refine r_callV (pc := 44) (ci := 12) (as := [_]) (st := [_]) okX12_byteAt lkX12_313 inX12_byteAt seX12_byteAt ⟨_, rfl, rfl⟩ dX12_letters_44 rfl k14 (Nat.le_of_ble_eq_true rfl) (Nat.zero_le _) (Nat.zero_le _) (Call.mono h (fun r16 M17 h => ?_))
      obtain ⟨v18, rfl, h⟩ := h
      refine r_bipush (pc := 47) (v := 48) dX12_letters_47 (by decide) ?_
      refine r_isub (pc := 49) dX12_letters_49 ?_
      obtain ⟨k19, h⟩ := h
      refine r_puti (pc := 50) flX12_328 dX12_letters_50 (Or.inl rfl) (fun q hq => by cases hq; rfl) k19 ?_
      replace h := h _ rfl
      refine r_aload_n (pc := 53) (i := 0) dX12_letters_53 rfl rfl ?_
      refine r_dup (pc := 54) dX12_letters_54 rfl ?_
      refine r_geti (pc := 55) flX12_310 dX12_letters_55 (Or.inl rfl) k19 ?_
      refine r_iconst (pc := 58) (v := 2) dX12_letters_58 (by decide) ?_
      refine r_iadd (pc := 59) dX12_letters_59 ?_
      refine r_puti (pc := 60) flX12_310 dX12_letters_60 (Or.inl rfl) (fun q hq => by cases hq; rfl) k19 ?_
      replace h := h _ rfl
      exact r_vret (pc := 63) dX12_letters_63 rfl h
theorem vX12_letters_64 {G : GG} {d rc rs : Nat} (p0 : Nat) (x1 : Int32)  {M : Mem} {Q : Option Value → Mem → Prop} (h : (x_h M p0).1 = 28 ∧ Call G d 0 0 mX12_byteAt [.ref p0, .int (x_i M p0 38)] M (fun r2 M3 => ∃ v4 : Int32, r2 = some (.int v4) ∧ Call G d 0 0 mX12_isLetter [.int v4] M3 (fun r5 M6 => ∃ v7 : Int32, r5 = some (.int v7) ∧ (v7 = 0 → (x_h M6 p0).1 = 28 ∧ (¬ ((x_i M6 p0 38) - (x_i M6 p0 41)) = 1 → LX12_letters_131 G d rc rs p0 x1 M6 Q) ∧ (((x_i M6 p0 38) - (x_i M6 p0 41)) = 1 → Call G d 0 0 mX12_in [.int x1, .int 97, .int 104] M6 (fun r11 M12 => ∃ v13 : Int32, r11 = some (.int v13) ∧ (v13 = 0 → LX12_letters_131 G d rc rs p0 x1 M12 Q) ∧ (¬ v13 = 0 → (x_h M12 p0).1 = 28 ∧ (∀ M16, M16 = x_si M12 p0 39 2 → ∀ M17, M17 = x_si M16 p0 40 (x1 - 97) → Q none M17))))) ∧ (¬ v7 = 0 → (x_h M6 p0).1 = 28 ∧ (∀ M19, M19 = x_si M6 p0 38 ((x_i M6 p0 38) + 1) → LX12_letters_64 G d rc rs p0 x1 M19 Q))))) : LX12_letters_64 G d rc rs p0 x1 M Q := by
  show Wk G (d + 1) rc rs mX12_letters 64 _ _ M Q
  refine r_aload_n (pc := 64) (i := 0) dX12_letters_64 rfl rfl ?_
  refine r_aload_n (pc := 65) (i := 0) dX12_letters_65 rfl rfl ?_
  obtain ⟨k1, h⟩ := h
  refine r_geti (pc := 66) flX12_310 dX12_letters_66 (Or.inl rfl) k1 ?_
  refine r_callV (pc := 69) (ci := 12) (as := [_]) (st := []) okX12_byteAt lkX12_313 inX12_byteAt seX12_byteAt ⟨_, rfl, rfl⟩ dX12_letters_69 rfl k1 (Nat.le_of_ble_eq_true rfl) (Nat.zero_le _) (Nat.zero_le _) (Call.mono h (fun r2 M3 h => ?_))
  obtain ⟨v4, rfl, h⟩ := h
  refine r_callS (pc := 72) (as := [_]) (st := []) okX12_isLetter lkX12_322 stX12_isLetter dX12_letters_72 rfl (Nat.le_of_ble_eq_true rfl) (Nat.zero_le _) (Nat.zero_le _) (Call.mono h (fun r5 M6 h => ?_))
  obtain ⟨v7, rfl, h⟩ := h
  refine r_if_eq (pc := 75) (tgt := 91) dX12_letters_75 (by decide) (fun c8 => ?_) (fun c8 => ?_)
  · replace h := h.1 c8
    refine r_aload_n (pc := 91) (i := 0) dX12_letters_91 rfl rfl ?_
    obtain ⟨k9, h⟩ := h
    refine r_geti (pc := 92) flX12_310 dX12_letters_92 (Or.inl rfl) k9 ?_
    refine r_aload_n (pc := 95) (i := 0) dX12_letters_95 rfl rfl ?_
    refine r_geti (pc := 96) flX12_301 dX12_letters_96 (Or.inl rfl) k9 ?_
    refine r_isub (pc := 99) dX12_letters_99 ?_
    refine r_iconst (pc := 100) (v := 1) dX12_letters_100 (by decide) ?_
    refine r_icmp_ne (pc := 101) (tgt := 131) dX12_letters_101 (by decide) (fun c10 => ?_) (fun c10 => ?_)
    · replace h := h.1 c10
      exact h
    · replace h := h.2 c10
      refine r_iload_n (pc := 104) (i := 1) dX12_letters_104 rfl rfl ?_
      refine r_bipush (pc := 105) (v := 97) dX12_letters_105 (by decide) ?_
      refine r_bipush (pc := 107) (v := 104) dX12_letters_107 (by decide) ?_
      refine r_callS (pc := 109) (as := [_, _, _]) (st := []) okX12_in lkX12_218 stX12_in dX12_letters_109 rfl (Nat.le_of_ble_eq_true rfl) (Nat.zero_le _) (Nat.zero_le _) (Call.mono h (fun r11 M12 h => ?_))
      obtain ⟨v13, rfl, h⟩ := h
      refine r_if_eq (pc := 112) (tgt := 131) dX12_letters_112 (by decide) (fun c14 => ?_) (fun c14 => ?_)
      · replace h := h.1 c14
        exact h
      · replace h := h.2 c14
        refine r_aload_n (pc := 115) (i := 0) dX12_letters_115 rfl rfl ?_
        refine r_iconst (pc := 116) (v := 2) dX12_letters_116 (by decide) ?_
        obtain ⟨k15, h⟩ := h
        refine r_puti (pc := 117) flX12_307 dX12_letters_117 (Or.inl rfl) (fun q hq => by cases hq; rfl) k15 ?_
        replace h := h _ rfl
        refine r_aload_n (pc := 120) (i := 0) dX12_letters_120 rfl rfl ?_
        refine r_iload_n (pc := 121) (i := 1) dX12_letters_121 rfl rfl ?_
        refine r_bipush (pc := 122) (v := 97) dX12_letters_122 (by decide) ?_
        refine r_isub (pc := 124) dX12_letters_124 ?_
        refine r_puti (pc := 125) flX12_328 dX12_letters_125 (Or.inl rfl) (fun q hq => by cases hq; rfl) k15 ?_
        replace h := h _ rfl
        refine r_goto (pc := 128) (tgt := 268) dX12_letters_128 (by decide) ?_
        exact r_vret (pc := 268) dX12_letters_268 rfl h
  · replace h := h.2 c8
    refine r_aload_n (pc := 78) (i := 0) dX12_letters_78 rfl rfl ?_
    refine r_dup (pc := 79) dX12_letters_79 rfl ?_
    obtain ⟨k18, h⟩ := h
    refine r_geti (pc := 80) flX12_310 dX12_letters_80 (Or.inl rfl) k18 ?_
    refine r_iconst (pc := 83) (v := 1) dX12_letters_83 (by decide) ?_
    refine r_iadd (pc := 84) dX12_letters_84 ?_
    refine r_puti (pc := 85) flX12_310 dX12_letters_85 (Or.inl rfl) (fun q hq => by cases hq; rfl) k18 ?_
    replace h := h _ rfl
    refine r_goto (pc := 88) (tgt := 64) dX12_letters_88 (by decide) ?_
    exact h
theorem vX12_letters_131 {G : GG} {d rc rs : Nat} (p0 : Nat) (x1 : Int32)  {M : Mem} {Q : Option Value → Mem → Prop} (h : (x_h M p0).1 = 28 ∧ Call G d 0 0 mX12_isWord [.ref p0, .int 3, .int 97, .int 108, .int 108] M (fun r2 M3 => ∃ v4 : Int32, r2 = some (.int v4) ∧ (v4 = 0 → (x_h M3 p0).1 = 28 ∧ Call G d 0 0 mX12_isWord [.ref p0, .int 2, .int 105, .int 115, .int 0] M3 (fun r7 M8 => ∃ v9 : Int32, r7 = some (.int v9) ∧ (v9 = 0 → (x_h M8 p0).1 = 28 ∧ Call G d 0 0 mX12_isWord [.ref p0, .int 3, .int 110, .int 111, .int 116] M8 (fun r12 M13 => ∃ v14 : Int32, r12 = some (.int v14) ∧ (v14 = 0 → (x_h M13 p0).1 = 28 ∧ Call G d 0 0 mX12_isWord [.ref p0, .int 3, .int 97, .int 110, .int 100] M13 (fun r17 M18 => ∃ v19 : Int32, r17 = some (.int v19) ∧ (v19 = 0 → (x_h M18 p0).1 = 28 ∧ Call G d 0 0 mX12_isWord [.ref p0, .int 2, .int 111, .int 114, .int 0] M18 (fun r22 M23 => ∃ v24 : Int32, r22 = some (.int v24) ∧ (v24 = 0 → (x_h M23 p0).1 = 28 ∧ Call G d 0 0 mX12_isWord [.ref p0, .int 2, .int 115, .int 111, .int 0] M23 (fun r27 M28 => ∃ v29 : Int32, r27 = some (.int v29) ∧ (v29 = 0 → (x_h M28 p0).1 = 28 ∧ Call G d 0 0 mX12_cannot [.ref p0] M28 (fun r32 M33 => r32 = none ∧ Q none M33)) ∧ (¬ v29 = 0 → (x_h M28 p0).1 = 28 ∧ (∀ M35, M35 = x_si M28 p0 39 9 → Q none M35)))) ∧ (¬ v24 = 0 → (x_h M23 p0).1 = 28 ∧ (∀ M37, M37 = x_si M23 p0 39 8 → Q none M37)))) ∧ (¬ v19 = 0 → (x_h M18 p0).1 = 28 ∧ (∀ M39, M39 = x_si M18 p0 39 7 → Q none M39)))) ∧ (¬ v14 = 0 → (x_h M13 p0).1 = 28 ∧ (∀ M41, M41 = x_si M13 p0 39 6 → Q none M41)))) ∧ (¬ v9 = 0 → (x_h M8 p0).1 = 28 ∧ (∀ M43, M43 = x_si M8 p0 39 5 → Q none M43)))) ∧ (¬ v4 = 0 → (x_h M3 p0).1 = 28 ∧ (∀ M45, M45 = x_si M3 p0 39 4 → Q none M45)))) : LX12_letters_131 G d rc rs p0 x1 M Q := by
  show Wk G (d + 1) rc rs mX12_letters 131 _ _ M Q
  refine r_aload_n (pc := 131) (i := 0) dX12_letters_131 rfl rfl ?_
  refine r_iconst (pc := 132) (v := 3) dX12_letters_132 (by decide) ?_
  refine r_bipush (pc := 133) (v := 97) dX12_letters_133 (by decide) ?_
  refine r_bipush (pc := 135) (v := 108) dX12_letters_135 (by decide) ?_
  refine r_bipush (pc := 137) (v := 108) dX12_letters_137 (by decide) ?_
  obtain ⟨k1, h⟩ := h
  refine r_callV (pc := 139) (ci := 12) (as := [_, _, _, _]) (st := []) okX12_isWord lkX12_334 inX12_isWord seX12_isWord ⟨_, rfl, rfl⟩ dX12_letters_139 rfl k1 (Nat.le_of_ble_eq_true rfl) (Nat.zero_le _) (Nat.zero_le _) (Call.mono h (fun r2 M3 h => ?_))
  obtain ⟨v4, rfl, h⟩ := h
  refine r_if_eq (pc := 142) (tgt := 153) dX12_letters_142 (by decide) (fun c5 => ?_) (fun c5 => ?_)
  · replace h := h.1 c5
    refine r_aload_n (pc := 153) (i := 0) dX12_letters_153 rfl rfl ?_
    refine r_iconst (pc := 154) (v := 2) dX12_letters_154 (by decide) ?_
    refine r_bipush (pc := 155) (v := 105) dX12_letters_155 (by decide) ?_
    refine r_bipush (pc := 157) (v := 115) dX12_letters_157 (by decide) ?_
    refine r_iconst (pc := 159) (v := 0) dX12_letters_159 (by decide) ?_
    obtain ⟨k6, h⟩ := h
    refine r_callV (pc := 160) (ci := 12) (as := [_, _, _, _]) (st := []) okX12_isWord lkX12_334 inX12_isWord seX12_isWord ⟨_, rfl, rfl⟩ dX12_letters_160 rfl k6 (Nat.le_of_ble_eq_true rfl) (Nat.zero_le _) (Nat.zero_le _) (Call.mono h (fun r7 M8 h => ?_))
    obtain ⟨v9, rfl, h⟩ := h
    refine r_if_eq (pc := 163) (tgt := 174) dX12_letters_163 (by decide) (fun c10 => ?_) (fun c10 => ?_)
    · replace h := h.1 c10
      refine r_aload_n (pc := 174) (i := 0) dX12_letters_174 rfl rfl ?_
      refine r_iconst (pc := 175) (v := 3) dX12_letters_175 (by decide) ?_
      refine r_bipush (pc := 176) (v := 110) dX12_letters_176 (by decide) ?_
      refine r_bipush (pc := 178) (v := 111) dX12_letters_178 (by decide) ?_
      refine r_bipush (pc := 180) (v := 116) dX12_letters_180 (by decide) ?_
      obtain ⟨k11, h⟩ := h
      refine r_callV (pc := 182) (ci := 12) (as := [_, _, _, _]) (st := []) okX12_isWord lkX12_334 inX12_isWord seX12_isWord ⟨_, rfl, rfl⟩ dX12_letters_182 rfl k11 (Nat.le_of_ble_eq_true rfl) (Nat.zero_le _) (Nat.zero_le _) (Call.mono h (fun r12 M13 h => ?_))
      obtain ⟨v14, rfl, h⟩ := h
      refine r_if_eq (pc := 185) (tgt := 197) dX12_letters_185 (by decide) (fun c15 => ?_) (fun c15 => ?_)
      · replace h := h.1 c15
        refine r_aload_n (pc := 197) (i := 0) dX12_letters_197 rfl rfl ?_
        refine r_iconst (pc := 198) (v := 3) dX12_letters_198 (by decide) ?_
        refine r_bipush (pc := 199) (v := 97) dX12_letters_199 (by decide) ?_
        refine r_bipush (pc := 201) (v := 110) dX12_letters_201 (by decide) ?_
        refine r_bipush (pc := 203) (v := 100) dX12_letters_203 (by decide) ?_
        obtain ⟨k16, h⟩ := h
        refine r_callV (pc := 205) (ci := 12) (as := [_, _, _, _]) (st := []) okX12_isWord lkX12_334 inX12_isWord seX12_isWord ⟨_, rfl, rfl⟩ dX12_letters_205 rfl k16 (Nat.le_of_ble_eq_true rfl) (Nat.zero_le _) (Nat.zero_le _) (Call.mono h (fun r17 M18 h => ?_))
        obtain ⟨v19, rfl, h⟩ := h
        refine r_if_eq (pc := 208) (tgt := 220) dX12_letters_208 (by decide) (fun c20 => ?_) (fun c20 => ?_)
        · replace h := h.1 c20
          refine r_aload_n (pc := 220) (i := 0) dX12_letters_220 rfl rfl ?_
          refine r_iconst (pc := 221) (v := 2) dX12_letters_221 (by decide) ?_
          refine r_bipush (pc := 222) (v := 111) dX12_letters_222 (by decide) ?_
          refine r_bipush (pc := 224) (v := 114) dX12_letters_224 (by decide) ?_
          refine r_iconst (pc := 226) (v := 0) dX12_letters_226 (by decide) ?_
          obtain ⟨k21, h⟩ := h
          refine r_callV (pc := 227) (ci := 12) (as := [_, _, _, _]) (st := []) okX12_isWord lkX12_334 inX12_isWord seX12_isWord ⟨_, rfl, rfl⟩ dX12_letters_227 rfl k21 (Nat.le_of_ble_eq_true rfl) (Nat.zero_le _) (Nat.zero_le _) (Call.mono h (fun r22 M23 h => ?_))
          obtain ⟨v24, rfl, h⟩ := h
          refine r_if_eq (pc := 230) (tgt := 242) dX12_letters_230 (by decide) (fun c25 => ?_) (fun c25 => ?_)
          · replace h := h.1 c25
            refine r_aload_n (pc := 242) (i := 0) dX12_letters_242 rfl rfl ?_
            refine r_iconst (pc := 243) (v := 2) dX12_letters_243 (by decide) ?_
            refine r_bipush (pc := 244) (v := 115) dX12_letters_244 (by decide) ?_
            refine r_bipush (pc := 246) (v := 111) dX12_letters_246 (by decide) ?_
            refine r_iconst (pc := 248) (v := 0) dX12_letters_248 (by decide) ?_
            obtain ⟨k26, h⟩ := h
            refine r_callV (pc := 249) (ci := 12) (as := [_, _, _, _]) (st := []) okX12_isWord lkX12_334 inX12_isWord seX12_isWord ⟨_, rfl, rfl⟩ dX12_letters_249 rfl k26 (Nat.le_of_ble_eq_true rfl) (Nat.zero_le _) (Nat.zero_le _) (Call.mono h (fun r27 M28 h => ?_))
            obtain ⟨v29, rfl, h⟩ := h
            refine r_if_eq (pc := 252) (tgt := 264) dX12_letters_252 (by decide) (fun c30 => ?_) (fun c30 => ?_)
            · replace h := h.1 c30
              refine r_aload_n (pc := 264) (i := 0) dX12_letters_264 rfl rfl ?_
              obtain ⟨k31, h⟩ := h
              refine r_callV (pc := 265) (ci := 12) (as := []) (st := []) okX12_cannot lkX12_331 inX12_cannot seX12_cannot ⟨_, rfl, rfl⟩ dX12_letters_265 rfl k31 (Nat.le_of_ble_eq_true rfl) (Nat.zero_le _) (Nat.zero_le _) (Call.mono h (fun r32 M33 h => ?_))
              obtain ⟨rfl, h⟩ := h
              exact r_vret (pc := 268) dX12_letters_268 rfl h
            · replace h := h.2 c30
              refine r_aload_n (pc := 255) (i := 0) dX12_letters_255 rfl rfl ?_
              refine r_bipush (pc := 256) (v := 9) dX12_letters_256 (by decide) ?_
              obtain ⟨k34, h⟩ := h
              refine r_puti (pc := 258) flX12_307 dX12_letters_258 (Or.inl rfl) (fun q hq => by cases hq; rfl) k34 ?_
              replace h := h _ rfl
              refine r_goto (pc := 261) (tgt := 268) dX12_letters_261 (by decide) ?_
              exact r_vret (pc := 268) dX12_letters_268 rfl h
          · replace h := h.2 c25
            refine r_aload_n (pc := 233) (i := 0) dX12_letters_233 rfl rfl ?_
            refine r_bipush (pc := 234) (v := 8) dX12_letters_234 (by decide) ?_
            obtain ⟨k36, h⟩ := h
            refine r_puti (pc := 236) flX12_307 dX12_letters_236 (Or.inl rfl) (fun q hq => by cases hq; rfl) k36 ?_
            replace h := h _ rfl
            refine r_goto (pc := 239) (tgt := 268) dX12_letters_239 (by decide) ?_
            exact r_vret (pc := 268) dX12_letters_268 rfl h
        · replace h := h.2 c20
          refine r_aload_n (pc := 211) (i := 0) dX12_letters_211 rfl rfl ?_
          refine r_bipush (pc := 212) (v := 7) dX12_letters_212 (by decide) ?_
          obtain ⟨k38, h⟩ := h
          refine r_puti (pc := 214) flX12_307 dX12_letters_214 (Or.inl rfl) (fun q hq => by cases hq; rfl) k38 ?_
          replace h := h _ rfl
          refine r_goto (pc := 217) (tgt := 268) dX12_letters_217 (by decide) ?_
          exact r_vret (pc := 268) dX12_letters_268 rfl h
      · replace h := h.2 c15
        refine r_aload_n (pc := 188) (i := 0) dX12_letters_188 rfl rfl ?_
        refine r_bipush (pc := 189) (v := 6) dX12_letters_189 (by decide) ?_
        obtain ⟨k40, h⟩ := h
        refine r_puti (pc := 191) flX12_307 dX12_letters_191 (Or.inl rfl) (fun q hq => by cases hq; rfl) k40 ?_
        replace h := h _ rfl
        refine r_goto (pc := 194) (tgt := 268) dX12_letters_194 (by decide) ?_
        exact r_vret (pc := 268) dX12_letters_268 rfl h
    · replace h := h.2 c10
      refine r_aload_n (pc := 166) (i := 0) dX12_letters_166 rfl rfl ?_
      refine r_iconst (pc := 167) (v := 5) dX12_letters_167 (by decide) ?_
      obtain ⟨k42, h⟩ := h
      refine r_puti (pc := 168) flX12_307 dX12_letters_168 (Or.inl rfl) (fun q hq => by cases hq; rfl) k42 ?_
      replace h := h _ rfl
      refine r_goto (pc := 171) (tgt := 268) dX12_letters_171 (by decide) ?_
      exact r_vret (pc := 268) dX12_letters_268 rfl h
  · replace h := h.2 c5
    refine r_aload_n (pc := 145) (i := 0) dX12_letters_145 rfl rfl ?_
    refine r_iconst (pc := 146) (v := 4) dX12_letters_146 (by decide) ?_
    obtain ⟨k44, h⟩ := h
    refine r_puti (pc := 147) flX12_307 dX12_letters_147 (Or.inl rfl) (fun q hq => by cases hq; rfl) k44 ?_
    replace h := h _ rfl
    refine r_goto (pc := 150) (tgt := 268) dX12_letters_150 (by decide) ?_
    exact r_vret (pc := 268) dX12_letters_268 rfl h
theorem eX12_isSign {G : GG} {d rc rs : Nat} (o : Nat) (a1 : Int32)  {M : Mem} {Q : Option Value → Mem → Prop} (h : (x_h M o).1 = 28 ∧ (¬ (x_i M o 39) = 10 → Q (some (.int 0)) M) ∧ ((x_i M o 39) = 10 → (¬ (x_i M o 40) = a1 → Q (some (.int 0)) M) ∧ ((x_i M o 40) = a1 → Q (some (.int 1)) M))) : Call G (d + 1) rc rs mX12_isSign [.ref o, .int a1] M Q := by
  refine call_of (by decide) (Nat.le_of_ble_eq_true rfl) ?_
  show Wk G (d + 1) rc rs mX12_isSign 0 [some (.ref o), some (.int a1)] [] M Q
  refine r_aload_n (pc := 0) (i := 0) dX12_isSign_0 rfl rfl ?_
  obtain ⟨k1, h⟩ := h
  refine r_geti (pc := 1) flX12_307 dX12_isSign_1 (Or.inl rfl) k1 ?_
  refine r_bipush (pc := 4) (v := 10) dX12_isSign_4 (by decide) ?_
  refine r_icmp_ne (pc := 6) (tgt := 21) dX12_isSign_6 (by decide) (fun c2 => ?_) (fun c2 => ?_)
  · replace h := h.1 c2
    refine r_iconst (pc := 21) (v := 0) dX12_isSign_21 (by decide) ?_
    exact r_zret (pc := 22) dX12_isSign_22 rfl (Or.inl rfl) h
  · replace h := h.2 c2
    refine r_aload_n (pc := 9) (i := 0) dX12_isSign_9 rfl rfl ?_
    refine r_geti (pc := 10) flX12_328 dX12_isSign_10 (Or.inl rfl) k1 ?_
    refine r_iload_n (pc := 13) (i := 1) dX12_isSign_13 rfl rfl ?_
    refine r_icmp_ne (pc := 14) (tgt := 21) dX12_isSign_14 (by decide) (fun c3 => ?_) (fun c3 => ?_)
    · replace h := h.1 c3
      refine r_iconst (pc := 21) (v := 0) dX12_isSign_21 (by decide) ?_
      exact r_zret (pc := 22) dX12_isSign_22 rfl (Or.inl rfl) h
    · replace h := h.2 c3
      refine r_iconst (pc := 17) (v := 1) dX12_isSign_17 (by decide) ?_
      refine r_goto (pc := 18) (tgt := 22) dX12_isSign_18 (by decide) ?_
      exact r_zret (pc := 22) dX12_isSign_22 rfl (Or.inr rfl) h
theorem eX12_need {G : GG} {d rc rs : Nat} (o : Nat) (a1 : Int32)  {M : Mem} {Q : Option Value → Mem → Prop} (h : (x_h M o).1 = 28 ∧ Call G d 0 0 mX12_isSign [.ref o, .int a1] M (fun r2 M3 => ∃ v4 : Int32, r2 = some (.int v4) ∧ (v4 = 0 → (x_h M3 o).1 = 28 ∧ Call G d 0 0 mX12_cannot [.ref o] M3 (fun r7 M8 => r7 = none ∧ Q none M8)) ∧ (¬ v4 = 0 → (x_h M3 o).1 = 28 ∧ Call G d 0 0 mX12_next [.ref o] M3 (fun r10 M11 => r10 = none ∧ Q none M11)))) : Call G (d + 1) rc rs mX12_need [.ref o, .int a1] M Q := by
  refine call_of (by decide) (Nat.le_of_ble_eq_true rfl) ?_
  show Wk G (d + 1) rc rs mX12_need 0 [some (.ref o), some (.int a1)] [] M Q
  refine r_aload_n (pc := 0) (i := 0) dX12_need_0 rfl rfl ?_
  refine r_iload_n (pc := 1) (i := 1) dX12_need_1 rfl rfl ?_
  obtain ⟨k1, h⟩ := h
  refine r_callV (pc := 2) (ci := 12) (as := [_]) (st := []) okX12_isSign lkX12_337 inX12_isSign seX12_isSign ⟨_, rfl, rfl⟩ dX12_need_2 rfl k1 (Nat.le_of_ble_eq_true rfl) (Nat.zero_le _) (Nat.zero_le _) (Call.mono h (fun r2 M3 h => ?_))
  obtain ⟨v4, rfl, h⟩ := h
  refine r_if_eq (pc := 5) (tgt := 15) dX12_need_5 (by decide) (fun c5 => ?_) (fun c5 => ?_)
  · replace h := h.1 c5
    refine r_aload_n (pc := 15) (i := 0) dX12_need_15 rfl rfl ?_
    obtain ⟨k6, h⟩ := h
    refine r_callV (pc := 16) (ci := 12) (as := []) (st := []) okX12_cannot lkX12_331 inX12_cannot seX12_cannot ⟨_, rfl, rfl⟩ dX12_need_16 rfl k6 (Nat.le_of_ble_eq_true rfl) (Nat.zero_le _) (Nat.zero_le _) (Call.mono h (fun r7 M8 h => ?_))
    obtain ⟨rfl, h⟩ := h
    exact r_vret (pc := 19) dX12_need_19 rfl h
  · replace h := h.2 c5
    refine r_aload_n (pc := 8) (i := 0) dX12_need_8 rfl rfl ?_
    obtain ⟨k9, h⟩ := h
    refine r_callV (pc := 9) (ci := 12) (as := []) (st := []) okX12_next lkX12_340 inX12_next seX12_next ⟨_, rfl, rfl⟩ dX12_need_9 rfl k9 (Nat.le_of_ble_eq_true rfl) (Nat.zero_le _) (Nat.zero_le _) (Call.mono h (fun r10 M11 h => ?_))
    obtain ⟨rfl, h⟩ := h
    refine r_goto (pc := 12) (tgt := 19) dX12_need_12 (by decide) ?_
    exact r_vret (pc := 19) dX12_need_19 rfl h
abbrev LX12_ended_24 (G : GG) (d rc rs : Nat) (p0 : Nat) (x1 : Int32) (x2 : Int32) (x3 : Int32) (x4 : Int32) (x5 : Int32) (x6 : Int32) (M : Mem) (Q : Option Value → Mem → Prop) : Prop := Wk G (d + 1) rc rs mX12_ended 24 [some (.ref p0), some (.int x1), some (.int x2), some (.int x3), some (.int x4), some (.int x5), some (.int x6)] [] M Q
theorem eX12_ended {G : GG} {d rc rs : Nat} (o : Nat) (a1 : Int32) (a2 : Int32) (a3 : Int32) (a4 : Int32) (a5 : Int32)  {M : Mem} {Q : Option Value → Mem → Prop} (h : (x_h M o).1 = 28 ∧ (129 ≤ (x_i M o 47) → LX12_ended_24 G d rc rs o a1 a2 a3 a4 a5 (x_i M o 47) M Q) ∧ (¬ 129 ≤ (x_i M o 47) → ∀ M3, M3 = x_si M o 47 ((x_i M o 47) + 1) → LX12_ended_24 G d rc rs o a1 a2 a3 a4 a5 (x_i M o 47) M3 Q)) : Call G (d + 1) rc rs mX12_ended [.ref o, .int a1, .int a2, .int a3, .int a4, .int a5] M Q := by
  refine call_of (by decide) (Nat.le_of_ble_eq_true rfl) ?_
  show Wk G (d + 1) rc rs mX12_ended 0 [some (.ref o), some (.int a1), some (.int a2), some (.int a3), some (.int a4), some (.int a5), none] [] M Q
  refine r_aload_n (pc := 0) (i := 0) dX12_ended_0 rfl rfl ?_
  obtain ⟨k1, h⟩ := h
  refine r_geti (pc := 1) flX12_343 dX12_ended_1 (Or.inl rfl) k1 ?_
  refine r_istore (pc := 4) (i := 6) dX12_ended_4 rfl (Nat.le_of_ble_eq_true rfl) ?_
  refine r_iload (pc := 6) (i := 6) dX12_ended_6 rfl ?_
  refine r_sipush (pc := 8) (v := 129) dX12_ended_8 (by decide) ?_
  refine r_icmp_ge (pc := 11) (tgt := 24) dX12_ended_11 (by decide) (fun c2 => ?_) (fun c2 => ?_)
  · replace h := h.1 c2
    exact h
  · replace h := h.2 c2
    refine r_aload_n (pc := 14) (i := 0) dX12_ended_14 rfl rfl ?_
    refine r_dup (pc := 15) dX12_ended_15 rfl ?_
    refine r_geti (pc := 16) flX12_343 dX12_ended_16 (Or.inl rfl) k1 ?_
    refine r_iconst (pc := 19) (v := 1) dX12_ended_19 (by decide) ?_
    refine r_iadd (pc := 20) dX12_ended_20 ?_
    refine r_puti (pc := 21) flX12_343 dX12_ended_21 (Or.inl rfl) (fun q hq => by cases hq; rfl) k1 ?_
    replace h := h _ rfl
    exact h
theorem vX12_ended_24 {G : GG} {d rc rs : Nat} (p0 : Nat) (x1 : Int32) (x2 : Int32) (x3 : Int32) (x4 : Int32) (x5 : Int32) (x6 : Int32)  {M : Mem} {Q : Option Value → Mem → Prop} (h : (x_h M p0).1 = 28 ∧ (∃ b2, x_r M p0 48 = some b2 ∧ (x_h M b2).1 = 1 ∧ vp_in x6 (x_h M b2).2 ∧ (∀ M5, M5 = x_si M b2 x6.toNatClampNeg x1 → ∃ b6, x_r M5 p0 49 = some b6 ∧ (x_h M b6).1 = 1 ∧ vp_in x6 (x_h M b6).2 ∧ (∀ M9, M9 = x_si M5 b6 x6.toNatClampNeg x2 → ∃ b10, x_r M9 p0 50 = some b10 ∧ (x_h M b10).1 = 1 ∧ vp_in x6 (x_h M b10).2 ∧ (∀ M13, M13 = x_si M9 b10 x6.toNatClampNeg x3 → ∃ b14, x_r M13 p0 51 = some b14 ∧ (x_h M b14).1 = 1 ∧ vp_in x6 (x_h M b14).2 ∧ (∀ M17, M17 = x_si M13 b14 x6.toNatClampNeg x4 → ∃ b18, x_r M17 p0 52 = some b18 ∧ (x_h M b18).1 = 1 ∧ vp_in x6 (x_h M b18).2 ∧ (∀ M21, M21 = x_si M17 b18 x6.toNatClampNeg x5 → Q (some (.int x6)) M21))))))) : LX12_ended_24 G d rc rs p0 x1 x2 x3 x4 x5 x6 M Q := by
  show Wk G (d + 1) rc rs mX12_ended 24 _ _ M Q
  refine r_aload_n (pc := 24) (i := 0) dX12_ended_24 rfl rfl ?_
  obtain ⟨k1, h⟩ := h
  obtain ⟨b2, hb2, h⟩ := h
  refine r_getr (pc := 25) flX12_104 dX12_ended_25 rfl k1 hb2 ?_
  refine r_iload (pc := 28) (i := 6) dX12_ended_28 rfl ?_
  refine r_iload_n (pc := 30) (i := 1) dX12_ended_30 rfl rfl ?_
  obtain ⟨k3, h⟩ := h
  obtain ⟨i4, h⟩ := h
  refine r_iast (pc := 31) dX12_ended_31 k3 i4 ?_
  replace h := h _ rfl
  refine r_aload_n (pc := 32) (i := 0) dX12_ended_32 rfl rfl ?_
  obtain ⟨b6, hb6, h⟩ := h
  refine r_getr (pc := 33) flX12_107 dX12_ended_33 rfl k1 hb6 ?_
  refine r_iload (pc := 36) (i := 6) dX12_ended_36 rfl ?_
  refine r_iload_n (pc := 38) (i := 2) dX12_ended_38 rfl rfl ?_
  obtain ⟨k7, h⟩ := h
  obtain ⟨i8, h⟩ := h
  refine r_iast (pc := 39) dX12_ended_39 k7 i8 ?_
  replace h := h _ rfl
  refine r_aload_n (pc := 40) (i := 0) dX12_ended_40 rfl rfl ?_
  obtain ⟨b10, hb10, h⟩ := h
  refine r_getr (pc := 41) flX12_110 dX12_ended_41 rfl k1 hb10 ?_
  refine r_iload (pc := 44) (i := 6) dX12_ended_44 rfl ?_
  refine r_iload_n (pc := 46) (i := 3) dX12_ended_46 rfl rfl ?_
  obtain ⟨k11, h⟩ := h
  obtain ⟨i12, h⟩ := h
  refine r_iast (pc := 47) dX12_ended_47 k11 i12 ?_
  replace h := h _ rfl
  refine r_aload_n (pc := 48) (i := 0) dX12_ended_48 rfl rfl ?_
  obtain ⟨b14, hb14, h⟩ := h
  refine r_getr (pc := 49) flX12_113 dX12_ended_49 rfl k1 hb14 ?_
  refine r_iload (pc := 52) (i := 6) dX12_ended_52 rfl ?_
  refine r_iload (pc := 54) (i := 4) dX12_ended_54 rfl ?_
  obtain ⟨k15, h⟩ := h
  obtain ⟨i16, h⟩ := h
  refine r_iast (pc := 56) dX12_ended_56 k15 i16 ?_
  replace h := h _ rfl
  refine r_aload_n (pc := 57) (i := 0) dX12_ended_57 rfl rfl ?_
  obtain ⟨b18, hb18, h⟩ := h
  refine r_getr (pc := 58) flX12_116 dX12_ended_58 rfl k1 hb18 ?_
  refine r_iload (pc := 61) (i := 6) dX12_ended_61 rfl ?_
  refine r_iload (pc := 63) (i := 5) dX12_ended_63 rfl ?_
  obtain ⟨k19, h⟩ := h
  obtain ⟨i20, h⟩ := h
  refine r_iast (pc := 65) dX12_ended_65 k19 i20 ?_
  replace h := h _ rfl
  refine r_iload (pc := 66) (i := 6) dX12_ended_66 rfl ?_
  exact r_iret (pc := 68) dX12_ended_68 rfl h
theorem eX12_f {G : GG} {d rc rs : Nat} (a1 : Nat)  {M : Mem} {Q : Option Value → Mem → Prop} (h : Call G d 0 0 mX12_or [.ref a1] M (fun r1 M2 => ∃ v3 : Int32, r1 = some (.int v3) ∧ (x_h M2 a1).1 = 28 ∧ ((x_i M2 a1 39) = 9 → Call G d 0 0 mX12_next [.ref a1] M2 (fun r6 M7 => r6 = none ∧ Call G d 0 0 mX12_f [.ref a1] M7 (fun r8 M9 => ∃ v10 : Int32, r8 = some (.int v10) ∧ (x_h M9 a1).1 = 28 ∧ Call G d 0 0 mX12_ended [.ref a1, .int 5, .int v3, .int v10, .int 0, .int (x_i M2 a1 41)] M9 (fun r12 M13 => ∃ v14 : Int32, r12 = some (.int v14) ∧ (x_h M13 a1).1 = 28 ∧ (∃ b16, x_r M13 a1 53 = some b16 ∧ (x_h M13 b16).1 = 1 ∧ vp_in v3 (x_h M13 b16).2 ∧ vp_in v10 (x_h M13 b16).2 ∧ vp_in v14 (x_h M13 b16).2 ∧ (∀ M21, M21 = x_si M13 b16 v14.toNatClampNeg ((x_i M13 b16 v3.toNatClampNeg) ||| (x_i M13 b16 v10.toNatClampNeg)) → Q (some (.int v14)) M21)))))) ∧ (¬ (x_i M2 a1 39) = 9 → Q (some (.int v3)) M2))) : Call G (d + 1) rc rs mX12_f [.ref a1] M Q := by
  refine call_of (by decide) (Nat.le_of_ble_eq_true rfl) ?_
  show Wk G (d + 1) rc rs mX12_f 0 [some (.ref a1), none, none, none, none] [] M Q
  refine r_aload_n (pc := 0) (i := 0) dX12_f_0 rfl rfl ?_
  refine r_callS (pc := 1) (as := [_]) (st := []) okX12_or lkX12_346 stX12_or dX12_f_1 rfl (Nat.le_of_ble_eq_true rfl) (Nat.zero_le _) (Nat.zero_le _) (Call.mono h (fun r1 M2 h => ?_))
  obtain ⟨v3, rfl, h⟩ := h
  refine r_istore_n (pc := 4) (i := 1) dX12_f_4 rfl rfl (Nat.le_of_ble_eq_true rfl) ?_
  refine r_aload_n (pc := 5) (i := 0) dX12_f_5 rfl rfl ?_
  obtain ⟨k4, h⟩ := h
  refine r_geti (pc := 6) flX12_307 dX12_f_6 (Or.inl rfl) k4 ?_
  refine r_bipush (pc := 9) (v := 9) dX12_f_9 (by decide) ?_
  refine r_icmp_eq (pc := 11) (tgt := 16) dX12_f_11 (by decide) (fun c5 => ?_) (fun c5 => ?_)
  · replace h := h.1 c5
    refine r_aload_n (pc := 16) (i := 0) dX12_f_16 rfl rfl ?_
    refine r_geti (pc := 17) flX12_301 dX12_f_17 (Or.inl rfl) k4 ?_
    refine r_istore_n (pc := 20) (i := 2) dX12_f_20 rfl rfl (Nat.le_of_ble_eq_true rfl) ?_
    refine r_aload_n (pc := 21) (i := 0) dX12_f_21 rfl rfl ?_
    refine r_callV (pc := 22) (ci := 12) (as := []) (st := []) okX12_next lkX12_340 inX12_next seX12_next ⟨_, rfl, rfl⟩ dX12_f_22 rfl k4 (Nat.le_of_ble_eq_true rfl) (Nat.zero_le _) (Nat.zero_le _) (Call.mono h (fun r6 M7 h => ?_))
    obtain ⟨rfl, h⟩ := h
    refine r_aload_n (pc := 25) (i := 0) dX12_f_25 rfl rfl ?_
    refine r_callS (pc := 26) (as := [_]) (st := []) okX12_f lkX12_350 stX12_f dX12_f_26 rfl (Nat.le_of_ble_eq_true rfl) (Nat.zero_le _) (Nat.zero_le _) (Call.mono h (fun r8 M9 h => ?_))
    obtain ⟨v10, rfl, h⟩ := h
    refine r_istore_n (pc := 29) (i := 3) dX12_f_29 rfl rfl (Nat.le_of_ble_eq_true rfl) ?_
    refine r_aload_n (pc := 30) (i := 0) dX12_f_30 rfl rfl ?_
    refine r_iconst (pc := 31) (v := 5) dX12_f_31 (by decide) ?_
    refine r_iload_n (pc := 32) (i := 1) dX12_f_32 rfl rfl ?_
    refine r_iload_n (pc := 33) (i := 3) dX12_f_33 rfl rfl ?_
    refine r_iconst (pc := 34) (v := 0) dX12_f_34 (by decide) ?_
    refine r_iload_n (pc := 35) (i := 2) dX12_f_35 rfl rfl ?_
    obtain ⟨k11, h⟩ := h
    refine r_callV (pc := 36) (ci := 12) (as := [_, _, _, _, _]) (st := []) okX12_ended lkX12_353 inX12_ended seX12_ended ⟨_, rfl, rfl⟩ dX12_f_36 rfl k11 (Nat.le_of_ble_eq_true rfl) (Nat.zero_le _) (Nat.zero_le _) (Call.mono h (fun r12 M13 h => ?_))
    obtain ⟨v14, rfl, h⟩ := h
    refine r_istore (pc := 39) (i := 4) dX12_f_39 rfl (Nat.le_of_ble_eq_true rfl) ?_
    refine r_aload_n (pc := 41) (i := 0) dX12_f_41 rfl rfl ?_
    obtain ⟨k15, h⟩ := h
    obtain ⟨b16, hb16, h⟩ := h
    refine r_getr (pc := 42) flX12_119 dX12_f_42 rfl k15 hb16 ?_
    refine r_iload (pc := 45) (i := 4) dX12_f_45 rfl ?_
    refine r_aload_n (pc := 47) (i := 0) dX12_f_47 rfl rfl ?_
    refine r_getr (pc := 48) flX12_119 dX12_f_48 rfl k15 hb16 ?_
    refine r_iload_n (pc := 51) (i := 1) dX12_f_51 rfl rfl ?_
    obtain ⟨k17, h⟩ := h
    obtain ⟨i18, h⟩ := h
    refine r_iald (pc := 52) dX12_f_52 k17 i18 ?_
    refine r_aload_n (pc := 53) (i := 0) dX12_f_53 rfl rfl ?_
    refine r_getr (pc := 54) flX12_119 dX12_f_54 rfl k15 hb16 ?_
    refine r_iload_n (pc := 57) (i := 3) dX12_f_57 rfl rfl ?_
    obtain ⟨i19, h⟩ := h
    refine r_iald (pc := 58) dX12_f_58 k17 i19 ?_
    refine r_ior (pc := 59) dX12_f_59 ?_
    obtain ⟨i20, h⟩ := h
    refine r_iast (pc := 60) dX12_f_60 k17 i20 ?_
    replace h := h _ rfl
    refine r_iload (pc := 61) (i := 4) dX12_f_61 rfl ?_
    exact r_iret (pc := 63) dX12_f_63 rfl h
  · replace h := h.2 c5
    refine r_iload_n (pc := 14) (i := 1) dX12_f_14 rfl rfl ?_
    exact r_iret (pc := 15) dX12_f_15 rfl h
abbrev LX12_or_5 (G : GG) (d rc rs : Nat) (p0 : Nat) (x1 : Int32) (z2 : Option Value) (z3 : Option Value) (z4 : Option Value) (M : Mem) (Q : Option Value → Mem → Prop) : Prop := Wk G (d + 1) rc rs mX12_or 5 [some (.ref p0), some (.int x1), z2, z3, z4] [] M Q
theorem eX12_or {G : GG} {d rc rs : Nat} (a1 : Nat)  {M : Mem} {Q : Option Value → Mem → Prop} (h : Call G d 0 0 mX12_and [.ref a1] M (fun r1 M2 => ∃ v3 : Int32, r1 = some (.int v3) ∧ LX12_or_5 G d rc rs a1 v3 none none none M2 Q)) : Call G (d + 1) rc rs mX12_or [.ref a1] M Q := by
  refine call_of (by decide) (Nat.le_of_ble_eq_true rfl) ?_
  show Wk G (d + 1) rc rs mX12_or 0 [some (.ref a1), none, none, none, none] [] M Q
  refine r_aload_n (pc := 0) (i := 0) dX12_or_0 rfl rfl ?_
  refine r_callS (pc := 1) (as := [_]) (st := []) okX12_and lkX12_357 stX12_and dX12_or_1 rfl (Nat.le_of_ble_eq_true rfl) (Nat.zero_le _) (Nat.zero_le _) (Call.mono h (fun r1 M2 h => ?_))
  obtain ⟨v3, rfl, h⟩ := h
  refine r_istore_n (pc := 4) (i := 1) dX12_or_4 rfl rfl (Nat.le_of_ble_eq_true rfl) ?_
  exact h
theorem vX12_or_5 {G : GG} {d rc rs : Nat} (p0 : Nat) (x1 : Int32) (z2 : Option Value) (z3 : Option Value) (z4 : Option Value) (hz2 : c1 z2 = true) (hz3 : c1 z3 = true) (hz4 : c1 z4 = true) {M : Mem} {Q : Option Value → Mem → Prop} (h : (x_h M p0).1 = 28 ∧ (¬ (x_i M p0 39) = 8 → Q (some (.int x1)) M) ∧ ((x_i M p0 39) = 8 → Call G d 0 0 mX12_next [.ref p0] M (fun r3 M4 => r3 = none ∧ Call G d 0 0 mX12_and [.ref p0] M4 (fun r5 M6 => ∃ v7 : Int32, r5 = some (.int v7) ∧ (x_h M6 p0).1 = 28 ∧ Call G d 0 0 mX12_ended [.ref p0, .int 4, .int x1, .int v7, .int 0, .int (x_i M p0 41)] M6 (fun r9 M10 => ∃ v11 : Int32, r9 = some (.int v11) ∧ (x_h M10 p0).1 = 28 ∧ (∃ b13, x_r M10 p0 53 = some b13 ∧ (x_h M10 b13).1 = 1 ∧ vp_in x1 (x_h M10 b13).2 ∧ vp_in v7 (x_h M10 b13).2 ∧ vp_in v11 (x_h M10 b13).2 ∧ (∀ M18, M18 = x_si M10 b13 v11.toNatClampNeg ((x_i M10 b13 x1.toNatClampNeg) ||| (x_i M10 b13 v7.toNatClampNeg)) → LX12_or_5 G d rc rs p0 v11 (some (.int (x_i M p0 41))) (some (.int v7)) (some (.int v11)) M18 Q))))))) : LX12_or_5 G d rc rs p0 x1 z2 z3 z4 M Q := by
  show Wk G (d + 1) rc rs mX12_or 5 _ _ M Q
  refine r_aload_n (pc := 5) (i := 0) dX12_or_5 rfl rfl ?_
  obtain ⟨k1, h⟩ := h
  refine r_geti (pc := 6) flX12_307 dX12_or_6 (Or.inl rfl) k1 ?_
  refine r_bipush (pc := 9) (v := 8) dX12_or_9 (by decide) ?_
  refine r_icmp_ne (pc := 11) (tgt := 65) dX12_or_11 (by decide) (fun c2 => ?_) (fun c2 => ?_)
  · replace h := h.1 c2
    refine r_iload_n (pc := 65) (i := 1) dX12_or_65 rfl rfl ?_
    exact r_iret (pc := 66) dX12_or_66 rfl h
  · replace h := h.2 c2
    refine r_aload_n (pc := 14) (i := 0) dX12_or_14 rfl rfl ?_
    refine r_geti (pc := 15) flX12_301 dX12_or_15 (Or.inl rfl) k1 ?_
    refine r_istore_n (pc := 18) (i := 2) dX12_or_18 rfl rfl (Nat.le_of_ble_eq_true rfl) ?_
    refine r_aload_n (pc := 19) (i := 0) dX12_or_19 rfl rfl ?_
    refine r_callV (pc := 20) (ci := 12) (as := []) (st := []) okX12_next lkX12_340 inX12_next seX12_next ⟨_, rfl, rfl⟩ dX12_or_20 rfl k1 (Nat.le_of_ble_eq_true rfl) (Nat.zero_le _) (Nat.zero_le _) (Call.mono h (fun r3 M4 h => ?_))
    obtain ⟨rfl, h⟩ := h
    refine r_aload_n (pc := 23) (i := 0) dX12_or_23 rfl rfl ?_
    refine r_callS (pc := 24) (as := [_]) (st := []) okX12_and lkX12_357 stX12_and dX12_or_24 rfl (Nat.le_of_ble_eq_true rfl) (Nat.zero_le _) (Nat.zero_le _) (Call.mono h (fun r5 M6 h => ?_))
    obtain ⟨v7, rfl, h⟩ := h
    refine r_istore_n (pc := 27) (i := 3) dX12_or_27 rfl rfl (Nat.le_of_ble_eq_true rfl) ?_
    refine r_aload_n (pc := 28) (i := 0) dX12_or_28 rfl rfl ?_
    refine r_iconst (pc := 29) (v := 4) dX12_or_29 (by decide) ?_
    refine r_iload_n (pc := 30) (i := 1) dX12_or_30 rfl rfl ?_
    refine r_iload_n (pc := 31) (i := 3) dX12_or_31 rfl rfl ?_
    refine r_iconst (pc := 32) (v := 0) dX12_or_32 (by decide) ?_
    refine r_iload_n (pc := 33) (i := 2) dX12_or_33 rfl rfl ?_
    obtain ⟨k8, h⟩ := h
    refine r_callV (pc := 34) (ci := 12) (as := [_, _, _, _, _]) (st := []) okX12_ended lkX12_353 inX12_ended seX12_ended ⟨_, rfl, rfl⟩ dX12_or_34 rfl k8 (Nat.le_of_ble_eq_true rfl) (Nat.zero_le _) (Nat.zero_le _) (Call.mono h (fun r9 M10 h => ?_))
    obtain ⟨v11, rfl, h⟩ := h
    refine r_istore (pc := 37) (i := 4) dX12_or_37 rfl (Nat.le_of_ble_eq_true rfl) ?_
    refine r_aload_n (pc := 39) (i := 0) dX12_or_39 rfl rfl ?_
    obtain ⟨k12, h⟩ := h
    obtain ⟨b13, hb13, h⟩ := h
    refine r_getr (pc := 40) flX12_119 dX12_or_40 rfl k12 hb13 ?_
    refine r_iload (pc := 43) (i := 4) dX12_or_43 rfl ?_
    refine r_aload_n (pc := 45) (i := 0) dX12_or_45 rfl rfl ?_
    refine r_getr (pc := 46) flX12_119 dX12_or_46 rfl k12 hb13 ?_
    refine r_iload_n (pc := 49) (i := 1) dX12_or_49 rfl rfl ?_
    obtain ⟨k14, h⟩ := h
    obtain ⟨i15, h⟩ := h
    refine r_iald (pc := 50) dX12_or_50 k14 i15 ?_
    refine r_aload_n (pc := 51) (i := 0) dX12_or_51 rfl rfl ?_
    refine r_getr (pc := 52) flX12_119 dX12_or_52 rfl k12 hb13 ?_
    refine r_iload_n (pc := 55) (i := 3) dX12_or_55 rfl rfl ?_
    obtain ⟨i16, h⟩ := h
    refine r_iald (pc := 56) dX12_or_56 k14 i16 ?_
    refine r_ior (pc := 57) dX12_or_57 ?_
    obtain ⟨i17, h⟩ := h
    refine r_iast (pc := 58) dX12_or_58 k14 i17 ?_
    replace h := h _ rfl
    refine r_iload (pc := 59) (i := 4) dX12_or_59 rfl ?_
    refine r_istore_n (pc := 61) (i := 1) dX12_or_61 rfl rfl (Nat.le_of_ble_eq_true rfl) ?_
    refine r_goto (pc := 62) (tgt := 5) dX12_or_62 (by decide) ?_
    exact h
abbrev LX12_and_5 (G : GG) (d rc rs : Nat) (p0 : Nat) (x1 : Int32) (z2 : Option Value) (z3 : Option Value) (z4 : Option Value) (M : Mem) (Q : Option Value → Mem → Prop) : Prop := Wk G (d + 1) rc rs mX12_and 5 [some (.ref p0), some (.int x1), z2, z3, z4] [] M Q
theorem eX12_and {G : GG} {d rc rs : Nat} (a1 : Nat)  {M : Mem} {Q : Option Value → Mem → Prop} (h : Call G d 0 0 mX12_not [.ref a1] M (fun r1 M2 => ∃ v3 : Int32, r1 = some (.int v3) ∧ LX12_and_5 G d rc rs a1 v3 none none none M2 Q)) : Call G (d + 1) rc rs mX12_and [.ref a1] M Q := by
  refine call_of (by decide) (Nat.le_of_ble_eq_true rfl) ?_
  show Wk G (d + 1) rc rs mX12_and 0 [some (.ref a1), none, none, none, none] [] M Q
  refine r_aload_n (pc := 0) (i := 0) dX12_and_0 rfl rfl ?_
  refine r_callS (pc := 1) (as := [_]) (st := []) okX12_not lkX12_360 stX12_not dX12_and_1 rfl (Nat.le_of_ble_eq_true rfl) (Nat.zero_le _) (Nat.zero_le _) (Call.mono h (fun r1 M2 h => ?_))
  obtain ⟨v3, rfl, h⟩ := h
  refine r_istore_n (pc := 4) (i := 1) dX12_and_4 rfl rfl (Nat.le_of_ble_eq_true rfl) ?_
  exact h
theorem vX12_and_5 {G : GG} {d rc rs : Nat} (p0 : Nat) (x1 : Int32) (z2 : Option Value) (z3 : Option Value) (z4 : Option Value) (hz2 : c1 z2 = true) (hz3 : c1 z3 = true) (hz4 : c1 z4 = true) {M : Mem} {Q : Option Value → Mem → Prop} (h : (x_h M p0).1 = 28 ∧ (¬ (x_i M p0 39) = 7 → Q (some (.int x1)) M) ∧ ((x_i M p0 39) = 7 → Call G d 0 0 mX12_next [.ref p0] M (fun r3 M4 => r3 = none ∧ Call G d 0 0 mX12_not [.ref p0] M4 (fun r5 M6 => ∃ v7 : Int32, r5 = some (.int v7) ∧ (x_h M6 p0).1 = 28 ∧ Call G d 0 0 mX12_ended [.ref p0, .int 3, .int x1, .int v7, .int 0, .int (x_i M p0 41)] M6 (fun r9 M10 => ∃ v11 : Int32, r9 = some (.int v11) ∧ (x_h M10 p0).1 = 28 ∧ (∃ b13, x_r M10 p0 53 = some b13 ∧ (x_h M10 b13).1 = 1 ∧ vp_in x1 (x_h M10 b13).2 ∧ vp_in v7 (x_h M10 b13).2 ∧ vp_in v11 (x_h M10 b13).2 ∧ (∀ M18, M18 = x_si M10 b13 v11.toNatClampNeg ((x_i M10 b13 x1.toNatClampNeg) ||| (x_i M10 b13 v7.toNatClampNeg)) → LX12_and_5 G d rc rs p0 v11 (some (.int (x_i M p0 41))) (some (.int v7)) (some (.int v11)) M18 Q))))))) : LX12_and_5 G d rc rs p0 x1 z2 z3 z4 M Q := by
  show Wk G (d + 1) rc rs mX12_and 5 _ _ M Q
  refine r_aload_n (pc := 5) (i := 0) dX12_and_5 rfl rfl ?_
  obtain ⟨k1, h⟩ := h
  refine r_geti (pc := 6) flX12_307 dX12_and_6 (Or.inl rfl) k1 ?_
  refine r_bipush (pc := 9) (v := 7) dX12_and_9 (by decide) ?_
  refine r_icmp_ne (pc := 11) (tgt := 65) dX12_and_11 (by decide) (fun c2 => ?_) (fun c2 => ?_)
  · replace h := h.1 c2
    refine r_iload_n (pc := 65) (i := 1) dX12_and_65 rfl rfl ?_
    exact r_iret (pc := 66) dX12_and_66 rfl h
  · replace h := h.2 c2
    refine r_aload_n (pc := 14) (i := 0) dX12_and_14 rfl rfl ?_
    refine r_geti (pc := 15) flX12_301 dX12_and_15 (Or.inl rfl) k1 ?_
    refine r_istore_n (pc := 18) (i := 2) dX12_and_18 rfl rfl (Nat.le_of_ble_eq_true rfl) ?_
    refine r_aload_n (pc := 19) (i := 0) dX12_and_19 rfl rfl ?_
    refine r_callV (pc := 20) (ci := 12) (as := []) (st := []) okX12_next lkX12_340 inX12_next seX12_next ⟨_, rfl, rfl⟩ dX12_and_20 rfl k1 (Nat.le_of_ble_eq_true rfl) (Nat.zero_le _) (Nat.zero_le _) (Call.mono h (fun r3 M4 h => ?_))
    obtain ⟨rfl, h⟩ := h
    refine r_aload_n (pc := 23) (i := 0) dX12_and_23 rfl rfl ?_
    refine r_callS (pc := 24) (as := [_]) (st := []) okX12_not lkX12_360 stX12_not dX12_and_24 rfl (Nat.le_of_ble_eq_true rfl) (Nat.zero_le _) (Nat.zero_le _) (Call.mono h (fun r5 M6 h => ?_))
    obtain ⟨v7, rfl, h⟩ := h
    refine r_istore_n (pc := 27) (i := 3) dX12_and_27 rfl rfl (Nat.le_of_ble_eq_true rfl) ?_
    refine r_aload_n (pc := 28) (i := 0) dX12_and_28 rfl rfl ?_
    refine r_iconst (pc := 29) (v := 3) dX12_and_29 (by decide) ?_
    refine r_iload_n (pc := 30) (i := 1) dX12_and_30 rfl rfl ?_
    refine r_iload_n (pc := 31) (i := 3) dX12_and_31 rfl rfl ?_
    refine r_iconst (pc := 32) (v := 0) dX12_and_32 (by decide) ?_
    refine r_iload_n (pc := 33) (i := 2) dX12_and_33 rfl rfl ?_
    obtain ⟨k8, h⟩ := h
    refine r_callV (pc := 34) (ci := 12) (as := [_, _, _, _, _]) (st := []) okX12_ended lkX12_353 inX12_ended seX12_ended ⟨_, rfl, rfl⟩ dX12_and_34 rfl k8 (Nat.le_of_ble_eq_true rfl) (Nat.zero_le _) (Nat.zero_le _) (Call.mono h (fun r9 M10 h => ?_))
    obtain ⟨v11, rfl, h⟩ := h
    refine r_istore (pc := 37) (i := 4) dX12_and_37 rfl (Nat.le_of_ble_eq_true rfl) ?_
    refine r_aload_n (pc := 39) (i := 0) dX12_and_39 rfl rfl ?_
    obtain ⟨k12, h⟩ := h
    obtain ⟨b13, hb13, h⟩ := h
    refine r_getr (pc := 40) flX12_119 dX12_and_40 rfl k12 hb13 ?_
    refine r_iload (pc := 43) (i := 4) dX12_and_43 rfl ?_
    refine r_aload_n (pc := 45) (i := 0) dX12_and_45 rfl rfl ?_
    refine r_getr (pc := 46) flX12_119 dX12_and_46 rfl k12 hb13 ?_
    refine r_iload_n (pc := 49) (i := 1) dX12_and_49 rfl rfl ?_
    obtain ⟨k14, h⟩ := h
    obtain ⟨i15, h⟩ := h
    refine r_iald (pc := 50) dX12_and_50 k14 i15 ?_
    refine r_aload_n (pc := 51) (i := 0) dX12_and_51 rfl rfl ?_
    refine r_getr (pc := 52) flX12_119 dX12_and_52 rfl k12 hb13 ?_
    refine r_iload_n (pc := 55) (i := 3) dX12_and_55 rfl rfl ?_
    obtain ⟨i16, h⟩ := h
    refine r_iald (pc := 56) dX12_and_56 k14 i16 ?_
    refine r_ior (pc := 57) dX12_and_57 ?_
    obtain ⟨i17, h⟩ := h
    refine r_iast (pc := 58) dX12_and_58 k14 i17 ?_
    replace h := h _ rfl
    refine r_iload (pc := 59) (i := 4) dX12_and_59 rfl ?_
    refine r_istore_n (pc := 61) (i := 1) dX12_and_61 rfl rfl (Nat.le_of_ble_eq_true rfl) ?_
    refine r_goto (pc := 62) (tgt := 5) dX12_and_62 (by decide) ?_
    exact h
abbrev LX12_not_13 (G : GG) (d rc rs : Nat) (p0 : Nat) (M : Mem) (Q : Option Value → Mem → Prop) : Prop := Wk G (d + 1) rc rs mX12_not 13 [some (.ref p0), none, none, none] [] M Q
abbrev LX12_not_89 (G : GG) (d rc rs : Nat) (p0 : Nat) (x1 : Int32) (x2 : Int32) (M : Mem) (Q : Option Value → Mem → Prop) : Prop := Wk G (d + 1) rc rs mX12_not 89 [some (.ref p0), some (.int x1), some (.int x2), none] [] M Q
theorem eX12_not {G : GG} {d rc rs : Nat} (a1 : Nat)  {M : Mem} {Q : Option Value → Mem → Prop} (h : (x_h M a1).1 = 28 ∧ (¬ (x_i M a1 43) = 10 → LX12_not_13 G d rc rs a1 M Q) ∧ ((x_i M a1 43) = 10 → Call G d 0 0 mX12_cannot [.ref a1] M (fun r3 M4 => r3 = none ∧ LX12_not_13 G d rc rs a1 M4 Q))) : Call G (d + 1) rc rs mX12_not [.ref a1] M Q := by
  refine call_of (by decide) (Nat.le_of_ble_eq_true rfl) ?_
  show Wk G (d + 1) rc rs mX12_not 0 [some (.ref a1), none, none, none] [] M Q
  refine r_aload_n (pc := 0) (i := 0) dX12_not_0 rfl rfl ?_
  obtain ⟨k1, h⟩ := h
  refine r_geti (pc := 1) flX12_363 dX12_not_1 (Or.inl rfl) k1 ?_
  refine r_bipush (pc := 4) (v := 10) dX12_not_4 (by decide) ?_
  refine r_icmp_ne (pc := 6) (tgt := 13) dX12_not_6 (by decide) (fun c2 => ?_) (fun c2 => ?_)
  · replace h := h.1 c2
    exact h
  · replace h := h.2 c2
    refine r_aload_n (pc := 9) (i := 0) dX12_not_9 rfl rfl ?_
    refine r_callV (pc := 10) (ci := 12) (as := []) (st := []) okX12_cannot lkX12_331 inX12_cannot seX12_cannot ⟨_, rfl, rfl⟩ dX12_not_10 rfl k1 (Nat.le_of_ble_eq_true rfl) (Nat.zero_le _) (Nat.zero_le _) (Call.mono h (fun r3 M4 h => ?_))
    obtain ⟨rfl, h⟩ := h
    exact h
theorem vX12_not_13 {G : GG} {d rc rs : Nat} (p0 : Nat)  {M : Mem} {Q : Option Value → Mem → Prop} (h : (x_h M p0).1 = 28 ∧ (∀ M2, M2 = x_si M p0 43 ((x_i M p0 43) + 1) → (¬ (x_i M2 p0 39) = 6 → ((x_i M2 p0 39) = 4 → LX12_not_89 G d rc rs p0 0 (x_i M2 p0 41) M2 Q) ∧ (¬ (x_i M2 p0 39) = 4 → (¬ (x_i M2 p0 39) = 5 → Call G d 0 0 mX12_isSign [.ref p0, .int 40] M2 (fun r6 M7 => ∃ v8 : Int32, r6 = some (.int v8) ∧ (v8 = 0 → (x_h M7 p0).1 = 28 ∧ Call G d 0 0 mX12_atom [.ref p0] M7 (fun r11 M12 => ∃ v13 : Int32, r11 = some (.int v13) ∧ (x_h M12 p0).1 = 28 ∧ (∀ M15, M15 = x_si M12 p0 43 ((x_i M12 p0 43) - 1) → Q (some (.int v13)) M15))) ∧ (¬ v8 = 0 → (x_h M7 p0).1 = 28 ∧ Call G d 0 0 mX12_next [.ref p0] M7 (fun r17 M18 => r17 = none ∧ Call G d 0 0 mX12_f [.ref p0] M18 (fun r19 M20 => ∃ v21 : Int32, r19 = some (.int v21) ∧ (x_h M20 p0).1 = 28 ∧ Call G d 0 0 mX12_need [.ref p0, .int 41] M20 (fun r23 M24 => r23 = none ∧ (x_h M24 p0).1 = 28 ∧ (∀ M26, M26 = x_si M24 p0 43 ((x_i M24 p0 43) - 1) → Q (some (.int v21)) M26))))))) ∧ ((x_i M2 p0 39) = 5 → LX12_not_89 G d rc rs p0 0 (x_i M2 p0 41) M2 Q))) ∧ ((x_i M2 p0 39) = 6 → Call G d 0 0 mX12_next [.ref p0] M2 (fun r27 M28 => r27 = none ∧ Call G d 0 0 mX12_not [.ref p0] M28 (fun r29 M30 => ∃ v31 : Int32, r29 = some (.int v31) ∧ (x_h M30 p0).1 = 28 ∧ Call G d 0 0 mX12_ended [.ref p0, .int 2, .int v31, .int 0, .int 0, .int (x_i M2 p0 41)] M30 (fun r33 M34 => ∃ v35 : Int32, r33 = some (.int v35) ∧ (x_h M34 p0).1 = 28 ∧ (∃ b37, x_r M34 p0 53 = some b37 ∧ (x_h M34 b37).1 = 1 ∧ vp_in v31 (x_h M34 b37).2 ∧ vp_in v35 (x_h M34 b37).2 ∧ (∀ M41, M41 = x_si M34 b37 v35.toNatClampNeg (x_i M34 b37 v31.toNatClampNeg) → ∀ M42, M42 = x_si M41 p0 43 ((x_i M41 p0 43) - 1) → Q (some (.int v35)) M42)))))))) : LX12_not_13 G d rc rs p0 M Q := by
  show Wk G (d + 1) rc rs mX12_not 13 _ _ M Q
  refine r_aload_n (pc := 13) (i := 0) dX12_not_13 rfl rfl ?_
  refine r_dup (pc := 14) dX12_not_14 rfl ?_
  obtain ⟨k1, h⟩ := h
  refine r_geti (pc := 15) flX12_363 dX12_not_15 (Or.inl rfl) k1 ?_
  refine r_iconst (pc := 18) (v := 1) dX12_not_18 (by decide) ?_
  refine r_iadd (pc := 19) dX12_not_19 ?_
  refine r_puti (pc := 20) flX12_363 dX12_not_20 (Or.inl rfl) (fun q hq => by cases hq; rfl) k1 ?_
  replace h := h _ rfl
  refine r_iconst (pc := 23) (v := 0) dX12_not_23 (by decide) ?_
  refine r_istore_n (pc := 24) (i := 1) dX12_not_24 rfl rfl (Nat.le_of_ble_eq_true rfl) ?_
  refine r_aload_n (pc := 25) (i := 0) dX12_not_25 rfl rfl ?_
  refine r_geti (pc := 26) flX12_301 dX12_not_26 (Or.inl rfl) k1 ?_
  refine r_istore_n (pc := 29) (i := 2) dX12_not_29 rfl rfl (Nat.le_of_ble_eq_true rfl) ?_
  refine r_aload_n (pc := 30) (i := 0) dX12_not_30 rfl rfl ?_
  refine r_geti (pc := 31) flX12_307 dX12_not_31 (Or.inl rfl) k1 ?_
  refine r_bipush (pc := 34) (v := 6) dX12_not_34 (by decide) ?_
  refine r_icmp_ne (pc := 36) (tgt := 73) dX12_not_36 (by decide) (fun c3 => ?_) (fun c3 => ?_)
  · replace h := h.1 c3
    refine r_aload_n (pc := 73) (i := 0) dX12_not_73 rfl rfl ?_
    refine r_geti (pc := 74) flX12_307 dX12_not_74 (Or.inl rfl) k1 ?_
    refine r_iconst (pc := 77) (v := 4) dX12_not_77 (by decide) ?_
    refine r_icmp_eq (pc := 78) (tgt := 89) dX12_not_78 (by decide) (fun c4 => ?_) (fun c4 => ?_)
    · replace h := h.1 c4
      exact h
    · replace h := h.2 c4
      refine r_aload_n (pc := 81) (i := 0) dX12_not_81 rfl rfl ?_
      refine r_geti (pc := 82) flX12_307 dX12_not_82 (Or.inl rfl) k1 ?_
      refine r_iconst (pc := 85) (v := 5) dX12_not_85 (by decide) ?_
      refine r_icmp_ne (pc := 86) (tgt := 113) dX12_not_86 (by decide) (fun c5 => ?_) (fun c5 => ?_)
      · replace h := h.1 c5
        refine r_aload_n (pc := 113) (i := 0) dX12_not_113 rfl rfl ?_
        refine r_bipush (pc := 114) (v := 40) dX12_not_114 (by decide) ?_
        refine r_callV (pc := 116) (ci := 12) (as := [_]) (st := []) okX12_isSign lkX12_337 inX12_isSign seX12_isSign ⟨_, rfl, rfl⟩ dX12_not_116 rfl k1 (Nat.le_of_ble_eq_true rfl) (Nat.zero_le _) (Nat.zero_le _) (Call.mono h (fun r6 M7 h => ?_))
        obtain ⟨v8, rfl, h⟩ := h
        refine r_if_eq (pc := 119) (tgt := 140) dX12_not_119 (by decide) (fun c9 => ?_) (fun c9 => ?_)
        · replace h := h.1 c9
          refine r_aload_n (pc := 140) (i := 0) dX12_not_140 rfl rfl ?_
          obtain ⟨k10, h⟩ := h
          refine r_callV (pc := 141) (ci := 12) (as := []) (st := []) okX12_atom lkX12_374 inX12_atom seX12_atom ⟨_, rfl, rfl⟩ dX12_not_141 rfl k10 (Nat.le_of_ble_eq_true rfl) (Nat.zero_le _) (Nat.zero_le _) (Call.mono h (fun r11 M12 h => ?_))
          obtain ⟨v13, rfl, h⟩ := h
          refine r_istore_n (pc := 144) (i := 1) dX12_not_144 rfl rfl (Nat.le_of_ble_eq_true rfl) ?_
          refine r_aload_n (pc := 145) (i := 0) dX12_not_145 rfl rfl ?_
          refine r_dup (pc := 146) dX12_not_146 rfl ?_
          obtain ⟨k14, h⟩ := h
          refine r_geti (pc := 147) flX12_363 dX12_not_147 (Or.inl rfl) k14 ?_
          refine r_iconst (pc := 150) (v := 1) dX12_not_150 (by decide) ?_
          refine r_isub (pc := 151) dX12_not_151 ?_
          refine r_puti (pc := 152) flX12_363 dX12_not_152 (Or.inl rfl) (fun q hq => by cases hq; rfl) k14 ?_
          replace h := h _ rfl
          refine r_iload_n (pc := 155) (i := 1) dX12_not_155 rfl rfl ?_
          exact r_iret (pc := 156) dX12_not_156 rfl h
        · replace h := h.2 c9
          refine r_aload_n (pc := 122) (i := 0) dX12_not_122 rfl rfl ?_
          obtain ⟨k16, h⟩ := h
          refine r_callV (pc := 123) (ci := 12) (as := []) (st := []) okX12_next lkX12_340 inX12_next seX12_next ⟨_, rfl, rfl⟩ dX12_not_123 rfl k16 (Nat.le_of_ble_eq_true rfl) (Nat.zero_le _) (Nat.zero_le _) (Call.mono h (fun r17 M18 h => ?_))
          obtain ⟨rfl, h⟩ := h
          refine r_aload_n (pc := 126) (i := 0) dX12_not_126 rfl rfl ?_
          refine r_callS (pc := 127) (as := [_]) (st := []) okX12_f lkX12_350 stX12_f dX12_not_127 rfl (Nat.le_of_ble_eq_true rfl) (Nat.zero_le _) (Nat.zero_le _) (Call.mono h (fun r19 M20 h => ?_))
          obtain ⟨v21, rfl, h⟩ := h
          refine r_istore_n (pc := 130) (i := 1) dX12_not_130 rfl rfl (Nat.le_of_ble_eq_true rfl) ?_
          refine r_aload_n (pc := 131) (i := 0) dX12_not_131 rfl rfl ?_
          refine r_bipush (pc := 132) (v := 41) dX12_not_132 (by decide) ?_
          obtain ⟨k22, h⟩ := h
          refine r_callV (pc := 134) (ci := 12) (as := [_]) (st := []) okX12_need lkX12_370 inX12_need seX12_need ⟨_, rfl, rfl⟩ dX12_not_134 rfl k22 (Nat.le_of_ble_eq_true rfl) (Nat.zero_le _) (Nat.zero_le _) (Call.mono h (fun r23 M24 h => ?_))
          obtain ⟨rfl, h⟩ := h
          refine r_goto (pc := 137) (tgt := 145) dX12_not_137 (by decide) ?_
          refine r_aload_n (pc := 145) (i := 0) dX12_not_145 rfl rfl ?_
          refine r_dup (pc := 146) dX12_not_146 rfl ?_
          obtain ⟨k25, h⟩ := h
          refine r_geti (pc := 147) flX12_363 dX12_not_147 (Or.inl rfl) k25 ?_
          refine r_iconst (pc := 150) (v := 1) dX12_not_150 (by decide) ?_
          refine r_isub (pc := 151) dX12_not_151 ?_
          refine r_puti (pc := 152) flX12_363 dX12_not_152 (Or.inl rfl) (fun q hq => by cases hq; rfl) k25 ?_
          replace h := h _ rfl
          refine r_iload_n (pc := 155) (i := 1) dX12_not_155 rfl rfl ?_
          exact r_iret (pc := 156) dX12_not_156 rfl h
      · replace h := h.2 c5
        exact h
  · replace h := h.2 c3
    refine r_aload_n (pc := 39) (i := 0) dX12_not_39 rfl rfl ?_
    refine r_callV (pc := 40) (ci := 12) (as := []) (st := []) okX12_next lkX12_340 inX12_next seX12_next ⟨_, rfl, rfl⟩ dX12_not_40 rfl k1 (Nat.le_of_ble_eq_true rfl) (Nat.zero_le _) (Nat.zero_le _) (Call.mono h (fun r27 M28 h => ?_))
    obtain ⟨rfl, h⟩ := h
    refine r_aload_n (pc := 43) (i := 0) dX12_not_43 rfl rfl ?_
    refine r_callS (pc := 44) (as := [_]) (st := []) okX12_not lkX12_360 stX12_not dX12_not_44 rfl (Nat.le_of_ble_eq_true rfl) (Nat.zero_le _) (Nat.zero_le _) (Call.mono h (fun r29 M30 h => ?_))
    obtain ⟨v31, rfl, h⟩ := h
    refine r_istore_n (pc := 47) (i := 3) dX12_not_47 rfl rfl (Nat.le_of_ble_eq_true rfl) ?_
    refine r_aload_n (pc := 48) (i := 0) dX12_not_48 rfl rfl ?_
    refine r_iconst (pc := 49) (v := 2) dX12_not_49 (by decide) ?_
    refine r_iload_n (pc := 50) (i := 3) dX12_not_50 rfl rfl ?_
    refine r_iconst (pc := 51) (v := 0) dX12_not_51 (by decide) ?_
    refine r_iconst (pc := 52) (v := 0) dX12_not_52 (by decide) ?_
    refine r_iload_n (pc := 53) (i := 2) dX12_not_53 rfl rfl ?_
    obtain ⟨k32, h⟩ := h
    refine r_callV (pc := 54) (ci := 12) (as := [_, _, _, _, _]) (st := []) okX12_ended lkX12_353 inX12_ended seX12_ended ⟨_, rfl, rfl⟩ dX12_not_54 rfl k32 (Nat.le_of_ble_eq_true rfl) (Nat.zero_le _) (Nat.zero_le _) (Call.mono h (fun r33 M34 h => ?_))
    obtain ⟨v35, rfl, h⟩ := h
    refine r_istore_n (pc := 57) (i := 1) dX12_not_57 rfl rfl (Nat.le_of_ble_eq_true rfl) ?_
    refine r_aload_n (pc := 58) (i := 0) dX12_not_58 rfl rfl ?_
    obtain ⟨k36, h⟩ := h
    obtain ⟨b37, hb37, h⟩ := h
    refine r_getr (pc := 59) flX12_119 dX12_not_59 rfl k36 hb37 ?_
    refine r_iload_n (pc := 62) (i := 1) dX12_not_62 rfl rfl ?_
    refine r_aload_n (pc := 63) (i := 0) dX12_not_63 rfl rfl ?_
    refine r_getr (pc := 64) flX12_119 dX12_not_64 rfl k36 hb37 ?_
    refine r_iload_n (pc := 67) (i := 3) dX12_not_67 rfl rfl ?_
    obtain ⟨k38, h⟩ := h
    obtain ⟨i39, h⟩ := h
    refine r_iald (pc := 68) dX12_not_68 k38 i39 ?_
    obtain ⟨i40, h⟩ := h
    refine r_iast (pc := 69) dX12_not_69 k38 i40 ?_
    replace h := h _ rfl
    refine r_goto (pc := 70) (tgt := 145) dX12_not_70 (by decide) ?_
    refine r_aload_n (pc := 145) (i := 0) dX12_not_145 rfl rfl ?_
    refine r_dup (pc := 146) dX12_not_146 rfl ?_
    refine r_geti (pc := 147) flX12_363 dX12_not_147 (Or.inl rfl) k36 ?_
    refine r_iconst (pc := 150) (v := 1) dX12_not_150 (by decide) ?_
    refine r_isub (pc := 151) dX12_not_151 ?_
    refine r_puti (pc := 152) flX12_363 dX12_not_152 (Or.inl rfl) (fun q hq => by cases hq; rfl) k36 ?_
    replace h := h _ rfl
    refine r_iload_n (pc := 155) (i := 1) dX12_not_155 rfl rfl ?_
    exact r_iret (pc := 156) dX12_not_156 rfl h
theorem vX12_not_89 {G : GG} {d rc rs : Nat} (p0 : Nat) (x1 : Int32) (x2 : Int32)  {M : Mem} {Q : Option Value → Mem → Prop} (h : (x_h M p0).1 = 28 ∧ (¬ (x_i M p0 39) = 4 → Call G d 0 0 mX12_bounded [.ref p0, .int 7, .int x2] M (fun r3 M4 => ∃ v5 : Int32, r3 = some (.int v5) ∧ (x_h M4 p0).1 = 28 ∧ (∀ M7, M7 = x_si M4 p0 43 ((x_i M4 p0 43) - 1) → Q (some (.int v5)) M7))) ∧ ((x_i M p0 39) = 4 → Call G d 0 0 mX12_bounded [.ref p0, .int 6, .int x2] M (fun r8 M9 => ∃ v10 : Int32, r8 = some (.int v10) ∧ (x_h M9 p0).1 = 28 ∧ (∀ M12, M12 = x_si M9 p0 43 ((x_i M9 p0 43) - 1) → Q (some (.int v10)) M12)))) : LX12_not_89 G d rc rs p0 x1 x2 M Q := by
  show Wk G (d + 1) rc rs mX12_not 89 _ _ M Q
  refine r_aload_n (pc := 89) (i := 0) dX12_not_89 rfl rfl ?_
  refine r_aload_n (pc := 90) (i := 0) dX12_not_90 rfl rfl ?_
  obtain ⟨k1, h⟩ := h
  refine r_geti (pc := 91) flX12_307 dX12_not_91 (Or.inl rfl) k1 ?_
  refine r_iconst (pc := 94) (v := 4) dX12_not_94 (by decide) ?_
  refine r_icmp_ne (pc := 95) (tgt := 103) dX12_not_95 (by decide) (fun c2 => ?_) (fun c2 => ?_)
  · replace h := h.1 c2
    refine r_bipush (pc := 103) (v := 7) dX12_not_103 (by decide) ?_
    refine r_iload_n (pc := 105) (i := 2) dX12_not_105 rfl rfl ?_
    refine r_callS (pc := 106) (as := [_, _, _]) (st := []) okX12_bounded lkX12_366 stX12_bounded dX12_not_106 rfl (Nat.le_of_ble_eq_true rfl) (Nat.zero_le _) (Nat.zero_le _) (Call.mono h (fun r3 M4 h => ?_))
    obtain ⟨v5, rfl, h⟩ := h
    refine r_istore_n (pc := 109) (i := 1) dX12_not_109 rfl rfl (Nat.le_of_ble_eq_true rfl) ?_
    refine r_goto (pc := 110) (tgt := 145) dX12_not_110 (by decide) ?_
    refine r_aload_n (pc := 145) (i := 0) dX12_not_145 rfl rfl ?_
    refine r_dup (pc := 146) dX12_not_146 rfl ?_
    obtain ⟨k6, h⟩ := h
    refine r_geti (pc := 147) flX12_363 dX12_not_147 (Or.inl rfl) k6 ?_
    refine r_iconst (pc := 150) (v := 1) dX12_not_150 (by decide) ?_
    refine r_isub (pc := 151) dX12_not_151 ?_
    refine r_puti (pc := 152) flX12_363 dX12_not_152 (Or.inl rfl) (fun q hq => by cases hq; rfl) k6 ?_
    replace h := h _ rfl
    refine r_iload_n (pc := 155) (i := 1) dX12_not_155 rfl rfl ?_
    exact r_iret (pc := 156) dX12_not_156 rfl h
  · replace h := h.2 c2
    refine r_bipush (pc := 98) (v := 6) dX12_not_98 (by decide) ?_
    refine r_goto (pc := 100) (tgt := 105) dX12_not_100 (by decide) ?_
    refine r_iload_n (pc := 105) (i := 2) dX12_not_105 rfl rfl ?_
    refine r_callS (pc := 106) (as := [_, _, _]) (st := []) okX12_bounded lkX12_366 stX12_bounded dX12_not_106 rfl (Nat.le_of_ble_eq_true rfl) (Nat.zero_le _) (Nat.zero_le _) (Call.mono h (fun r8 M9 h => ?_))
    obtain ⟨v10, rfl, h⟩ := h
    refine r_istore_n (pc := 109) (i := 1) dX12_not_109 rfl rfl (Nat.le_of_ble_eq_true rfl) ?_
    refine r_goto (pc := 110) (tgt := 145) dX12_not_110 (by decide) ?_
    refine r_aload_n (pc := 145) (i := 0) dX12_not_145 rfl rfl ?_
    refine r_dup (pc := 146) dX12_not_146 rfl ?_
    obtain ⟨k11, h⟩ := h
    refine r_geti (pc := 147) flX12_363 dX12_not_147 (Or.inl rfl) k11 ?_
    refine r_iconst (pc := 150) (v := 1) dX12_not_150 (by decide) ?_
    refine r_isub (pc := 151) dX12_not_151 ?_
    refine r_puti (pc := 152) flX12_363 dX12_not_152 (Or.inl rfl) (fun q hq => by cases hq; rfl) k11 ?_
    replace h := h _ rfl
    refine r_iload_n (pc := 155) (i := 1) dX12_not_155 rfl rfl ?_
    exact r_iret (pc := 156) dX12_not_156 rfl h
abbrev LX12_bounded_55 (G : GG) (d rc rs : Nat) (p0 : Nat) (x1 : Int32) (x2 : Int32) (x3 : Int32) (x4 : Int32) (M : Mem) (Q : Option Value → Mem → Prop) : Prop := Wk G (d + 1) rc rs mX12_bounded 55 [some (.ref p0), some (.int x1), some (.int x2), some (.int x3), some (.int x4), none, none] [] M Q
theorem eX12_bounded {G : GG} {d rc rs : Nat} (a1 : Nat) (a2 : Int32) (a3 : Int32)  {M : Mem} {Q : Option Value → Mem → Prop} (h : (x_h M a1).1 = 28 ∧ Call G d 0 0 mX12_next [.ref a1] M (fun r2 M3 => r2 = none ∧ (x_h M3 a1).1 = 28 ∧ ((x_i M3 a1 39) = 2 → (¬ (((x_i M3 a1 44) >>> ((x_i M3 a1 40) &&& 31)) &&& 1) = 1 → ((0 : Int32) = 0 → LX12_bounded_55 G d rc rs a1 a2 a3 (x_i M3 a1 40) 0 M3 Q) ∧ (¬ (0 : Int32) = 0 → Call G d 0 0 mX12_notes [.ref a1, .int (x_i M3 a1 41)] M3 (fun r8 M9 => r8 = none ∧ LX12_bounded_55 G d rc rs a1 a2 a3 (x_i M3 a1 40) 0 M9 Q))) ∧ ((((x_i M3 a1 44) >>> ((x_i M3 a1 40) &&& 31)) &&& 1) = 1 → ((1 : Int32) = 0 → LX12_bounded_55 G d rc rs a1 a2 a3 (x_i M3 a1 40) 1 M3 Q) ∧ (¬ (1 : Int32) = 0 → Call G d 0 0 mX12_notes [.ref a1, .int (x_i M3 a1 41)] M3 (fun r11 M12 => r11 = none ∧ LX12_bounded_55 G d rc rs a1 a2 a3 (x_i M3 a1 40) 1 M12 Q)))) ∧ (¬ (x_i M3 a1 39) = 2 → Call G d 0 0 mX12_cannot [.ref a1] M3 (fun r13 M14 => r13 = none ∧ Q (some (.int 0)) M14)))) : Call G (d + 1) rc rs mX12_bounded [.ref a1, .int a2, .int a3] M Q := by
  refine call_of (by decide) (Nat.le_of_ble_eq_true rfl) ?_
  show Wk G (d + 1) rc rs mX12_bounded 0 [some (.ref a1), some (.int a2), some (.int a3), none, none, none, none] [] M Q
  refine r_aload_n (pc := 0) (i := 0) dX12_bounded_0 rfl rfl ?_
  obtain ⟨k1, h⟩ := h
  refine r_callV (pc := 1) (ci := 12) (as := []) (st := []) okX12_next lkX12_340 inX12_next seX12_next ⟨_, rfl, rfl⟩ dX12_bounded_1 rfl k1 (Nat.le_of_ble_eq_true rfl) (Nat.zero_le _) (Nat.zero_le _) (Call.mono h (fun r2 M3 h => ?_))
  obtain ⟨rfl, h⟩ := h
  refine r_aload_n (pc := 4) (i := 0) dX12_bounded_4 rfl rfl ?_
  obtain ⟨k4, h⟩ := h
  refine r_geti (pc := 5) flX12_328 dX12_bounded_5 (Or.inl rfl) k4 ?_
  refine r_istore_n (pc := 8) (i := 3) dX12_bounded_8 rfl rfl (Nat.le_of_ble_eq_true rfl) ?_
  refine r_aload_n (pc := 9) (i := 0) dX12_bounded_9 rfl rfl ?_
  refine r_geti (pc := 10) flX12_307 dX12_bounded_10 (Or.inl rfl) k4 ?_
  refine r_iconst (pc := 13) (v := 2) dX12_bounded_13 (by decide) ?_
  refine r_icmp_eq (pc := 14) (tgt := 23) dX12_bounded_14 (by decide) (fun c5 => ?_) (fun c5 => ?_)
  · replace h := h.1 c5
    refine r_aload_n (pc := 23) (i := 0) dX12_bounded_23 rfl rfl ?_
    refine r_geti (pc := 24) flX12_378 dX12_bounded_24 (Or.inl rfl) k4 ?_
    refine r_iload_n (pc := 27) (i := 3) dX12_bounded_27 rfl rfl ?_
    refine r_ishr (pc := 28) dX12_bounded_28 ?_
    refine r_iconst (pc := 29) (v := 1) dX12_bounded_29 (by decide) ?_
    refine r_iand (pc := 30) dX12_bounded_30 ?_
    refine r_iconst (pc := 31) (v := 1) dX12_bounded_31 (by decide) ?_
    refine r_icmp_ne (pc := 32) (tgt := 39) dX12_bounded_32 (by decide) (fun c6 => ?_) (fun c6 => ?_)
    · replace h := h.1 c6
      refine r_iconst (pc := 39) (v := 0) dX12_bounded_39 (by decide) ?_
      refine r_istore (pc := 40) (i := 4) dX12_bounded_40 rfl (Nat.le_of_ble_eq_true rfl) ?_
      refine r_iload (pc := 42) (i := 4) dX12_bounded_42 rfl ?_
      refine r_if_eq (pc := 44) (tgt := 55) dX12_bounded_44 (by decide) (fun c7 => ?_) (fun c7 => ?_)
      · replace h := h.1 c7
        exact h
      · replace h := h.2 c7
        refine r_aload_n (pc := 47) (i := 0) dX12_bounded_47 rfl rfl ?_
        refine r_aload_n (pc := 48) (i := 0) dX12_bounded_48 rfl rfl ?_
        refine r_geti (pc := 49) flX12_301 dX12_bounded_49 (Or.inl rfl) k4 ?_
        refine r_callV (pc := 52) (ci := 12) (as := [_]) (st := []) okX12_notes lkX12_381 inX12_notes seX12_notes ⟨_, rfl, rfl⟩ dX12_bounded_52 rfl k4 (Nat.le_of_ble_eq_true rfl) (Nat.zero_le _) (Nat.zero_le _) (Call.mono h (fun r8 M9 h => ?_))
        obtain ⟨rfl, h⟩ := h
        exact h
    · replace h := h.2 c6
      refine r_iconst (pc := 35) (v := 1) dX12_bounded_35 (by decide) ?_
      refine r_goto (pc := 36) (tgt := 40) dX12_bounded_36 (by decide) ?_
      refine r_istore (pc := 40) (i := 4) dX12_bounded_40 rfl (Nat.le_of_ble_eq_true rfl) ?_
      refine r_iload (pc := 42) (i := 4) dX12_bounded_42 rfl ?_
      refine r_if_eq (pc := 44) (tgt := 55) dX12_bounded_44 (by decide) (fun c10 => ?_) (fun c10 => ?_)
      · replace h := h.1 c10
        exact h
      · replace h := h.2 c10
        refine r_aload_n (pc := 47) (i := 0) dX12_bounded_47 rfl rfl ?_
        refine r_aload_n (pc := 48) (i := 0) dX12_bounded_48 rfl rfl ?_
        refine r_geti (pc := 49) flX12_301 dX12_bounded_49 (Or.inl rfl) k4 ?_
        refine r_callV (pc := 52) (ci := 12) (as := [_]) (st := []) okX12_notes lkX12_381 inX12_notes seX12_notes ⟨_, rfl, rfl⟩ dX12_bounded_52 rfl k4 (Nat.le_of_ble_eq_true rfl) (Nat.zero_le _) (Nat.zero_le _) (Call.mono h (fun r11 M12 h => ?_))
        obtain ⟨rfl, h⟩ := h
        exact h
  · replace h := h.2 c5
    refine r_aload_n (pc := 17) (i := 0) dX12_bounded_17 rfl rfl ?_
    refine r_callV (pc := 18) (ci := 12) (as := []) (st := []) okX12_cannot lkX12_331 inX12_cannot seX12_cannot ⟨_, rfl, rfl⟩ dX12_bounded_18 rfl k4 (Nat.le_of_ble_eq_true rfl) (Nat.zero_le _) (Nat.zero_le _) (Call.mono h (fun r13 M14 h => ?_))
    obtain ⟨rfl, h⟩ := h
    refine r_iconst (pc := 21) (v := 0) dX12_bounded_21 (by decide) ?_
    exact r_iret (pc := 22) dX12_bounded_22 rfl h
theorem vX12_bounded_55 {G : GG} {d rc rs : Nat} (p0 : Nat) (x1 : Int32) (x2 : Int32) (x3 : Int32) (x4 : Int32)  {M : Mem} {Q : Option Value → Mem → Prop} (h : (x_h M p0).1 = 28 ∧ (∀ M2, M2 = x_si M p0 44 ((x_i M p0 44) ||| (1 <<< (x3 &&& 31))) → Call G d 0 0 mX12_next [.ref p0] M2 (fun r3 M4 => r3 = none ∧ Call G d 0 0 mX12_not [.ref p0] M4 (fun r5 M6 => ∃ v7 : Int32, r5 = some (.int v7) ∧ (¬ x4 = 0 → (x_h M6 p0).1 = 28 ∧ Call G d 0 0 mX12_ended [.ref p0, .int x1, .int v7, .int 0, .int x3, .int x2] M6 (fun r10 M11 => ∃ v12 : Int32, r10 = some (.int v12) ∧ (x_h M11 p0).1 = 28 ∧ (∃ b14, x_r M11 p0 53 = some b14 ∧ (x_h M11 b14).1 = 1 ∧ vp_in v7 (x_h M11 b14).2 ∧ vp_in v12 (x_h M11 b14).2 ∧ (∀ M18, M18 = x_si M11 b14 v12.toNatClampNeg ((x_i M11 b14 v7.toNatClampNeg) &&& ((1 <<< (x3 &&& 31)) ^^^ (-1))) → Q (some (.int v12)) M18)))) ∧ (x4 = 0 → (x_h M6 p0).1 = 28 ∧ (∀ M20, M20 = x_si M6 p0 44 ((x_i M6 p0 44) &&& ((1 <<< (x3 &&& 31)) ^^^ (-1))) → Call G d 0 0 mX12_ended [.ref p0, .int x1, .int v7, .int 0, .int x3, .int x2] M20 (fun r21 M22 => ∃ v23 : Int32, r21 = some (.int v23) ∧ (x_h M22 p0).1 = 28 ∧ (∃ b25, x_r M22 p0 53 = some b25 ∧ (x_h M22 b25).1 = 1 ∧ vp_in v7 (x_h M22 b25).2 ∧ vp_in v23 (x_h M22 b25).2 ∧ (∀ M29, M29 = x_si M22 b25 v23.toNatClampNeg ((x_i M22 b25 v7.toNatClampNeg) &&& ((1 <<< (x3 &&& 31)) ^^^ (-1))) → Q (some (.int v23)) M29))))))))) : LX12_bounded_55 G d rc rs p0 x1 x2 x3 x4 M Q := by
  show Wk G (d + 1) rc rs mX12_bounded 55 _ _ M Q
  refine r_aload_n (pc := 55) (i := 0) dX12_bounded_55 rfl rfl ?_
  refine r_dup (pc := 56) dX12_bounded_56 rfl ?_
  obtain ⟨k1, h⟩ := h
  refine r_geti (pc := 57) flX12_378 dX12_bounded_57 (Or.inl rfl) k1 ?_
  refine r_iconst (pc := 60) (v := 1) dX12_bounded_60 (by decide) ?_
  refine r_iload_n (pc := 61) (i := 3) dX12_bounded_61 rfl rfl ?_
  refine r_ishl (pc := 62) dX12_bounded_62 ?_
  refine r_ior (pc := 63) dX12_bounded_63 ?_
  refine r_puti (pc := 64) flX12_378 dX12_bounded_64 (Or.inl rfl) (fun q hq => by cases hq; rfl) k1 ?_
  replace h := h _ rfl
  refine r_aload_n (pc := 67) (i := 0) dX12_bounded_67 rfl rfl ?_
  refine r_callV (pc := 68) (ci := 12) (as := []) (st := []) okX12_next lkX12_340 inX12_next seX12_next ⟨_, rfl, rfl⟩ dX12_bounded_68 rfl k1 (Nat.le_of_ble_eq_true rfl) (Nat.zero_le _) (Nat.zero_le _) (Call.mono h (fun r3 M4 h => ?_))
  obtain ⟨rfl, h⟩ := h
  refine r_aload_n (pc := 71) (i := 0) dX12_bounded_71 rfl rfl ?_
  refine r_callS (pc := 72) (as := [_]) (st := []) okX12_not lkX12_360 stX12_not dX12_bounded_72 rfl (Nat.le_of_ble_eq_true rfl) (Nat.zero_le _) (Nat.zero_le _) (Call.mono h (fun r5 M6 h => ?_))
  obtain ⟨v7, rfl, h⟩ := h
  refine r_istore (pc := 75) (i := 5) dX12_bounded_75 rfl (Nat.le_of_ble_eq_true rfl) ?_
  refine r_iload (pc := 77) (i := 4) dX12_bounded_77 rfl ?_
  refine r_if_ne (pc := 79) (tgt := 96) dX12_bounded_79 (by decide) (fun c8 => ?_) (fun c8 => ?_)
  · replace h := h.1 c8
    refine r_aload_n (pc := 96) (i := 0) dX12_bounded_96 rfl rfl ?_
    refine r_iload_n (pc := 97) (i := 1) dX12_bounded_97 rfl rfl ?_
    refine r_iload (pc := 98) (i := 5) dX12_bounded_98 rfl ?_
    refine r_iconst (pc := 100) (v := 0) dX12_bounded_100 (by decide) ?_
    refine r_iload_n (pc := 101) (i := 3) dX12_bounded_101 rfl rfl ?_
    refine r_iload_n (pc := 102) (i := 2) dX12_bounded_102 rfl rfl ?_
    obtain ⟨k9, h⟩ := h
    refine r_callV (pc := 103) (ci := 12) (as := [_, _, _, _, _]) (st := []) okX12_ended lkX12_353 inX12_ended seX12_ended ⟨_, rfl, rfl⟩ dX12_bounded_103 rfl k9 (Nat.le_of_ble_eq_true rfl) (Nat.zero_le _) (Nat.zero_le _) (Call.mono h (fun r10 M11 h => ?_))
    obtain ⟨v12, rfl, h⟩ := h
    refine r_istore (pc := 106) (i := 6) dX12_bounded_106 rfl (Nat.le_of_ble_eq_true rfl) ?_
    refine r_aload_n (pc := 108) (i := 0) dX12_bounded_108 rfl rfl ?_
    obtain ⟨k13, h⟩ := h
    obtain ⟨b14, hb14, h⟩ := h
    refine r_getr (pc := 109) flX12_119 dX12_bounded_109 rfl k13 hb14 ?_
    refine r_iload (pc := 112) (i := 6) dX12_bounded_112 rfl ?_
    refine r_aload_n (pc := 114) (i := 0) dX12_bounded_114 rfl rfl ?_
    refine r_getr (pc := 115) flX12_119 dX12_bounded_115 rfl k13 hb14 ?_
    refine r_iload (pc := 118) (i := 5) dX12_bounded_118 rfl ?_
    obtain ⟨k15, h⟩ := h
    obtain ⟨i16, h⟩ := h
    refine r_iald (pc := 120) dX12_bounded_120 k15 i16 ?_
    refine r_iconst (pc := 121) (v := 1) dX12_bounded_121 (by decide) ?_
    refine r_iload_n (pc := 122) (i := 3) dX12_bounded_122 rfl rfl ?_
    refine r_ishl (pc := 123) dX12_bounded_123 ?_
    refine r_iconst (pc := 124) (v := (-1)) dX12_bounded_124 (by decide) ?_
    refine r_ixor (pc := 125) dX12_bounded_125 ?_
    refine r_iand (pc := 126) dX12_bounded_126 ?_
    obtain ⟨i17, h⟩ := h
    refine r_iast (pc := 127) dX12_bounded_127 k15 i17 ?_
    replace h := h _ rfl
    refine r_iload (pc := 128) (i := 6) dX12_bounded_128 rfl ?_
    exact r_iret (pc := 130) dX12_bounded_130 rfl h
  · replace h := h.2 c8
    refine r_aload_n (pc := 82) (i := 0) dX12_bounded_82 rfl rfl ?_
    refine r_dup (pc := 83) dX12_bounded_83 rfl ?_
    obtain ⟨k19, h⟩ := h
    refine r_geti (pc := 84) flX12_378 dX12_bounded_84 (Or.inl rfl) k19 ?_
    refine r_iconst (pc := 87) (v := 1) dX12_bounded_87 (by decide) ?_
    refine r_iload_n (pc := 88) (i := 3) dX12_bounded_88 rfl rfl ?_
    refine r_ishl (pc := 89) dX12_bounded_89 ?_
    refine r_iconst (pc := 90) (v := (-1)) dX12_bounded_90 (by decide) ?_
    refine r_ixor (pc := 91) dX12_bounded_91 ?_
    refine r_iand (pc := 92) dX12_bounded_92 ?_
    refine r_puti (pc := 93) flX12_378 dX12_bounded_93 (Or.inl rfl) (fun q hq => by cases hq; rfl) k19 ?_
    replace h := h _ rfl
    refine r_aload_n (pc := 96) (i := 0) dX12_bounded_96 rfl rfl ?_
    refine r_iload_n (pc := 97) (i := 1) dX12_bounded_97 rfl rfl ?_
    refine r_iload (pc := 98) (i := 5) dX12_bounded_98 rfl ?_
    refine r_iconst (pc := 100) (v := 0) dX12_bounded_100 (by decide) ?_
    refine r_iload_n (pc := 101) (i := 3) dX12_bounded_101 rfl rfl ?_
    refine r_iload_n (pc := 102) (i := 2) dX12_bounded_102 rfl rfl ?_
    refine r_callV (pc := 103) (ci := 12) (as := [_, _, _, _, _]) (st := []) okX12_ended lkX12_353 inX12_ended seX12_ended ⟨_, rfl, rfl⟩ dX12_bounded_103 rfl k19 (Nat.le_of_ble_eq_true rfl) (Nat.zero_le _) (Nat.zero_le _) (Call.mono h (fun r21 M22 h => ?_))
    obtain ⟨v23, rfl, h⟩ := h
    refine r_istore (pc := 106) (i := 6) dX12_bounded_106 rfl (Nat.le_of_ble_eq_true rfl) ?_
    refine r_aload_n (pc := 108) (i := 0) dX12_bounded_108 rfl rfl ?_
    obtain ⟨k24, h⟩ := h
    obtain ⟨b25, hb25, h⟩ := h
    refine r_getr (pc := 109) flX12_119 dX12_bounded_109 rfl k24 hb25 ?_
    refine r_iload (pc := 112) (i := 6) dX12_bounded_112 rfl ?_
    refine r_aload_n (pc := 114) (i := 0) dX12_bounded_114 rfl rfl ?_
    refine r_getr (pc := 115) flX12_119 dX12_bounded_115 rfl k24 hb25 ?_
    refine r_iload (pc := 118) (i := 5) dX12_bounded_118 rfl ?_
    obtain ⟨k26, h⟩ := h
    obtain ⟨i27, h⟩ := h
    refine r_iald (pc := 120) dX12_bounded_120 k26 i27 ?_
    refine r_iconst (pc := 121) (v := 1) dX12_bounded_121 (by decide) ?_
    refine r_iload_n (pc := 122) (i := 3) dX12_bounded_122 rfl rfl ?_
    refine r_ishl (pc := 123) dX12_bounded_123 ?_
    refine r_iconst (pc := 124) (v := (-1)) dX12_bounded_124 (by decide) ?_
    refine r_ixor (pc := 125) dX12_bounded_125 ?_
    refine r_iand (pc := 126) dX12_bounded_126 ?_
    obtain ⟨i28, h⟩ := h
    refine r_iast (pc := 127) dX12_bounded_127 k26 i28 ?_
    replace h := h _ rfl
    refine r_iload (pc := 128) (i := 6) dX12_bounded_128 rfl ?_
    exact r_iret (pc := 130) dX12_bounded_130 rfl h
abbrev LX12_sums_10 (G : GG) (d rc rs : Nat) (p0 : Nat) (x1 : Int32) (M : Mem) (Q : Option Value → Mem → Prop) : Prop := Wk G (d + 1) rc rs mX12_sums 10 [some (.ref p0), some (.int x1)] [] M Q
theorem eX12_sums {G : GG} {d rc rs : Nat} (o : Nat) (a1 : Int32)  {M : Mem} {Q : Option Value → Mem → Prop} (h : (x_h M o).1 = 28 ∧ (∀ M2, M2 = x_si M o 67 0 → Call G d 0 0 mX12_term [.ref o, .int a1] M2 (fun r3 M4 => r3 = none ∧ LX12_sums_10 G d rc rs o a1 M4 Q))) : Call G (d + 1) rc rs mX12_sums [.ref o, .int a1] M Q := by
  refine call_of (by decide) (Nat.le_of_ble_eq_true rfl) ?_
  show Wk G (d + 1) rc rs mX12_sums 0 [some (.ref o), some (.int a1)] [] M Q
  refine r_aload_n (pc := 0) (i := 0) dX12_sums_0 rfl rfl ?_
  refine r_iconst (pc := 1) (v := 0) dX12_sums_1 (by decide) ?_
  obtain ⟨k1, h⟩ := h
  refine r_puti (pc := 2) flX12_384 dX12_sums_2 (Or.inl rfl) (fun q hq => by cases hq; rfl) k1 ?_
  replace h := h _ rfl
  refine r_aload_n (pc := 5) (i := 0) dX12_sums_5 rfl rfl ?_
  refine r_iload_n (pc := 6) (i := 1) dX12_sums_6 rfl rfl ?_
  refine r_callV (pc := 7) (ci := 12) (as := [_]) (st := []) okX12_term lkX12_387 inX12_term seX12_term ⟨_, rfl, rfl⟩ dX12_sums_7 rfl k1 (Nat.le_of_ble_eq_true rfl) (Nat.zero_le _) (Nat.zero_le _) (Call.mono h (fun r3 M4 h => ?_))
  obtain ⟨rfl, h⟩ := h
  exact h
theorem vX12_sums_10 {G : GG} {d rc rs : Nat} (p0 : Nat) (x1 : Int32)  {M : Mem} {Q : Option Value → Mem → Prop} (h : (x_h M p0).1 = 28 ∧ Call G d 0 0 mX12_isSign [.ref p0, .int 43] M (fun r2 M3 => ∃ v4 : Int32, r2 = some (.int v4) ∧ (v4 = 0 → Q none M3) ∧ (¬ v4 = 0 → (x_h M3 p0).1 = 28 ∧ Call G d 0 0 mX12_next [.ref p0] M3 (fun r7 M8 => r7 = none ∧ (x_h M8 p0).1 = 28 ∧ Call G d 0 0 mX12_term [.ref p0, .int x1] M8 (fun r10 M11 => r10 = none ∧ LX12_sums_10 G d rc rs p0 x1 M11 Q))))) : LX12_sums_10 G d rc rs p0 x1 M Q := by
  show Wk G (d + 1) rc rs mX12_sums 10 _ _ M Q
  refine r_aload_n (pc := 10) (i := 0) dX12_sums_10 rfl rfl ?_
  refine r_bipush (pc := 11) (v := 43) dX12_sums_11 (by decide) ?_
  obtain ⟨k1, h⟩ := h
  refine r_callV (pc := 13) (ci := 12) (as := [_]) (st := []) okX12_isSign lkX12_337 inX12_isSign seX12_isSign ⟨_, rfl, rfl⟩ dX12_sums_13 rfl k1 (Nat.le_of_ble_eq_true rfl) (Nat.zero_le _) (Nat.zero_le _) (Call.mono h (fun r2 M3 h => ?_))
  obtain ⟨v4, rfl, h⟩ := h
  refine r_if_eq (pc := 16) (tgt := 31) dX12_sums_16 (by decide) (fun c5 => ?_) (fun c5 => ?_)
  · replace h := h.1 c5
    exact r_vret (pc := 31) dX12_sums_31 rfl h
  · replace h := h.2 c5
    refine r_aload_n (pc := 19) (i := 0) dX12_sums_19 rfl rfl ?_
    obtain ⟨k6, h⟩ := h
    refine r_callV (pc := 20) (ci := 12) (as := []) (st := []) okX12_next lkX12_340 inX12_next seX12_next ⟨_, rfl, rfl⟩ dX12_sums_20 rfl k6 (Nat.le_of_ble_eq_true rfl) (Nat.zero_le _) (Nat.zero_le _) (Call.mono h (fun r7 M8 h => ?_))
    obtain ⟨rfl, h⟩ := h
    refine r_aload_n (pc := 23) (i := 0) dX12_sums_23 rfl rfl ?_
    refine r_iload_n (pc := 24) (i := 1) dX12_sums_24 rfl rfl ?_
    obtain ⟨k9, h⟩ := h
    refine r_callV (pc := 25) (ci := 12) (as := [_]) (st := []) okX12_term lkX12_387 inX12_term seX12_term ⟨_, rfl, rfl⟩ dX12_sums_25 rfl k9 (Nat.le_of_ble_eq_true rfl) (Nat.zero_le _) (Nat.zero_le _) (Call.mono h (fun r10 M11 h => ?_))
    obtain ⟨rfl, h⟩ := h
    refine r_goto (pc := 28) (tgt := 10) dX12_sums_28 (by decide) ?_
    exact h
theorem eX12_term {G : GG} {d rc rs : Nat} (o : Nat) (a1 : Int32)  {M : Mem} {Q : Option Value → Mem → Prop} (h : (x_h M o).1 = 28 ∧ (¬ (x_i M o 39) = 2 → (¬ (x_i M o 39) = 1 → Call G d 0 0 mX12_cannot [.ref o] M (fun r4 M5 => r4 = none ∧ Q none M5)) ∧ ((x_i M o 39) = 1 → ∀ M6, M6 = x_si M o 66 ((x_i M o 66) + (a1 * (x_i M o 40))) → ∀ M7, M7 = x_si M6 o 67 ((x_i M6 o 67) + (x_i M6 o 40)) → ((x_i M7 o 67) ≤ 99 → Call G d 0 0 mX12_next [.ref o] M7 (fun r9 M10 => r9 = none ∧ Q none M10)) ∧ (¬ (x_i M7 o 67) ≤ 99 → Call G d 0 0 mX12_notes [.ref o, .int (x_i M7 o 41)] M7 (fun r11 M12 => r11 = none ∧ (x_h M12 o).1 = 28 ∧ Call G d 0 0 mX12_next [.ref o] M12 (fun r14 M15 => r14 = none ∧ Q none M15))))) ∧ ((x_i M o 39) = 2 → ∃ b16, x_r M o 65 = some b16 ∧ (x_h M b16).1 = 1 ∧ vp_in (x_i M o 40) (x_h M b16).2 ∧ (∀ M19, M19 = x_si M b16 (x_i M o 40).toNatClampNeg ((x_i M b16 (x_i M o 40).toNatClampNeg) + a1) → ∀ M20, M20 = x_si M19 o 68 ((x_i M19 o 68) ||| (1 <<< ((x_i M19 o 40) &&& 31))) → Call G d 0 0 mX12_next [.ref o] M20 (fun r21 M22 => r21 = none ∧ Q none M22)))) : Call G (d + 1) rc rs mX12_term [.ref o, .int a1] M Q := by
  refine call_of (by decide) (Nat.le_of_ble_eq_true rfl) ?_
  show Wk G (d + 1) rc rs mX12_term 0 [some (.ref o), some (.int a1)] [] M Q
  refine r_aload_n (pc := 0) (i := 0) dX12_term_0 rfl rfl ?_
  obtain ⟨k1, h⟩ := h
  refine r_geti (pc := 1) flX12_307 dX12_term_1 (Or.inl rfl) k1 ?_
  refine r_iconst (pc := 4) (v := 2) dX12_term_4 (by decide) ?_
  refine r_icmp_ne (pc := 5) (tgt := 43) dX12_term_5 (by decide) (fun c2 => ?_) (fun c2 => ?_)
  · replace h := h.1 c2
    refine r_aload_n (pc := 43) (i := 0) dX12_term_43 rfl rfl ?_
    refine r_geti (pc := 44) flX12_307 dX12_term_44 (Or.inl rfl) k1 ?_
    refine r_iconst (pc := 47) (v := 1) dX12_term_47 (by decide) ?_
    refine r_icmp_ne (pc := 48) (tgt := 103) dX12_term_48 (by decide) (fun c3 => ?_) (fun c3 => ?_)
    · replace h := h.1 c3
      refine r_aload_n (pc := 103) (i := 0) dX12_term_103 rfl rfl ?_
      refine r_callV (pc := 104) (ci := 12) (as := []) (st := []) okX12_cannot lkX12_331 inX12_cannot seX12_cannot ⟨_, rfl, rfl⟩ dX12_term_104 rfl k1 (Nat.le_of_ble_eq_true rfl) (Nat.zero_le _) (Nat.zero_le _) (Call.mono h (fun r4 M5 h => ?_))
      obtain ⟨rfl, h⟩ := h
      exact r_vret (pc := 107) dX12_term_107 rfl h
    · replace h := h.2 c3
      refine r_aload_n (pc := 51) (i := 0) dX12_term_51 rfl rfl ?_
      refine r_dup (pc := 52) dX12_term_52 rfl ?_
      refine r_geti (pc := 53) flX12_393 dX12_term_53 (Or.inl rfl) k1 ?_
      refine r_iload_n (pc := 56) (i := 1) dX12_term_56 rfl rfl ?_
      refine r_aload_n (pc := 57) (i := 0) dX12_term_57 rfl rfl ?_
      refine r_geti (pc := 58) flX12_328 dX12_term_58 (Or.inl rfl) k1 ?_
      refine r_imul (pc := 61) dX12_term_61 ?_
      refine r_iadd (pc := 62) dX12_term_62 ?_
      refine r_puti (pc := 63) flX12_393 dX12_term_63 (Or.inl rfl) (fun q hq => by cases hq; rfl) k1 ?_
      replace h := h _ rfl
      refine r_aload_n (pc := 66) (i := 0) dX12_term_66 rfl rfl ?_
      refine r_dup (pc := 67) dX12_term_67 rfl ?_
      refine r_geti (pc := 68) flX12_384 dX12_term_68 (Or.inl rfl) k1 ?_
      refine r_aload_n (pc := 71) (i := 0) dX12_term_71 rfl rfl ?_
      refine r_geti (pc := 72) flX12_328 dX12_term_72 (Or.inl rfl) k1 ?_
      refine r_iadd (pc := 75) dX12_term_75 ?_
      refine r_puti (pc := 76) flX12_384 dX12_term_76 (Or.inl rfl) (fun q hq => by cases hq; rfl) k1 ?_
      replace h := h _ rfl
      refine r_aload_n (pc := 79) (i := 0) dX12_term_79 rfl rfl ?_
      refine r_geti (pc := 80) flX12_384 dX12_term_80 (Or.inl rfl) k1 ?_
      refine r_bipush (pc := 83) (v := 99) dX12_term_83 (by decide) ?_
      refine r_icmp_le (pc := 85) (tgt := 96) dX12_term_85 (by decide) (fun c8 => ?_) (fun c8 => ?_)
      · replace h := h.1 c8
        refine r_aload_n (pc := 96) (i := 0) dX12_term_96 rfl rfl ?_
        refine r_callV (pc := 97) (ci := 12) (as := []) (st := []) okX12_next lkX12_340 inX12_next seX12_next ⟨_, rfl, rfl⟩ dX12_term_97 rfl k1 (Nat.le_of_ble_eq_true rfl) (Nat.zero_le _) (Nat.zero_le _) (Call.mono h (fun r9 M10 h => ?_))
        obtain ⟨rfl, h⟩ := h
        refine r_goto (pc := 100) (tgt := 107) dX12_term_100 (by decide) ?_
        exact r_vret (pc := 107) dX12_term_107 rfl h
      · replace h := h.2 c8
        refine r_aload_n (pc := 88) (i := 0) dX12_term_88 rfl rfl ?_
        refine r_aload_n (pc := 89) (i := 0) dX12_term_89 rfl rfl ?_
        refine r_geti (pc := 90) flX12_301 dX12_term_90 (Or.inl rfl) k1 ?_
        refine r_callV (pc := 93) (ci := 12) (as := [_]) (st := []) okX12_notes lkX12_381 inX12_notes seX12_notes ⟨_, rfl, rfl⟩ dX12_term_93 rfl k1 (Nat.le_of_ble_eq_true rfl) (Nat.zero_le _) (Nat.zero_le _) (Call.mono h (fun r11 M12 h => ?_))
        obtain ⟨rfl, h⟩ := h
        refine r_aload_n (pc := 96) (i := 0) dX12_term_96 rfl rfl ?_
        obtain ⟨k13, h⟩ := h
        refine r_callV (pc := 97) (ci := 12) (as := []) (st := []) okX12_next lkX12_340 inX12_next seX12_next ⟨_, rfl, rfl⟩ dX12_term_97 rfl k13 (Nat.le_of_ble_eq_true rfl) (Nat.zero_le _) (Nat.zero_le _) (Call.mono h (fun r14 M15 h => ?_))
        obtain ⟨rfl, h⟩ := h
        refine r_goto (pc := 100) (tgt := 107) dX12_term_100 (by decide) ?_
        exact r_vret (pc := 107) dX12_term_107 rfl h
  · replace h := h.2 c2
    refine r_aload_n (pc := 8) (i := 0) dX12_term_8 rfl rfl ?_
    obtain ⟨b16, hb16, h⟩ := h
    refine r_getr (pc := 9) flX12_155 dX12_term_9 rfl k1 hb16 ?_
    refine r_aload_n (pc := 12) (i := 0) dX12_term_12 rfl rfl ?_
    refine r_geti (pc := 13) flX12_328 dX12_term_13 (Or.inl rfl) k1 ?_
    refine r_dup2 (pc := 16) dX12_term_16 rfl rfl ?_
    obtain ⟨k17, h⟩ := h
    obtain ⟨i18, h⟩ := h
    refine r_iald (pc := 17) dX12_term_17 k17 i18 ?_
    refine r_iload_n (pc := 18) (i := 1) dX12_term_18 rfl rfl ?_
    refine r_iadd (pc := 19) dX12_term_19 ?_
    refine r_iast (pc := 20) dX12_term_20 k17 i18 ?_
    replace h := h _ rfl
    refine r_aload_n (pc := 21) (i := 0) dX12_term_21 rfl rfl ?_
    refine r_dup (pc := 22) dX12_term_22 rfl ?_
    refine r_geti (pc := 23) flX12_390 dX12_term_23 (Or.inl rfl) k1 ?_
    refine r_iconst (pc := 26) (v := 1) dX12_term_26 (by decide) ?_
    refine r_aload_n (pc := 27) (i := 0) dX12_term_27 rfl rfl ?_
    refine r_geti (pc := 28) flX12_328 dX12_term_28 (Or.inl rfl) k1 ?_
    refine r_ishl (pc := 31) dX12_term_31 ?_
    refine r_ior (pc := 32) dX12_term_32 ?_
    refine r_puti (pc := 33) flX12_390 dX12_term_33 (Or.inl rfl) (fun q hq => by cases hq; rfl) k1 ?_
    replace h := h _ rfl
    refine r_aload_n (pc := 36) (i := 0) dX12_term_36 rfl rfl ?_
    refine r_callV (pc := 37) (ci := 12) (as := []) (st := []) okX12_next lkX12_340 inX12_next seX12_next ⟨_, rfl, rfl⟩ dX12_term_37 rfl k1 (Nat.le_of_ble_eq_true rfl) (Nat.zero_le _) (Nat.zero_le _) (Call.mono h (fun r21 M22 h => ?_))
    obtain ⟨rfl, h⟩ := h
    refine r_goto (pc := 40) (tgt := 107) dX12_term_40 (by decide) ?_
    exact r_vret (pc := 107) dX12_term_107 rfl h
abbrev LX12_atom_15 (G : GG) (d rc rs : Nat) (p0 : Nat) (x1 : Int32) (M : Mem) (Q : Option Value → Mem → Prop) : Prop := Wk G (d + 1) rc rs mX12_atom 15 [some (.ref p0), some (.int x1), none, none, none] [] M Q
abbrev LX12_atom_128 (G : GG) (d rc rs : Nat) (p0 : Nat) (x1 : Int32) (x2 : Int32) (x3 : Int32) (x4 : Int32) (M : Mem) (Q : Option Value → Mem → Prop) : Prop := Wk G (d + 1) rc rs mX12_atom 128 [some (.ref p0), some (.int x1), some (.int x2), some (.int x3), some (.int x4)] [] M Q
theorem eX12_atom {G : GG} {d rc rs : Nat} (o : Nat)  {M : Mem} {Q : Option Value → Mem → Prop} (h : (x_h M o).1 = 28 ∧ (¬ (x_i M o 39) = 3 → LX12_atom_15 G d rc rs o 0 M Q) ∧ ((x_i M o 39) = 3 → Call G d 0 0 mX12_lettersAtom [.ref o] M (fun r3 M4 => ∃ v5 : Int32, r3 = some (.int v5) ∧ Q (some (.int v5)) M4))) : Call G (d + 1) rc rs mX12_atom [.ref o] M Q := by
  refine call_of (by decide) (Nat.le_of_ble_eq_true rfl) ?_
  show Wk G (d + 1) rc rs mX12_atom 0 [some (.ref o), none, none, none, none] [] M Q
  refine r_aload_n (pc := 0) (i := 0) dX12_atom_0 rfl rfl ?_
  obtain ⟨k1, h⟩ := h
  refine r_geti (pc := 1) flX12_307 dX12_atom_1 (Or.inl rfl) k1 ?_
  refine r_iconst (pc := 4) (v := 3) dX12_atom_4 (by decide) ?_
  refine r_icmp_ne (pc := 5) (tgt := 13) dX12_atom_5 (by decide) (fun c2 => ?_) (fun c2 => ?_)
  · replace h := h.1 c2
    refine r_iconst (pc := 13) (v := 0) dX12_atom_13 (by decide) ?_
    refine r_istore_n (pc := 14) (i := 1) dX12_atom_14 rfl rfl (Nat.le_of_ble_eq_true rfl) ?_
    exact h
  · replace h := h.2 c2
    refine r_aload_n (pc := 8) (i := 0) dX12_atom_8 rfl rfl ?_
    refine r_callV (pc := 9) (ci := 12) (as := []) (st := []) okX12_lettersAtom lkX12_396 inX12_lettersAtom seX12_lettersAtom ⟨_, rfl, rfl⟩ dX12_atom_9 rfl k1 (Nat.le_of_ble_eq_true rfl) (Nat.zero_le _) (Nat.zero_le _) (Call.mono h (fun r3 M4 h => ?_))
    obtain ⟨v5, rfl, h⟩ := h
    exact r_iret (pc := 12) dX12_atom_12 rfl h
theorem vX12_atom_15 {G : GG} {d rc rs : Nat} (p0 : Nat) (x1 : Int32)  {M : Mem} {Q : Option Value → Mem → Prop} (h : (8 ≤ x1 → (x_h M p0).1 = 28 ∧ (∀ M3, M3 = x_si M p0 66 0 → ∀ M4, M4 = x_si M3 p0 68 0 → Call G d 0 0 mX12_sums [.ref p0, .int 1] M4 (fun r5 M6 => r5 = none ∧ (x_h M6 p0).1 = 28 ∧ (¬ (x_i M6 p0 39) = 11 → Call G d 0 0 mX12_isSign [.ref p0, .int 60] M6 (fun r9 M10 => ∃ v11 : Int32, r9 = some (.int v11) ∧ (v11 = 0 → (x_h M10 p0).1 = 28 ∧ Call G d 0 0 mX12_isSign [.ref p0, .int 61] M10 (fun r14 M15 => ∃ v16 : Int32, r14 = some (.int v16) ∧ (v16 = 0 → (¬ ((-1) : Int32) = (-1) → (x_h M15 p0).1 = 28 ∧ Call G d 0 0 mX12_next [.ref p0] M15 (fun r20 M21 => r20 = none ∧ (x_h M21 p0).1 = 28 ∧ Call G d 0 0 mX12_sums [.ref p0, .int (-1)] M21 (fun r23 M24 => r23 = none ∧ (x_h M24 p0).1 = 28 ∧ Call G d 0 0 mX12_ended [.ref p0, .int 0, .int 0, .int 0, .int 0, .int (x_i M6 p0 41)] M24 (fun r26 M27 => ∃ v28 : Int32, r26 = some (.int v28) ∧ LX12_atom_128 G d rc rs p0 (x_i M6 p0 41) (-1) v28 0 M27 Q)))) ∧ (((-1) : Int32) = (-1) → (x_h M15 p0).1 = 28 ∧ Call G d 0 0 mX12_cannot [.ref p0] M15 (fun r30 M31 => r30 = none ∧ Q (some (.int 0)) M31))) ∧ (¬ v16 = 0 → (¬ (0 : Int32) = (-1) → (x_h M15 p0).1 = 28 ∧ Call G d 0 0 mX12_next [.ref p0] M15 (fun r34 M35 => r34 = none ∧ (x_h M35 p0).1 = 28 ∧ Call G d 0 0 mX12_sums [.ref p0, .int (-1)] M35 (fun r37 M38 => r37 = none ∧ (x_h M38 p0).1 = 28 ∧ Call G d 0 0 mX12_ended [.ref p0, .int 0, .int 0, .int 0, .int 0, .int (x_i M6 p0 41)] M38 (fun r40 M41 => ∃ v42 : Int32, r40 = some (.int v42) ∧ LX12_atom_128 G d rc rs p0 (x_i M6 p0 41) 0 v42 0 M41 Q)))) ∧ ((0 : Int32) = (-1) → (x_h M15 p0).1 = 28 ∧ Call G d 0 0 mX12_cannot [.ref p0] M15 (fun r44 M45 => r44 = none ∧ Q (some (.int 0)) M45))))) ∧ (¬ v11 = 0 → (¬ (1 : Int32) = (-1) → (x_h M10 p0).1 = 28 ∧ Call G d 0 0 mX12_next [.ref p0] M10 (fun r48 M49 => r48 = none ∧ (x_h M49 p0).1 = 28 ∧ Call G d 0 0 mX12_sums [.ref p0, .int (-1)] M49 (fun r51 M52 => r51 = none ∧ (x_h M52 p0).1 = 28 ∧ Call G d 0 0 mX12_ended [.ref p0, .int 0, .int 0, .int 0, .int 0, .int (x_i M6 p0 41)] M52 (fun r54 M55 => ∃ v56 : Int32, r54 = some (.int v56) ∧ LX12_atom_128 G d rc rs p0 (x_i M6 p0 41) 1 v56 0 M55 Q)))) ∧ ((1 : Int32) = (-1) → (x_h M10 p0).1 = 28 ∧ Call G d 0 0 mX12_cannot [.ref p0] M10 (fun r58 M59 => r58 = none ∧ Q (some (.int 0)) M59))))) ∧ ((x_i M6 p0 39) = 11 → (¬ (2 : Int32) = (-1) → Call G d 0 0 mX12_next [.ref p0] M6 (fun r61 M62 => r61 = none ∧ (x_h M62 p0).1 = 28 ∧ Call G d 0 0 mX12_sums [.ref p0, .int (-1)] M62 (fun r64 M65 => r64 = none ∧ (x_h M65 p0).1 = 28 ∧ Call G d 0 0 mX12_ended [.ref p0, .int 0, .int 0, .int 0, .int 0, .int (x_i M6 p0 41)] M65 (fun r67 M68 => ∃ v69 : Int32, r67 = some (.int v69) ∧ LX12_atom_128 G d rc rs p0 (x_i M6 p0 41) 2 v69 0 M68 Q)))) ∧ ((2 : Int32) = (-1) → Call G d 0 0 mX12_cannot [.ref p0] M6 (fun r70 M71 => r70 = none ∧ Q (some (.int 0)) M71)))))) ∧ (¬ 8 ≤ x1 → (x_h M p0).1 = 28 ∧ (∃ b73, x_r M p0 65 = some b73 ∧ (x_h M b73).1 = 1 ∧ vp_in x1 (x_h M b73).2 ∧ (∀ M76, M76 = x_si M b73 x1.toNatClampNeg 0 → LX12_atom_15 G d rc rs p0 (x1 + 1) M76 Q)))) : LX12_atom_15 G d rc rs p0 x1 M Q := by
  show Wk G (d + 1) rc rs mX12_atom 15 _ _ M Q
  refine r_iload_n (pc := 15) (i := 1) dX12_atom_15 rfl rfl ?_
  refine r_bipush (pc := 16) (v := 8) dX12_atom_16 (by decide) ?_
  refine r_icmp_ge (pc := 18) (tgt := 34) dX12_atom_18 (by decide) (fun c1 => ?_) (fun c1 => ?_)
  · replace h := h.1 c1
    refine r_aload_n (pc := 34) (i := 0) dX12_atom_34 rfl rfl ?_
    refine r_iconst (pc := 35) (v := 0) dX12_atom_35 (by decide) ?_
    obtain ⟨k2, h⟩ := h
    refine r_puti (pc := 36) flX12_393 dX12_atom_36 (Or.inl rfl) (fun q hq => by cases hq; rfl) k2 ?_
    replace h := h _ rfl
    refine r_aload_n (pc := 39) (i := 0) dX12_atom_39 rfl rfl ?_
    refine r_iconst (pc := 40) (v := 0) dX12_atom_40 (by decide) ?_
    refine r_puti (pc := 41) flX12_390 dX12_atom_41 (Or.inl rfl) (fun q hq => by cases hq; rfl) k2 ?_
    replace h := h _ rfl
    refine r_aload_n (pc := 44) (i := 0) dX12_atom_44 rfl rfl ?_
    refine r_iconst (pc := 45) (v := 1) dX12_atom_45 (by decide) ?_
    refine r_callV (pc := 46) (ci := 12) (as := [_]) (st := []) okX12_sums lkX12_399 inX12_sums seX12_sums ⟨_, rfl, rfl⟩ dX12_atom_46 rfl k2 (Nat.le_of_ble_eq_true rfl) (Nat.zero_le _) (Nat.zero_le _) (Call.mono h (fun r5 M6 h => ?_))
    obtain ⟨rfl, h⟩ := h
    refine r_aload_n (pc := 49) (i := 0) dX12_atom_49 rfl rfl ?_
    obtain ⟨k7, h⟩ := h
    refine r_geti (pc := 50) flX12_301 dX12_atom_50 (Or.inl rfl) k7 ?_
    refine r_istore_n (pc := 53) (i := 1) dX12_atom_53 rfl rfl (Nat.le_of_ble_eq_true rfl) ?_
    refine r_aload_n (pc := 54) (i := 0) dX12_atom_54 rfl rfl ?_
    refine r_geti (pc := 55) flX12_307 dX12_atom_55 (Or.inl rfl) k7 ?_
    refine r_bipush (pc := 58) (v := 11) dX12_atom_58 (by decide) ?_
    refine r_icmp_ne (pc := 60) (tgt := 67) dX12_atom_60 (by decide) (fun c8 => ?_) (fun c8 => ?_)
    · replace h := h.1 c8
      refine r_aload_n (pc := 67) (i := 0) dX12_atom_67 rfl rfl ?_
      refine r_bipush (pc := 68) (v := 60) dX12_atom_68 (by decide) ?_
      refine r_callV (pc := 70) (ci := 12) (as := [_]) (st := []) okX12_isSign lkX12_337 inX12_isSign seX12_isSign ⟨_, rfl, rfl⟩ dX12_atom_70 rfl k7 (Nat.le_of_ble_eq_true rfl) (Nat.zero_le _) (Nat.zero_le _) (Call.mono h (fun r9 M10 h => ?_))
      obtain ⟨v11, rfl, h⟩ := h
      refine r_if_eq (pc := 73) (tgt := 80) dX12_atom_73 (by decide) (fun c12 => ?_) (fun c12 => ?_)
      · replace h := h.1 c12
        refine r_aload_n (pc := 80) (i := 0) dX12_atom_80 rfl rfl ?_
        refine r_bipush (pc := 81) (v := 61) dX12_atom_81 (by decide) ?_
        obtain ⟨k13, h⟩ := h
        refine r_callV (pc := 83) (ci := 12) (as := [_]) (st := []) okX12_isSign lkX12_337 inX12_isSign seX12_isSign ⟨_, rfl, rfl⟩ dX12_atom_83 rfl k13 (Nat.le_of_ble_eq_true rfl) (Nat.zero_le _) (Nat.zero_le _) (Call.mono h (fun r14 M15 h => ?_))
        obtain ⟨v16, rfl, h⟩ := h
        refine r_if_eq (pc := 86) (tgt := 93) dX12_atom_86 (by decide) (fun c17 => ?_) (fun c17 => ?_)
        · replace h := h.1 c17
          refine r_iconst (pc := 93) (v := (-1)) dX12_atom_93 (by decide) ?_
          refine r_istore_n (pc := 94) (i := 2) dX12_atom_94 rfl rfl (Nat.le_of_ble_eq_true rfl) ?_
          refine r_iload_n (pc := 95) (i := 2) dX12_atom_95 rfl rfl ?_
          refine r_iconst (pc := 96) (v := (-1)) dX12_atom_96 (by decide) ?_
          refine r_icmp_ne (pc := 97) (tgt := 106) dX12_atom_97 (by decide) (fun c18 => ?_) (fun c18 => ?_)
          · replace h := h.1 c18
            refine r_aload_n (pc := 106) (i := 0) dX12_atom_106 rfl rfl ?_
            obtain ⟨k19, h⟩ := h
            refine r_callV (pc := 107) (ci := 12) (as := []) (st := []) okX12_next lkX12_340 inX12_next seX12_next ⟨_, rfl, rfl⟩ dX12_atom_107 rfl k19 (Nat.le_of_ble_eq_true rfl) (Nat.zero_le _) (Nat.zero_le _) (Call.mono h (fun r20 M21 h => ?_))
            obtain ⟨rfl, h⟩ := h
            refine r_aload_n (pc := 110) (i := 0) dX12_atom_110 rfl rfl ?_
            refine r_iconst (pc := 111) (v := (-1)) dX12_atom_111 (by decide) ?_
            obtain ⟨k22, h⟩ := h
            refine r_callV (pc := 112) (ci := 12) (as := [_]) (st := []) okX12_sums lkX12_399 inX12_sums seX12_sums ⟨_, rfl, rfl⟩ dX12_atom_112 rfl k22 (Nat.le_of_ble_eq_true rfl) (Nat.zero_le _) (Nat.zero_le _) (Call.mono h (fun r23 M24 h => ?_))
            obtain ⟨rfl, h⟩ := h
            refine r_aload_n (pc := 115) (i := 0) dX12_atom_115 rfl rfl ?_
            refine r_iconst (pc := 116) (v := 0) dX12_atom_116 (by decide) ?_
            refine r_iconst (pc := 117) (v := 0) dX12_atom_117 (by decide) ?_
            refine r_iconst (pc := 118) (v := 0) dX12_atom_118 (by decide) ?_
            refine r_iconst (pc := 119) (v := 0) dX12_atom_119 (by decide) ?_
            refine r_iload_n (pc := 120) (i := 1) dX12_atom_120 rfl rfl ?_
            obtain ⟨k25, h⟩ := h
            refine r_callV (pc := 121) (ci := 12) (as := [_, _, _, _, _]) (st := []) okX12_ended lkX12_353 inX12_ended seX12_ended ⟨_, rfl, rfl⟩ dX12_atom_121 rfl k25 (Nat.le_of_ble_eq_true rfl) (Nat.zero_le _) (Nat.zero_le _) (Call.mono h (fun r26 M27 h => ?_))
            obtain ⟨v28, rfl, h⟩ := h
            refine r_istore_n (pc := 124) (i := 3) dX12_atom_124 rfl rfl (Nat.le_of_ble_eq_true rfl) ?_
            refine r_iconst (pc := 125) (v := 0) dX12_atom_125 (by decide) ?_
            refine r_istore (pc := 126) (i := 4) dX12_atom_126 rfl (Nat.le_of_ble_eq_true rfl) ?_
            exact h
          · replace h := h.2 c18
            refine r_aload_n (pc := 100) (i := 0) dX12_atom_100 rfl rfl ?_
            obtain ⟨k29, h⟩ := h
            refine r_callV (pc := 101) (ci := 12) (as := []) (st := []) okX12_cannot lkX12_331 inX12_cannot seX12_cannot ⟨_, rfl, rfl⟩ dX12_atom_101 rfl k29 (Nat.le_of_ble_eq_true rfl) (Nat.zero_le _) (Nat.zero_le _) (Call.mono h (fun r30 M31 h => ?_))
            obtain ⟨rfl, h⟩ := h
            refine r_iconst (pc := 104) (v := 0) dX12_atom_104 (by decide) ?_
            exact r_iret (pc := 105) dX12_atom_105 rfl h
        · replace h := h.2 c17
          refine r_iconst (pc := 89) (v := 0) dX12_atom_89 (by decide) ?_
          refine r_goto (pc := 90) (tgt := 94) dX12_atom_90 (by decide) ?_
          refine r_istore_n (pc := 94) (i := 2) dX12_atom_94 rfl rfl (Nat.le_of_ble_eq_true rfl) ?_
          refine r_iload_n (pc := 95) (i := 2) dX12_atom_95 rfl rfl ?_
          refine r_iconst (pc := 96) (v := (-1)) dX12_atom_96 (by decide) ?_
          refine r_icmp_ne (pc := 97) (tgt := 106) dX12_atom_97 (by decide) (fun c32 => ?_) (fun c32 => ?_)
          · replace h := h.1 c32
            refine r_aload_n (pc := 106) (i := 0) dX12_atom_106 rfl rfl ?_
            obtain ⟨k33, h⟩ := h
            refine r_callV (pc := 107) (ci := 12) (as := []) (st := []) okX12_next lkX12_340 inX12_next seX12_next ⟨_, rfl, rfl⟩ dX12_atom_107 rfl k33 (Nat.le_of_ble_eq_true rfl) (Nat.zero_le _) (Nat.zero_le _) (Call.mono h (fun r34 M35 h => ?_))
            obtain ⟨rfl, h⟩ := h
            refine r_aload_n (pc := 110) (i := 0) dX12_atom_110 rfl rfl ?_
            refine r_iconst (pc := 111) (v := (-1)) dX12_atom_111 (by decide) ?_
            obtain ⟨k36, h⟩ := h
            refine r_callV (pc := 112) (ci := 12) (as := [_]) (st := []) okX12_sums lkX12_399 inX12_sums seX12_sums ⟨_, rfl, rfl⟩ dX12_atom_112 rfl k36 (Nat.le_of_ble_eq_true rfl) (Nat.zero_le _) (Nat.zero_le _) (Call.mono h (fun r37 M38 h => ?_))
            obtain ⟨rfl, h⟩ := h
            refine r_aload_n (pc := 115) (i := 0) dX12_atom_115 rfl rfl ?_
            refine r_iconst (pc := 116) (v := 0) dX12_atom_116 (by decide) ?_
            refine r_iconst (pc := 117) (v := 0) dX12_atom_117 (by decide) ?_
            refine r_iconst (pc := 118) (v := 0) dX12_atom_118 (by decide) ?_
            refine r_iconst (pc := 119) (v := 0) dX12_atom_119 (by decide) ?_
            refine r_iload_n (pc := 120) (i := 1) dX12_atom_120 rfl rfl ?_
            obtain ⟨k39, h⟩ := h
            refine r_callV (pc := 121) (ci := 12) (as := [_, _, _, _, _]) (st := []) okX12_ended lkX12_353 inX12_ended seX12_ended ⟨_, rfl, rfl⟩ dX12_atom_121 rfl k39 (Nat.le_of_ble_eq_true rfl) (Nat.zero_le _) (Nat.zero_le _) (Call.mono h (fun r40 M41 h => ?_))
            obtain ⟨v42, rfl, h⟩ := h
            refine r_istore_n (pc := 124) (i := 3) dX12_atom_124 rfl rfl (Nat.le_of_ble_eq_true rfl) ?_
            refine r_iconst (pc := 125) (v := 0) dX12_atom_125 (by decide) ?_
            refine r_istore (pc := 126) (i := 4) dX12_atom_126 rfl (Nat.le_of_ble_eq_true rfl) ?_
            exact h
          · replace h := h.2 c32
            refine r_aload_n (pc := 100) (i := 0) dX12_atom_100 rfl rfl ?_
            obtain ⟨k43, h⟩ := h
            refine r_callV (pc := 101) (ci := 12) (as := []) (st := []) okX12_cannot lkX12_331 inX12_cannot seX12_cannot ⟨_, rfl, rfl⟩ dX12_atom_101 rfl k43 (Nat.le_of_ble_eq_true rfl) (Nat.zero_le _) (Nat.zero_le _) (Call.mono h (fun r44 M45 h => ?_))
            obtain ⟨rfl, h⟩ := h
            refine r_iconst (pc := 104) (v := 0) dX12_atom_104 (by decide) ?_
            exact r_iret (pc := 105) dX12_atom_105 rfl h
      · replace h := h.2 c12
        refine r_iconst (pc := 76) (v := 1) dX12_atom_76 (by decide) ?_
        refine r_goto (pc := 77) (tgt := 94) dX12_atom_77 (by decide) ?_
        refine r_istore_n (pc := 94) (i := 2) dX12_atom_94 rfl rfl (Nat.le_of_ble_eq_true rfl) ?_
        refine r_iload_n (pc := 95) (i := 2) dX12_atom_95 rfl rfl ?_
        refine r_iconst (pc := 96) (v := (-1)) dX12_atom_96 (by decide) ?_
        refine r_icmp_ne (pc := 97) (tgt := 106) dX12_atom_97 (by decide) (fun c46 => ?_) (fun c46 => ?_)
        · replace h := h.1 c46
          refine r_aload_n (pc := 106) (i := 0) dX12_atom_106 rfl rfl ?_
          obtain ⟨k47, h⟩ := h
          refine r_callV (pc := 107) (ci := 12) (as := []) (st := []) okX12_next lkX12_340 inX12_next seX12_next ⟨_, rfl, rfl⟩ dX12_atom_107 rfl k47 (Nat.le_of_ble_eq_true rfl) (Nat.zero_le _) (Nat.zero_le _) (Call.mono h (fun r48 M49 h => ?_))
          obtain ⟨rfl, h⟩ := h
          refine r_aload_n (pc := 110) (i := 0) dX12_atom_110 rfl rfl ?_
          refine r_iconst (pc := 111) (v := (-1)) dX12_atom_111 (by decide) ?_
          obtain ⟨k50, h⟩ := h
          refine r_callV (pc := 112) (ci := 12) (as := [_]) (st := []) okX12_sums lkX12_399 inX12_sums seX12_sums ⟨_, rfl, rfl⟩ dX12_atom_112 rfl k50 (Nat.le_of_ble_eq_true rfl) (Nat.zero_le _) (Nat.zero_le _) (Call.mono h (fun r51 M52 h => ?_))
          obtain ⟨rfl, h⟩ := h
          refine r_aload_n (pc := 115) (i := 0) dX12_atom_115 rfl rfl ?_
          refine r_iconst (pc := 116) (v := 0) dX12_atom_116 (by decide) ?_
          refine r_iconst (pc := 117) (v := 0) dX12_atom_117 (by decide) ?_
          refine r_iconst (pc := 118) (v := 0) dX12_atom_118 (by decide) ?_
          refine r_iconst (pc := 119) (v := 0) dX12_atom_119 (by decide) ?_
          refine r_iload_n (pc := 120) (i := 1) dX12_atom_120 rfl rfl ?_
          obtain ⟨k53, h⟩ := h
          refine r_callV (pc := 121) (ci := 12) (as := [_, _, _, _, _]) (st := []) okX12_ended lkX12_353 inX12_ended seX12_ended ⟨_, rfl, rfl⟩ dX12_atom_121 rfl k53 (Nat.le_of_ble_eq_true rfl) (Nat.zero_le _) (Nat.zero_le _) (Call.mono h (fun r54 M55 h => ?_))
          obtain ⟨v56, rfl, h⟩ := h
          refine r_istore_n (pc := 124) (i := 3) dX12_atom_124 rfl rfl (Nat.le_of_ble_eq_true rfl) ?_
          refine r_iconst (pc := 125) (v := 0) dX12_atom_125 (by decide) ?_
          refine r_istore (pc := 126) (i := 4) dX12_atom_126 rfl (Nat.le_of_ble_eq_true rfl) ?_
          exact h
        · replace h := h.2 c46
          refine r_aload_n (pc := 100) (i := 0) dX12_atom_100 rfl rfl ?_
          obtain ⟨k57, h⟩ := h
          refine r_callV (pc := 101) (ci := 12) (as := []) (st := []) okX12_cannot lkX12_331 inX12_cannot seX12_cannot ⟨_, rfl, rfl⟩ dX12_atom_101 rfl k57 (Nat.le_of_ble_eq_true rfl) (Nat.zero_le _) (Nat.zero_le _) (Call.mono h (fun r58 M59 h => ?_))
          obtain ⟨rfl, h⟩ := h
          refine r_iconst (pc := 104) (v := 0) dX12_atom_104 (by decide) ?_
          exact r_iret (pc := 105) dX12_atom_105 rfl h
    · replace h := h.2 c8
      refine r_iconst (pc := 63) (v := 2) dX12_atom_63 (by decide) ?_
      refine r_goto (pc := 64) (tgt := 94) dX12_atom_64 (by decide) ?_
      refine r_istore_n (pc := 94) (i := 2) dX12_atom_94 rfl rfl (Nat.le_of_ble_eq_true rfl) ?_
      refine r_iload_n (pc := 95) (i := 2) dX12_atom_95 rfl rfl ?_
      refine r_iconst (pc := 96) (v := (-1)) dX12_atom_96 (by decide) ?_
      refine r_icmp_ne (pc := 97) (tgt := 106) dX12_atom_97 (by decide) (fun c60 => ?_) (fun c60 => ?_)
      · replace h := h.1 c60
        refine r_aload_n (pc := 106) (i := 0) dX12_atom_106 rfl rfl ?_
        refine r_callV (pc := 107) (ci := 12) (as := []) (st := []) okX12_next lkX12_340 inX12_next seX12_next ⟨_, rfl, rfl⟩ dX12_atom_107 rfl k7 (Nat.le_of_ble_eq_true rfl) (Nat.zero_le _) (Nat.zero_le _) (Call.mono h (fun r61 M62 h => ?_))
        obtain ⟨rfl, h⟩ := h
        refine r_aload_n (pc := 110) (i := 0) dX12_atom_110 rfl rfl ?_
        refine r_iconst (pc := 111) (v := (-1)) dX12_atom_111 (by decide) ?_
        obtain ⟨k63, h⟩ := h
        refine r_callV (pc := 112) (ci := 12) (as := [_]) (st := []) okX12_sums lkX12_399 inX12_sums seX12_sums ⟨_, rfl, rfl⟩ dX12_atom_112 rfl k63 (Nat.le_of_ble_eq_true rfl) (Nat.zero_le _) (Nat.zero_le _) (Call.mono h (fun r64 M65 h => ?_))
        obtain ⟨rfl, h⟩ := h
        refine r_aload_n (pc := 115) (i := 0) dX12_atom_115 rfl rfl ?_
        refine r_iconst (pc := 116) (v := 0) dX12_atom_116 (by decide) ?_
        refine r_iconst (pc := 117) (v := 0) dX12_atom_117 (by decide) ?_
        refine r_iconst (pc := 118) (v := 0) dX12_atom_118 (by decide) ?_
        refine r_iconst (pc := 119) (v := 0) dX12_atom_119 (by decide) ?_
        refine r_iload_n (pc := 120) (i := 1) dX12_atom_120 rfl rfl ?_
        obtain ⟨k66, h⟩ := h
        refine r_callV (pc := 121) (ci := 12) (as := [_, _, _, _, _]) (st := []) okX12_ended lkX12_353 inX12_ended seX12_ended ⟨_, rfl, rfl⟩ dX12_atom_121 rfl k66 (Nat.le_of_ble_eq_true rfl) (Nat.zero_le _) (Nat.zero_le _) (Call.mono h (fun r67 M68 h => ?_))
        obtain ⟨v69, rfl, h⟩ := h
        refine r_istore_n (pc := 124) (i := 3) dX12_atom_124 rfl rfl (Nat.le_of_ble_eq_true rfl) ?_
        refine r_iconst (pc := 125) (v := 0) dX12_atom_125 (by decide) ?_
        refine r_istore (pc := 126) (i := 4) dX12_atom_126 rfl (Nat.le_of_ble_eq_true rfl) ?_
        exact h
      · replace h := h.2 c60
        refine r_aload_n (pc := 100) (i := 0) dX12_atom_100 rfl rfl ?_
        refine r_callV (pc := 101) (ci := 12) (as := []) (st := []) okX12_cannot lkX12_331 inX12_cannot seX12_cannot ⟨_, rfl, rfl⟩ dX12_atom_101 rfl k7 (Nat.le_of_ble_eq_true rfl) (Nat.zero_le _) (Nat.zero_le _) (Call.mono h (fun r70 M71 h => ?_))
        obtain ⟨rfl, h⟩ := h
        refine r_iconst (pc := 104) (v := 0) dX12_atom_104 (by decide) ?_
        exact r_iret (pc := 105) dX12_atom_105 rfl h
  · replace h := h.2 c1
    refine r_aload_n (pc := 21) (i := 0) dX12_atom_21 rfl rfl ?_
    obtain ⟨k72, h⟩ := h
    obtain ⟨b73, hb73, h⟩ := h
    refine r_getr (pc := 22) flX12_155 dX12_atom_22 rfl k72 hb73 ?_
    refine r_iload_n (pc := 25) (i := 1) dX12_atom_25 rfl rfl ?_
    refine r_iconst (pc := 26) (v := 0) dX12_atom_26 (by decide) ?_
    obtain ⟨k74, h⟩ := h
    obtain ⟨i75, h⟩ := h
    refine r_iast (pc := 27) dX12_atom_27 k74 i75 ?_
    replace h := h _ rfl
    refine r_iinc (pc := 28) (i := 1) (v := _ + 1) dX12_atom_28 rfl rfl rfl ?_
    refine r_goto (pc := 31) (tgt := 15) dX12_atom_31 (by decide) ?_
    exact h
theorem vX12_atom_128 {G : GG} {d rc rs : Nat} (p0 : Nat) (x1 : Int32) (x2 : Int32) (x3 : Int32) (x4 : Int32)  {M : Mem} {Q : Option Value → Mem → Prop} (h : (8 ≤ x4 → (x_h M p0).1 = 28 ∧ (∃ b3, x_r M p0 55 = some b3 ∧ (x_h M b3).1 = 1 ∧ vp_in x3 (x_h M b3).2 ∧ (∀ M6, M6 = x_si M b3 x3.toNatClampNeg (x_i M p0 66) → ∃ b7, x_r M6 p0 56 = some b7 ∧ (x_h M b7).1 = 1 ∧ vp_in x3 (x_h M b7).2 ∧ (∀ M10, M10 = x_si M6 b7 x3.toNatClampNeg x2 → ∃ b11, x_r M10 p0 53 = some b11 ∧ (x_h M b11).1 = 1 ∧ vp_in x3 (x_h M b11).2 ∧ (∀ M14, M14 = x_si M10 b11 x3.toNatClampNeg (x_i M10 p0 68) → Q (some (.int x3)) M14))))) ∧ (¬ 8 ≤ x4 → (x_h M p0).1 = 28 ∧ (∃ b16, x_r M p0 54 = some b16 ∧ ∃ b17, x_r M p0 65 = some b17 ∧ (x_h M b17).1 = 1 ∧ vp_in x4 (x_h M b17).2 ∧ (x_h M b16).1 = 1 ∧ vp_in ((8 * x3) + x4) (x_h M b16).2 ∧ (∀ M22, M22 = x_si M b16 ((8 * x3) + x4).toNatClampNeg (x_i M b17 x4.toNatClampNeg) → LX12_atom_128 G d rc rs p0 x1 x2 x3 (x4 + 1) M22 Q)))) : LX12_atom_128 G d rc rs p0 x1 x2 x3 x4 M Q := by
  show Wk G (d + 1) rc rs mX12_atom 128 _ _ M Q
  refine r_iload (pc := 128) (i := 4) dX12_atom_128 rfl ?_
  refine r_bipush (pc := 130) (v := 8) dX12_atom_130 (by decide) ?_
  refine r_icmp_ge (pc := 132) (tgt := 160) dX12_atom_132 (by decide) (fun c1 => ?_) (fun c1 => ?_)
  · replace h := h.1 c1
    refine r_aload_n (pc := 160) (i := 0) dX12_atom_160 rfl rfl ?_
    obtain ⟨k2, h⟩ := h
    obtain ⟨b3, hb3, h⟩ := h
    refine r_getr (pc := 161) flX12_125 dX12_atom_161 rfl k2 hb3 ?_
    refine r_iload_n (pc := 164) (i := 3) dX12_atom_164 rfl rfl ?_
    refine r_aload_n (pc := 165) (i := 0) dX12_atom_165 rfl rfl ?_
    refine r_geti (pc := 166) flX12_393 dX12_atom_166 (Or.inl rfl) k2 ?_
    obtain ⟨k4, h⟩ := h
    obtain ⟨i5, h⟩ := h
    refine r_iast (pc := 169) dX12_atom_169 k4 i5 ?_
    replace h := h _ rfl
    refine r_aload_n (pc := 170) (i := 0) dX12_atom_170 rfl rfl ?_
    obtain ⟨b7, hb7, h⟩ := h
    refine r_getr (pc := 171) flX12_128 dX12_atom_171 rfl k2 hb7 ?_
    refine r_iload_n (pc := 174) (i := 3) dX12_atom_174 rfl rfl ?_
    refine r_iload_n (pc := 175) (i := 2) dX12_atom_175 rfl rfl ?_
    obtain ⟨k8, h⟩ := h
    obtain ⟨i9, h⟩ := h
    refine r_iast (pc := 176) dX12_atom_176 k8 i9 ?_
    replace h := h _ rfl
    refine r_aload_n (pc := 177) (i := 0) dX12_atom_177 rfl rfl ?_
    obtain ⟨b11, hb11, h⟩ := h
    refine r_getr (pc := 178) flX12_119 dX12_atom_178 rfl k2 hb11 ?_
    refine r_iload_n (pc := 181) (i := 3) dX12_atom_181 rfl rfl ?_
    refine r_aload_n (pc := 182) (i := 0) dX12_atom_182 rfl rfl ?_
    refine r_geti (pc := 183) flX12_390 dX12_atom_183 (Or.inl rfl) k2 ?_
    obtain ⟨k12, h⟩ := h
    obtain ⟨i13, h⟩ := h
    refine r_iast (pc := 186) dX12_atom_186 k12 i13 ?_
    replace h := h _ rfl
    refine r_iload_n (pc := 187) (i := 3) dX12_atom_187 rfl rfl ?_
    exact r_iret (pc := 188) dX12_atom_188 rfl h
  · replace h := h.2 c1
    refine r_aload_n (pc := 135) (i := 0) dX12_atom_135 rfl rfl ?_
    obtain ⟨k15, h⟩ := h
    obtain ⟨b16, hb16, h⟩ := h
    refine r_getr (pc := 136) flX12_122 dX12_atom_136 rfl k15 hb16 ?_
    refine r_bipush (pc := 139) (v := 8) dX12_atom_139 (by decide) ?_
    refine r_iload_n (pc := 141) (i := 3) dX12_atom_141 rfl rfl ?_
    refine r_imul (pc := 142) dX12_atom_142 ?_
    refine r_iload (pc := 143) (i := 4) dX12_atom_143 rfl ?_
    refine r_iadd (pc := 145) dX12_atom_145 ?_
    refine r_aload_n (pc := 146) (i := 0) dX12_atom_146 rfl rfl ?_
    obtain ⟨b17, hb17, h⟩ := h
    refine r_getr (pc := 147) flX12_155 dX12_atom_147 rfl k15 hb17 ?_
    refine r_iload (pc := 150) (i := 4) dX12_atom_150 rfl ?_
    obtain ⟨k18, h⟩ := h
    obtain ⟨i19, h⟩ := h
    refine r_iald (pc := 152) dX12_atom_152 k18 i19 ?_
    obtain ⟨k20, h⟩ := h
    obtain ⟨i21, h⟩ := h
    refine r_iast (pc := 153) dX12_atom_153 k20 i21 ?_
    replace h := h _ rfl
    refine r_iinc (pc := 154) (i := 4) (v := _ + 1) dX12_atom_154 rfl rfl rfl ?_
    refine r_goto (pc := 157) (tgt := 128) dX12_atom_157 (by decide) ?_
    exact h
abbrev LX12_rowPlace_31 (G : GG) (d rc rs : Nat) (p0 : Nat) (x1 : Int32) (x2 : Int32) (M : Mem) (Q : Option Value → Mem → Prop) : Prop := Wk G (d + 1) rc rs mX12_rowPlace 31 [some (.ref p0), some (.int x1), some (.int x2)] [] M Q
abbrev LX12_rowPlace_112 (G : GG) (d rc rs : Nat) (p0 : Nat) (x1 : Int32) (x2 : Int32) (M : Mem) (Q : Option Value → Mem → Prop) : Prop := Wk G (d + 1) rc rs mX12_rowPlace 112 [some (.ref p0), some (.int x1), some (.int x2)] [] M Q
theorem eX12_rowPlace {G : GG} {d rc rs : Nat} (o : Nat)  {M : Mem} {Q : Option Value → Mem → Prop} (h : (x_h M o).1 = 28 ∧ (∀ M2, M2 = x_si M o 69 (x_i M o 40) → Call G d 0 0 mX12_isRow [.ref o, .int (x_i M2 o 40)] M2 (fun r3 M4 => ∃ v5 : Int32, r3 = some (.int v5) ∧ (¬ v5 = 0 → LX12_rowPlace_31 G d rc rs o (x_i M2 o 41) v5 M4 Q) ∧ (v5 = 0 → (x_h M4 o).1 = 28 ∧ Call G d 0 0 mX12_notes [.ref o, .int (x_i M2 o 41)] M4 (fun r8 M9 => r8 = none ∧ LX12_rowPlace_31 G d rc rs o (x_i M2 o 41) v5 M9 Q))))) : Call G (d + 1) rc rs mX12_rowPlace [.ref o] M Q := by
  refine call_of (by decide) (Nat.le_of_ble_eq_true rfl) ?_
  show Wk G (d + 1) rc rs mX12_rowPlace 0 [some (.ref o), none, none] [] M Q
  refine r_aload_n (pc := 0) (i := 0) dX12_rowPlace_0 rfl rfl ?_
  refine r_aload_n (pc := 1) (i := 0) dX12_rowPlace_1 rfl rfl ?_
  obtain ⟨k1, h⟩ := h
  refine r_geti (pc := 2) flX12_328 dX12_rowPlace_2 (Or.inl rfl) k1 ?_
  refine r_puti (pc := 5) flX12_402 dX12_rowPlace_5 (Or.inl rfl) (fun q hq => by cases hq; rfl) k1 ?_
  replace h := h _ rfl
  refine r_aload_n (pc := 8) (i := 0) dX12_rowPlace_8 rfl rfl ?_
  refine r_geti (pc := 9) flX12_301 dX12_rowPlace_9 (Or.inl rfl) k1 ?_
  refine r_istore_n (pc := 12) (i := 1) dX12_rowPlace_12 rfl rfl (Nat.le_of_ble_eq_true rfl) ?_
  refine r_aload_n (pc := 13) (i := 0) dX12_rowPlace_13 rfl rfl ?_
  refine r_aload_n (pc := 14) (i := 0) dX12_rowPlace_14 rfl rfl ?_
  refine r_geti (pc := 15) flX12_328 dX12_rowPlace_15 (Or.inl rfl) k1 ?_
  refine r_callV (pc := 18) (ci := 12) (as := [_]) (st := []) okX12_isRow lkX12_275 inX12_isRow seX12_isRow ⟨_, rfl, rfl⟩ dX12_rowPlace_18 rfl k1 (Nat.le_of_ble_eq_true rfl) (Nat.zero_le _) (Nat.zero_le _) (Call.mono h (fun r3 M4 h => ?_))
  obtain ⟨v5, rfl, h⟩ := h
  refine r_istore_n (pc := 21) (i := 2) dX12_rowPlace_21 rfl rfl (Nat.le_of_ble_eq_true rfl) ?_
  refine r_iload_n (pc := 22) (i := 2) dX12_rowPlace_22 rfl rfl ?_
  refine r_if_ne (pc := 23) (tgt := 31) dX12_rowPlace_23 (by decide) (fun c6 => ?_) (fun c6 => ?_)
  · replace h := h.1 c6
    exact h
  · replace h := h.2 c6
    refine r_aload_n (pc := 26) (i := 0) dX12_rowPlace_26 rfl rfl ?_
    refine r_iload_n (pc := 27) (i := 1) dX12_rowPlace_27 rfl rfl ?_
    obtain ⟨k7, h⟩ := h
    refine r_callV (pc := 28) (ci := 12) (as := [_]) (st := []) okX12_notes lkX12_381 inX12_notes seX12_notes ⟨_, rfl, rfl⟩ dX12_rowPlace_28 rfl k7 (Nat.le_of_ble_eq_true rfl) (Nat.zero_le _) (Nat.zero_le _) (Call.mono h (fun r8 M9 h => ?_))
    obtain ⟨rfl, h⟩ := h
    exact h
theorem vX12_rowPlace_31 {G : GG} {d rc rs : Nat} (p0 : Nat) (x1 : Int32) (x2 : Int32)  {M : Mem} {Q : Option Value → Mem → Prop} (h : (x_h M p0).1 = 28 ∧ Call G d 0 0 mX12_next [.ref p0] M (fun r2 M3 => r2 = none ∧ (x_h M3 p0).1 = 28 ∧ Call G d 0 0 mX12_need [.ref p0, .int 91] M3 (fun r5 M6 => r5 = none ∧ (x_h M6 p0).1 = 28 ∧ (∀ M8, M8 = x_si M6 p0 71 (-1) → ∀ M9, M9 = x_si M8 p0 72 0 → ((x_i M9 p0 39) = 2 → ∀ M11, M11 = x_si M9 p0 70 (x_i M9 p0 40) → Call G d 0 0 mX12_next [.ref p0] M11 (fun r12 M13 => r12 = none ∧ (x_h M13 p0).1 = 28 ∧ Call G d 0 0 mX12_isSign [.ref p0, .int 43] M13 (fun r15 M16 => ∃ v17 : Int32, r15 = some (.int v17) ∧ (v17 = 0 → (x_h M16 p0).1 = 28 ∧ Call G d 0 0 mX12_need [.ref p0, .int 93] M16 (fun r20 M21 => r20 = none ∧ Q none M21)) ∧ (¬ v17 = 0 → (x_h M16 p0).1 = 28 ∧ Call G d 0 0 mX12_next [.ref p0] M16 (fun r23 M24 => r23 = none ∧ (x2 = 0 → LX12_rowPlace_112 G d rc rs p0 x1 x2 M24 Q) ∧ (¬ x2 = 0 → (x_h M24 p0).1 = 28 ∧ (∃ b27, x_r M24 p0 3 = some b27 ∧ (x_h M24 b27).1 = 1 ∧ vp_in (x_i M24 p0 69) (x_h M24 b27).2 ∧ ((x_i M24 b27 (x_i M24 p0 69).toNatClampNeg) ≤ 6 → LX12_rowPlace_112 G d rc rs p0 x1 x2 M24 Q) ∧ (¬ (x_i M24 b27 (x_i M24 p0 69).toNatClampNeg) ≤ 6 → Call G d 0 0 mX12_notes [.ref p0, .int x1] M24 (fun r31 M32 => r31 = none ∧ LX12_rowPlace_112 G d rc rs p0 x1 x2 M32 Q))))))))) ∧ (¬ (x_i M9 p0 39) = 2 → Call G d 0 0 mX12_cannot [.ref p0] M9 (fun r33 M34 => r33 = none ∧ Q none M34)))))) : LX12_rowPlace_31 G d rc rs p0 x1 x2 M Q := by
  show Wk G (d + 1) rc rs mX12_rowPlace 31 _ _ M Q
  refine r_aload_n (pc := 31) (i := 0) dX12_rowPlace_31 rfl rfl ?_
  obtain ⟨k1, h⟩ := h
  refine r_callV (pc := 32) (ci := 12) (as := []) (st := []) okX12_next lkX12_340 inX12_next seX12_next ⟨_, rfl, rfl⟩ dX12_rowPlace_32 rfl k1 (Nat.le_of_ble_eq_true rfl) (Nat.zero_le _) (Nat.zero_le _) (Call.mono h (fun r2 M3 h => ?_))
  obtain ⟨rfl, h⟩ := h
  refine r_aload_n (pc := 35) (i := 0) dX12_rowPlace_35 rfl rfl ?_
  refine r_bipush (pc := 36) (v := 91) dX12_rowPlace_36 (by decide) ?_
  obtain ⟨k4, h⟩ := h
  refine r_callV (pc := 38) (ci := 12) (as := [_]) (st := []) okX12_need lkX12_370 inX12_need seX12_need ⟨_, rfl, rfl⟩ dX12_rowPlace_38 rfl k4 (Nat.le_of_ble_eq_true rfl) (Nat.zero_le _) (Nat.zero_le _) (Call.mono h (fun r5 M6 h => ?_))
  obtain ⟨rfl, h⟩ := h
  refine r_aload_n (pc := 41) (i := 0) dX12_rowPlace_41 rfl rfl ?_
  refine r_iconst (pc := 42) (v := (-1)) dX12_rowPlace_42 (by decide) ?_
  obtain ⟨k7, h⟩ := h
  refine r_puti (pc := 43) flX12_405 dX12_rowPlace_43 (Or.inl rfl) (fun q hq => by cases hq; rfl) k7 ?_
  replace h := h _ rfl
  refine r_aload_n (pc := 46) (i := 0) dX12_rowPlace_46 rfl rfl ?_
  refine r_iconst (pc := 47) (v := 0) dX12_rowPlace_47 (by decide) ?_
  refine r_puti (pc := 48) flX12_408 dX12_rowPlace_48 (Or.inl rfl) (fun q hq => by cases hq; rfl) k7 ?_
  replace h := h _ rfl
  refine r_aload_n (pc := 51) (i := 0) dX12_rowPlace_51 rfl rfl ?_
  refine r_geti (pc := 52) flX12_307 dX12_rowPlace_52 (Or.inl rfl) k7 ?_
  refine r_iconst (pc := 55) (v := 2) dX12_rowPlace_55 (by decide) ?_
  refine r_icmp_eq (pc := 56) (tgt := 64) dX12_rowPlace_56 (by decide) (fun c10 => ?_) (fun c10 => ?_)
  · replace h := h.1 c10
    refine r_aload_n (pc := 64) (i := 0) dX12_rowPlace_64 rfl rfl ?_
    refine r_aload_n (pc := 65) (i := 0) dX12_rowPlace_65 rfl rfl ?_
    refine r_geti (pc := 66) flX12_328 dX12_rowPlace_66 (Or.inl rfl) k7 ?_
    refine r_puti (pc := 69) flX12_411 dX12_rowPlace_69 (Or.inl rfl) (fun q hq => by cases hq; rfl) k7 ?_
    replace h := h _ rfl
    refine r_aload_n (pc := 72) (i := 0) dX12_rowPlace_72 rfl rfl ?_
    refine r_callV (pc := 73) (ci := 12) (as := []) (st := []) okX12_next lkX12_340 inX12_next seX12_next ⟨_, rfl, rfl⟩ dX12_rowPlace_73 rfl k7 (Nat.le_of_ble_eq_true rfl) (Nat.zero_le _) (Nat.zero_le _) (Call.mono h (fun r12 M13 h => ?_))
    obtain ⟨rfl, h⟩ := h
    refine r_aload_n (pc := 76) (i := 0) dX12_rowPlace_76 rfl rfl ?_
    refine r_bipush (pc := 77) (v := 43) dX12_rowPlace_77 (by decide) ?_
    obtain ⟨k14, h⟩ := h
    refine r_callV (pc := 79) (ci := 12) (as := [_]) (st := []) okX12_isSign lkX12_337 inX12_isSign seX12_isSign ⟨_, rfl, rfl⟩ dX12_rowPlace_79 rfl k14 (Nat.le_of_ble_eq_true rfl) (Nat.zero_le _) (Nat.zero_le _) (Call.mono h (fun r15 M16 h => ?_))
    obtain ⟨v17, rfl, h⟩ := h
    refine r_if_eq (pc := 82) (tgt := 175) dX12_rowPlace_82 (by decide) (fun c18 => ?_) (fun c18 => ?_)
    · replace h := h.1 c18
      refine r_aload_n (pc := 175) (i := 0) dX12_rowPlace_175 rfl rfl ?_
      refine r_bipush (pc := 176) (v := 93) dX12_rowPlace_176 (by decide) ?_
      obtain ⟨k19, h⟩ := h
      refine r_callV (pc := 178) (ci := 12) (as := [_]) (st := []) okX12_need lkX12_370 inX12_need seX12_need ⟨_, rfl, rfl⟩ dX12_rowPlace_178 rfl k19 (Nat.le_of_ble_eq_true rfl) (Nat.zero_le _) (Nat.zero_le _) (Call.mono h (fun r20 M21 h => ?_))
      obtain ⟨rfl, h⟩ := h
      exact r_vret (pc := 181) dX12_rowPlace_181 rfl h
    · replace h := h.2 c18
      refine r_aload_n (pc := 85) (i := 0) dX12_rowPlace_85 rfl rfl ?_
      obtain ⟨k22, h⟩ := h
      refine r_callV (pc := 86) (ci := 12) (as := []) (st := []) okX12_next lkX12_340 inX12_next seX12_next ⟨_, rfl, rfl⟩ dX12_rowPlace_86 rfl k22 (Nat.le_of_ble_eq_true rfl) (Nat.zero_le _) (Nat.zero_le _) (Call.mono h (fun r23 M24 h => ?_))
      obtain ⟨rfl, h⟩ := h
      refine r_iload_n (pc := 89) (i := 2) dX12_rowPlace_89 rfl rfl ?_
      refine r_if_eq (pc := 90) (tgt := 112) dX12_rowPlace_90 (by decide) (fun c25 => ?_) (fun c25 => ?_)
      · replace h := h.1 c25
        exact h
      · replace h := h.2 c25
        refine r_aload_n (pc := 93) (i := 0) dX12_rowPlace_93 rfl rfl ?_
        obtain ⟨k26, h⟩ := h
        obtain ⟨b27, hb27, h⟩ := h
        refine r_getr (pc := 94) flX12_17 dX12_rowPlace_94 rfl k26 hb27 ?_
        refine r_aload_n (pc := 97) (i := 0) dX12_rowPlace_97 rfl rfl ?_
        refine r_geti (pc := 98) flX12_402 dX12_rowPlace_98 (Or.inl rfl) k26 ?_
        obtain ⟨k28, h⟩ := h
        obtain ⟨i29, h⟩ := h
        refine r_iald (pc := 101) dX12_rowPlace_101 k28 i29 ?_
        refine r_bipush (pc := 102) (v := 6) dX12_rowPlace_102 (by decide) ?_
        refine r_icmp_le (pc := 104) (tgt := 112) dX12_rowPlace_104 (by decide) (fun c30 => ?_) (fun c30 => ?_)
        · replace h := h.1 c30
          exact h
        · replace h := h.2 c30
          refine r_aload_n (pc := 107) (i := 0) dX12_rowPlace_107 rfl rfl ?_
          refine r_iload_n (pc := 108) (i := 1) dX12_rowPlace_108 rfl rfl ?_
          refine r_callV (pc := 109) (ci := 12) (as := [_]) (st := []) okX12_notes lkX12_381 inX12_notes seX12_notes ⟨_, rfl, rfl⟩ dX12_rowPlace_109 rfl k26 (Nat.le_of_ble_eq_true rfl) (Nat.zero_le _) (Nat.zero_le _) (Call.mono h (fun r31 M32 h => ?_))
          obtain ⟨rfl, h⟩ := h
          exact h
  · replace h := h.2 c10
    refine r_aload_n (pc := 59) (i := 0) dX12_rowPlace_59 rfl rfl ?_
    refine r_callV (pc := 60) (ci := 12) (as := []) (st := []) okX12_cannot lkX12_331 inX12_cannot seX12_cannot ⟨_, rfl, rfl⟩ dX12_rowPlace_60 rfl k7 (Nat.le_of_ble_eq_true rfl) (Nat.zero_le _) (Nat.zero_le _) (Call.mono h (fun r33 M34 h => ?_))
    obtain ⟨rfl, h⟩ := h
    exact r_vret (pc := 63) dX12_rowPlace_63 rfl h
theorem vX12_rowPlace_112 {G : GG} {d rc rs : Nat} (p0 : Nat) (x1 : Int32) (x2 : Int32)  {M : Mem} {Q : Option Value → Mem → Prop} (h : (x_h M p0).1 = 28 ∧ (¬ (x_i M p0 39) = 2 → (¬ (x_i M p0 39) = 1 → Call G d 0 0 mX12_cannot [.ref p0] M (fun r4 M5 => r4 = none ∧ Q none M5)) ∧ ((x_i M p0 39) = 1 → ∀ M6, M6 = x_si M p0 72 (x_i M p0 40) → ((x_i M6 p0 40) ≤ 3 → Call G d 0 0 mX12_next [.ref p0] M6 (fun r8 M9 => r8 = none ∧ (x_h M9 p0).1 = 28 ∧ Call G d 0 0 mX12_need [.ref p0, .int 93] M9 (fun r11 M12 => r11 = none ∧ Q none M12))) ∧ (¬ (x_i M6 p0 40) ≤ 3 → Call G d 0 0 mX12_notes [.ref p0, .int (x_i M6 p0 41)] M6 (fun r13 M14 => r13 = none ∧ (x_h M14 p0).1 = 28 ∧ Call G d 0 0 mX12_next [.ref p0] M14 (fun r16 M17 => r16 = none ∧ (x_h M17 p0).1 = 28 ∧ Call G d 0 0 mX12_need [.ref p0, .int 93] M17 (fun r19 M20 => r19 = none ∧ Q none M20)))))) ∧ ((x_i M p0 39) = 2 → ∀ M21, M21 = x_si M p0 71 (x_i M p0 40) → Call G d 0 0 mX12_next [.ref p0] M21 (fun r22 M23 => r22 = none ∧ (x_h M23 p0).1 = 28 ∧ Call G d 0 0 mX12_need [.ref p0, .int 93] M23 (fun r25 M26 => r25 = none ∧ Q none M26)))) : LX12_rowPlace_112 G d rc rs p0 x1 x2 M Q := by
  show Wk G (d + 1) rc rs mX12_rowPlace 112 _ _ M Q
  refine r_aload_n (pc := 112) (i := 0) dX12_rowPlace_112 rfl rfl ?_
  obtain ⟨k1, h⟩ := h
  refine r_geti (pc := 113) flX12_307 dX12_rowPlace_113 (Or.inl rfl) k1 ?_
  refine r_iconst (pc := 116) (v := 2) dX12_rowPlace_116 (by decide) ?_
  refine r_icmp_ne (pc := 117) (tgt := 131) dX12_rowPlace_117 (by decide) (fun c2 => ?_) (fun c2 => ?_)
  · replace h := h.1 c2
    refine r_aload_n (pc := 131) (i := 0) dX12_rowPlace_131 rfl rfl ?_
    refine r_geti (pc := 132) flX12_307 dX12_rowPlace_132 (Or.inl rfl) k1 ?_
    refine r_iconst (pc := 135) (v := 1) dX12_rowPlace_135 (by decide) ?_
    refine r_icmp_ne (pc := 136) (tgt := 166) dX12_rowPlace_136 (by decide) (fun c3 => ?_) (fun c3 => ?_)
    · replace h := h.1 c3
      refine r_aload_n (pc := 166) (i := 0) dX12_rowPlace_166 rfl rfl ?_
      refine r_callV (pc := 167) (ci := 12) (as := []) (st := []) okX12_cannot lkX12_331 inX12_cannot seX12_cannot ⟨_, rfl, rfl⟩ dX12_rowPlace_167 rfl k1 (Nat.le_of_ble_eq_true rfl) (Nat.zero_le _) (Nat.zero_le _) (Call.mono h (fun r4 M5 h => ?_))
      obtain ⟨rfl, h⟩ := h
      exact r_vret (pc := 170) dX12_rowPlace_170 rfl h
    · replace h := h.2 c3
      refine r_aload_n (pc := 139) (i := 0) dX12_rowPlace_139 rfl rfl ?_
      refine r_aload_n (pc := 140) (i := 0) dX12_rowPlace_140 rfl rfl ?_
      refine r_geti (pc := 141) flX12_328 dX12_rowPlace_141 (Or.inl rfl) k1 ?_
      refine r_puti (pc := 144) flX12_408 dX12_rowPlace_144 (Or.inl rfl) (fun q hq => by cases hq; rfl) k1 ?_
      replace h := h _ rfl
      refine r_aload_n (pc := 147) (i := 0) dX12_rowPlace_147 rfl rfl ?_
      refine r_geti (pc := 148) flX12_328 dX12_rowPlace_148 (Or.inl rfl) k1 ?_
      refine r_iconst (pc := 151) (v := 3) dX12_rowPlace_151 (by decide) ?_
      refine r_icmp_le (pc := 152) (tgt := 171) dX12_rowPlace_152 (by decide) (fun c7 => ?_) (fun c7 => ?_)
      · replace h := h.1 c7
        refine r_aload_n (pc := 171) (i := 0) dX12_rowPlace_171 rfl rfl ?_
        refine r_callV (pc := 172) (ci := 12) (as := []) (st := []) okX12_next lkX12_340 inX12_next seX12_next ⟨_, rfl, rfl⟩ dX12_rowPlace_172 rfl k1 (Nat.le_of_ble_eq_true rfl) (Nat.zero_le _) (Nat.zero_le _) (Call.mono h (fun r8 M9 h => ?_))
        obtain ⟨rfl, h⟩ := h
        refine r_aload_n (pc := 175) (i := 0) dX12_rowPlace_175 rfl rfl ?_
        refine r_bipush (pc := 176) (v := 93) dX12_rowPlace_176 (by decide) ?_
        obtain ⟨k10, h⟩ := h
        refine r_callV (pc := 178) (ci := 12) (as := [_]) (st := []) okX12_need lkX12_370 inX12_need seX12_need ⟨_, rfl, rfl⟩ dX12_rowPlace_178 rfl k10 (Nat.le_of_ble_eq_true rfl) (Nat.zero_le _) (Nat.zero_le _) (Call.mono h (fun r11 M12 h => ?_))
        obtain ⟨rfl, h⟩ := h
        exact r_vret (pc := 181) dX12_rowPlace_181 rfl h
      · replace h := h.2 c7
        refine r_aload_n (pc := 155) (i := 0) dX12_rowPlace_155 rfl rfl ?_
        refine r_aload_n (pc := 156) (i := 0) dX12_rowPlace_156 rfl rfl ?_
        refine r_geti (pc := 157) flX12_301 dX12_rowPlace_157 (Or.inl rfl) k1 ?_
        refine r_callV (pc := 160) (ci := 12) (as := [_]) (st := []) okX12_notes lkX12_381 inX12_notes seX12_notes ⟨_, rfl, rfl⟩ dX12_rowPlace_160 rfl k1 (Nat.le_of_ble_eq_true rfl) (Nat.zero_le _) (Nat.zero_le _) (Call.mono h (fun r13 M14 h => ?_))
        obtain ⟨rfl, h⟩ := h
        refine r_goto (pc := 163) (tgt := 171) dX12_rowPlace_163 (by decide) ?_
        refine r_aload_n (pc := 171) (i := 0) dX12_rowPlace_171 rfl rfl ?_
        obtain ⟨k15, h⟩ := h
        refine r_callV (pc := 172) (ci := 12) (as := []) (st := []) okX12_next lkX12_340 inX12_next seX12_next ⟨_, rfl, rfl⟩ dX12_rowPlace_172 rfl k15 (Nat.le_of_ble_eq_true rfl) (Nat.zero_le _) (Nat.zero_le _) (Call.mono h (fun r16 M17 h => ?_))
        obtain ⟨rfl, h⟩ := h
        refine r_aload_n (pc := 175) (i := 0) dX12_rowPlace_175 rfl rfl ?_
        refine r_bipush (pc := 176) (v := 93) dX12_rowPlace_176 (by decide) ?_
        obtain ⟨k18, h⟩ := h
        refine r_callV (pc := 178) (ci := 12) (as := [_]) (st := []) okX12_need lkX12_370 inX12_need seX12_need ⟨_, rfl, rfl⟩ dX12_rowPlace_178 rfl k18 (Nat.le_of_ble_eq_true rfl) (Nat.zero_le _) (Nat.zero_le _) (Call.mono h (fun r19 M20 h => ?_))
        obtain ⟨rfl, h⟩ := h
        exact r_vret (pc := 181) dX12_rowPlace_181 rfl h
  · replace h := h.2 c2
    refine r_aload_n (pc := 120) (i := 0) dX12_rowPlace_120 rfl rfl ?_
    refine r_aload_n (pc := 121) (i := 0) dX12_rowPlace_121 rfl rfl ?_
    refine r_geti (pc := 122) flX12_328 dX12_rowPlace_122 (Or.inl rfl) k1 ?_
    refine r_puti (pc := 125) flX12_405 dX12_rowPlace_125 (Or.inl rfl) (fun q hq => by cases hq; rfl) k1 ?_
    replace h := h _ rfl
    refine r_goto (pc := 128) (tgt := 171) dX12_rowPlace_128 (by decide) ?_
    refine r_aload_n (pc := 171) (i := 0) dX12_rowPlace_171 rfl rfl ?_
    refine r_callV (pc := 172) (ci := 12) (as := []) (st := []) okX12_next lkX12_340 inX12_next seX12_next ⟨_, rfl, rfl⟩ dX12_rowPlace_172 rfl k1 (Nat.le_of_ble_eq_true rfl) (Nat.zero_le _) (Nat.zero_le _) (Call.mono h (fun r22 M23 h => ?_))
    obtain ⟨rfl, h⟩ := h
    refine r_aload_n (pc := 175) (i := 0) dX12_rowPlace_175 rfl rfl ?_
    refine r_bipush (pc := 176) (v := 93) dX12_rowPlace_176 (by decide) ?_
    obtain ⟨k24, h⟩ := h
    refine r_callV (pc := 178) (ci := 12) (as := [_]) (st := []) okX12_need lkX12_370 inX12_need seX12_need ⟨_, rfl, rfl⟩ dX12_rowPlace_178 rfl k24 (Nat.le_of_ble_eq_true rfl) (Nat.zero_le _) (Nat.zero_le _) (Call.mono h (fun r25 M26 h => ?_))
    obtain ⟨rfl, h⟩ := h
    exact r_vret (pc := 181) dX12_rowPlace_181 rfl h
abbrev LX12_lettersAtom_52 (G : GG) (d rc rs : Nat) (p0 : Nat) (x1 : Int32) (x2 : Int32) (x3 : Int32) (x4 : Int32) (x5 : Int32) (u0 : Int32) (u1 : Int32) (M : Mem) (Q : Option Value → Mem → Prop) : Prop := Wk G (d + 1) rc rs mX12_lettersAtom 52 [some (.ref p0), some (.int x1), some (.int x2), some (.int x3), some (.int x4), some (.int x5), none, none] [.int u1, .int u0] M Q
abbrev LX12_lettersAtom_149 (G : GG) (d rc rs : Nat) (p0 : Nat) (x1 : Int32) (x2 : Int32) (x3 : Int32) (x4 : Int32) (x5 : Int32) (x6 : Int32) (M : Mem) (Q : Option Value → Mem → Prop) : Prop := Wk G (d + 1) rc rs mX12_lettersAtom 149 [some (.ref p0), some (.int x1), some (.int x2), some (.int x3), some (.int x4), some (.int x5), some (.int x6), none] [] M Q
theorem eX12_lettersAtom {G : GG} {d rc rs : Nat} (o : Nat)  {M : Mem} {Q : Option Value → Mem → Prop} (h : (x_h M o).1 = 28 ∧ Call G d 0 0 mX12_rowPlace [.ref o] M (fun r2 M3 => r2 = none ∧ (x_h M3 o).1 = 28 ∧ Call G d 0 0 mX12_need [.ref o, .int 61] M3 (fun r5 M6 => r5 = none ∧ (¬ (x_i M3 o 71) = (-1) → LX12_lettersAtom_52 G d rc rs o (x_i M3 o 69) (x_i M3 o 70) (x_i M3 o 71) (x_i M3 o 72) (x_i M3 o 41) (1 <<< ((x_i M3 o 70) &&& 31)) (1 <<< ((x_i M3 o 71) &&& 31)) M6 Q) ∧ ((x_i M3 o 71) = (-1) → LX12_lettersAtom_52 G d rc rs o (x_i M3 o 69) (x_i M3 o 70) (x_i M3 o 71) (x_i M3 o 72) (x_i M3 o 41) (1 <<< ((x_i M3 o 70) &&& 31)) 0 M6 Q)))) : Call G (d + 1) rc rs mX12_lettersAtom [.ref o] M Q := by
  refine call_of (by decide) (Nat.le_of_ble_eq_true rfl) ?_
  show Wk G (d + 1) rc rs mX12_lettersAtom 0 [some (.ref o), none, none, none, none, none, none, none] [] M Q
  refine r_aload_n (pc := 0) (i := 0) dX12_lettersAtom_0 rfl rfl ?_
  obtain ⟨k1, h⟩ := h
  refine r_callV (pc := 1) (ci := 12) (as := []) (st := []) okX12_rowPlace lkX12_414 inX12_rowPlace seX12_rowPlace ⟨_, rfl, rfl⟩ dX12_lettersAtom_1 rfl k1 (Nat.le_of_ble_eq_true rfl) (Nat.zero_le _) (Nat.zero_le _) (Call.mono h (fun r2 M3 h => ?_))
  obtain ⟨rfl, h⟩ := h
  refine r_aload_n (pc := 4) (i := 0) dX12_lettersAtom_4 rfl rfl ?_
  obtain ⟨k4, h⟩ := h
  refine r_geti (pc := 5) flX12_402 dX12_lettersAtom_5 (Or.inl rfl) k4 ?_
  refine r_istore_n (pc := 8) (i := 1) dX12_lettersAtom_8 rfl rfl (Nat.le_of_ble_eq_true rfl) ?_
  refine r_aload_n (pc := 9) (i := 0) dX12_lettersAtom_9 rfl rfl ?_
  refine r_geti (pc := 10) flX12_411 dX12_lettersAtom_10 (Or.inl rfl) k4 ?_
  refine r_istore_n (pc := 13) (i := 2) dX12_lettersAtom_13 rfl rfl (Nat.le_of_ble_eq_true rfl) ?_
  refine r_aload_n (pc := 14) (i := 0) dX12_lettersAtom_14 rfl rfl ?_
  refine r_geti (pc := 15) flX12_405 dX12_lettersAtom_15 (Or.inl rfl) k4 ?_
  refine r_istore_n (pc := 18) (i := 3) dX12_lettersAtom_18 rfl rfl (Nat.le_of_ble_eq_true rfl) ?_
  refine r_aload_n (pc := 19) (i := 0) dX12_lettersAtom_19 rfl rfl ?_
  refine r_geti (pc := 20) flX12_408 dX12_lettersAtom_20 (Or.inl rfl) k4 ?_
  refine r_istore (pc := 23) (i := 4) dX12_lettersAtom_23 rfl (Nat.le_of_ble_eq_true rfl) ?_
  refine r_aload_n (pc := 25) (i := 0) dX12_lettersAtom_25 rfl rfl ?_
  refine r_geti (pc := 26) flX12_301 dX12_lettersAtom_26 (Or.inl rfl) k4 ?_
  refine r_istore (pc := 29) (i := 5) dX12_lettersAtom_29 rfl (Nat.le_of_ble_eq_true rfl) ?_
  refine r_aload_n (pc := 31) (i := 0) dX12_lettersAtom_31 rfl rfl ?_
  refine r_bipush (pc := 32) (v := 61) dX12_lettersAtom_32 (by decide) ?_
  refine r_callV (pc := 34) (ci := 12) (as := [_]) (st := []) okX12_need lkX12_370 inX12_need seX12_need ⟨_, rfl, rfl⟩ dX12_lettersAtom_34 rfl k4 (Nat.le_of_ble_eq_true rfl) (Nat.zero_le _) (Nat.zero_le _) (Call.mono h (fun r5 M6 h => ?_))
  obtain ⟨rfl, h⟩ := h
  refine r_iconst (pc := 37) (v := 1) dX12_lettersAtom_37 (by decide) ?_
  refine r_iload_n (pc := 38) (i := 2) dX12_lettersAtom_38 rfl rfl ?_
  refine r_ishl (pc := 39) dX12_lettersAtom_39 ?_
  refine r_iload_n (pc := 40) (i := 3) dX12_lettersAtom_40 rfl rfl ?_
  refine r_iconst (pc := 41) (v := (-1)) dX12_lettersAtom_41 (by decide) ?_
  refine r_icmp_ne (pc := 42) (tgt := 49) dX12_lettersAtom_42 (by decide) (fun c7 => ?_) (fun c7 => ?_)
  · replace h := h.1 c7
    refine r_iconst (pc := 49) (v := 1) dX12_lettersAtom_49 (by decide) ?_
    refine r_iload_n (pc := 50) (i := 3) dX12_lettersAtom_50 rfl rfl ?_
    refine r_ishl (pc := 51) dX12_lettersAtom_51 ?_
    exact h
  · replace h := h.2 c7
    refine r_iconst (pc := 45) (v := 0) dX12_lettersAtom_45 (by decide) ?_
    refine r_goto (pc := 46) (tgt := 52) dX12_lettersAtom_46 (by decide) ?_
    exact h
theorem vX12_lettersAtom_52 {G : GG} {d rc rs : Nat} (p0 : Nat) (x1 : Int32) (x2 : Int32) (x3 : Int32) (x4 : Int32) (x5 : Int32) (u0 : Int32) (u1 : Int32)  {M : Mem} {Q : Option Value → Mem → Prop} (h : (x_h M p0).1 = 28 ∧ (∀ M2, M2 = x_si M p0 69 (-1) → (¬ (x_i M2 p0 39) = 3 → (¬ (x_i M2 p0 39) = 1 → Call G d 0 0 mX12_cannot [.ref p0] M2 (fun r5 M6 => r5 = none ∧ LX12_lettersAtom_149 G d rc rs p0 x1 x2 x3 x4 x5 (u0 ||| u1) M6 Q)) ∧ ((x_i M2 p0 39) = 1 → ∀ M7, M7 = x_si M2 p0 72 (x_i M2 p0 40) → ((x_i M7 p0 40) ≤ 7 → Call G d 0 0 mX12_next [.ref p0] M7 (fun r9 M10 => r9 = none ∧ LX12_lettersAtom_149 G d rc rs p0 x1 x2 x3 x4 x5 (u0 ||| u1) M10 Q)) ∧ (¬ (x_i M7 p0 40) ≤ 7 → Call G d 0 0 mX12_notes [.ref p0, .int (x_i M7 p0 41)] M7 (fun r11 M12 => r11 = none ∧ (x_h M12 p0).1 = 28 ∧ Call G d 0 0 mX12_next [.ref p0] M12 (fun r14 M15 => r14 = none ∧ LX12_lettersAtom_149 G d rc rs p0 x1 x2 x3 x4 x5 (u0 ||| u1) M15 Q))))) ∧ ((x_i M2 p0 39) = 3 → Call G d 0 0 mX12_rowPlace [.ref p0] M2 (fun r16 M17 => r16 = none ∧ (x_h M17 p0).1 = 28 ∧ (¬ (x_i M17 p0 71) = (-1) → LX12_lettersAtom_149 G d rc rs p0 x1 x2 x3 x4 x5 ((u0 ||| u1) ||| ((1 <<< ((x_i M17 p0 70) &&& 31)) ||| (1 <<< ((x_i M17 p0 71) &&& 31)))) M17 Q) ∧ ((x_i M17 p0 71) = (-1) → LX12_lettersAtom_149 G d rc rs p0 x1 x2 x3 x4 x5 ((u0 ||| u1) ||| ((1 <<< ((x_i M17 p0 70) &&& 31)) ||| 0)) M17 Q))))) : LX12_lettersAtom_52 G d rc rs p0 x1 x2 x3 x4 x5 u0 u1 M Q := by
  show Wk G (d + 1) rc rs mX12_lettersAtom 52 _ _ M Q
  refine r_ior (pc := 52) dX12_lettersAtom_52 ?_
  refine r_istore (pc := 53) (i := 6) dX12_lettersAtom_53 rfl (Nat.le_of_ble_eq_true rfl) ?_
  refine r_aload_n (pc := 55) (i := 0) dX12_lettersAtom_55 rfl rfl ?_
  refine r_iconst (pc := 56) (v := (-1)) dX12_lettersAtom_56 (by decide) ?_
  obtain ⟨k1, h⟩ := h
  refine r_puti (pc := 57) flX12_402 dX12_lettersAtom_57 (Or.inl rfl) (fun q hq => by cases hq; rfl) k1 ?_
  replace h := h _ rfl
  refine r_aload_n (pc := 60) (i := 0) dX12_lettersAtom_60 rfl rfl ?_
  refine r_geti (pc := 61) flX12_307 dX12_lettersAtom_61 (Or.inl rfl) k1 ?_
  refine r_iconst (pc := 64) (v := 3) dX12_lettersAtom_64 (by decide) ?_
  refine r_icmp_ne (pc := 65) (tgt := 105) dX12_lettersAtom_65 (by decide) (fun c3 => ?_) (fun c3 => ?_)
  · replace h := h.1 c3
    refine r_aload_n (pc := 105) (i := 0) dX12_lettersAtom_105 rfl rfl ?_
    refine r_geti (pc := 106) flX12_307 dX12_lettersAtom_106 (Or.inl rfl) k1 ?_
    refine r_iconst (pc := 109) (v := 1) dX12_lettersAtom_109 (by decide) ?_
    refine r_icmp_ne (pc := 110) (tgt := 145) dX12_lettersAtom_110 (by decide) (fun c4 => ?_) (fun c4 => ?_)
    · replace h := h.1 c4
      refine r_aload_n (pc := 145) (i := 0) dX12_lettersAtom_145 rfl rfl ?_
      refine r_callV (pc := 146) (ci := 12) (as := []) (st := []) okX12_cannot lkX12_331 inX12_cannot seX12_cannot ⟨_, rfl, rfl⟩ dX12_lettersAtom_146 rfl k1 (Nat.le_of_ble_eq_true rfl) (Nat.zero_le _) (Nat.zero_le _) (Call.mono h (fun r5 M6 h => ?_))
      obtain ⟨rfl, h⟩ := h
      exact h
    · replace h := h.2 c4
      refine r_aload_n (pc := 113) (i := 0) dX12_lettersAtom_113 rfl rfl ?_
      refine r_aload_n (pc := 114) (i := 0) dX12_lettersAtom_114 rfl rfl ?_
      refine r_geti (pc := 115) flX12_328 dX12_lettersAtom_115 (Or.inl rfl) k1 ?_
      refine r_puti (pc := 118) flX12_408 dX12_lettersAtom_118 (Or.inl rfl) (fun q hq => by cases hq; rfl) k1 ?_
      replace h := h _ rfl
      refine r_aload_n (pc := 121) (i := 0) dX12_lettersAtom_121 rfl rfl ?_
      refine r_geti (pc := 122) flX12_328 dX12_lettersAtom_122 (Or.inl rfl) k1 ?_
      refine r_bipush (pc := 125) (v := 7) dX12_lettersAtom_125 (by decide) ?_
      refine r_icmp_le (pc := 127) (tgt := 138) dX12_lettersAtom_127 (by decide) (fun c8 => ?_) (fun c8 => ?_)
      · replace h := h.1 c8
        refine r_aload_n (pc := 138) (i := 0) dX12_lettersAtom_138 rfl rfl ?_
        refine r_callV (pc := 139) (ci := 12) (as := []) (st := []) okX12_next lkX12_340 inX12_next seX12_next ⟨_, rfl, rfl⟩ dX12_lettersAtom_139 rfl k1 (Nat.le_of_ble_eq_true rfl) (Nat.zero_le _) (Nat.zero_le _) (Call.mono h (fun r9 M10 h => ?_))
        obtain ⟨rfl, h⟩ := h
        refine r_goto (pc := 142) (tgt := 149) dX12_lettersAtom_142 (by decide) ?_
        exact h
      · replace h := h.2 c8
        refine r_aload_n (pc := 130) (i := 0) dX12_lettersAtom_130 rfl rfl ?_
        refine r_aload_n (pc := 131) (i := 0) dX12_lettersAtom_131 rfl rfl ?_
        refine r_geti (pc := 132) flX12_301 dX12_lettersAtom_132 (Or.inl rfl) k1 ?_
        refine r_callV (pc := 135) (ci := 12) (as := [_]) (st := []) okX12_notes lkX12_381 inX12_notes seX12_notes ⟨_, rfl, rfl⟩ dX12_lettersAtom_135 rfl k1 (Nat.le_of_ble_eq_true rfl) (Nat.zero_le _) (Nat.zero_le _) (Call.mono h (fun r11 M12 h => ?_))
        obtain ⟨rfl, h⟩ := h
        refine r_aload_n (pc := 138) (i := 0) dX12_lettersAtom_138 rfl rfl ?_
        obtain ⟨k13, h⟩ := h
        refine r_callV (pc := 139) (ci := 12) (as := []) (st := []) okX12_next lkX12_340 inX12_next seX12_next ⟨_, rfl, rfl⟩ dX12_lettersAtom_139 rfl k13 (Nat.le_of_ble_eq_true rfl) (Nat.zero_le _) (Nat.zero_le _) (Call.mono h (fun r14 M15 h => ?_))
        obtain ⟨rfl, h⟩ := h
        refine r_goto (pc := 142) (tgt := 149) dX12_lettersAtom_142 (by decide) ?_
        exact h
  · replace h := h.2 c3
    refine r_aload_n (pc := 68) (i := 0) dX12_lettersAtom_68 rfl rfl ?_
    refine r_callV (pc := 69) (ci := 12) (as := []) (st := []) okX12_rowPlace lkX12_414 inX12_rowPlace seX12_rowPlace ⟨_, rfl, rfl⟩ dX12_lettersAtom_69 rfl k1 (Nat.le_of_ble_eq_true rfl) (Nat.zero_le _) (Nat.zero_le _) (Call.mono h (fun r16 M17 h => ?_))
    obtain ⟨rfl, h⟩ := h
    refine r_iload (pc := 72) (i := 6) dX12_lettersAtom_72 rfl ?_
    refine r_iconst (pc := 74) (v := 1) dX12_lettersAtom_74 (by decide) ?_
    refine r_aload_n (pc := 75) (i := 0) dX12_lettersAtom_75 rfl rfl ?_
    obtain ⟨k18, h⟩ := h
    refine r_geti (pc := 76) flX12_411 dX12_lettersAtom_76 (Or.inl rfl) k18 ?_
    refine r_ishl (pc := 79) dX12_lettersAtom_79 ?_
    refine r_aload_n (pc := 80) (i := 0) dX12_lettersAtom_80 rfl rfl ?_
    refine r_geti (pc := 81) flX12_405 dX12_lettersAtom_81 (Or.inl rfl) k18 ?_
    refine r_iconst (pc := 84) (v := (-1)) dX12_lettersAtom_84 (by decide) ?_
    refine r_icmp_ne (pc := 85) (tgt := 92) dX12_lettersAtom_85 (by decide) (fun c19 => ?_) (fun c19 => ?_)
    · replace h := h.1 c19
      refine r_iconst (pc := 92) (v := 1) dX12_lettersAtom_92 (by decide) ?_
      refine r_aload_n (pc := 93) (i := 0) dX12_lettersAtom_93 rfl rfl ?_
      refine r_geti (pc := 94) flX12_405 dX12_lettersAtom_94 (Or.inl rfl) k18 ?_
      refine r_ishl (pc := 97) dX12_lettersAtom_97 ?_
      refine r_ior (pc := 98) dX12_lettersAtom_98 ?_
      refine r_ior (pc := 99) dX12_lettersAtom_99 ?_
      refine r_istore (pc := 100) (i := 6) dX12_lettersAtom_100 rfl (Nat.le_of_ble_eq_true rfl) ?_
      refine r_goto (pc := 102) (tgt := 149) dX12_lettersAtom_102 (by decide) ?_
      exact h
    · replace h := h.2 c19
      refine r_iconst (pc := 88) (v := 0) dX12_lettersAtom_88 (by decide) ?_
      refine r_goto (pc := 89) (tgt := 98) dX12_lettersAtom_89 (by decide) ?_
      refine r_ior (pc := 98) dX12_lettersAtom_98 ?_
      refine r_ior (pc := 99) dX12_lettersAtom_99 ?_
      refine r_istore (pc := 100) (i := 6) dX12_lettersAtom_100 rfl (Nat.le_of_ble_eq_true rfl) ?_
      refine r_goto (pc := 102) (tgt := 149) dX12_lettersAtom_102 (by decide) ?_
      exact h
theorem vX12_lettersAtom_149 {G : GG} {d rc rs : Nat} (p0 : Nat) (x1 : Int32) (x2 : Int32) (x3 : Int32) (x4 : Int32) (x5 : Int32) (x6 : Int32)  {M : Mem} {Q : Option Value → Mem → Prop} (h : (x_h M p0).1 = 28 ∧ Call G d 0 0 mX12_ended [.ref p0, .int 1, .int 0, .int 0, .int 0, .int x5] M (fun r2 M3 => ∃ v4 : Int32, r2 = some (.int v4) ∧ (x_h M3 p0).1 = 28 ∧ (∃ b6, x_r M3 p0 57 = some b6 ∧ (x_h M3 b6).1 = 1 ∧ vp_in v4 (x_h M3 b6).2 ∧ (∀ M9, M9 = x_si M3 b6 v4.toNatClampNeg x1 → ∃ b10, x_r M9 p0 58 = some b10 ∧ (x_h M3 b10).1 = 1 ∧ vp_in v4 (x_h M3 b10).2 ∧ (∀ M13, M13 = x_si M9 b10 v4.toNatClampNeg x2 → ∃ b14, x_r M13 p0 59 = some b14 ∧ (x_h M3 b14).1 = 1 ∧ vp_in v4 (x_h M3 b14).2 ∧ (∀ M17, M17 = x_si M13 b14 v4.toNatClampNeg x3 → ∃ b18, x_r M17 p0 60 = some b18 ∧ (x_h M3 b18).1 = 1 ∧ vp_in v4 (x_h M3 b18).2 ∧ (∀ M21, M21 = x_si M17 b18 v4.toNatClampNeg x4 → ∃ b22, x_r M21 p0 61 = some b22 ∧ (x_h M3 b22).1 = 1 ∧ vp_in v4 (x_h M3 b22).2 ∧ (∀ M25, M25 = x_si M21 b22 v4.toNatClampNeg (x_i M21 p0 69) → ∃ b26, x_r M25 p0 62 = some b26 ∧ (x_h M3 b26).1 = 1 ∧ vp_in v4 (x_h M3 b26).2 ∧ (∀ M29, M29 = x_si M25 b26 v4.toNatClampNeg (x_i M25 p0 70) → ∃ b30, x_r M29 p0 63 = some b30 ∧ (x_h M3 b30).1 = 1 ∧ vp_in v4 (x_h M3 b30).2 ∧ (∀ M33, M33 = x_si M29 b30 v4.toNatClampNeg (x_i M29 p0 71) → ∃ b34, x_r M33 p0 64 = some b34 ∧ (x_h M3 b34).1 = 1 ∧ vp_in v4 (x_h M3 b34).2 ∧ (∀ M37, M37 = x_si M33 b34 v4.toNatClampNeg (x_i M33 p0 72) → ∃ b38, x_r M37 p0 53 = some b38 ∧ (x_h M3 b38).1 = 1 ∧ vp_in v4 (x_h M3 b38).2 ∧ (∀ M41, M41 = x_si M37 b38 v4.toNatClampNeg x6 → Q (some (.int v4)) M41)))))))))))) : LX12_lettersAtom_149 G d rc rs p0 x1 x2 x3 x4 x5 x6 M Q := by
  show Wk G (d + 1) rc rs mX12_lettersAtom 149 _ _ M Q
  refine r_aload_n (pc := 149) (i := 0) dX12_lettersAtom_149 rfl rfl ?_
  refine r_iconst (pc := 150) (v := 1) dX12_lettersAtom_150 (by decide) ?_
  refine r_iconst (pc := 151) (v := 0) dX12_lettersAtom_151 (by decide) ?_
  refine r_iconst (pc := 152) (v := 0) dX12_lettersAtom_152 (by decide) ?_
  refine r_iconst (pc := 153) (v := 0) dX12_lettersAtom_153 (by decide) ?_
  refine r_iload (pc := 154) (i := 5) dX12_lettersAtom_154 rfl ?_
  obtain ⟨k1, h⟩ := h
  refine r_callV (pc := 156) (ci := 12) (as := [_, _, _, _, _]) (st := []) okX12_ended lkX12_353 inX12_ended seX12_ended ⟨_, rfl, rfl⟩ dX12_lettersAtom_156 rfl k1 (Nat.le_of_ble_eq_true rfl) (Nat.zero_le _) (Nat.zero_le _) (Call.mono h (fun r2 M3 h => ?_))
  obtain ⟨v4, rfl, h⟩ := h
  refine r_istore (pc := 159) (i := 7) dX12_lettersAtom_159 rfl (Nat.le_of_ble_eq_true rfl) ?_
  refine r_aload_n (pc := 161) (i := 0) dX12_lettersAtom_161 rfl rfl ?_
  obtain ⟨k5, h⟩ := h
  obtain ⟨b6, hb6, h⟩ := h
  refine r_getr (pc := 162) flX12_131 dX12_lettersAtom_162 rfl k5 hb6 ?_
  refine r_iload (pc := 165) (i := 7) dX12_lettersAtom_165 rfl ?_
  refine r_iload_n (pc := 167) (i := 1) dX12_lettersAtom_167 rfl rfl ?_
  obtain ⟨k7, h⟩ := h
  obtain ⟨i8, h⟩ := h
  refine r_iast (pc := 168) dX12_lettersAtom_168 k7 i8 ?_
  replace h := h _ rfl
  refine r_aload_n (pc := 169) (i := 0) dX12_lettersAtom_169 rfl rfl ?_
  obtain ⟨b10, hb10, h⟩ := h
  refine r_getr (pc := 170) flX12_134 dX12_lettersAtom_170 rfl k5 hb10 ?_
  refine r_iload (pc := 173) (i := 7) dX12_lettersAtom_173 rfl ?_
  refine r_iload_n (pc := 175) (i := 2) dX12_lettersAtom_175 rfl rfl ?_
  obtain ⟨k11, h⟩ := h
  obtain ⟨i12, h⟩ := h
  refine r_iast (pc := 176) dX12_lettersAtom_176 k11 i12 ?_
  replace h := h _ rfl
  refine r_aload_n (pc := 177) (i := 0) dX12_lettersAtom_177 rfl rfl ?_
  obtain ⟨b14, hb14, h⟩ := h
  refine r_getr (pc := 178) flX12_137 dX12_lettersAtom_178 rfl k5 hb14 ?_
  refine r_iload (pc := 181) (i := 7) dX12_lettersAtom_181 rfl ?_
  refine r_iload_n (pc := 183) (i := 3) dX12_lettersAtom_183 rfl rfl ?_
  obtain ⟨k15, h⟩ := h
  obtain ⟨i16, h⟩ := h
  refine r_iast (pc := 184) dX12_lettersAtom_184 k15 i16 ?_
  replace h := h _ rfl
  refine r_aload_n (pc := 185) (i := 0) dX12_lettersAtom_185 rfl rfl ?_
  obtain ⟨b18, hb18, h⟩ := h
  refine r_getr (pc := 186) flX12_140 dX12_lettersAtom_186 rfl k5 hb18 ?_
  refine r_iload (pc := 189) (i := 7) dX12_lettersAtom_189 rfl ?_
  refine r_iload (pc := 191) (i := 4) dX12_lettersAtom_191 rfl ?_
  obtain ⟨k19, h⟩ := h
  obtain ⟨i20, h⟩ := h
  refine r_iast (pc := 193) dX12_lettersAtom_193 k19 i20 ?_
  replace h := h _ rfl
  refine r_aload_n (pc := 194) (i := 0) dX12_lettersAtom_194 rfl rfl ?_
  obtain ⟨b22, hb22, h⟩ := h
  refine r_getr (pc := 195) flX12_143 dX12_lettersAtom_195 rfl k5 hb22 ?_
  refine r_iload (pc := 198) (i := 7) dX12_lettersAtom_198 rfl ?_
  refine r_aload_n (pc := 200) (i := 0) dX12_lettersAtom_200 rfl rfl ?_
  refine r_geti (pc := 201) flX12_402 dX12_lettersAtom_201 (Or.inl rfl) k5 ?_
  obtain ⟨k23, h⟩ := h
  obtain ⟨i24, h⟩ := h
  refine r_iast (pc := 204) dX12_lettersAtom_204 k23 i24 ?_
  replace h := h _ rfl
  refine r_aload_n (pc := 205) (i := 0) dX12_lettersAtom_205 rfl rfl ?_
  obtain ⟨b26, hb26, h⟩ := h
  refine r_getr (pc := 206) flX12_146 dX12_lettersAtom_206 rfl k5 hb26 ?_
  refine r_iload (pc := 209) (i := 7) dX12_lettersAtom_209 rfl ?_
  refine r_aload_n (pc := 211) (i := 0) dX12_lettersAtom_211 rfl rfl ?_
  refine r_geti (pc := 212) flX12_411 dX12_lettersAtom_212 (Or.inl rfl) k5 ?_
  obtain ⟨k27, h⟩ := h
  obtain ⟨i28, h⟩ := h
  refine r_iast (pc := 215) dX12_lettersAtom_215 k27 i28 ?_
  replace h := h _ rfl
  refine r_aload_n (pc := 216) (i := 0) dX12_lettersAtom_216 rfl rfl ?_
  obtain ⟨b30, hb30, h⟩ := h
  refine r_getr (pc := 217) flX12_149 dX12_lettersAtom_217 rfl k5 hb30 ?_
  refine r_iload (pc := 220) (i := 7) dX12_lettersAtom_220 rfl ?_
  refine r_aload_n (pc := 222) (i := 0) dX12_lettersAtom_222 rfl rfl ?_
  refine r_geti (pc := 223) flX12_405 dX12_lettersAtom_223 (Or.inl rfl) k5 ?_
  obtain ⟨k31, h⟩ := h
  obtain ⟨i32, h⟩ := h
  refine r_iast (pc := 226) dX12_lettersAtom_226 k31 i32 ?_
  replace h := h _ rfl
  refine r_aload_n (pc := 227) (i := 0) dX12_lettersAtom_227 rfl rfl ?_
  obtain ⟨b34, hb34, h⟩ := h
  refine r_getr (pc := 228) flX12_152 dX12_lettersAtom_228 rfl k5 hb34 ?_
  refine r_iload (pc := 231) (i := 7) dX12_lettersAtom_231 rfl ?_
  refine r_aload_n (pc := 233) (i := 0) dX12_lettersAtom_233 rfl rfl ?_
  refine r_geti (pc := 234) flX12_408 dX12_lettersAtom_234 (Or.inl rfl) k5 ?_
  obtain ⟨k35, h⟩ := h
  obtain ⟨i36, h⟩ := h
  refine r_iast (pc := 237) dX12_lettersAtom_237 k35 i36 ?_
  replace h := h _ rfl
  refine r_aload_n (pc := 238) (i := 0) dX12_lettersAtom_238 rfl rfl ?_
  obtain ⟨b38, hb38, h⟩ := h
  refine r_getr (pc := 239) flX12_119 dX12_lettersAtom_239 rfl k5 hb38 ?_
  refine r_iload (pc := 242) (i := 7) dX12_lettersAtom_242 rfl ?_
  refine r_iload (pc := 244) (i := 6) dX12_lettersAtom_244 rfl ?_
  obtain ⟨k39, h⟩ := h
  obtain ⟨i40, h⟩ := h
  refine r_iast (pc := 246) dX12_lettersAtom_246 k39 i40 ?_
  replace h := h _ rfl
  refine r_iload (pc := 247) (i := 7) dX12_lettersAtom_247 rfl ?_
  exact r_iret (pc := 249) dX12_lettersAtom_249 rfl h
abbrev LX12_read_64 (G : GG) (d rc rs : Nat) (p0 : Nat) (x1 : Int32) (M : Mem) (Q : Option Value → Mem → Prop) : Prop := Wk G (d + 1) rc rs mX12_read 64 [some (.ref p0), some (.int x1)] [] M Q
theorem eX12_read {G : GG} {d rc rs : Nat} (o : Nat)  {M : Mem} {Q : Option Value → Mem → Prop} (h : (x_h M o).1 = 28 ∧ (∀ M2, M2 = x_si M o 38 0 → ∀ M3, M3 = x_si M2 o 42 0 → ∀ M4, M4 = x_si M3 o 43 0 → ∀ M5, M5 = x_si M4 o 44 0 → ∀ M6, M6 = x_si M5 o 47 0 → ∀ M7, M7 = x_si M6 o 45 0 → ∀ M8, M8 = x_si M7 o 46 (-1) → Call G d 0 0 mX12_next [.ref o] M8 (fun r9 M10 => r9 = none ∧ Call G d 0 0 mX12_f [.ref o] M10 (fun r11 M12 => ∃ v13 : Int32, r11 = some (.int v13) ∧ (x_h M12 o).1 = 28 ∧ (¬ (x_i M12 o 42) = 0 → LX12_read_64 G d rc rs o 0 M12 Q) ∧ ((x_i M12 o 42) = 0 → ((x_i M12 o 39) = 0 → LX12_read_64 G d rc rs o 0 M12 Q) ∧ (¬ (x_i M12 o 39) = 0 → Call G d 0 0 mX12_cannot [.ref o] M12 (fun r17 M18 => r17 = none ∧ LX12_read_64 G d rc rs o 0 M18 Q))))))) : Call G (d + 1) rc rs mX12_read [.ref o] M Q := by
  refine call_of (by decide) (Nat.le_of_ble_eq_true rfl) ?_
  show Wk G (d + 1) rc rs mX12_read 0 [some (.ref o), none] [] M Q
  refine r_aload_n (pc := 0) (i := 0) dX12_read_0 rfl rfl ?_
  refine r_iconst (pc := 1) (v := 0) dX12_read_1 (by decide) ?_
  obtain ⟨k1, h⟩ := h
  refine r_puti (pc := 2) flX12_310 dX12_read_2 (Or.inl rfl) (fun q hq => by cases hq; rfl) k1 ?_
  replace h := h _ rfl
  refine r_aload_n (pc := 5) (i := 0) dX12_read_5 rfl rfl ?_
  refine r_iconst (pc := 6) (v := 0) dX12_read_6 (by decide) ?_
  refine r_puti (pc := 7) flX12_294 dX12_read_7 (Or.inr ⟨rfl, Or.inl rfl⟩) (fun q hq => by cases hq; rfl) k1 ?_
  replace h := h _ rfl
  refine r_aload_n (pc := 10) (i := 0) dX12_read_10 rfl rfl ?_
  refine r_iconst (pc := 11) (v := 0) dX12_read_11 (by decide) ?_
  refine r_puti (pc := 12) flX12_363 dX12_read_12 (Or.inl rfl) (fun q hq => by cases hq; rfl) k1 ?_
  replace h := h _ rfl
  refine r_aload_n (pc := 15) (i := 0) dX12_read_15 rfl rfl ?_
  refine r_iconst (pc := 16) (v := 0) dX12_read_16 (by decide) ?_
  refine r_puti (pc := 17) flX12_378 dX12_read_17 (Or.inl rfl) (fun q hq => by cases hq; rfl) k1 ?_
  replace h := h _ rfl
  refine r_aload_n (pc := 20) (i := 0) dX12_read_20 rfl rfl ?_
  refine r_iconst (pc := 21) (v := 0) dX12_read_21 (by decide) ?_
  refine r_puti (pc := 22) flX12_343 dX12_read_22 (Or.inl rfl) (fun q hq => by cases hq; rfl) k1 ?_
  replace h := h _ rfl
  refine r_aload_n (pc := 25) (i := 0) dX12_read_25 rfl rfl ?_
  refine r_iconst (pc := 26) (v := 0) dX12_read_26 (by decide) ?_
  refine r_puti (pc := 27) flX12_298 dX12_read_27 (Or.inl rfl) (fun q hq => by cases hq; rfl) k1 ?_
  replace h := h _ rfl
  refine r_aload_n (pc := 30) (i := 0) dX12_read_30 rfl rfl ?_
  refine r_iconst (pc := 31) (v := (-1)) dX12_read_31 (by decide) ?_
  refine r_puti (pc := 32) flX12_304 dX12_read_32 (Or.inl rfl) (fun q hq => by cases hq; rfl) k1 ?_
  replace h := h _ rfl
  refine r_aload_n (pc := 35) (i := 0) dX12_read_35 rfl rfl ?_
  refine r_callV (pc := 36) (ci := 12) (as := []) (st := []) okX12_next lkX12_340 inX12_next seX12_next ⟨_, rfl, rfl⟩ dX12_read_36 rfl k1 (Nat.le_of_ble_eq_true rfl) (Nat.zero_le _) (Nat.zero_le _) (Call.mono h (fun r9 M10 h => ?_))
  obtain ⟨rfl, h⟩ := h
  refine r_aload_n (pc := 39) (i := 0) dX12_read_39 rfl rfl ?_
  refine r_callS (pc := 40) (as := [_]) (st := []) okX12_f lkX12_350 stX12_f dX12_read_40 rfl (Nat.le_of_ble_eq_true rfl) (Nat.zero_le _) (Nat.zero_le _) (Call.mono h (fun r11 M12 h => ?_))
  obtain ⟨v13, rfl, h⟩ := h
  refine r_pop (pc := 43) dX12_read_43 rfl ?_
  refine r_aload_n (pc := 44) (i := 0) dX12_read_44 rfl rfl ?_
  obtain ⟨k14, h⟩ := h
  refine r_geti (pc := 45) flX12_294 dX12_read_45 (Or.inr rfl) k14 ?_
  refine r_if_ne (pc := 48) (tgt := 62) dX12_read_48 (by decide) (fun c15 => ?_) (fun c15 => ?_)
  · replace h := h.1 c15
    refine r_iconst (pc := 62) (v := 0) dX12_read_62 (by decide) ?_
    refine r_istore_n (pc := 63) (i := 1) dX12_read_63 rfl rfl (Nat.le_of_ble_eq_true rfl) ?_
    exact h
  · replace h := h.2 c15
    refine r_aload_n (pc := 51) (i := 0) dX12_read_51 rfl rfl ?_
    refine r_geti (pc := 52) flX12_307 dX12_read_52 (Or.inl rfl) k14 ?_
    refine r_if_eq (pc := 55) (tgt := 62) dX12_read_55 (by decide) (fun c16 => ?_) (fun c16 => ?_)
    · replace h := h.1 c16
      refine r_iconst (pc := 62) (v := 0) dX12_read_62 (by decide) ?_
      refine r_istore_n (pc := 63) (i := 1) dX12_read_63 rfl rfl (Nat.le_of_ble_eq_true rfl) ?_
      exact h
    · replace h := h.2 c16
      refine r_aload_n (pc := 58) (i := 0) dX12_read_58 rfl rfl ?_
      refine r_callV (pc := 59) (ci := 12) (as := []) (st := []) okX12_cannot lkX12_331 inX12_cannot seX12_cannot ⟨_, rfl, rfl⟩ dX12_read_59 rfl k14 (Nat.le_of_ble_eq_true rfl) (Nat.zero_le _) (Nat.zero_le _) (Call.mono h (fun r17 M18 h => ?_))
      obtain ⟨rfl, h⟩ := h
      refine r_iconst (pc := 62) (v := 0) dX12_read_62 (by decide) ?_
      refine r_istore_n (pc := 63) (i := 1) dX12_read_63 rfl rfl (Nat.le_of_ble_eq_true rfl) ?_
      exact h
theorem vX12_read_64 {G : GG} {d rc rs : Nat} (p0 : Nat) (x1 : Int32)  {M : Mem} {Q : Option Value → Mem → Prop} (h : (x_h M p0).1 = 28 ∧ ((x_i M p0 47) ≤ x1 → Q none M) ∧ (¬ (x_i M p0 47) ≤ x1 → (¬ (x_i M p0 45) = 0 → Q none M) ∧ ((x_i M p0 45) = 0 → ∃ b4, x_r M p0 53 = some b4 ∧ (x_h M b4).1 = 1 ∧ vp_in x1 (x_h M b4).2 ∧ Call G d 0 0 mX12_bits [.int (x_i M b4 x1.toNatClampNeg)] M (fun r7 M8 => ∃ v9 : Int32, r7 = some (.int v9) ∧ (v9 ≤ 3 → LX12_read_64 G d rc rs p0 (x1 + 1) M8 Q) ∧ (¬ v9 ≤ 3 → (x_h M8 p0).1 = 28 ∧ (∀ M12, M12 = x_si M8 p0 45 3 → ∃ b13, x_r M12 p0 52 = some b13 ∧ (x_h M8 b13).1 = 1 ∧ vp_in x1 (x_h M8 b13).2 ∧ (∀ M16, M16 = x_si M12 p0 46 (x_i M12 b13 x1.toNatClampNeg) → LX12_read_64 G d rc rs p0 (x1 + 1) M16 Q))))))) : LX12_read_64 G d rc rs p0 x1 M Q := by
  show Wk G (d + 1) rc rs mX12_read 64 _ _ M Q
  refine r_iload_n (pc := 64) (i := 1) dX12_read_64 rfl rfl ?_
  refine r_aload_n (pc := 65) (i := 0) dX12_read_65 rfl rfl ?_
  obtain ⟨k1, h⟩ := h
  refine r_geti (pc := 66) flX12_343 dX12_read_66 (Or.inl rfl) k1 ?_
  refine r_icmp_ge (pc := 69) (tgt := 113) dX12_read_69 (by decide) (fun c2 => ?_) (fun c2 => ?_)
  · replace h := h.1 c2
    exact r_vret (pc := 113) dX12_read_113 rfl h
  · replace h := h.2 c2
    refine r_aload_n (pc := 72) (i := 0) dX12_read_72 rfl rfl ?_
    refine r_geti (pc := 73) flX12_298 dX12_read_73 (Or.inl rfl) k1 ?_
    refine r_if_ne (pc := 76) (tgt := 113) dX12_read_76 (by decide) (fun c3 => ?_) (fun c3 => ?_)
    · replace h := h.1 c3
      exact r_vret (pc := 113) dX12_read_113 rfl h
    · replace h := h.2 c3
      refine r_aload_n (pc := 79) (i := 0) dX12_read_79 rfl rfl ?_
      obtain ⟨b4, hb4, h⟩ := h
      refine r_getr (pc := 80) flX12_119 dX12_read_80 rfl k1 hb4 ?_
      refine r_iload_n (pc := 83) (i := 1) dX12_read_83 rfl rfl ?_
      obtain ⟨k5, h⟩ := h
      obtain ⟨i6, h⟩ := h
      refine r_iald (pc := 84) dX12_read_84 k5 i6 ?_
      refine r_callS (pc := 85) (as := [_]) (st := []) okX12_bits lkX12_222 stX12_bits dX12_read_85 rfl (Nat.le_of_ble_eq_true rfl) (Nat.zero_le _) (Nat.zero_le _) (Call.mono h (fun r7 M8 h => ?_))
      obtain ⟨v9, rfl, h⟩ := h
      refine r_iconst (pc := 88) (v := 3) dX12_read_88 (by decide) ?_
      refine r_icmp_le (pc := 89) (tgt := 107) dX12_read_89 (by decide) (fun c10 => ?_) (fun c10 => ?_)
      · replace h := h.1 c10
        refine r_iinc (pc := 107) (i := 1) (v := _ + 1) dX12_read_107 rfl rfl rfl ?_
        refine r_goto (pc := 110) (tgt := 64) dX12_read_110 (by decide) ?_
        exact h
      · replace h := h.2 c10
        refine r_aload_n (pc := 92) (i := 0) dX12_read_92 rfl rfl ?_
        refine r_iconst (pc := 93) (v := 3) dX12_read_93 (by decide) ?_
        obtain ⟨k11, h⟩ := h
        refine r_puti (pc := 94) flX12_298 dX12_read_94 (Or.inl rfl) (fun q hq => by cases hq; rfl) k11 ?_
        replace h := h _ rfl
        refine r_aload_n (pc := 97) (i := 0) dX12_read_97 rfl rfl ?_
        refine r_aload_n (pc := 98) (i := 0) dX12_read_98 rfl rfl ?_
        obtain ⟨b13, hb13, h⟩ := h
        refine r_getr (pc := 99) flX12_116 dX12_read_99 rfl k11 hb13 ?_
        refine r_iload_n (pc := 102) (i := 1) dX12_read_102 rfl rfl ?_
        obtain ⟨k14, h⟩ := h
        obtain ⟨i15, h⟩ := h
        refine r_iald (pc := 103) dX12_read_103 k14 i15 ?_
        refine r_puti (pc := 104) flX12_304 dX12_read_104 (Or.inl rfl) (fun q hq => by cases hq; rfl) k11 ?_
        replace h := h _ rfl
        refine r_iinc (pc := 107) (i := 1) (v := _ + 1) dX12_read_107 rfl rfl rfl ?_
        refine r_goto (pc := 110) (tgt := 64) dX12_read_110 (by decide) ?_
        exact h
theorem eX12_pTo {G : GG} {d rc rs : Nat} (o : Nat) (a1 : Int32) (a2 : Int32) (a3 : Int32)  {M : Mem} {Q : Option Value → Mem → Prop} (h : (x_h M o).1 = 28 ∧ (∃ b2, x_r M o 74 = some b2 ∧ (x_h M b2).1 = 1 ∧ vp_in ((27 * ((40 * a1) + a2)) + a3) (x_h M b2).2 ∧ Q (some (.int (x_i M b2 ((27 * ((40 * a1) + a2)) + a3).toNatClampNeg))) M)) : Call G (d + 1) rc rs mX12_pTo [.ref o, .int a1, .int a2, .int a3] M Q := by
  refine call_of (by decide) (Nat.le_of_ble_eq_true rfl) ?_
  show Wk G (d + 1) rc rs mX12_pTo 0 [some (.ref o), some (.int a1), some (.int a2), some (.int a3)] [] M Q
  refine r_aload_n (pc := 0) (i := 0) dX12_pTo_0 rfl rfl ?_
  obtain ⟨k1, h⟩ := h
  obtain ⟨b2, hb2, h⟩ := h
  refine r_getr (pc := 1) flX12_162 dX12_pTo_1 rfl k1 hb2 ?_
  refine r_bipush (pc := 4) (v := 27) dX12_pTo_4 (by decide) ?_
  refine r_bipush (pc := 6) (v := 40) dX12_pTo_6 (by decide) ?_
  refine r_iload_n (pc := 8) (i := 1) dX12_pTo_8 rfl rfl ?_
  refine r_imul (pc := 9) dX12_pTo_9 ?_
  refine r_iload_n (pc := 10) (i := 2) dX12_pTo_10 rfl rfl ?_
  refine r_iadd (pc := 11) dX12_pTo_11 ?_
  refine r_imul (pc := 12) dX12_pTo_12 ?_
  refine r_iload_n (pc := 13) (i := 3) dX12_pTo_13 rfl rfl ?_
  refine r_iadd (pc := 14) dX12_pTo_14 ?_
  obtain ⟨k3, h⟩ := h
  obtain ⟨i4, h⟩ := h
  refine r_iald (pc := 15) dX12_pTo_15 k3 i4 ?_
  exact r_iret (pc := 16) dX12_pTo_16 rfl h
abbrev LX12_becomes_27 (G : GG) (d rc rs : Nat) (p0 : Nat) (x1 : Int32) (x2 : Int32) (z3 : Option Value) (M : Mem) (Q : Option Value → Mem → Prop) : Prop := Wk G (d + 1) rc rs mX12_becomes 27 [some (.ref p0), some (.int x1), some (.int x2), z3] [] M Q
abbrev LX12_becomes_68 (G : GG) (d rc rs : Nat) (p0 : Nat) (x1 : Int32) (x2 : Int32) (x3 : Int32) (M : Mem) (Q : Option Value → Mem → Prop) : Prop := Wk G (d + 1) rc rs mX12_becomes 68 [some (.ref p0), some (.int x1), some (.int x2), some (.int x3)] [] M Q
theorem eX12_becomes {G : GG} {d rc rs : Nat} (o : Nat) (a1 : Int32)  {M : Mem} {Q : Option Value → Mem → Prop} (h : (x_h M o).1 = 28 ∧ Call G d 0 0 mX12_least [.ref o] M (fun r2 M3 => r2 = none ∧ (x_h M3 o).1 = 28 ∧ ((x_i M3 o 29) ≤ 40 → ∃ b6, x_r M3 o 73 = some b6 ∧ (x_h M3 b6).1 = 1 ∧ vp_in a1 (x_h M3 b6).2 ∧ (∀ M9, M9 = x_si M3 b6 a1.toNatClampNeg (x_i M3 o 29) → LX12_becomes_27 G d rc rs o a1 0 none M9 Q)) ∧ (¬ (x_i M3 o 29) ≤ 40 → Q (some (.int 0)) M3))) : Call G (d + 1) rc rs mX12_becomes [.ref o, .int a1] M Q := by
  refine call_of (by decide) (Nat.le_of_ble_eq_true rfl) ?_
  show Wk G (d + 1) rc rs mX12_becomes 0 [some (.ref o), some (.int a1), none, none] [] M Q
  refine r_aload_n (pc := 0) (i := 0) dX12_becomes_0 rfl rfl ?_
  obtain ⟨k1, h⟩ := h
  refine r_callV (pc := 1) (ci := 12) (as := []) (st := []) okX12_least lkX12_266 inX12_least seX12_least ⟨_, rfl, rfl⟩ dX12_becomes_1 rfl k1 (Nat.le_of_ble_eq_true rfl) (Nat.zero_le _) (Nat.zero_le _) (Call.mono h (fun r2 M3 h => ?_))
  obtain ⟨rfl, h⟩ := h
  refine r_aload_n (pc := 4) (i := 0) dX12_becomes_4 rfl rfl ?_
  obtain ⟨k4, h⟩ := h
  refine r_geti (pc := 5) flX12_243 dX12_becomes_5 (Or.inl rfl) k4 ?_
  refine r_bipush (pc := 8) (v := 40) dX12_becomes_8 (by decide) ?_
  refine r_icmp_le (pc := 10) (tgt := 15) dX12_becomes_10 (by decide) (fun c5 => ?_) (fun c5 => ?_)
  · replace h := h.1 c5
    refine r_aload_n (pc := 15) (i := 0) dX12_becomes_15 rfl rfl ?_
    obtain ⟨b6, hb6, h⟩ := h
    refine r_getr (pc := 16) flX12_158 dX12_becomes_16 rfl k4 hb6 ?_
    refine r_iload_n (pc := 19) (i := 1) dX12_becomes_19 rfl rfl ?_
    refine r_aload_n (pc := 20) (i := 0) dX12_becomes_20 rfl rfl ?_
    refine r_geti (pc := 21) flX12_243 dX12_becomes_21 (Or.inl rfl) k4 ?_
    obtain ⟨k7, h⟩ := h
    obtain ⟨i8, h⟩ := h
    refine r_iast (pc := 24) dX12_becomes_24 k7 i8 ?_
    replace h := h _ rfl
    refine r_iconst (pc := 25) (v := 0) dX12_becomes_25 (by decide) ?_
    refine r_istore_n (pc := 26) (i := 2) dX12_becomes_26 rfl rfl (Nat.le_of_ble_eq_true rfl) ?_
    exact h
  · replace h := h.2 c5
    refine r_iconst (pc := 13) (v := 0) dX12_becomes_13 (by decide) ?_
    exact r_zret (pc := 14) dX12_becomes_14 rfl (Or.inl rfl) h
theorem vX12_becomes_27 {G : GG} {d rc rs : Nat} (p0 : Nat) (x1 : Int32) (x2 : Int32) (z3 : Option Value) (hz3 : c1 z3 = true) {M : Mem} {Q : Option Value → Mem → Prop} (h : (x_h M p0).1 = 28 ∧ ((x_i M p0 29) ≤ x2 → Q (some (.int 1)) M) ∧ (¬ (x_i M p0 29) ≤ x2 → ∃ b3, x_r M p0 75 = some b3 ∧ ∃ b4, x_r M p0 28 = some b4 ∧ ∃ b5, x_r M p0 33 = some b5 ∧ (x_h M b5).1 = 1 ∧ vp_in x2 (x_h M b5).2 ∧ (x_h M b4).1 = 1 ∧ vp_in (x_i M b5 x2.toNatClampNeg) (x_h M b4).2 ∧ (¬ (x_i M b4 (x_i M b5 x2.toNatClampNeg).toNatClampNeg) = 1 → (x_h M b3).1 = 3 ∧ vp_in ((40 * x1) + x2) (x_h M b3).2 ∧ (∀ M13, M13 = x_si M b3 ((40 * x1) + x2).toNatClampNeg 0 → LX12_becomes_68 G d rc rs p0 x1 x2 0 M13 Q)) ∧ ((x_i M b4 (x_i M b5 x2.toNatClampNeg).toNatClampNeg) = 1 → (x_h M b3).1 = 3 ∧ vp_in ((40 * x1) + x2) (x_h M b3).2 ∧ (∀ M16, M16 = x_si M b3 ((40 * x1) + x2).toNatClampNeg 1 → LX12_becomes_68 G d rc rs p0 x1 x2 0 M16 Q)))) : LX12_becomes_27 G d rc rs p0 x1 x2 z3 M Q := by
  show Wk G (d + 1) rc rs mX12_becomes 27 _ _ M Q
  refine r_iload_n (pc := 27) (i := 2) dX12_becomes_27 rfl rfl ?_
  refine r_aload_n (pc := 28) (i := 0) dX12_becomes_28 rfl rfl ?_
  obtain ⟨k1, h⟩ := h
  refine r_geti (pc := 29) flX12_243 dX12_becomes_29 (Or.inl rfl) k1 ?_
  refine r_icmp_ge (pc := 32) (tgt := 110) dX12_becomes_32 (by decide) (fun c2 => ?_) (fun c2 => ?_)
  · replace h := h.1 c2
    refine r_iconst (pc := 110) (v := 1) dX12_becomes_110 (by decide) ?_
    exact r_zret (pc := 111) dX12_becomes_111 rfl (Or.inr rfl) h
  · replace h := h.2 c2
    refine r_aload_n (pc := 35) (i := 0) dX12_becomes_35 rfl rfl ?_
    obtain ⟨b3, hb3, h⟩ := h
    refine r_getr (pc := 36) flX12_165 dX12_becomes_36 rfl k1 hb3 ?_
    refine r_bipush (pc := 39) (v := 40) dX12_becomes_39 (by decide) ?_
    refine r_iload_n (pc := 41) (i := 1) dX12_becomes_41 rfl rfl ?_
    refine r_imul (pc := 42) dX12_becomes_42 ?_
    refine r_iload_n (pc := 43) (i := 2) dX12_becomes_43 rfl rfl ?_
    refine r_iadd (pc := 44) dX12_becomes_44 ?_
    refine r_aload_n (pc := 45) (i := 0) dX12_becomes_45 rfl rfl ?_
    obtain ⟨b4, hb4, h⟩ := h
    refine r_getr (pc := 46) flX12_76 dX12_becomes_46 rfl k1 hb4 ?_
    refine r_aload_n (pc := 49) (i := 0) dX12_becomes_49 rfl rfl ?_
    obtain ⟨b5, hb5, h⟩ := h
    refine r_getr (pc := 50) flX12_89 dX12_becomes_50 rfl k1 hb5 ?_
    refine r_iload_n (pc := 53) (i := 2) dX12_becomes_53 rfl rfl ?_
    obtain ⟨k6, h⟩ := h
    obtain ⟨i7, h⟩ := h
    refine r_iald (pc := 54) dX12_becomes_54 k6 i7 ?_
    obtain ⟨k8, h⟩ := h
    obtain ⟨i9, h⟩ := h
    refine r_iald (pc := 55) dX12_becomes_55 k8 i9 ?_
    refine r_iconst (pc := 56) (v := 1) dX12_becomes_56 (by decide) ?_
    refine r_icmp_ne (pc := 57) (tgt := 64) dX12_becomes_57 (by decide) (fun c10 => ?_) (fun c10 => ?_)
    · replace h := h.1 c10
      refine r_iconst (pc := 64) (v := 0) dX12_becomes_64 (by decide) ?_
      obtain ⟨k11, h⟩ := h
      obtain ⟨i12, h⟩ := h
      refine r_zast (pc := 65) dX12_becomes_65 (Or.inl rfl) k11 i12 ?_
      replace h := h _ rfl
      refine r_iconst (pc := 66) (v := 0) dX12_becomes_66 (by decide) ?_
      refine r_istore_n (pc := 67) (i := 3) dX12_becomes_67 rfl rfl (Nat.le_of_ble_eq_true rfl) ?_
      exact h
    · replace h := h.2 c10
      refine r_iconst (pc := 60) (v := 1) dX12_becomes_60 (by decide) ?_
      refine r_goto (pc := 61) (tgt := 65) dX12_becomes_61 (by decide) ?_
      obtain ⟨k14, h⟩ := h
      obtain ⟨i15, h⟩ := h
      refine r_zast (pc := 65) dX12_becomes_65 (Or.inr rfl) k14 i15 ?_
      replace h := h _ rfl
      refine r_iconst (pc := 66) (v := 0) dX12_becomes_66 (by decide) ?_
      refine r_istore_n (pc := 67) (i := 3) dX12_becomes_67 rfl rfl (Nat.le_of_ble_eq_true rfl) ?_
      exact h
theorem vX12_becomes_68 {G : GG} {d rc rs : Nat} (p0 : Nat) (x1 : Int32) (x2 : Int32) (x3 : Int32)  {M : Mem} {Q : Option Value → Mem → Prop} (h : (x_h M p0).1 = 28 ∧ ((x_i M p0 26) ≤ x3 → LX12_becomes_27 G d rc rs p0 x1 (x2 + 1) (some (.int x3)) M Q) ∧ (¬ (x_i M p0 26) ≤ x3 → ∃ b3, x_r M p0 74 = some b3 ∧ Call G d 0 0 mX12_stepOf [.ref p0, .int x2, .int x3] M (fun r4 M5 => ∃ v6 : Int32, r4 = some (.int v6) ∧ (x_h M5 b3).1 = 1 ∧ vp_in ((27 * ((40 * x1) + x2)) + x3) (x_h M5 b3).2 ∧ (∀ M9, M9 = x_si M5 b3 ((27 * ((40 * x1) + x2)) + x3).toNatClampNeg v6 → LX12_becomes_68 G d rc rs p0 x1 x2 (x3 + 1) M9 Q)))) : LX12_becomes_68 G d rc rs p0 x1 x2 x3 M Q := by
  show Wk G (d + 1) rc rs mX12_becomes 68 _ _ M Q
  refine r_iload_n (pc := 68) (i := 3) dX12_becomes_68 rfl rfl ?_
  refine r_aload_n (pc := 69) (i := 0) dX12_becomes_69 rfl rfl ?_
  obtain ⟨k1, h⟩ := h
  refine r_geti (pc := 70) flX12_226 dX12_becomes_70 (Or.inl rfl) k1 ?_
  refine r_icmp_ge (pc := 73) (tgt := 104) dX12_becomes_73 (by decide) (fun c2 => ?_) (fun c2 => ?_)
  · replace h := h.1 c2
    refine r_iinc (pc := 104) (i := 2) (v := _ + 1) dX12_becomes_104 rfl rfl rfl ?_
    refine r_goto (pc := 107) (tgt := 27) dX12_becomes_107 (by decide) ?_
    exact h
  · replace h := h.2 c2
    refine r_aload_n (pc := 76) (i := 0) dX12_becomes_76 rfl rfl ?_
    obtain ⟨b3, hb3, h⟩ := h
    refine r_getr (pc := 77) flX12_162 dX12_becomes_77 rfl k1 hb3 ?_
    refine r_bipush (pc := 80) (v := 27) dX12_becomes_80 (by decide) ?_
    refine r_bipush (pc := 82) (v := 40) dX12_becomes_82 (by decide) ?_
    refine r_iload_n (pc := 84) (i := 1) dX12_becomes_84 rfl rfl ?_
    refine r_imul (pc := 85) dX12_becomes_85 ?_
    refine r_iload_n (pc := 86) (i := 2) dX12_becomes_86 rfl rfl ?_
    refine r_iadd (pc := 87) dX12_becomes_87 ?_
    refine r_imul (pc := 88) dX12_becomes_88 ?_
    refine r_iload_n (pc := 89) (i := 3) dX12_becomes_89 rfl rfl ?_
    refine r_iadd (pc := 90) dX12_becomes_90 ?_
    refine r_aload_n (pc := 91) (i := 0) dX12_becomes_91 rfl rfl ?_
    refine r_iload_n (pc := 92) (i := 2) dX12_becomes_92 rfl rfl ?_
    refine r_iload_n (pc := 93) (i := 3) dX12_becomes_93 rfl rfl ?_
    refine r_callV (pc := 94) (ci := 12) (as := [_, _]) (st := [_, _]) okX12_stepOf lkX12_246 inX12_stepOf seX12_stepOf ⟨_, rfl, rfl⟩ dX12_becomes_94 rfl k1 (Nat.le_of_ble_eq_true rfl) (Nat.zero_le _) (Nat.zero_le _) (Call.mono h (fun r4 M5 h => ?_))
    obtain ⟨v6, rfl, h⟩ := h
    obtain ⟨k7, h⟩ := h
    obtain ⟨i8, h⟩ := h
    refine r_iast (pc := 97) dX12_becomes_97 k7 i8 ?_
    replace h := h _ rfl
    refine r_iinc (pc := 98) (i := 3) (v := _ + 1) dX12_becomes_98 rfl rfl rfl ?_
    refine r_goto (pc := 101) (tgt := 68) dX12_becomes_101 (by decide) ?_
    exact h
theorem eX12_digitOf {G : GG} {d rc rs : Nat} (o : Nat) (a1 : Int32) (a2 : Int32) (a3 : Int32)  {M : Mem} {Q : Option Value → Mem → Prop} (h : (x_h M o).1 = 28 ∧ Call G d 0 0 mX12_across [.ref o, .int (a2 &&& (((2 <<< (a3 &&& 31)) - 1) ^^^ (-1)))] M (fun r2 M3 => ∃ v4 : Int32, r2 = some (.int v4) ∧ ¬ v4 = 0 ∧ (x_h M3 o).1 = 28 ∧ ¬ (x_i M3 o 0) = 0 ∧ Q (some (.int ((a1 / v4) - (a1 / v4) / (x_i M3 o 0) * (x_i M3 o 0)))) M3)) : Call G (d + 1) rc rs mX12_digitOf [.ref o, .int a1, .int a2, .int a3] M Q := by
  refine call_of (by decide) (Nat.le_of_ble_eq_true rfl) ?_
  show Wk G (d + 1) rc rs mX12_digitOf 0 [some (.ref o), some (.int a1), some (.int a2), some (.int a3), none] [] M Q
  refine r_aload_n (pc := 0) (i := 0) dX12_digitOf_0 rfl rfl ?_
  refine r_iload_n (pc := 1) (i := 2) dX12_digitOf_1 rfl rfl ?_
  refine r_iconst (pc := 2) (v := 2) dX12_digitOf_2 (by decide) ?_
  refine r_iload_n (pc := 3) (i := 3) dX12_digitOf_3 rfl rfl ?_
  refine r_ishl (pc := 4) dX12_digitOf_4 ?_
  refine r_iconst (pc := 5) (v := 1) dX12_digitOf_5 (by decide) ?_
  refine r_isub (pc := 6) dX12_digitOf_6 ?_
  refine r_iconst (pc := 7) (v := (-1)) dX12_digitOf_7 (by decide) ?_
  refine r_ixor (pc := 8) dX12_digitOf_8 ?_
  refine r_iand (pc := 9) dX12_digitOf_9 ?_
  obtain ⟨k1, h⟩ := h
  refine r_callV (pc := 10) (ci := 12) (as := [_]) (st := []) okX12_across lkX12_417 inX12_across seX12_across ⟨_, rfl, rfl⟩ dX12_digitOf_10 rfl k1 (Nat.le_of_ble_eq_true rfl) (Nat.zero_le _) (Nat.zero_le _) (Call.mono h (fun r2 M3 h => ?_))
  obtain ⟨v4, rfl, h⟩ := h
  refine r_istore (pc := 13) (i := 4) dX12_digitOf_13 rfl (Nat.le_of_ble_eq_true rfl) ?_
  refine r_iload_n (pc := 15) (i := 1) dX12_digitOf_15 rfl rfl ?_
  refine r_iload (pc := 16) (i := 4) dX12_digitOf_16 rfl ?_
  obtain ⟨n5, h⟩ := h
  refine r_idiv (pc := 18) dX12_digitOf_18 n5 ?_
  refine r_aload_n (pc := 19) (i := 0) dX12_digitOf_19 rfl rfl ?_
  obtain ⟨k6, h⟩ := h
  refine r_geti (pc := 20) flX12_7 dX12_digitOf_20 (Or.inl rfl) k6 ?_
  obtain ⟨n7, h⟩ := h
  refine r_irem (pc := 23) dX12_digitOf_23 n7 ?_
  exact r_iret (pc := 24) dX12_digitOf_24 rfl h
abbrev LX12_within_6 (G : GG) (d rc rs : Nat) (p0 : Nat) (x1 : Int32) (x2 : Int32) (x3 : Int32) (x4 : Int32) (x5 : Int32) (M : Mem) (Q : Option Value → Mem → Prop) : Prop := Wk G (d + 1) rc rs mX12_within 6 [some (.ref p0), some (.int x1), some (.int x2), some (.int x3), some (.int x4), some (.int x5)] [] M Q
theorem eX12_within {G : GG} {d rc rs : Nat} (o : Nat) (a1 : Int32) (a2 : Int32) (a3 : Int32)  {M : Mem} {Q : Option Value → Mem → Prop} (h : LX12_within_6 G d rc rs o a1 a2 a3 0 0 M Q) : Call G (d + 1) rc rs mX12_within [.ref o, .int a1, .int a2, .int a3] M Q := by
  refine call_of (by decide) (Nat.le_of_ble_eq_true rfl) ?_
  show Wk G (d + 1) rc rs mX12_within 0 [some (.ref o), some (.int a1), some (.int a2), some (.int a3), none, none] [] M Q
  refine r_iconst (pc := 0) (v := 0) dX12_within_0 (by decide) ?_
  refine r_istore (pc := 1) (i := 4) dX12_within_1 rfl (Nat.le_of_ble_eq_true rfl) ?_
  refine r_iconst (pc := 3) (v := 0) dX12_within_3 (by decide) ?_
  refine r_istore (pc := 4) (i := 5) dX12_within_4 rfl (Nat.le_of_ble_eq_true rfl) ?_
  exact h
theorem vX12_within_6 {G : GG} {d rc rs : Nat} (p0 : Nat) (x1 : Int32) (x2 : Int32) (x3 : Int32) (x4 : Int32) (x5 : Int32)  {M : Mem} {Q : Option Value → Mem → Prop} (h : (8 ≤ x5 → Q (some (.int x4)) M) ∧ (¬ 8 ≤ x5 → (¬ ((x3 >>> (x5 &&& 31)) &&& 1) = 1 → LX12_within_6 G d rc rs p0 x1 x2 x3 x4 (x5 + 1) M Q) ∧ (((x3 >>> (x5 &&& 31)) &&& 1) = 1 → (x_h M p0).1 = 28 ∧ Call G d 0 0 mX12_digitOf [.ref p0, .int x1, .int x2, .int x5] M (fun r4 M5 => ∃ v6 : Int32, r4 = some (.int v6) ∧ LX12_within_6 G d rc rs p0 x1 x2 x3 (((x_i M p0 0) * x4) + v6) (x5 + 1) M5 Q)))) : LX12_within_6 G d rc rs p0 x1 x2 x3 x4 x5 M Q := by
  show Wk G (d + 1) rc rs mX12_within 6 _ _ M Q
  refine r_iload (pc := 6) (i := 5) dX12_within_6 rfl ?_
  refine r_bipush (pc := 8) (v := 8) dX12_within_8 (by decide) ?_
  refine r_icmp_ge (pc := 10) (tgt := 52) dX12_within_10 (by decide) (fun c1 => ?_) (fun c1 => ?_)
  · replace h := h.1 c1
    refine r_iload (pc := 52) (i := 4) dX12_within_52 rfl ?_
    exact r_iret (pc := 54) dX12_within_54 rfl h
  · replace h := h.2 c1
    refine r_iload_n (pc := 13) (i := 3) dX12_within_13 rfl rfl ?_
    refine r_iload (pc := 14) (i := 5) dX12_within_14 rfl ?_
    refine r_ishr (pc := 16) dX12_within_16 ?_
    refine r_iconst (pc := 17) (v := 1) dX12_within_17 (by decide) ?_
    refine r_iand (pc := 18) dX12_within_18 ?_
    refine r_iconst (pc := 19) (v := 1) dX12_within_19 (by decide) ?_
    refine r_icmp_ne (pc := 20) (tgt := 42) dX12_within_20 (by decide) (fun c2 => ?_) (fun c2 => ?_)
    · replace h := h.1 c2
      refine r_iload (pc := 42) (i := 4) dX12_within_42 rfl ?_
      refine r_istore (pc := 44) (i := 4) dX12_within_44 rfl (Nat.le_of_ble_eq_true rfl) ?_
      refine r_iinc (pc := 46) (i := 5) (v := _ + 1) dX12_within_46 rfl rfl rfl ?_
      refine r_goto (pc := 49) (tgt := 6) dX12_within_49 (by decide) ?_
      exact h
    · replace h := h.2 c2
      refine r_aload_n (pc := 23) (i := 0) dX12_within_23 rfl rfl ?_
      obtain ⟨k3, h⟩ := h
      refine r_geti (pc := 24) flX12_7 dX12_within_24 (Or.inl rfl) k3 ?_
      refine r_iload (pc := 27) (i := 4) dX12_within_27 rfl ?_
      refine r_imul (pc := 29) dX12_within_29 ?_
      refine r_aload_n (pc := 30) (i := 0) dX12_within_30 rfl rfl ?_
      refine r_iload_n (pc := 31) (i := 1) dX12_within_31 rfl rfl ?_
      refine r_iload_n (pc := 32) (i := 2) dX12_within_32 rfl rfl ?_
      refine r_iload (pc := 33) (i := 5) dX12_within_33 rfl ?_
      refine r_callV (pc := 35) (ci := 12) (as := [_, _, _]) (st := [_]) okX12_digitOf lkX12_420 inX12_digitOf seX12_digitOf ⟨_, rfl, rfl⟩ dX12_within_35 rfl k3 (Nat.le_of_ble_eq_true rfl) (Nat.zero_le _) (Nat.zero_le _) (Call.mono h (fun r4 M5 h => ?_))
      obtain ⟨v6, rfl, h⟩ := h
      refine r_iadd (pc := 38) dX12_within_38 ?_
      refine r_goto (pc := 39) (tgt := 44) dX12_within_39 (by decide) ?_
      refine r_istore (pc := 44) (i := 4) dX12_within_44 rfl (Nat.le_of_ble_eq_true rfl) ?_
      refine r_iinc (pc := 46) (i := 5) (v := _ + 1) dX12_within_46 rfl rfl rfl ?_
      refine r_goto (pc := 49) (tgt := 6) dX12_within_49 (by decide) ?_
      exact h
