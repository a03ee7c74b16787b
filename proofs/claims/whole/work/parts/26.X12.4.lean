/-! EndlessRowsModel: decode rows and verification conditions, by program -/
theorem dX12_isOfOne_0 : decode cX12_isOfOne 0 = .ok (.aload_n 0, 1) := by decide +kernel
theorem dX12_isOfOne_1 : decode cX12_isOfOne 1 = .ok (.iload_n 1, 1) := by decide +kernel
theorem dX12_isOfOne_2 : decode cX12_isOfOne 2 = .ok (.invokevirtual 286, 3) := by decide +kernel
theorem dX12_isOfOne_5 : decode cX12_isOfOne 5 = .ok (.ifCond .eq 20, 3) := by decide +kernel
theorem dX12_isOfOne_8 : decode cX12_isOfOne 8 = .ok (.aload_n 0, 1) := by decide +kernel
theorem dX12_isOfOne_9 : decode cX12_isOfOne 9 = .ok (.getfield 38, 3) := by decide +kernel
theorem dX12_isOfOne_12 : decode cX12_isOfOne 12 = .ok (.iload_n 1, 1) := by decide +kernel
theorem dX12_isOfOne_13 : decode cX12_isOfOne 13 = .ok (.iaload, 1) := by decide +kernel
theorem dX12_isOfOne_14 : decode cX12_isOfOne 14 = .ok (.invokestatic 222, 3) := by decide +kernel
theorem dX12_isOfOne_17 : decode cX12_isOfOne 17 = .ok (.iload_n 2, 1) := by decide +kernel
theorem dX12_isOfOne_18 : decode cX12_isOfOne 18 = .ok (.if_icmp .ne 7, 3) := by decide +kernel
theorem dX12_isOfOne_21 : decode cX12_isOfOne 21 = .ok (.iconst 1, 1) := by decide +kernel
theorem dX12_isOfOne_22 : decode cX12_isOfOne 22 = .ok (.goto 4, 3) := by decide +kernel
theorem dX12_isOfOne_25 : decode cX12_isOfOne 25 = .ok (.iconst 0, 1) := by decide +kernel
theorem dX12_isOfOne_26 : decode cX12_isOfOne 26 = .ok (.ireturn, 1) := by decide +kernel
theorem dX12_next__0 : decode cX12_next_ 0 = .ok (.aload_n 0, 1) := by decide +kernel
theorem dX12_next__1 : decode cX12_next_ 1 = .ok (.iload_n 1, 1) := by decide +kernel
theorem dX12_next__2 : decode cX12_next_ 2 = .ok (.iconst 1, 1) := by decide +kernel
theorem dX12_next__3 : decode cX12_next_ 3 = .ok (.invokevirtual 509, 3) := by decide +kernel
theorem dX12_next__6 : decode cX12_next_ 6 = .ok (.ifCond .eq 16, 3) := by decide +kernel
theorem dX12_next__9 : decode cX12_next_ 9 = .ok (.lload_n 2, 1) := by decide +kernel
theorem dX12_next__10 : decode cX12_next_ 10 = .ok (.ldc2_w 501, 3) := by decide +kernel
theorem dX12_next__13 : decode cX12_next_ 13 = .ok (.ldc2_w 481, 3) := by decide +kernel
theorem dX12_next__16 : decode cX12_next_ 16 = .ok (.invokestatic 483, 3) := by decide +kernel
theorem dX12_next__19 : decode cX12_next_ 19 = .ok (.ifCond .eq 7, 3) := by decide +kernel
theorem dX12_next__22 : decode cX12_next_ 22 = .ok (.ldc2_w 493, 3) := by decide +kernel
theorem dX12_next__25 : decode cX12_next_ 25 = .ok (.lreturn, 1) := by decide +kernel
theorem dX12_next__26 : decode cX12_next_ 26 = .ok (.lload_n 2, 1) := by decide +kernel
theorem dX12_next__27 : decode cX12_next_ 27 = .ok (.ldc2_w 501, 3) := by decide +kernel
theorem dX12_next__30 : decode cX12_next_ 30 = .ok (.lcmp, 1) := by decide +kernel
theorem dX12_next__31 : decode cX12_next_ 31 = .ok (.ifCond .ne 17, 3) := by decide +kernel
theorem dX12_next__34 : decode cX12_next_ 34 = .ok (.aload_n 0, 1) := by decide +kernel
theorem dX12_next__35 : decode cX12_next_ 35 = .ok (.getfield 53, 3) := by decide +kernel
theorem dX12_next__38 : decode cX12_next_ 38 = .ok (.bipush 40, 2) := by decide +kernel
theorem dX12_next__40 : decode cX12_next_ 40 = .ok (.iload_n 1, 1) := by decide +kernel
theorem dX12_next__41 : decode cX12_next_ 41 = .ok (.imul, 1) := by decide +kernel
theorem dX12_next__42 : decode cX12_next_ 42 = .ok (.baload, 1) := by decide +kernel
theorem dX12_next__43 : decode cX12_next_ 43 = .ok (.ifCond .eq 5, 3) := by decide +kernel
theorem dX12_next__46 : decode cX12_next_ 46 = .ok (.lconst 0, 1) := by decide +kernel
theorem dX12_next__47 : decode cX12_next_ 47 = .ok (.lreturn, 1) := by decide +kernel
theorem dX12_next__48 : decode cX12_next_ 48 = .ok (.aload_n 0, 1) := by decide +kernel
theorem dX12_next__49 : decode cX12_next_ 49 = .ok (.iload_n 1, 1) := by decide +kernel
theorem dX12_next__50 : decode cX12_next_ 50 = .ok (.invokevirtual 512, 3) := by decide +kernel
theorem dX12_next__53 : decode cX12_next_ 53 = .ok (.aload_n 0, 1) := by decide +kernel
theorem dX12_next__54 : decode cX12_next_ 54 = .ok (.iconst 0, 1) := by decide +kernel
theorem dX12_next__55 : decode cX12_next_ 55 = .ok (.lload_n 2, 1) := by decide +kernel
theorem dX12_next__56 : decode cX12_next_ 56 = .ok (.lconst 0, 1) := by decide +kernel
theorem dX12_next__57 : decode cX12_next_ 57 = .ok (.lcmp, 1) := by decide +kernel
theorem dX12_next__58 : decode cX12_next_ 58 = .ok (.ifCond .ge 7, 3) := by decide +kernel
theorem dX12_next__61 : decode cX12_next_ 61 = .ok (.lconst 0, 1) := by decide +kernel
theorem dX12_next__62 : decode cX12_next_ 62 = .ok (.goto 4, 3) := by decide +kernel
theorem dX12_next__65 : decode cX12_next_ 65 = .ok (.lload_n 2, 1) := by decide +kernel
theorem dX12_next__66 : decode cX12_next_ 66 = .ok (.bipush 110, 2) := by decide +kernel
theorem dX12_next__68 : decode cX12_next_ 68 = .ok (.invokevirtual 487, 3) := by decide +kernel
theorem dX12_next__71 : decode cX12_next_ 71 = .ok (.aload_n 0, 1) := by decide +kernel
theorem dX12_next__72 : decode cX12_next_ 72 = .ok (.getfield 200, 3) := by decide +kernel
theorem dX12_next__75 : decode cX12_next_ 75 = .ok (.iconst 0, 1) := by decide +kernel
theorem dX12_next__76 : decode cX12_next_ 76 = .ok (.iconst 0, 1) := by decide +kernel
theorem dX12_next__77 : decode cX12_next_ 77 = .ok (.iastore, 1) := by decide +kernel
theorem dX12_next__78 : decode cX12_next_ 78 = .ok (.iconst 0, 1) := by decide +kernel
theorem dX12_next__79 : decode cX12_next_ 79 = .ok (.istore 4, 2) := by decide +kernel
theorem dX12_next__81 : decode cX12_next_ 81 = .ok (.iload 4, 2) := by decide +kernel
theorem dX12_next__83 : decode cX12_next_ 83 = .ok (.bipush 110, 2) := by decide +kernel
theorem dX12_next__85 : decode cX12_next_ 85 = .ok (.if_icmp .ge 37, 3) := by decide +kernel
theorem dX12_next__88 : decode cX12_next_ 88 = .ok (.aload_n 0, 1) := by decide +kernel
theorem dX12_next__89 : decode cX12_next_ 89 = .ok (.getfield 200, 3) := by decide +kernel
theorem dX12_next__92 : decode cX12_next_ 92 = .ok (.iload 4, 2) := by decide +kernel
theorem dX12_next__94 : decode cX12_next_ 94 = .ok (.iconst 1, 1) := by decide +kernel
theorem dX12_next__95 : decode cX12_next_ 95 = .ok (.iadd, 1) := by decide +kernel
theorem dX12_next__96 : decode cX12_next_ 96 = .ok (.aload_n 0, 1) := by decide +kernel
theorem dX12_next__97 : decode cX12_next_ 97 = .ok (.iload_n 1, 1) := by decide +kernel
theorem dX12_next__98 : decode cX12_next_ 98 = .ok (.aload_n 0, 1) := by decide +kernel
theorem dX12_next__99 : decode cX12_next_ 99 = .ok (.getfield 200, 3) := by decide +kernel
theorem dX12_next__102 : decode cX12_next_ 102 = .ok (.iload 4, 2) := by decide +kernel
theorem dX12_next__104 : decode cX12_next_ 104 = .ok (.iaload, 1) := by decide +kernel
theorem dX12_next__105 : decode cX12_next_ 105 = .ok (.aload_n 0, 1) := by decide +kernel
theorem dX12_next__106 : decode cX12_next_ 106 = .ok (.getfield 191, 3) := by decide +kernel
theorem dX12_next__109 : decode cX12_next_ 109 = .ok (.iload 4, 2) := by decide +kernel
theorem dX12_next__111 : decode cX12_next_ 111 = .ok (.iaload, 1) := by decide +kernel
theorem dX12_next__112 : decode cX12_next_ 112 = .ok (.invokevirtual 506, 3) := by decide +kernel
theorem dX12_next__115 : decode cX12_next_ 115 = .ok (.iastore, 1) := by decide +kernel
theorem dX12_next__116 : decode cX12_next_ 116 = .ok (.iinc 4 1, 3) := by decide +kernel
theorem dX12_next__119 : decode cX12_next_ 119 = .ok (.goto (-38), 3) := by decide +kernel
theorem dX12_next__122 : decode cX12_next_ 122 = .ok (.bipush 109, 2) := by decide +kernel
theorem dX12_next__124 : decode cX12_next_ 124 = .ok (.istore 4, 2) := by decide +kernel
theorem dX12_next__126 : decode cX12_next_ 126 = .ok (.iload 4, 2) := by decide +kernel
theorem dX12_next__128 : decode cX12_next_ 128 = .ok (.ifCond .lt 82, 3) := by decide +kernel
theorem dX12_next__131 : decode cX12_next_ 131 = .ok (.aload_n 0, 1) := by decide +kernel
theorem dX12_next__132 : decode cX12_next_ 132 = .ok (.getfield 191, 3) := by decide +kernel
theorem dX12_next__135 : decode cX12_next_ 135 = .ok (.iload 4, 2) := by decide +kernel
theorem dX12_next__137 : decode cX12_next_ 137 = .ok (.iaload, 1) := by decide +kernel
theorem dX12_next__138 : decode cX12_next_ 138 = .ok (.iconst 1, 1) := by decide +kernel
theorem dX12_next__139 : decode cX12_next_ 139 = .ok (.iadd, 1) := by decide +kernel
theorem dX12_next__140 : decode cX12_next_ 140 = .ok (.istore 5, 2) := by decide +kernel
theorem dX12_next__142 : decode cX12_next_ 142 = .ok (.iload 5, 2) := by decide +kernel
theorem dX12_next__144 : decode cX12_next_ 144 = .ok (.aload_n 0, 1) := by decide +kernel
theorem dX12_next__145 : decode cX12_next_ 145 = .ok (.getfield 7, 3) := by decide +kernel
theorem dX12_next__148 : decode cX12_next_ 148 = .ok (.if_icmp .ge 56, 3) := by decide +kernel
theorem dX12_next__151 : decode cX12_next_ 151 = .ok (.aload_n 0, 1) := by decide +kernel
theorem dX12_next__152 : decode cX12_next_ 152 = .ok (.iload_n 1, 1) := by decide +kernel
theorem dX12_next__153 : decode cX12_next_ 153 = .ok (.aload_n 0, 1) := by decide +kernel
theorem dX12_next__154 : decode cX12_next_ 154 = .ok (.getfield 200, 3) := by decide +kernel
theorem dX12_next__157 : decode cX12_next_ 157 = .ok (.iload 4, 2) := by decide +kernel
theorem dX12_next__159 : decode cX12_next_ 159 = .ok (.iaload, 1) := by decide +kernel
theorem dX12_next__160 : decode cX12_next_ 160 = .ok (.iload 5, 2) := by decide +kernel
theorem dX12_next__162 : decode cX12_next_ 162 = .ok (.invokevirtual 506, 3) := by decide +kernel
theorem dX12_next__165 : decode cX12_next_ 165 = .ok (.istore 6, 2) := by decide +kernel
theorem dX12_next__167 : decode cX12_next_ 167 = .ok (.aload_n 0, 1) := by decide +kernel
theorem dX12_next__168 : decode cX12_next_ 168 = .ok (.getfield 197, 3) := by decide +kernel
theorem dX12_next__171 : decode cX12_next_ 171 = .ok (.bipush 40, 2) := by decide +kernel
theorem dX12_next__173 : decode cX12_next_ 173 = .ok (.bipush 109, 2) := by decide +kernel
theorem dX12_next__175 : decode cX12_next_ 175 = .ok (.iload 4, 2) := by decide +kernel
theorem dX12_next__177 : decode cX12_next_ 177 = .ok (.isub, 1) := by decide +kernel
theorem dX12_next__178 : decode cX12_next_ 178 = .ok (.imul, 1) := by decide +kernel
theorem dX12_next__179 : decode cX12_next_ 179 = .ok (.iload 6, 2) := by decide +kernel
theorem dX12_next__181 : decode cX12_next_ 181 = .ok (.iadd, 1) := by decide +kernel
theorem dX12_next__182 : decode cX12_next_ 182 = .ok (.baload, 1) := by decide +kernel
theorem dX12_next__183 : decode cX12_next_ 183 = .ok (.ifCond .eq 15, 3) := by decide +kernel
theorem dX12_next__186 : decode cX12_next_ 186 = .ok (.aload_n 0, 1) := by decide +kernel
theorem dX12_next__187 : decode cX12_next_ 187 = .ok (.iload_n 1, 1) := by decide +kernel
theorem dX12_next__188 : decode cX12_next_ 188 = .ok (.iload 4, 2) := by decide +kernel
theorem dX12_next__190 : decode cX12_next_ 190 = .ok (.iload 5, 2) := by decide +kernel
theorem dX12_next__192 : decode cX12_next_ 192 = .ok (.iload 6, 2) := by decide +kernel
theorem dX12_next__194 : decode cX12_next_ 194 = .ok (.invokevirtual 515, 3) := by decide +kernel
theorem dX12_next__197 : decode cX12_next_ 197 = .ok (.lreturn, 1) := by decide +kernel
theorem dX12_next__198 : decode cX12_next_ 198 = .ok (.iinc 5 1, 3) := by decide +kernel
theorem dX12_next__201 : decode cX12_next_ 201 = .ok (.goto (-59), 3) := by decide +kernel
theorem dX12_next__204 : decode cX12_next_ 204 = .ok (.iinc 4 (-1), 3) := by decide +kernel
theorem dX12_next__207 : decode cX12_next_ 207 = .ok (.goto (-81), 3) := by decide +kernel
theorem dX12_next__210 : decode cX12_next_ 210 = .ok (.ldc2_w 501, 3) := by decide +kernel
theorem dX12_next__213 : decode cX12_next_ 213 = .ok (.lreturn, 1) := by decide +kernel
theorem dX12_lowest_0 : decode cX12_lowest 0 = .ok (.lconst 0, 1) := by decide +kernel
theorem dX12_lowest_1 : decode cX12_lowest 1 = .ok (.lstore 5, 2) := by decide +kernel
theorem dX12_lowest_3 : decode cX12_lowest 3 = .ok (.iconst 0, 1) := by decide +kernel
theorem dX12_lowest_4 : decode cX12_lowest 4 = .ok (.istore 7, 2) := by decide +kernel
theorem dX12_lowest_6 : decode cX12_lowest 6 = .ok (.iload 7, 2) := by decide +kernel
theorem dX12_lowest_8 : decode cX12_lowest 8 = .ok (.iload_n 2, 1) := by decide +kernel
theorem dX12_lowest_9 : decode cX12_lowest 9 = .ok (.if_icmp .ge 24, 3) := by decide +kernel
theorem dX12_lowest_12 : decode cX12_lowest 12 = .ok (.aload_n 0, 1) := by decide +kernel
theorem dX12_lowest_13 : decode cX12_lowest 13 = .ok (.lload 5, 2) := by decide +kernel
theorem dX12_lowest_15 : decode cX12_lowest 15 = .ok (.aload_n 0, 1) := by decide +kernel
theorem dX12_lowest_16 : decode cX12_lowest 16 = .ok (.getfield 191, 3) := by decide +kernel
theorem dX12_lowest_19 : decode cX12_lowest 19 = .ok (.iload 7, 2) := by decide +kernel
theorem dX12_lowest_21 : decode cX12_lowest 21 = .ok (.iaload, 1) := by decide +kernel
theorem dX12_lowest_22 : decode cX12_lowest 22 = .ok (.invokevirtual 497, 3) := by decide +kernel
theorem dX12_lowest_25 : decode cX12_lowest 25 = .ok (.lstore 5, 2) := by decide +kernel
theorem dX12_lowest_27 : decode cX12_lowest 27 = .ok (.iinc 7 1, 3) := by decide +kernel
theorem dX12_lowest_30 : decode cX12_lowest 30 = .ok (.goto (-24), 3) := by decide +kernel
theorem dX12_lowest_33 : decode cX12_lowest 33 = .ok (.aload_n 0, 1) := by decide +kernel
theorem dX12_lowest_34 : decode cX12_lowest 34 = .ok (.lload 5, 2) := by decide +kernel
theorem dX12_lowest_36 : decode cX12_lowest 36 = .ok (.iload_n 3, 1) := by decide +kernel
theorem dX12_lowest_37 : decode cX12_lowest 37 = .ok (.invokevirtual 497, 3) := by decide +kernel
theorem dX12_lowest_40 : decode cX12_lowest 40 = .ok (.lstore 5, 2) := by decide +kernel
theorem dX12_lowest_42 : decode cX12_lowest 42 = .ok (.iload 4, 2) := by decide +kernel
theorem dX12_lowest_44 : decode cX12_lowest 44 = .ok (.istore 7, 2) := by decide +kernel
theorem dX12_lowest_46 : decode cX12_lowest 46 = .ok (.iload_n 2, 1) := by decide +kernel
theorem dX12_lowest_47 : decode cX12_lowest 47 = .ok (.iconst 1, 1) := by decide +kernel
theorem dX12_lowest_48 : decode cX12_lowest 48 = .ok (.iadd, 1) := by decide +kernel
theorem dX12_lowest_49 : decode cX12_lowest 49 = .ok (.istore 8, 2) := by decide +kernel
theorem dX12_lowest_51 : decode cX12_lowest 51 = .ok (.iload 8, 2) := by decide +kernel
theorem dX12_lowest_53 : decode cX12_lowest 53 = .ok (.bipush 110, 2) := by decide +kernel
theorem dX12_lowest_55 : decode cX12_lowest 55 = .ok (.if_icmp .ge 65, 3) := by decide +kernel
theorem dX12_lowest_58 : decode cX12_lowest 58 = .ok (.iconst 0, 1) := by decide +kernel
theorem dX12_lowest_59 : decode cX12_lowest 59 = .ok (.istore 9, 2) := by decide +kernel
theorem dX12_lowest_61 : decode cX12_lowest 61 = .ok (.aload_n 0, 1) := by decide +kernel
theorem dX12_lowest_62 : decode cX12_lowest 62 = .ok (.getfield 197, 3) := by decide +kernel
theorem dX12_lowest_65 : decode cX12_lowest 65 = .ok (.bipush 40, 2) := by decide +kernel
theorem dX12_lowest_67 : decode cX12_lowest 67 = .ok (.bipush 109, 2) := by decide +kernel
theorem dX12_lowest_69 : decode cX12_lowest 69 = .ok (.iload 8, 2) := by decide +kernel
theorem dX12_lowest_71 : decode cX12_lowest 71 = .ok (.isub, 1) := by decide +kernel
theorem dX12_lowest_72 : decode cX12_lowest 72 = .ok (.imul, 1) := by decide +kernel
theorem dX12_lowest_73 : decode cX12_lowest 73 = .ok (.aload_n 0, 1) := by decide +kernel
theorem dX12_lowest_74 : decode cX12_lowest 74 = .ok (.iload_n 1, 1) := by decide +kernel
theorem dX12_lowest_75 : decode cX12_lowest 75 = .ok (.iload 7, 2) := by decide +kernel
theorem dX12_lowest_77 : decode cX12_lowest 77 = .ok (.iload 9, 2) := by decide +kernel
theorem dX12_lowest_79 : decode cX12_lowest 79 = .ok (.invokevirtual 506, 3) := by decide +kernel
theorem dX12_lowest_82 : decode cX12_lowest 82 = .ok (.iadd, 1) := by decide +kernel
theorem dX12_lowest_83 : decode cX12_lowest 83 = .ok (.baload, 1) := by decide +kernel
theorem dX12_lowest_84 : decode cX12_lowest 84 = .ok (.ifCond .ne 9, 3) := by decide +kernel
theorem dX12_lowest_87 : decode cX12_lowest 87 = .ok (.iinc 9 1, 3) := by decide +kernel
theorem dX12_lowest_90 : decode cX12_lowest 90 = .ok (.goto (-29), 3) := by decide +kernel
theorem dX12_lowest_93 : decode cX12_lowest 93 = .ok (.aload_n 0, 1) := by decide +kernel
theorem dX12_lowest_94 : decode cX12_lowest 94 = .ok (.lload 5, 2) := by decide +kernel
theorem dX12_lowest_96 : decode cX12_lowest 96 = .ok (.iload 9, 2) := by decide +kernel
theorem dX12_lowest_98 : decode cX12_lowest 98 = .ok (.invokevirtual 497, 3) := by decide +kernel
theorem dX12_lowest_101 : decode cX12_lowest 101 = .ok (.lstore 5, 2) := by decide +kernel
theorem dX12_lowest_103 : decode cX12_lowest 103 = .ok (.aload_n 0, 1) := by decide +kernel
theorem dX12_lowest_104 : decode cX12_lowest 104 = .ok (.iload_n 1, 1) := by decide +kernel
theorem dX12_lowest_105 : decode cX12_lowest 105 = .ok (.iload 7, 2) := by decide +kernel
theorem dX12_lowest_107 : decode cX12_lowest 107 = .ok (.iload 9, 2) := by decide +kernel
theorem dX12_lowest_109 : decode cX12_lowest 109 = .ok (.invokevirtual 506, 3) := by decide +kernel
theorem dX12_lowest_112 : decode cX12_lowest 112 = .ok (.istore 7, 2) := by decide +kernel
theorem dX12_lowest_114 : decode cX12_lowest 114 = .ok (.iinc 8 1, 3) := by decide +kernel
theorem dX12_lowest_117 : decode cX12_lowest 117 = .ok (.goto (-66), 3) := by decide +kernel
theorem dX12_lowest_120 : decode cX12_lowest 120 = .ok (.lload 5, 2) := by decide +kernel
theorem dX12_lowest_122 : decode cX12_lowest 122 = .ok (.ldc2_w 481, 3) := by decide +kernel
theorem dX12_lowest_125 : decode cX12_lowest 125 = .ok (.lcmp, 1) := by decide +kernel
theorem dX12_lowest_126 : decode cX12_lowest 126 = .ok (.ifCond .le 9, 3) := by decide +kernel
theorem dX12_lowest_129 : decode cX12_lowest 129 = .ok (.ldc2_w 495, 3) := by decide +kernel
theorem dX12_lowest_132 : decode cX12_lowest 132 = .ok (.goto 5, 3) := by decide +kernel
theorem dX12_lowest_135 : decode cX12_lowest 135 = .ok (.lload 5, 2) := by decide +kernel
theorem dX12_lowest_137 : decode cX12_lowest 137 = .ok (.lreturn, 1) := by decide +kernel
theorem dX12_plus_0 : decode cX12_plus 0 = .ok (.lload_n 0, 1) := by decide +kernel
theorem dX12_plus_1 : decode cX12_plus 1 = .ok (.ldc2_w 481, 3) := by decide +kernel
theorem dX12_plus_4 : decode cX12_plus 4 = .ok (.lload_n 2, 1) := by decide +kernel
theorem dX12_plus_5 : decode cX12_plus 5 = .ok (.lsub, 1) := by decide +kernel
theorem dX12_plus_6 : decode cX12_plus 6 = .ok (.lcmp, 1) := by decide +kernel
theorem dX12_plus_7 : decode cX12_plus 7 = .ok (.ifCond .le 9, 3) := by decide +kernel
theorem dX12_plus_10 : decode cX12_plus 10 = .ok (.ldc2_w 491, 3) := by decide +kernel
theorem dX12_plus_13 : decode cX12_plus 13 = .ok (.goto 6, 3) := by decide +kernel
theorem dX12_plus_16 : decode cX12_plus 16 = .ok (.lload_n 0, 1) := by decide +kernel
theorem dX12_plus_17 : decode cX12_plus 17 = .ok (.lload_n 2, 1) := by decide +kernel
theorem dX12_plus_18 : decode cX12_plus 18 = .ok (.ladd, 1) := by decide +kernel
theorem dX12_plus_19 : decode cX12_plus 19 = .ok (.lreturn, 1) := by decide +kernel
theorem dX12_goes_0 : decode cX12_goes 0 = .ok (.aload_n 0, 1) := by decide +kernel
theorem dX12_goes_1 : decode cX12_goes 1 = .ok (.getfield 47, 3) := by decide +kernel
theorem dX12_goes_4 : decode cX12_goes 4 = .ok (.iload_n 1, 1) := by decide +kernel
theorem dX12_goes_5 : decode cX12_goes 5 = .ok (.iaload, 1) := by decide +kernel
theorem dX12_goes_6 : decode cX12_goes 6 = .ok (.istore 4, 2) := by decide +kernel
theorem dX12_goes_8 : decode cX12_goes 8 = .ok (.aload_n 0, 1) := by decide +kernel
theorem dX12_goes_9 : decode cX12_goes 9 = .ok (.aload_n 0, 1) := by decide +kernel
theorem dX12_goes_10 : decode cX12_goes 10 = .ok (.getfield 38, 3) := by decide +kernel
theorem dX12_goes_13 : decode cX12_goes 13 = .ok (.iload_n 1, 1) := by decide +kernel
theorem dX12_goes_14 : decode cX12_goes 14 = .ok (.iaload, 1) := by decide +kernel
theorem dX12_goes_15 : decode cX12_goes 15 = .ok (.invokevirtual 417, 3) := by decide +kernel
theorem dX12_goes_18 : decode cX12_goes 18 = .ok (.aload_n 0, 1) := by decide +kernel
theorem dX12_goes_19 : decode cX12_goes 19 = .ok (.getfield 7, 3) := by decide +kernel
theorem dX12_goes_22 : decode cX12_goes 22 = .ok (.idiv, 1) := by decide +kernel
theorem dX12_goes_23 : decode cX12_goes 23 = .ok (.istore 5, 2) := by decide +kernel
theorem dX12_goes_25 : decode cX12_goes 25 = .ok (.iconst 0, 1) := by decide +kernel
theorem dX12_goes_26 : decode cX12_goes 26 = .ok (.istore 6, 2) := by decide +kernel
theorem dX12_goes_28 : decode cX12_goes 28 = .ok (.iload 6, 2) := by decide +kernel
theorem dX12_goes_30 : decode cX12_goes 30 = .ok (.iload 4, 2) := by decide +kernel
theorem dX12_goes_32 : decode cX12_goes 32 = .ok (.if_icmp .ge 17, 3) := by decide +kernel
theorem dX12_goes_35 : decode cX12_goes 35 = .ok (.aload_n 0, 1) := by decide +kernel
theorem dX12_goes_36 : decode cX12_goes 36 = .ok (.getfield 206, 3) := by decide +kernel
theorem dX12_goes_39 : decode cX12_goes 39 = .ok (.iload 6, 2) := by decide +kernel
theorem dX12_goes_41 : decode cX12_goes 41 = .ok (.lconst 0, 1) := by decide +kernel
theorem dX12_goes_42 : decode cX12_goes 42 = .ok (.lastore, 1) := by decide +kernel
theorem dX12_goes_43 : decode cX12_goes 43 = .ok (.iinc 6 1, 3) := by decide +kernel
theorem dX12_goes_46 : decode cX12_goes 46 = .ok (.goto (-18), 3) := by decide +kernel
theorem dX12_goes_49 : decode cX12_goes 49 = .ok (.iconst 0, 1) := by decide +kernel
theorem dX12_goes_50 : decode cX12_goes 50 = .ok (.istore 6, 2) := by decide +kernel
theorem dX12_goes_52 : decode cX12_goes 52 = .ok (.iload 6, 2) := by decide +kernel
theorem dX12_goes_54 : decode cX12_goes 54 = .ok (.iload 4, 2) := by decide +kernel
theorem dX12_goes_56 : decode cX12_goes 56 = .ok (.if_icmp .ge 67, 3) := by decide +kernel
theorem dX12_goes_59 : decode cX12_goes 59 = .ok (.iload_n 2, 1) := by decide +kernel
theorem dX12_goes_60 : decode cX12_goes 60 = .ok (.istore 7, 2) := by decide +kernel
theorem dX12_goes_62 : decode cX12_goes 62 = .ok (.iload 7, 2) := by decide +kernel
theorem dX12_goes_64 : decode cX12_goes 64 = .ok (.aload_n 0, 1) := by decide +kernel
theorem dX12_goes_65 : decode cX12_goes 65 = .ok (.getfield 7, 3) := by decide +kernel
theorem dX12_goes_68 : decode cX12_goes 68 = .ok (.if_icmp .ge 49, 3) := by decide +kernel
theorem dX12_goes_71 : decode cX12_goes 71 = .ok (.aload_n 0, 1) := by decide +kernel
theorem dX12_goes_72 : decode cX12_goes 72 = .ok (.iload_n 1, 1) := by decide +kernel
theorem dX12_goes_73 : decode cX12_goes 73 = .ok (.iload 6, 2) := by decide +kernel
theorem dX12_goes_75 : decode cX12_goes 75 = .ok (.iload 7, 2) := by decide +kernel
theorem dX12_goes_77 : decode cX12_goes 77 = .ok (.iload 5, 2) := by decide +kernel
theorem dX12_goes_79 : decode cX12_goes 79 = .ok (.imul, 1) := by decide +kernel
theorem dX12_goes_80 : decode cX12_goes 80 = .ok (.iload_n 3, 1) := by decide +kernel
theorem dX12_goes_81 : decode cX12_goes 81 = .ok (.iadd, 1) := by decide +kernel
theorem dX12_goes_82 : decode cX12_goes 82 = .ok (.invokevirtual 506, 3) := by decide +kernel
theorem dX12_goes_85 : decode cX12_goes 85 = .ok (.istore 8, 2) := by decide +kernel
theorem dX12_goes_87 : decode cX12_goes 87 = .ok (.aload_n 0, 1) := by decide +kernel
theorem dX12_goes_88 : decode cX12_goes 88 = .ok (.getfield 206, 3) := by decide +kernel
theorem dX12_goes_91 : decode cX12_goes 91 = .ok (.iload 8, 2) := by decide +kernel
theorem dX12_goes_93 : decode cX12_goes 93 = .ok (.aload_n 0, 1) := by decide +kernel
theorem dX12_goes_94 : decode cX12_goes 94 = .ok (.getfield 206, 3) := by decide +kernel
theorem dX12_goes_97 : decode cX12_goes 97 = .ok (.iload 8, 2) := by decide +kernel
theorem dX12_goes_99 : decode cX12_goes 99 = .ok (.laload, 1) := by decide +kernel
theorem dX12_goes_100 : decode cX12_goes 100 = .ok (.aload_n 0, 1) := by decide +kernel
theorem dX12_goes_101 : decode cX12_goes 101 = .ok (.getfield 203, 3) := by decide +kernel
theorem dX12_goes_104 : decode cX12_goes 104 = .ok (.iload 6, 2) := by decide +kernel
theorem dX12_goes_106 : decode cX12_goes 106 = .ok (.laload, 1) := by decide +kernel
theorem dX12_goes_107 : decode cX12_goes 107 = .ok (.invokestatic 519, 3) := by decide +kernel
theorem dX12_goes_110 : decode cX12_goes 110 = .ok (.lastore, 1) := by decide +kernel
theorem dX12_goes_111 : decode cX12_goes 111 = .ok (.iinc 7 1, 3) := by decide +kernel
theorem dX12_goes_114 : decode cX12_goes 114 = .ok (.goto (-52), 3) := by decide +kernel
theorem dX12_goes_117 : decode cX12_goes 117 = .ok (.iinc 6 1, 3) := by decide +kernel
theorem dX12_goes_120 : decode cX12_goes 120 = .ok (.goto (-68), 3) := by decide +kernel
theorem dX12_goes_123 : decode cX12_goes 123 = .ok (.iconst 0, 1) := by decide +kernel
theorem dX12_goes_124 : decode cX12_goes 124 = .ok (.istore 6, 2) := by decide +kernel
theorem dX12_goes_126 : decode cX12_goes 126 = .ok (.iload 6, 2) := by decide +kernel
theorem dX12_goes_128 : decode cX12_goes 128 = .ok (.iload 4, 2) := by decide +kernel
theorem dX12_goes_130 : decode cX12_goes 130 = .ok (.if_icmp .ge 23, 3) := by decide +kernel
theorem dX12_goes_133 : decode cX12_goes 133 = .ok (.aload_n 0, 1) := by decide +kernel
theorem dX12_goes_134 : decode cX12_goes 134 = .ok (.getfield 203, 3) := by decide +kernel
theorem dX12_goes_137 : decode cX12_goes 137 = .ok (.iload 6, 2) := by decide +kernel
theorem dX12_goes_139 : decode cX12_goes 139 = .ok (.aload_n 0, 1) := by decide +kernel
theorem dX12_goes_140 : decode cX12_goes 140 = .ok (.getfield 206, 3) := by decide +kernel
theorem dX12_goes_143 : decode cX12_goes 143 = .ok (.iload 6, 2) := by decide +kernel
theorem dX12_goes_145 : decode cX12_goes 145 = .ok (.laload, 1) := by decide +kernel
theorem dX12_goes_146 : decode cX12_goes 146 = .ok (.lastore, 1) := by decide +kernel
theorem dX12_goes_147 : decode cX12_goes 147 = .ok (.iinc 6 1, 3) := by decide +kernel
theorem dX12_goes_150 : decode cX12_goes 150 = .ok (.goto (-24), 3) := by decide +kernel
theorem dX12_goes_153 : decode cX12_goes 153 = .ok (.return_, 1) := by decide +kernel
theorem dX12_howMany_0 : decode cX12_howMany 0 = .ok (.aload_n 0, 1) := by decide +kernel
theorem dX12_howMany_1 : decode cX12_howMany 1 = .ok (.getfield 47, 3) := by decide +kernel
theorem dX12_howMany_4 : decode cX12_howMany 4 = .ok (.iload_n 1, 1) := by decide +kernel
theorem dX12_howMany_5 : decode cX12_howMany 5 = .ok (.iaload, 1) := by decide +kernel
theorem dX12_howMany_6 : decode cX12_howMany 6 = .ok (.istore 5, 2) := by decide +kernel
theorem dX12_howMany_8 : decode cX12_howMany 8 = .ok (.aload_n 0, 1) := by decide +kernel
theorem dX12_howMany_9 : decode cX12_howMany 9 = .ok (.iconst 1, 1) := by decide +kernel
theorem dX12_howMany_10 : decode cX12_howMany 10 = .ok (.lload_n 2, 1) := by decide +kernel
theorem dX12_howMany_11 : decode cX12_howMany 11 = .ok (.iload 4, 2) := by decide +kernel
theorem dX12_howMany_13 : decode cX12_howMany 13 = .ok (.invokevirtual 487, 3) := by decide +kernel
theorem dX12_howMany_16 : decode cX12_howMany 16 = .ok (.aload_n 0, 1) := by decide +kernel
theorem dX12_howMany_17 : decode cX12_howMany 17 = .ok (.iload_n 1, 1) := by decide +kernel
theorem dX12_howMany_18 : decode cX12_howMany 18 = .ok (.iload 4, 2) := by decide +kernel
theorem dX12_howMany_20 : decode cX12_howMany 20 = .ok (.invokevirtual 523, 3) := by decide +kernel
theorem dX12_howMany_23 : decode cX12_howMany 23 = .ok (.aload_n 0, 1) := by decide +kernel
theorem dX12_howMany_24 : decode cX12_howMany 24 = .ok (.iload_n 1, 1) := by decide +kernel
theorem dX12_howMany_25 : decode cX12_howMany 25 = .ok (.iload 4, 2) := by decide +kernel
theorem dX12_howMany_27 : decode cX12_howMany 27 = .ok (.invokevirtual 527, 3) := by decide +kernel
theorem dX12_howMany_30 : decode cX12_howMany 30 = .ok (.lstore 6, 2) := by decide +kernel
theorem dX12_howMany_32 : decode cX12_howMany 32 = .ok (.iconst 1, 1) := by decide +kernel
theorem dX12_howMany_33 : decode cX12_howMany 33 = .ok (.istore 8, 2) := by decide +kernel
theorem dX12_howMany_35 : decode cX12_howMany 35 = .ok (.iload 8, 2) := by decide +kernel
theorem dX12_howMany_37 : decode cX12_howMany 37 = .ok (.iconst 2, 1) := by decide +kernel
theorem dX12_howMany_38 : decode cX12_howMany 38 = .ok (.iload 5, 2) := by decide +kernel
theorem dX12_howMany_40 : decode cX12_howMany 40 = .ok (.imul, 1) := by decide +kernel
theorem dX12_howMany_41 : decode cX12_howMany 41 = .ok (.iconst 1, 1) := by decide +kernel
theorem dX12_howMany_42 : decode cX12_howMany 42 = .ok (.iadd, 1) := by decide +kernel
theorem dX12_howMany_43 : decode cX12_howMany 43 = .ok (.if_icmp .gt 167, 3) := by decide +kernel
theorem dX12_howMany_46 : decode cX12_howMany 46 = .ok (.iconst 0, 1) := by decide +kernel
theorem dX12_howMany_47 : decode cX12_howMany 47 = .ok (.istore 9, 2) := by decide +kernel
theorem dX12_howMany_49 : decode cX12_howMany 49 = .ok (.iload 9, 2) := by decide +kernel
theorem dX12_howMany_51 : decode cX12_howMany 51 = .ok (.iload 5, 2) := by decide +kernel
theorem dX12_howMany_53 : decode cX12_howMany 53 = .ok (.if_icmp .ge 26, 3) := by decide +kernel
theorem dX12_howMany_56 : decode cX12_howMany 56 = .ok (.aload_n 0, 1) := by decide +kernel
theorem dX12_howMany_57 : decode cX12_howMany 57 = .ok (.getfield 203, 3) := by decide +kernel
theorem dX12_howMany_60 : decode cX12_howMany 60 = .ok (.iload 9, 2) := by decide +kernel
theorem dX12_howMany_62 : decode cX12_howMany 62 = .ok (.iload 9, 2) := by decide +kernel
theorem dX12_howMany_64 : decode cX12_howMany 64 = .ok (.ifCond .ne 7, 3) := by decide +kernel
theorem dX12_howMany_67 : decode cX12_howMany 67 = .ok (.lconst 1, 1) := by decide +kernel
theorem dX12_howMany_68 : decode cX12_howMany 68 = .ok (.goto 4, 3) := by decide +kernel
theorem dX12_howMany_71 : decode cX12_howMany 71 = .ok (.lconst 0, 1) := by decide +kernel
theorem dX12_howMany_72 : decode cX12_howMany 72 = .ok (.lastore, 1) := by decide +kernel
theorem dX12_howMany_73 : decode cX12_howMany 73 = .ok (.iinc 9 1, 3) := by decide +kernel
theorem dX12_howMany_76 : decode cX12_howMany 76 = .ok (.goto (-27), 3) := by decide +kernel
theorem dX12_howMany_79 : decode cX12_howMany 79 = .ok (.iconst 0, 1) := by decide +kernel
theorem dX12_howMany_80 : decode cX12_howMany 80 = .ok (.istore 9, 2) := by decide +kernel
theorem dX12_howMany_82 : decode cX12_howMany 82 = .ok (.iload 9, 2) := by decide +kernel
theorem dX12_howMany_84 : decode cX12_howMany 84 = .ok (.iload 8, 2) := by decide +kernel
theorem dX12_howMany_86 : decode cX12_howMany 86 = .ok (.if_icmp .ge 25, 3) := by decide +kernel
theorem dX12_howMany_89 : decode cX12_howMany 89 = .ok (.aload_n 0, 1) := by decide +kernel
theorem dX12_howMany_90 : decode cX12_howMany 90 = .ok (.iload_n 1, 1) := by decide +kernel
theorem dX12_howMany_91 : decode cX12_howMany 91 = .ok (.iload 9, 2) := by decide +kernel
theorem dX12_howMany_93 : decode cX12_howMany 93 = .ok (.ifCond .ne 7, 3) := by decide +kernel
theorem dX12_howMany_96 : decode cX12_howMany 96 = .ok (.iconst 1, 1) := by decide +kernel
theorem dX12_howMany_97 : decode cX12_howMany 97 = .ok (.goto 4, 3) := by decide +kernel
theorem dX12_howMany_100 : decode cX12_howMany 100 = .ok (.iconst 0, 1) := by decide +kernel
theorem dX12_howMany_101 : decode cX12_howMany 101 = .ok (.iconst 0, 1) := by decide +kernel
theorem dX12_howMany_102 : decode cX12_howMany 102 = .ok (.invokevirtual 531, 3) := by decide +kernel
theorem dX12_howMany_105 : decode cX12_howMany 105 = .ok (.iinc 9 1, 3) := by decide +kernel
theorem dX12_howMany_108 : decode cX12_howMany 108 = .ok (.goto (-26), 3) := by decide +kernel
theorem dX12_howMany_111 : decode cX12_howMany 111 = .ok (.iconst 0, 1) := by decide +kernel
theorem dX12_howMany_112 : decode cX12_howMany 112 = .ok (.istore 9, 2) := by decide +kernel
theorem dX12_howMany_114 : decode cX12_howMany 114 = .ok (.iconst 0, 1) := by decide +kernel
theorem dX12_howMany_115 : decode cX12_howMany 115 = .ok (.istore 10, 2) := by decide +kernel
theorem dX12_howMany_117 : decode cX12_howMany 117 = .ok (.iload 10, 2) := by decide +kernel
theorem dX12_howMany_119 : decode cX12_howMany 119 = .ok (.iload 5, 2) := by decide +kernel
theorem dX12_howMany_121 : decode cX12_howMany 121 = .ok (.if_icmp .ge 43, 3) := by decide +kernel
theorem dX12_howMany_124 : decode cX12_howMany 124 = .ok (.iload 9, 2) := by decide +kernel
theorem dX12_howMany_126 : decode cX12_howMany 126 = .ok (.ifCond .ne 25, 3) := by decide +kernel
theorem dX12_howMany_129 : decode cX12_howMany 129 = .ok (.aload_n 0, 1) := by decide +kernel
theorem dX12_howMany_130 : decode cX12_howMany 130 = .ok (.getfield 203, 3) := by decide +kernel
theorem dX12_howMany_133 : decode cX12_howMany 133 = .ok (.iload 10, 2) := by decide +kernel
theorem dX12_howMany_135 : decode cX12_howMany 135 = .ok (.laload, 1) := by decide +kernel
theorem dX12_howMany_136 : decode cX12_howMany 136 = .ok (.lconst 0, 1) := by decide +kernel
theorem dX12_howMany_137 : decode cX12_howMany 137 = .ok (.lcmp, 1) := by decide +kernel
theorem dX12_howMany_138 : decode cX12_howMany 138 = .ok (.ifCond .le 17, 3) := by decide +kernel
theorem dX12_howMany_141 : decode cX12_howMany 141 = .ok (.aload_n 0, 1) := by decide +kernel
theorem dX12_howMany_142 : decode cX12_howMany 142 = .ok (.getfield 209, 3) := by decide +kernel
theorem dX12_howMany_145 : decode cX12_howMany 145 = .ok (.iload 10, 2) := by decide +kernel
theorem dX12_howMany_147 : decode cX12_howMany 147 = .ok (.baload, 1) := by decide +kernel
theorem dX12_howMany_148 : decode cX12_howMany 148 = .ok (.ifCond .eq 7, 3) := by decide +kernel
theorem dX12_howMany_151 : decode cX12_howMany 151 = .ok (.iconst 1, 1) := by decide +kernel
theorem dX12_howMany_152 : decode cX12_howMany 152 = .ok (.goto 4, 3) := by decide +kernel
theorem dX12_howMany_155 : decode cX12_howMany 155 = .ok (.iconst 0, 1) := by decide +kernel
theorem dX12_howMany_156 : decode cX12_howMany 156 = .ok (.istore 9, 2) := by decide +kernel
theorem dX12_howMany_158 : decode cX12_howMany 158 = .ok (.iinc 10 1, 3) := by decide +kernel
theorem dX12_howMany_161 : decode cX12_howMany 161 = .ok (.goto (-44), 3) := by decide +kernel
theorem dX12_howMany_164 : decode cX12_howMany 164 = .ok (.iload 9, 2) := by decide +kernel
theorem dX12_howMany_166 : decode cX12_howMany 166 = .ok (.ifCond .eq 14, 3) := by decide +kernel
theorem dX12_howMany_169 : decode cX12_howMany 169 = .ok (.iload 8, 2) := by decide +kernel
theorem dX12_howMany_171 : decode cX12_howMany 171 = .ok (.iload 5, 2) := by decide +kernel
theorem dX12_howMany_173 : decode cX12_howMany 173 = .ok (.if_icmp .le 7, 3) := by decide +kernel
theorem dX12_howMany_176 : decode cX12_howMany 176 = .ok (.ldc2_w 501, 3) := by decide +kernel
theorem dX12_howMany_179 : decode cX12_howMany 179 = .ok (.lreturn, 1) := by decide +kernel
theorem dX12_howMany_180 : decode cX12_howMany 180 = .ok (.iload 9, 2) := by decide +kernel
theorem dX12_howMany_182 : decode cX12_howMany 182 = .ok (.ifCond .eq 18, 3) := by decide +kernel
theorem dX12_howMany_185 : decode cX12_howMany 185 = .ok (.lload 6, 2) := by decide +kernel
theorem dX12_howMany_187 : decode cX12_howMany 187 = .ok (.aload_n 0, 1) := by decide +kernel
theorem dX12_howMany_188 : decode cX12_howMany 188 = .ok (.iload_n 1, 1) := by decide +kernel
theorem dX12_howMany_189 : decode cX12_howMany 189 = .ok (.iload 4, 2) := by decide +kernel
theorem dX12_howMany_191 : decode cX12_howMany 191 = .ok (.invokevirtual 535, 3) := by decide +kernel
theorem dX12_howMany_194 : decode cX12_howMany 194 = .ok (.invokestatic 519, 3) := by decide +kernel
theorem dX12_howMany_197 : decode cX12_howMany 197 = .ok (.goto 5, 3) := by decide +kernel
theorem dX12_howMany_200 : decode cX12_howMany 200 = .ok (.lload 6, 2) := by decide +kernel
theorem dX12_howMany_202 : decode cX12_howMany 202 = .ok (.lstore 6, 2) := by decide +kernel
theorem dX12_howMany_204 : decode cX12_howMany 204 = .ok (.iinc 8 1, 3) := by decide +kernel
theorem dX12_howMany_207 : decode cX12_howMany 207 = .ok (.goto (-172), 3) := by decide +kernel
theorem dX12_howMany_210 : decode cX12_howMany 210 = .ok (.lload 6, 2) := by decide +kernel
theorem dX12_howMany_212 : decode cX12_howMany 212 = .ok (.ldc2_w 481, 3) := by decide +kernel
theorem dX12_howMany_215 : decode cX12_howMany 215 = .ok (.lcmp, 1) := by decide +kernel
theorem dX12_howMany_216 : decode cX12_howMany 216 = .ok (.ifCond .le 9, 3) := by decide +kernel
theorem dX12_howMany_219 : decode cX12_howMany 219 = .ok (.ldc2_w 495, 3) := by decide +kernel
theorem dX12_howMany_222 : decode cX12_howMany 222 = .ok (.goto 5, 3) := by decide +kernel
theorem dX12_howMany_225 : decode cX12_howMany 225 = .ok (.lload 6, 2) := by decide +kernel
theorem dX12_howMany_227 : decode cX12_howMany 227 = .ok (.lreturn, 1) := by decide +kernel
theorem dX12_behind_0 : decode cX12_behind 0 = .ok (.iconst 0, 1) := by decide +kernel
theorem dX12_behind_1 : decode cX12_behind 1 = .ok (.istore_n 3, 1) := by decide +kernel
theorem dX12_behind_2 : decode cX12_behind 2 = .ok (.iload_n 3, 1) := by decide +kernel
theorem dX12_behind_3 : decode cX12_behind 3 = .ok (.iload_n 2, 1) := by decide +kernel
theorem dX12_behind_4 : decode cX12_behind 4 = .ok (.if_icmp .ge 41, 3) := by decide +kernel
theorem dX12_behind_7 : decode cX12_behind 7 = .ok (.aload_n 0, 1) := by decide +kernel
theorem dX12_behind_8 : decode cX12_behind 8 = .ok (.iload_n 1, 1) := by decide +kernel
theorem dX12_behind_9 : decode cX12_behind 9 = .ok (.iconst 0, 1) := by decide +kernel
theorem dX12_behind_10 : decode cX12_behind 10 = .ok (.aload_n 0, 1) := by decide +kernel
theorem dX12_behind_11 : decode cX12_behind 11 = .ok (.getfield 38, 3) := by decide +kernel
theorem dX12_behind_14 : decode cX12_behind 14 = .ok (.iload_n 1, 1) := by decide +kernel
theorem dX12_behind_15 : decode cX12_behind 15 = .ok (.iaload, 1) := by decide +kernel
theorem dX12_behind_16 : decode cX12_behind 16 = .ok (.invokestatic 222, 3) := by decide +kernel
theorem dX12_behind_19 : decode cX12_behind 19 = .ok (.iconst 2, 1) := by decide +kernel
theorem dX12_behind_20 : decode cX12_behind 20 = .ok (.if_icmp .ne 15, 3) := by decide +kernel
theorem dX12_behind_23 : decode cX12_behind 23 = .ok (.aload_n 0, 1) := by decide +kernel
theorem dX12_behind_24 : decode cX12_behind 24 = .ok (.getfield 191, 3) := by decide +kernel
theorem dX12_behind_27 : decode cX12_behind 27 = .ok (.bipush 110, 2) := by decide +kernel
theorem dX12_behind_29 : decode cX12_behind 29 = .ok (.iload_n 3, 1) := by decide +kernel
theorem dX12_behind_30 : decode cX12_behind 30 = .ok (.iadd, 1) := by decide +kernel
theorem dX12_behind_31 : decode cX12_behind 31 = .ok (.iaload, 1) := by decide +kernel
theorem dX12_behind_32 : decode cX12_behind 32 = .ok (.goto 4, 3) := by decide +kernel
theorem dX12_behind_35 : decode cX12_behind 35 = .ok (.iconst 0, 1) := by decide +kernel
theorem dX12_behind_36 : decode cX12_behind 36 = .ok (.invokevirtual 531, 3) := by decide +kernel
theorem dX12_behind_39 : decode cX12_behind 39 = .ok (.iinc 3 1, 3) := by decide +kernel
theorem dX12_behind_42 : decode cX12_behind 42 = .ok (.goto (-40), 3) := by decide +kernel
theorem dX12_behind_45 : decode cX12_behind 45 = .ok (.lconst 0, 1) := by decide +kernel
theorem dX12_behind_46 : decode cX12_behind 46 = .ok (.lstore_n 3, 1) := by decide +kernel
theorem dX12_behind_47 : decode cX12_behind 47 = .ok (.iconst 0, 1) := by decide +kernel
theorem dX12_behind_48 : decode cX12_behind 48 = .ok (.istore 5, 2) := by decide +kernel
theorem dX12_behind_50 : decode cX12_behind 50 = .ok (.iload 5, 2) := by decide +kernel
theorem dX12_behind_52 : decode cX12_behind 52 = .ok (.aload_n 0, 1) := by decide +kernel
theorem dX12_behind_53 : decode cX12_behind 53 = .ok (.getfield 47, 3) := by decide +kernel
theorem dX12_behind_56 : decode cX12_behind 56 = .ok (.iload_n 1, 1) := by decide +kernel
theorem dX12_behind_57 : decode cX12_behind 57 = .ok (.iaload, 1) := by decide +kernel
theorem dX12_behind_58 : decode cX12_behind 58 = .ok (.if_icmp .ge 40, 3) := by decide +kernel
theorem dX12_behind_61 : decode cX12_behind 61 = .ok (.aload_n 0, 1) := by decide +kernel
theorem dX12_behind_62 : decode cX12_behind 62 = .ok (.getfield 53, 3) := by decide +kernel
theorem dX12_behind_65 : decode cX12_behind 65 = .ok (.bipush 40, 2) := by decide +kernel
theorem dX12_behind_67 : decode cX12_behind 67 = .ok (.iload_n 1, 1) := by decide +kernel
theorem dX12_behind_68 : decode cX12_behind 68 = .ok (.imul, 1) := by decide +kernel
theorem dX12_behind_69 : decode cX12_behind 69 = .ok (.iload 5, 2) := by decide +kernel
theorem dX12_behind_71 : decode cX12_behind 71 = .ok (.iadd, 1) := by decide +kernel
theorem dX12_behind_72 : decode cX12_behind 72 = .ok (.baload, 1) := by decide +kernel
theorem dX12_behind_73 : decode cX12_behind 73 = .ok (.ifCond .eq 17, 3) := by decide +kernel
theorem dX12_behind_76 : decode cX12_behind 76 = .ok (.lload_n 3, 1) := by decide +kernel
theorem dX12_behind_77 : decode cX12_behind 77 = .ok (.aload_n 0, 1) := by decide +kernel
theorem dX12_behind_78 : decode cX12_behind 78 = .ok (.getfield 203, 3) := by decide +kernel
theorem dX12_behind_81 : decode cX12_behind 81 = .ok (.iload 5, 2) := by decide +kernel
theorem dX12_behind_83 : decode cX12_behind 83 = .ok (.laload, 1) := by decide +kernel
theorem dX12_behind_84 : decode cX12_behind 84 = .ok (.invokestatic 519, 3) := by decide +kernel
theorem dX12_behind_87 : decode cX12_behind 87 = .ok (.goto 4, 3) := by decide +kernel
theorem dX12_behind_90 : decode cX12_behind 90 = .ok (.lload_n 3, 1) := by decide +kernel
theorem dX12_behind_91 : decode cX12_behind 91 = .ok (.lstore_n 3, 1) := by decide +kernel
theorem dX12_behind_92 : decode cX12_behind 92 = .ok (.iinc 5 1, 3) := by decide +kernel
theorem dX12_behind_95 : decode cX12_behind 95 = .ok (.goto (-45), 3) := by decide +kernel
theorem dX12_behind_98 : decode cX12_behind 98 = .ok (.lload_n 3, 1) := by decide +kernel
theorem dX12_behind_99 : decode cX12_behind 99 = .ok (.lreturn, 1) := by decide +kernel
theorem dX12_start_0 : decode cX12_start 0 = .ok (.iconst 0, 1) := by decide +kernel
theorem dX12_start_1 : decode cX12_start 1 = .ok (.istore_n 3, 1) := by decide +kernel
theorem dX12_start_2 : decode cX12_start 2 = .ok (.iload_n 3, 1) := by decide +kernel
theorem dX12_start_3 : decode cX12_start 3 = .ok (.aload_n 0, 1) := by decide +kernel
theorem dX12_start_4 : decode cX12_start 4 = .ok (.getfield 47, 3) := by decide +kernel
theorem dX12_start_7 : decode cX12_start 7 = .ok (.iload_n 1, 1) := by decide +kernel
theorem dX12_start_8 : decode cX12_start 8 = .ok (.iaload, 1) := by decide +kernel
theorem dX12_start_9 : decode cX12_start 9 = .ok (.if_icmp .ge 24, 3) := by decide +kernel
theorem dX12_start_12 : decode cX12_start 12 = .ok (.aload_n 0, 1) := by decide +kernel
theorem dX12_start_13 : decode cX12_start 13 = .ok (.getfield 203, 3) := by decide +kernel
theorem dX12_start_16 : decode cX12_start 16 = .ok (.iload_n 3, 1) := by decide +kernel
theorem dX12_start_17 : decode cX12_start 17 = .ok (.iload_n 3, 1) := by decide +kernel
theorem dX12_start_18 : decode cX12_start 18 = .ok (.ifCond .ne 7, 3) := by decide +kernel
theorem dX12_start_21 : decode cX12_start 21 = .ok (.lconst 1, 1) := by decide +kernel
theorem dX12_start_22 : decode cX12_start 22 = .ok (.goto 4, 3) := by decide +kernel
theorem dX12_start_25 : decode cX12_start 25 = .ok (.lconst 0, 1) := by decide +kernel
theorem dX12_start_26 : decode cX12_start 26 = .ok (.lastore, 1) := by decide +kernel
theorem dX12_start_27 : decode cX12_start 27 = .ok (.iinc 3 1, 3) := by decide +kernel
theorem dX12_start_30 : decode cX12_start 30 = .ok (.goto (-28), 3) := by decide +kernel
theorem dX12_start_33 : decode cX12_start 33 = .ok (.aload_n 0, 1) := by decide +kernel
theorem dX12_start_34 : decode cX12_start 34 = .ok (.iload_n 1, 1) := by decide +kernel
theorem dX12_start_35 : decode cX12_start 35 = .ok (.iload_n 2, 1) := by decide +kernel
theorem dX12_start_36 : decode cX12_start 36 = .ok (.invokevirtual 535, 3) := by decide +kernel
theorem dX12_start_39 : decode cX12_start 39 = .ok (.lreturn, 1) := by decide +kernel
theorem dX12_good_0 : decode cX12_good 0 = .ok (.iconst 0, 1) := by decide +kernel
theorem dX12_good_1 : decode cX12_good 1 = .ok (.istore_n 3, 1) := by decide +kernel
theorem dX12_good_2 : decode cX12_good 2 = .ok (.iload_n 3, 1) := by decide +kernel
theorem dX12_good_3 : decode cX12_good 3 = .ok (.aload_n 0, 1) := by decide +kernel
theorem dX12_good_4 : decode cX12_good 4 = .ok (.getfield 47, 3) := by decide +kernel
theorem dX12_good_7 : decode cX12_good 7 = .ok (.iload_n 1, 1) := by decide +kernel
theorem dX12_good_8 : decode cX12_good 8 = .ok (.iaload, 1) := by decide +kernel
theorem dX12_good_9 : decode cX12_good 9 = .ok (.if_icmp .ge 69, 3) := by decide +kernel
theorem dX12_good_12 : decode cX12_good 12 = .ok (.iconst 0, 1) := by decide +kernel
theorem dX12_good_13 : decode cX12_good 13 = .ok (.istore 4, 2) := by decide +kernel
theorem dX12_good_15 : decode cX12_good 15 = .ok (.iload 4, 2) := by decide +kernel
theorem dX12_good_17 : decode cX12_good 17 = .ok (.aload_n 0, 1) := by decide +kernel
theorem dX12_good_18 : decode cX12_good 18 = .ok (.getfield 47, 3) := by decide +kernel
theorem dX12_good_21 : decode cX12_good 21 = .ok (.iload_n 1, 1) := by decide +kernel
theorem dX12_good_22 : decode cX12_good 22 = .ok (.iaload, 1) := by decide +kernel
theorem dX12_good_23 : decode cX12_good 23 = .ok (.if_icmp .ge 27, 3) := by decide +kernel
theorem dX12_good_26 : decode cX12_good 26 = .ok (.aload_n 0, 1) := by decide +kernel
theorem dX12_good_27 : decode cX12_good 27 = .ok (.getfield 203, 3) := by decide +kernel
theorem dX12_good_30 : decode cX12_good 30 = .ok (.iload 4, 2) := by decide +kernel
theorem dX12_good_32 : decode cX12_good 32 = .ok (.iload 4, 2) := by decide +kernel
theorem dX12_good_34 : decode cX12_good 34 = .ok (.iload_n 3, 1) := by decide +kernel
theorem dX12_good_35 : decode cX12_good 35 = .ok (.if_icmp .ne 7, 3) := by decide +kernel
theorem dX12_good_38 : decode cX12_good 38 = .ok (.lconst 1, 1) := by decide +kernel
theorem dX12_good_39 : decode cX12_good 39 = .ok (.goto 4, 3) := by decide +kernel
theorem dX12_good_42 : decode cX12_good 42 = .ok (.lconst 0, 1) := by decide +kernel
theorem dX12_good_43 : decode cX12_good 43 = .ok (.lastore, 1) := by decide +kernel
theorem dX12_good_44 : decode cX12_good 44 = .ok (.iinc 4 1, 3) := by decide +kernel
theorem dX12_good_47 : decode cX12_good 47 = .ok (.goto (-32), 3) := by decide +kernel
theorem dX12_good_50 : decode cX12_good 50 = .ok (.aload_n 0, 1) := by decide +kernel
theorem dX12_good_51 : decode cX12_good 51 = .ok (.getfield 209, 3) := by decide +kernel
theorem dX12_good_54 : decode cX12_good 54 = .ok (.iload_n 3, 1) := by decide +kernel
theorem dX12_good_55 : decode cX12_good 55 = .ok (.aload_n 0, 1) := by decide +kernel
theorem dX12_good_56 : decode cX12_good 56 = .ok (.iload_n 1, 1) := by decide +kernel
theorem dX12_good_57 : decode cX12_good 57 = .ok (.iload_n 2, 1) := by decide +kernel
theorem dX12_good_58 : decode cX12_good 58 = .ok (.invokevirtual 535, 3) := by decide +kernel
theorem dX12_good_61 : decode cX12_good 61 = .ok (.lconst 0, 1) := by decide +kernel
theorem dX12_good_62 : decode cX12_good 62 = .ok (.lcmp, 1) := by decide +kernel
theorem dX12_good_63 : decode cX12_good 63 = .ok (.ifCond .le 7, 3) := by decide +kernel
theorem dX12_good_66 : decode cX12_good 66 = .ok (.iconst 1, 1) := by decide +kernel
theorem dX12_good_67 : decode cX12_good 67 = .ok (.goto 4, 3) := by decide +kernel
theorem dX12_good_70 : decode cX12_good 70 = .ok (.iconst 0, 1) := by decide +kernel
theorem dX12_good_71 : decode cX12_good 71 = .ok (.bastore, 1) := by decide +kernel
theorem dX12_good_72 : decode cX12_good 72 = .ok (.iinc 3 1, 3) := by decide +kernel
theorem dX12_good_75 : decode cX12_good 75 = .ok (.goto (-73), 3) := by decide +kernel
theorem dX12_good_78 : decode cX12_good 78 = .ok (.return_, 1) := by decide +kernel
theorem dX12_many_0 : decode cX12_many 0 = .ok (.aload_n 0, 1) := by decide +kernel
theorem dX12_many_1 : decode cX12_many 1 = .ok (.iload_n 1, 1) := by decide +kernel
theorem dX12_many_2 : decode cX12_many 2 = .ok (.iconst 1, 1) := by decide +kernel
theorem dX12_many_3 : decode cX12_many 3 = .ok (.invokevirtual 509, 3) := by decide +kernel
theorem dX12_many_6 : decode cX12_many 6 = .ok (.ifCond .eq 13, 3) := by decide +kernel
theorem dX12_many_9 : decode cX12_many 9 = .ok (.aload_n 0, 1) := by decide +kernel
theorem dX12_many_10 : decode cX12_many 10 = .ok (.iload_n 1, 1) := by decide +kernel
theorem dX12_many_11 : decode cX12_many 11 = .ok (.lconst 0, 1) := by decide +kernel
theorem dX12_many_12 : decode cX12_many 12 = .ok (.iconst 0, 1) := by decide +kernel
theorem dX12_many_13 : decode cX12_many 13 = .ok (.invokevirtual 538, 3) := by decide +kernel
theorem dX12_many_16 : decode cX12_many 16 = .ok (.goto 6, 3) := by decide +kernel
theorem dX12_many_19 : decode cX12_many 19 = .ok (.ldc2_w 493, 3) := by decide +kernel
theorem dX12_many_22 : decode cX12_many 22 = .ok (.lreturn, 1) := by decide +kernel
theorem dX12_values_0 : decode cX12_values 0 = .ok (.aload_n 0, 1) := by decide +kernel
theorem dX12_values_1 : decode cX12_values 1 = .ok (.iload_n 1, 1) := by decide +kernel
theorem dX12_values_2 : decode cX12_values 2 = .ok (.iconst 2, 1) := by decide +kernel
theorem dX12_values_3 : decode cX12_values 3 = .ok (.invokevirtual 509, 3) := by decide +kernel
theorem dX12_values_6 : decode cX12_values 6 = .ok (.ifCond .eq 14, 3) := by decide +kernel
theorem dX12_values_9 : decode cX12_values 9 = .ok (.lload_n 2, 1) := by decide +kernel
theorem dX12_values_10 : decode cX12_values 10 = .ok (.lconst 0, 1) := by decide +kernel
theorem dX12_values_11 : decode cX12_values 11 = .ok (.ldc2_w 542, 3) := by decide +kernel
theorem dX12_values_14 : decode cX12_values 14 = .ok (.invokestatic 483, 3) := by decide +kernel
theorem dX12_values_17 : decode cX12_values 17 = .ok (.ifCond .eq 9, 3) := by decide +kernel
theorem dX12_values_20 : decode cX12_values 20 = .ok (.ldc2_w 493, 3) := by decide +kernel
theorem dX12_values_23 : decode cX12_values 23 = .ok (.goto 11, 3) := by decide +kernel
theorem dX12_values_26 : decode cX12_values 26 = .ok (.aload_n 0, 1) := by decide +kernel
theorem dX12_values_27 : decode cX12_values 27 = .ok (.iload_n 1, 1) := by decide +kernel
theorem dX12_values_28 : decode cX12_values 28 = .ok (.lload_n 2, 1) := by decide +kernel
theorem dX12_values_29 : decode cX12_values 29 = .ok (.bipush 31, 2) := by decide +kernel
theorem dX12_values_31 : decode cX12_values 31 = .ok (.invokevirtual 538, 3) := by decide +kernel
theorem dX12_values_34 : decode cX12_values 34 = .ok (.lreturn, 1) := by decide +kernel
theorem dX12_alike_0 : decode cX12_alike 0 = .ok (.aload_n 0, 1) := by decide +kernel
theorem dX12_alike_1 : decode cX12_alike 1 = .ok (.iload_n 1, 1) := by decide +kernel
theorem dX12_alike_2 : decode cX12_alike 2 = .ok (.invokevirtual 286, 3) := by decide +kernel
theorem dX12_alike_5 : decode cX12_alike 5 = .ok (.ifCond .eq 11, 3) := by decide +kernel
theorem dX12_alike_8 : decode cX12_alike 8 = .ok (.aload_n 0, 1) := by decide +kernel
theorem dX12_alike_9 : decode cX12_alike 9 = .ok (.iload_n 2, 1) := by decide +kernel
theorem dX12_alike_10 : decode cX12_alike 10 = .ok (.invokevirtual 286, 3) := by decide +kernel
theorem dX12_alike_13 : decode cX12_alike 13 = .ok (.ifCond .ne 5, 3) := by decide +kernel
theorem dX12_alike_16 : decode cX12_alike 16 = .ok (.iconst (-1), 1) := by decide +kernel
theorem dX12_alike_17 : decode cX12_alike 17 = .ok (.ireturn, 1) := by decide +kernel
theorem dX12_alike_18 : decode cX12_alike 18 = .ok (.aload_n 0, 1) := by decide +kernel
theorem dX12_alike_19 : decode cX12_alike 19 = .ok (.getfield 38, 3) := by decide +kernel
theorem dX12_alike_22 : decode cX12_alike 22 = .ok (.iload_n 1, 1) := by decide +kernel
theorem dX12_alike_23 : decode cX12_alike 23 = .ok (.iaload, 1) := by decide +kernel
theorem dX12_alike_24 : decode cX12_alike 24 = .ok (.invokestatic 222, 3) := by decide +kernel
theorem dX12_alike_27 : decode cX12_alike 27 = .ok (.aload_n 0, 1) := by decide +kernel
theorem dX12_alike_28 : decode cX12_alike 28 = .ok (.getfield 38, 3) := by decide +kernel
theorem dX12_alike_31 : decode cX12_alike 31 = .ok (.iload_n 2, 1) := by decide +kernel
theorem dX12_alike_32 : decode cX12_alike 32 = .ok (.iaload, 1) := by decide +kernel
theorem dX12_alike_33 : decode cX12_alike 33 = .ok (.invokestatic 222, 3) := by decide +kernel
theorem dX12_alike_36 : decode cX12_alike 36 = .ok (.if_icmp .ne 22, 3) := by decide +kernel
theorem dX12_alike_39 : decode cX12_alike 39 = .ok (.aload_n 0, 1) := by decide +kernel
theorem dX12_alike_40 : decode cX12_alike 40 = .ok (.getfield 47, 3) := by decide +kernel
theorem dX12_alike_43 : decode cX12_alike 43 = .ok (.iload_n 1, 1) := by decide +kernel
theorem dX12_alike_44 : decode cX12_alike 44 = .ok (.iaload, 1) := by decide +kernel
theorem dX12_alike_45 : decode cX12_alike 45 = .ok (.aload_n 0, 1) := by decide +kernel
theorem dX12_alike_46 : decode cX12_alike 46 = .ok (.getfield 47, 3) := by decide +kernel
theorem dX12_alike_49 : decode cX12_alike 49 = .ok (.iload_n 2, 1) := by decide +kernel
theorem dX12_alike_50 : decode cX12_alike 50 = .ok (.iaload, 1) := by decide +kernel
theorem dX12_alike_51 : decode cX12_alike 51 = .ok (.if_icmp .ne 7, 3) := by decide +kernel
theorem dX12_alike_54 : decode cX12_alike 54 = .ok (.iconst 1, 1) := by decide +kernel
theorem dX12_alike_55 : decode cX12_alike 55 = .ok (.goto 4, 3) := by decide +kernel
theorem dX12_alike_58 : decode cX12_alike 58 = .ok (.iconst 0, 1) := by decide +kernel
theorem dX12_alike_59 : decode cX12_alike 59 = .ok (.istore_n 3, 1) := by decide +kernel
theorem dX12_alike_60 : decode cX12_alike 60 = .ok (.iconst 0, 1) := by decide +kernel
theorem dX12_alike_61 : decode cX12_alike 61 = .ok (.istore 4, 2) := by decide +kernel
theorem dX12_alike_63 : decode cX12_alike 63 = .ok (.iload_n 3, 1) := by decide +kernel
theorem dX12_alike_64 : decode cX12_alike 64 = .ok (.ifCond .eq 108, 3) := by decide +kernel
theorem dX12_alike_67 : decode cX12_alike 67 = .ok (.iload 4, 2) := by decide +kernel
theorem dX12_alike_69 : decode cX12_alike 69 = .ok (.aload_n 0, 1) := by decide +kernel
theorem dX12_alike_70 : decode cX12_alike 70 = .ok (.getfield 47, 3) := by decide +kernel
theorem dX12_alike_73 : decode cX12_alike 73 = .ok (.iload_n 1, 1) := by decide +kernel
theorem dX12_alike_74 : decode cX12_alike 74 = .ok (.iaload, 1) := by decide +kernel
theorem dX12_alike_75 : decode cX12_alike 75 = .ok (.if_icmp .ge 97, 3) := by decide +kernel
theorem dX12_alike_78 : decode cX12_alike 78 = .ok (.aload_n 0, 1) := by decide +kernel
theorem dX12_alike_79 : decode cX12_alike 79 = .ok (.getfield 53, 3) := by decide +kernel
theorem dX12_alike_82 : decode cX12_alike 82 = .ok (.bipush 40, 2) := by decide +kernel
theorem dX12_alike_84 : decode cX12_alike 84 = .ok (.iload_n 1, 1) := by decide +kernel
theorem dX12_alike_85 : decode cX12_alike 85 = .ok (.imul, 1) := by decide +kernel
theorem dX12_alike_86 : decode cX12_alike 86 = .ok (.iload 4, 2) := by decide +kernel
theorem dX12_alike_88 : decode cX12_alike 88 = .ok (.iadd, 1) := by decide +kernel
theorem dX12_alike_89 : decode cX12_alike 89 = .ok (.baload, 1) := by decide +kernel
theorem dX12_alike_90 : decode cX12_alike 90 = .ok (.aload_n 0, 1) := by decide +kernel
theorem dX12_alike_91 : decode cX12_alike 91 = .ok (.getfield 53, 3) := by decide +kernel
theorem dX12_alike_94 : decode cX12_alike 94 = .ok (.bipush 40, 2) := by decide +kernel
theorem dX12_alike_96 : decode cX12_alike 96 = .ok (.iload_n 2, 1) := by decide +kernel
theorem dX12_alike_97 : decode cX12_alike 97 = .ok (.imul, 1) := by decide +kernel
theorem dX12_alike_98 : decode cX12_alike 98 = .ok (.iload 4, 2) := by decide +kernel
theorem dX12_alike_100 : decode cX12_alike 100 = .ok (.iadd, 1) := by decide +kernel
theorem dX12_alike_101 : decode cX12_alike 101 = .ok (.baload, 1) := by decide +kernel
theorem dX12_alike_102 : decode cX12_alike 102 = .ok (.if_icmp .ne 7, 3) := by decide +kernel
theorem dX12_alike_105 : decode cX12_alike 105 = .ok (.iconst 1, 1) := by decide +kernel
theorem dX12_alike_106 : decode cX12_alike 106 = .ok (.goto 4, 3) := by decide +kernel
theorem dX12_alike_109 : decode cX12_alike 109 = .ok (.iconst 0, 1) := by decide +kernel
theorem dX12_alike_110 : decode cX12_alike 110 = .ok (.istore_n 3, 1) := by decide +kernel
theorem dX12_alike_111 : decode cX12_alike 111 = .ok (.iconst 0, 1) := by decide +kernel
theorem dX12_alike_112 : decode cX12_alike 112 = .ok (.istore 5, 2) := by decide +kernel
theorem dX12_alike_114 : decode cX12_alike 114 = .ok (.iload_n 3, 1) := by decide +kernel
theorem dX12_alike_115 : decode cX12_alike 115 = .ok (.ifCond .eq 51, 3) := by decide +kernel
theorem dX12_alike_118 : decode cX12_alike 118 = .ok (.iload 5, 2) := by decide +kernel
theorem dX12_alike_120 : decode cX12_alike 120 = .ok (.aload_n 0, 1) := by decide +kernel
theorem dX12_alike_121 : decode cX12_alike 121 = .ok (.aload_n 0, 1) := by decide +kernel
theorem dX12_alike_122 : decode cX12_alike 122 = .ok (.getfield 38, 3) := by decide +kernel
theorem dX12_alike_125 : decode cX12_alike 125 = .ok (.iload_n 1, 1) := by decide +kernel
theorem dX12_alike_126 : decode cX12_alike 126 = .ok (.iaload, 1) := by decide +kernel
theorem dX12_alike_127 : decode cX12_alike 127 = .ok (.invokevirtual 417, 3) := by decide +kernel
theorem dX12_alike_130 : decode cX12_alike 130 = .ok (.if_icmp .ge 36, 3) := by decide +kernel
theorem dX12_alike_133 : decode cX12_alike 133 = .ok (.aload_n 0, 1) := by decide +kernel
theorem dX12_alike_134 : decode cX12_alike 134 = .ok (.iload_n 1, 1) := by decide +kernel
theorem dX12_alike_135 : decode cX12_alike 135 = .ok (.iload 4, 2) := by decide +kernel
theorem dX12_alike_137 : decode cX12_alike 137 = .ok (.iload 5, 2) := by decide +kernel
theorem dX12_alike_139 : decode cX12_alike 139 = .ok (.invokevirtual 506, 3) := by decide +kernel
theorem dX12_alike_142 : decode cX12_alike 142 = .ok (.aload_n 0, 1) := by decide +kernel
theorem dX12_alike_143 : decode cX12_alike 143 = .ok (.iload_n 2, 1) := by decide +kernel
theorem dX12_alike_144 : decode cX12_alike 144 = .ok (.iload 4, 2) := by decide +kernel
theorem dX12_alike_146 : decode cX12_alike 146 = .ok (.iload 5, 2) := by decide +kernel
theorem dX12_alike_148 : decode cX12_alike 148 = .ok (.invokevirtual 506, 3) := by decide +kernel
theorem dX12_alike_151 : decode cX12_alike 151 = .ok (.if_icmp .ne 7, 3) := by decide +kernel
theorem dX12_alike_154 : decode cX12_alike 154 = .ok (.iconst 1, 1) := by decide +kernel
theorem dX12_alike_155 : decode cX12_alike 155 = .ok (.goto 4, 3) := by decide +kernel
theorem dX12_alike_158 : decode cX12_alike 158 = .ok (.iconst 0, 1) := by decide +kernel
theorem dX12_alike_159 : decode cX12_alike 159 = .ok (.istore_n 3, 1) := by decide +kernel
theorem dX12_alike_160 : decode cX12_alike 160 = .ok (.iinc 5 1, 3) := by decide +kernel
theorem dX12_alike_163 : decode cX12_alike 163 = .ok (.goto (-49), 3) := by decide +kernel
theorem dX12_alike_166 : decode cX12_alike 166 = .ok (.iinc 4 1, 3) := by decide +kernel
theorem dX12_alike_169 : decode cX12_alike 169 = .ok (.goto (-106), 3) := by decide +kernel
theorem dX12_alike_172 : decode cX12_alike 172 = .ok (.iload_n 3, 1) := by decide +kernel
theorem dX12_alike_173 : decode cX12_alike 173 = .ok (.ifCond .eq 7, 3) := by decide +kernel
theorem dX12_alike_176 : decode cX12_alike 176 = .ok (.iconst 1, 1) := by decide +kernel
theorem dX12_alike_177 : decode cX12_alike 177 = .ok (.goto 4, 3) := by decide +kernel
theorem dX12_alike_180 : decode cX12_alike 180 = .ok (.iconst 0, 1) := by decide +kernel
theorem dX12_alike_181 : decode cX12_alike 181 = .ok (.ireturn, 1) := by decide +kernel
theorem dX12_ran_0 : decode cX12_ran 0 = .ok (.aload_n 0, 1) := by decide +kernel
theorem dX12_ran_1 : decode cX12_ran 1 = .ok (.getfield 478, 3) := by decide +kernel
theorem dX12_ran_4 : decode cX12_ran 4 = .ok (.bipush 50, 2) := by decide +kernel
theorem dX12_ran_6 : decode cX12_ran 6 = .ok (.if_icmp .ge 13, 3) := by decide +kernel
theorem dX12_ran_9 : decode cX12_ran 9 = .ok (.aload_n 0, 1) := by decide +kernel
theorem dX12_ran_10 : decode cX12_ran 10 = .ok (.getfield 69, 3) := by decide +kernel
theorem dX12_ran_13 : decode cX12_ran 13 = .ok (.aload_n 0, 1) := by decide +kernel
theorem dX12_ran_14 : decode cX12_ran 14 = .ok (.getfield 478, 3) := by decide +kernel
theorem dX12_ran_17 : decode cX12_ran 17 = .ok (.iload_n 1, 1) := by decide +kernel
theorem dX12_ran_18 : decode cX12_ran 18 = .ok (.iastore, 1) := by decide +kernel
theorem dX12_ran_19 : decode cX12_ran 19 = .ok (.aload_n 0, 1) := by decide +kernel
theorem dX12_ran_20 : decode cX12_ran 20 = .ok (.dup, 1) := by decide +kernel
theorem dX12_ran_21 : decode cX12_ran 21 = .ok (.getfield 478, 3) := by decide +kernel
theorem dX12_ran_24 : decode cX12_ran 24 = .ok (.iconst 1, 1) := by decide +kernel
theorem dX12_ran_25 : decode cX12_ran 25 = .ok (.iadd, 1) := by decide +kernel
theorem dX12_ran_26 : decode cX12_ran 26 = .ok (.putfield 478, 3) := by decide +kernel
theorem dX12_ran_29 : decode cX12_ran 29 = .ok (.return_, 1) := by decide +kernel
theorem dX12_isGrown_0 : decode cX12_isGrown 0 = .ok (.aload_n 0, 1) := by decide +kernel
theorem dX12_isGrown_1 : decode cX12_isGrown 1 = .ok (.getfield 13, 3) := by decide +kernel
theorem dX12_isGrown_4 : decode cX12_isGrown 4 = .ok (.iload_n 1, 1) := by decide +kernel
theorem dX12_isGrown_5 : decode cX12_isGrown 5 = .ok (.iaload, 1) := by decide +kernel
theorem dX12_isGrown_6 : decode cX12_isGrown 6 = .ok (.iconst 1, 1) := by decide +kernel
theorem dX12_isGrown_7 : decode cX12_isGrown 7 = .ok (.if_icmp .eq 13, 3) := by decide +kernel
theorem dX12_isGrown_10 : decode cX12_isGrown 10 = .ok (.aload_n 0, 1) := by decide +kernel
theorem dX12_isGrown_11 : decode cX12_isGrown 11 = .ok (.getfield 13, 3) := by decide +kernel
theorem dX12_isGrown_14 : decode cX12_isGrown 14 = .ok (.iload_n 1, 1) := by decide +kernel
theorem dX12_isGrown_15 : decode cX12_isGrown 15 = .ok (.iaload, 1) := by decide +kernel
theorem dX12_isGrown_16 : decode cX12_isGrown 16 = .ok (.iconst 2, 1) := by decide +kernel
theorem dX12_isGrown_17 : decode cX12_isGrown 17 = .ok (.if_icmp .ne 7, 3) := by decide +kernel
theorem dX12_isGrown_20 : decode cX12_isGrown 20 = .ok (.iconst 1, 1) := by decide +kernel
theorem dX12_isGrown_21 : decode cX12_isGrown 21 = .ok (.goto 4, 3) := by decide +kernel
theorem dX12_isGrown_24 : decode cX12_isGrown 24 = .ok (.iconst 0, 1) := by decide +kernel
theorem dX12_isGrown_25 : decode cX12_isGrown 25 = .ok (.ireturn, 1) := by decide +kernel
theorem dX12_read0_0 : decode cX12_read0 0 = .ok (.aload_n 0, 1) := by decide +kernel
theorem dX12_read0_1 : decode cX12_read0 1 = .ok (.iload_n 1, 1) := by decide +kernel
theorem dX12_read0_2 : decode cX12_read0 2 = .ok (.invokevirtual 544, 3) := by decide +kernel
theorem dX12_read0_5 : decode cX12_read0 5 = .ok (.ifCond .eq 9, 3) := by decide +kernel
theorem dX12_read0_8 : decode cX12_read0 8 = .ok (.aload_n 0, 1) := by decide +kernel
theorem dX12_read0_9 : decode cX12_read0 9 = .ok (.bipush 20, 2) := by decide +kernel
theorem dX12_read0_11 : decode cX12_read0 11 = .ok (.invokevirtual 547, 3) := by decide +kernel
theorem dX12_read0_14 : decode cX12_read0 14 = .ok (.aload_n 0, 1) := by decide +kernel
theorem dX12_read0_15 : decode cX12_read0 15 = .ok (.bipush 10, 2) := by decide +kernel
theorem dX12_read0_17 : decode cX12_read0 17 = .ok (.invokevirtual 547, 3) := by decide +kernel
theorem dX12_read0_20 : decode cX12_read0 20 = .ok (.aload_n 0, 1) := by decide +kernel
theorem dX12_read0_21 : decode cX12_read0 21 = .ok (.iload_n 1, 1) := by decide +kernel
theorem dX12_read0_22 : decode cX12_read0 22 = .ok (.invokevirtual 544, 3) := by decide +kernel
theorem dX12_read0_25 : decode cX12_read0 25 = .ok (.ifCond .eq 11, 3) := by decide +kernel
theorem dX12_read0_28 : decode cX12_read0 28 = .ok (.iload_n 2, 1) := by decide +kernel
theorem dX12_read0_29 : decode cX12_read0 29 = .ok (.iload_n 1, 1) := by decide +kernel
theorem dX12_read0_30 : decode cX12_read0 30 = .ok (.iadd, 1) := by decide +kernel
theorem dX12_read0_31 : decode cX12_read0 31 = .ok (.iconst 2, 1) := by decide +kernel
theorem dX12_read0_32 : decode cX12_read0 32 = .ok (.imul, 1) := by decide +kernel
theorem dX12_read0_33 : decode cX12_read0 33 = .ok (.goto 6, 3) := by decide +kernel
theorem dX12_read0_36 : decode cX12_read0 36 = .ok (.iload_n 2, 1) := by decide +kernel
theorem dX12_read0_37 : decode cX12_read0 37 = .ok (.iload_n 1, 1) := by decide +kernel
theorem dX12_read0_38 : decode cX12_read0 38 = .ok (.iadd, 1) := by decide +kernel
theorem dX12_read0_39 : decode cX12_read0 39 = .ok (.ireturn, 1) := by decide +kernel
theorem dX12_step0_0 : decode cX12_step0 0 = .ok (.aload_n 0, 1) := by decide +kernel
theorem dX12_step0_1 : decode cX12_step0 1 = .ok (.getfield 13, 3) := by decide +kernel
theorem dX12_step0_4 : decode cX12_step0 4 = .ok (.iload_n 1, 1) := by decide +kernel
theorem dX12_step0_5 : decode cX12_step0 5 = .ok (.iaload, 1) := by decide +kernel
theorem dX12_step0_6 : decode cX12_step0 6 = .ok (.iconst 2, 1) := by decide +kernel
theorem dX12_step0_7 : decode cX12_step0 7 = .ok (.if_icmp .ne 9, 3) := by decide +kernel
theorem dX12_step0_10 : decode cX12_step0 10 = .ok (.aload_n 0, 1) := by decide +kernel
theorem dX12_step0_11 : decode cX12_step0 11 = .ok (.bipush 30, 2) := by decide +kernel
theorem dX12_step0_13 : decode cX12_step0 13 = .ok (.invokevirtual 547, 3) := by decide +kernel
theorem dX12_step0_16 : decode cX12_step0 16 = .ok (.aload_n 0, 1) := by decide +kernel
theorem dX12_step0_17 : decode cX12_step0 17 = .ok (.getfield 13, 3) := by decide +kernel
theorem dX12_step0_20 : decode cX12_step0 20 = .ok (.iload_n 1, 1) := by decide +kernel
theorem dX12_step0_21 : decode cX12_step0 21 = .ok (.iaload, 1) := by decide +kernel
theorem dX12_step0_22 : decode cX12_step0 22 = .ok (.iconst 4, 1) := by decide +kernel
theorem dX12_step0_23 : decode cX12_step0 23 = .ok (.if_icmp .ne 9, 3) := by decide +kernel
theorem dX12_step0_26 : decode cX12_step0 26 = .ok (.aload_n 0, 1) := by decide +kernel
theorem dX12_step0_27 : decode cX12_step0 27 = .ok (.bipush 50, 2) := by decide +kernel
theorem dX12_step0_29 : decode cX12_step0 29 = .ok (.invokevirtual 547, 3) := by decide +kernel
theorem dX12_step0_32 : decode cX12_step0 32 = .ok (.aload_n 0, 1) := by decide +kernel
theorem dX12_step0_33 : decode cX12_step0 33 = .ok (.bipush 11, 2) := by decide +kernel
theorem dX12_step0_35 : decode cX12_step0 35 = .ok (.invokevirtual 547, 3) := by decide +kernel
theorem dX12_step0_38 : decode cX12_step0 38 = .ok (.aload_n 0, 1) := by decide +kernel
theorem dX12_step0_39 : decode cX12_step0 39 = .ok (.iload_n 1, 1) := by decide +kernel
theorem dX12_step0_40 : decode cX12_step0 40 = .ok (.aload_n 0, 1) := by decide +kernel
theorem dX12_step0_41 : decode cX12_step0 41 = .ok (.getfield 13, 3) := by decide +kernel
theorem dX12_step0_44 : decode cX12_step0 44 = .ok (.iload_n 1, 1) := by decide +kernel
theorem dX12_step0_45 : decode cX12_step0 45 = .ok (.iaload, 1) := by decide +kernel
theorem dX12_step0_46 : decode cX12_step0 46 = .ok (.iconst 4, 1) := by decide +kernel
theorem dX12_step0_47 : decode cX12_step0 47 = .ok (.if_icmp .ne 9, 3) := by decide +kernel
theorem dX12_step0_50 : decode cX12_step0 50 = .ok (.iload_n 2, 1) := by decide +kernel
theorem dX12_step0_51 : decode cX12_step0 51 = .ok (.iconst 1, 1) := by decide +kernel
theorem dX12_step0_52 : decode cX12_step0 52 = .ok (.isub, 1) := by decide +kernel
theorem dX12_step0_53 : decode cX12_step0 53 = .ok (.goto 4, 3) := by decide +kernel
theorem dX12_step0_56 : decode cX12_step0 56 = .ok (.iload_n 2, 1) := by decide +kernel
theorem dX12_step0_57 : decode cX12_step0 57 = .ok (.invokevirtual 550, 3) := by decide +kernel
theorem dX12_step0_60 : decode cX12_step0 60 = .ok (.iconst 3, 1) := by decide +kernel
theorem dX12_step0_61 : decode cX12_step0 61 = .ok (.imul, 1) := by decide +kernel
theorem dX12_step0_62 : decode cX12_step0 62 = .ok (.istore_n 3, 1) := by decide +kernel
theorem dX12_step0_63 : decode cX12_step0 63 = .ok (.aload_n 0, 1) := by decide +kernel
theorem dX12_step0_64 : decode cX12_step0 64 = .ok (.getfield 13, 3) := by decide +kernel
theorem dX12_step0_67 : decode cX12_step0 67 = .ok (.iload_n 1, 1) := by decide +kernel
theorem dX12_step0_68 : decode cX12_step0 68 = .ok (.iaload, 1) := by decide +kernel
theorem dX12_step0_69 : decode cX12_step0 69 = .ok (.iconst 2, 1) := by decide +kernel
theorem dX12_step0_70 : decode cX12_step0 70 = .ok (.if_icmp .ne 9, 3) := by decide +kernel
theorem dX12_step0_73 : decode cX12_step0 73 = .ok (.iload_n 3, 1) := by decide +kernel
theorem dX12_step0_74 : decode cX12_step0 74 = .ok (.iconst 5, 1) := by decide +kernel
theorem dX12_step0_75 : decode cX12_step0 75 = .ok (.iadd, 1) := by decide +kernel
theorem dX12_step0_76 : decode cX12_step0 76 = .ok (.goto 4, 3) := by decide +kernel
theorem dX12_step0_79 : decode cX12_step0 79 = .ok (.iload_n 3, 1) := by decide +kernel
theorem dX12_step0_80 : decode cX12_step0 80 = .ok (.ireturn, 1) := by decide +kernel
theorem dX12_join0_0 : decode cX12_join0 0 = .ok (.aload_n 0, 1) := by decide +kernel
theorem dX12_join0_1 : decode cX12_join0 1 = .ok (.getfield 13, 3) := by decide +kernel
theorem dX12_join0_4 : decode cX12_join0 4 = .ok (.iload_n 1, 1) := by decide +kernel
theorem dX12_join0_5 : decode cX12_join0 5 = .ok (.iaload, 1) := by decide +kernel
theorem dX12_join0_6 : decode cX12_join0 6 = .ok (.iconst 2, 1) := by decide +kernel
theorem dX12_join0_7 : decode cX12_join0 7 = .ok (.if_icmp .ne 9, 3) := by decide +kernel
theorem dX12_join0_10 : decode cX12_join0 10 = .ok (.aload_n 0, 1) := by decide +kernel
theorem dX12_join0_11 : decode cX12_join0 11 = .ok (.bipush 31, 2) := by decide +kernel
theorem dX12_join0_13 : decode cX12_join0 13 = .ok (.invokevirtual 547, 3) := by decide +kernel
theorem dX12_join0_16 : decode cX12_join0 16 = .ok (.aload_n 0, 1) := by decide +kernel
theorem dX12_join0_17 : decode cX12_join0 17 = .ok (.getfield 13, 3) := by decide +kernel
theorem dX12_join0_20 : decode cX12_join0 20 = .ok (.iload_n 1, 1) := by decide +kernel
theorem dX12_join0_21 : decode cX12_join0 21 = .ok (.iaload, 1) := by decide +kernel
theorem dX12_join0_22 : decode cX12_join0 22 = .ok (.iconst 3, 1) := by decide +kernel
theorem dX12_join0_23 : decode cX12_join0 23 = .ok (.if_icmp .ne 9, 3) := by decide +kernel
theorem dX12_join0_26 : decode cX12_join0 26 = .ok (.aload_n 0, 1) := by decide +kernel
theorem dX12_join0_27 : decode cX12_join0 27 = .ok (.bipush 40, 2) := by decide +kernel
theorem dX12_join0_29 : decode cX12_join0 29 = .ok (.invokevirtual 547, 3) := by decide +kernel
theorem dX12_join0_32 : decode cX12_join0 32 = .ok (.aload_n 0, 1) := by decide +kernel
theorem dX12_join0_33 : decode cX12_join0 33 = .ok (.bipush 12, 2) := by decide +kernel
theorem dX12_join0_35 : decode cX12_join0 35 = .ok (.invokevirtual 547, 3) := by decide +kernel
theorem dX12_join0_38 : decode cX12_join0 38 = .ok (.iload_n 2, 1) := by decide +kernel
theorem dX12_join0_39 : decode cX12_join0 39 = .ok (.aload_n 0, 1) := by decide +kernel
theorem dX12_join0_40 : decode cX12_join0 40 = .ok (.getfield 17, 3) := by decide +kernel
theorem dX12_join0_43 : decode cX12_join0 43 = .ok (.iload_n 1, 1) := by decide +kernel
theorem dX12_join0_44 : decode cX12_join0 44 = .ok (.iaload, 1) := by decide +kernel
theorem dX12_join0_45 : decode cX12_join0 45 = .ok (.ixor, 1) := by decide +kernel
theorem dX12_join0_46 : decode cX12_join0 46 = .ok (.istore_n 3, 1) := by decide +kernel
theorem dX12_join0_47 : decode cX12_join0 47 = .ok (.aload_n 0, 1) := by decide +kernel
theorem dX12_join0_48 : decode cX12_join0 48 = .ok (.getfield 13, 3) := by decide +kernel
theorem dX12_join0_51 : decode cX12_join0 51 = .ok (.iload_n 1, 1) := by decide +kernel
theorem dX12_join0_52 : decode cX12_join0 52 = .ok (.iaload, 1) := by decide +kernel
theorem dX12_join0_53 : decode cX12_join0 53 = .ok (.iconst 2, 1) := by decide +kernel
theorem dX12_join0_54 : decode cX12_join0 54 = .ok (.if_icmp .ne 9, 3) := by decide +kernel
theorem dX12_join0_57 : decode cX12_join0 57 = .ok (.iload_n 3, 1) := by decide +kernel
theorem dX12_join0_58 : decode cX12_join0 58 = .ok (.iload_n 2, 1) := by decide +kernel
theorem dX12_join0_59 : decode cX12_join0 59 = .ok (.isub, 1) := by decide +kernel
theorem dX12_join0_60 : decode cX12_join0 60 = .ok (.goto 20, 3) := by decide +kernel
theorem dX12_join0_63 : decode cX12_join0 63 = .ok (.aload_n 0, 1) := by decide +kernel
theorem dX12_join0_64 : decode cX12_join0 64 = .ok (.getfield 13, 3) := by decide +kernel
theorem dX12_join0_67 : decode cX12_join0 67 = .ok (.iload_n 1, 1) := by decide +kernel
theorem dX12_join0_68 : decode cX12_join0 68 = .ok (.iaload, 1) := by decide +kernel
theorem dX12_join0_69 : decode cX12_join0 69 = .ok (.iconst 3, 1) := by decide +kernel
theorem dX12_join0_70 : decode cX12_join0 70 = .ok (.if_icmp .ne 9, 3) := by decide +kernel
theorem dX12_join0_73 : decode cX12_join0 73 = .ok (.iload_n 3, 1) := by decide +kernel
theorem dX12_join0_74 : decode cX12_join0 74 = .ok (.iload_n 1, 1) := by decide +kernel
theorem dX12_join0_75 : decode cX12_join0 75 = .ok (.imul, 1) := by decide +kernel
theorem dX12_join0_76 : decode cX12_join0 76 = .ok (.goto 4, 3) := by decide +kernel
theorem dX12_join0_79 : decode cX12_join0 79 = .ok (.iload_n 3, 1) := by decide +kernel
theorem dX12_join0_80 : decode cX12_join0 80 = .ok (.ireturn, 1) := by decide +kernel
theorem dX12_machineTell_0 : decode cX12_machineTell 0 = .ok (.aload_n 0, 1) := by decide +kernel
theorem dX12_machineTell_1 : decode cX12_machineTell 1 = .ok (.bipush 13, 2) := by decide +kernel
theorem dX12_machineTell_3 : decode cX12_machineTell 3 = .ok (.invokevirtual 547, 3) := by decide +kernel
theorem dX12_machineTell_6 : decode cX12_machineTell 6 = .ok (.aload_n 0, 1) := by decide +kernel
theorem dX12_machineTell_7 : decode cX12_machineTell 7 = .ok (.iload_n 1, 1) := by decide +kernel
theorem dX12_machineTell_8 : decode cX12_machineTell 8 = .ok (.iload_n 2, 1) := by decide +kernel
theorem dX12_machineTell_9 : decode cX12_machineTell 9 = .ok (.invokevirtual 553, 3) := by decide +kernel
theorem dX12_machineTell_12 : decode cX12_machineTell 12 = .ok (.istore_n 3, 1) := by decide +kernel
theorem dX12_machineTell_13 : decode cX12_machineTell 13 = .ok (.iload_n 3, 1) := by decide +kernel
theorem dX12_machineTell_14 : decode cX12_machineTell 14 = .ok (.aload_n 0, 1) := by decide +kernel
theorem dX12_machineTell_15 : decode cX12_machineTell 15 = .ok (.iload_n 1, 1) := by decide +kernel
theorem dX12_machineTell_16 : decode cX12_machineTell 16 = .ok (.iload_n 2, 1) := by decide +kernel
theorem dX12_machineTell_17 : decode cX12_machineTell 17 = .ok (.invokevirtual 556, 3) := by decide +kernel
theorem dX12_machineTell_20 : decode cX12_machineTell 20 = .ok (.isub, 1) := by decide +kernel
theorem dX12_machineTell_21 : decode cX12_machineTell 21 = .ok (.ireturn, 1) := by decide +kernel
theorem dX12_tell0_0 : decode cX12_tell0 0 = .ok (.aload_n 0, 1) := by decide +kernel
theorem dX12_tell0_1 : decode cX12_tell0 1 = .ok (.iload_n 1, 1) := by decide +kernel
theorem dX12_tell0_2 : decode cX12_tell0 2 = .ok (.invokevirtual 544, 3) := by decide +kernel
theorem dX12_tell0_5 : decode cX12_tell0 5 = .ok (.ifCond .eq 18, 3) := by decide +kernel
theorem dX12_tell0_8 : decode cX12_tell0 8 = .ok (.aload_n 0, 1) := by decide +kernel
theorem dX12_tell0_9 : decode cX12_tell0 9 = .ok (.bipush 21, 2) := by decide +kernel
theorem dX12_tell0_11 : decode cX12_tell0 11 = .ok (.invokevirtual 547, 3) := by decide +kernel
theorem dX12_tell0_14 : decode cX12_tell0 14 = .ok (.aload_n 0, 1) := by decide +kernel
theorem dX12_tell0_15 : decode cX12_tell0 15 = .ok (.iload_n 1, 1) := by decide +kernel
theorem dX12_tell0_16 : decode cX12_tell0 16 = .ok (.iload_n 2, 1) := by decide +kernel
theorem dX12_tell0_17 : decode cX12_tell0 17 = .ok (.iconst 1, 1) := by decide +kernel
theorem dX12_tell0_18 : decode cX12_tell0 18 = .ok (.iadd, 1) := by decide +kernel
theorem dX12_tell0_19 : decode cX12_tell0 19 = .ok (.invokevirtual 559, 3) := by decide +kernel
theorem dX12_tell0_22 : decode cX12_tell0 22 = .ok (.ireturn, 1) := by decide +kernel
theorem dX12_tell0_23 : decode cX12_tell0 23 = .ok (.aload_n 0, 1) := by decide +kernel
theorem dX12_tell0_24 : decode cX12_tell0 24 = .ok (.getfield 13, 3) := by decide +kernel
theorem dX12_tell0_27 : decode cX12_tell0 27 = .ok (.iload_n 1, 1) := by decide +kernel
theorem dX12_tell0_28 : decode cX12_tell0 28 = .ok (.iaload, 1) := by decide +kernel
theorem dX12_tell0_29 : decode cX12_tell0 29 = .ok (.iconst 4, 1) := by decide +kernel
theorem dX12_tell0_30 : decode cX12_tell0 30 = .ok (.if_icmp .ne 25, 3) := by decide +kernel
theorem dX12_tell0_33 : decode cX12_tell0 33 = .ok (.aload_n 0, 1) := by decide +kernel
theorem dX12_tell0_34 : decode cX12_tell0 34 = .ok (.bipush 51, 2) := by decide +kernel
theorem dX12_tell0_36 : decode cX12_tell0 36 = .ok (.invokevirtual 547, 3) := by decide +kernel
theorem dX12_tell0_39 : decode cX12_tell0 39 = .ok (.aload_n 0, 1) := by decide +kernel
theorem dX12_tell0_40 : decode cX12_tell0 40 = .ok (.iload_n 1, 1) := by decide +kernel
theorem dX12_tell0_41 : decode cX12_tell0 41 = .ok (.iload_n 2, 1) := by decide +kernel
theorem dX12_tell0_42 : decode cX12_tell0 42 = .ok (.invokevirtual 556, 3) := by decide +kernel
theorem dX12_tell0_45 : decode cX12_tell0 45 = .ok (.istore_n 3, 1) := by decide +kernel
theorem dX12_tell0_46 : decode cX12_tell0 46 = .ok (.iload_n 3, 1) := by decide +kernel
theorem dX12_tell0_47 : decode cX12_tell0 47 = .ok (.aload_n 0, 1) := by decide +kernel
theorem dX12_tell0_48 : decode cX12_tell0 48 = .ok (.iload_n 1, 1) := by decide +kernel
theorem dX12_tell0_49 : decode cX12_tell0 49 = .ok (.iload_n 2, 1) := by decide +kernel
theorem dX12_tell0_50 : decode cX12_tell0 50 = .ok (.invokevirtual 559, 3) := by decide +kernel
theorem dX12_tell0_53 : decode cX12_tell0 53 = .ok (.ixor, 1) := by decide +kernel
theorem dX12_tell0_54 : decode cX12_tell0 54 = .ok (.ireturn, 1) := by decide +kernel
theorem dX12_tell0_55 : decode cX12_tell0 55 = .ok (.aload_n 0, 1) := by decide +kernel
theorem dX12_tell0_56 : decode cX12_tell0 56 = .ok (.iload_n 1, 1) := by decide +kernel
theorem dX12_tell0_57 : decode cX12_tell0 57 = .ok (.iload_n 2, 1) := by decide +kernel
theorem dX12_tell0_58 : decode cX12_tell0 58 = .ok (.invokevirtual 559, 3) := by decide +kernel
theorem dX12_tell0_61 : decode cX12_tell0 61 = .ok (.ireturn, 1) := by decide +kernel
theorem dX12_act_0 : decode cX12_act 0 = .ok (.aload_n 0, 1) := by decide +kernel
theorem dX12_act_1 : decode cX12_act 1 = .ok (.iload_n 1, 1) := by decide +kernel
theorem dX12_act_2 : decode cX12_act 2 = .ok (.invokevirtual 275, 3) := by decide +kernel
theorem dX12_act_5 : decode cX12_act 5 = .ok (.ifCond .eq 12, 3) := by decide +kernel
theorem dX12_act_8 : decode cX12_act 8 = .ok (.iload_n 2, 1) := by decide +kernel
theorem dX12_act_9 : decode cX12_act 9 = .ok (.iconst 0, 1) := by decide +kernel
theorem dX12_act_10 : decode cX12_act 10 = .ok (.iconst 3, 1) := by decide +kernel
theorem dX12_act_11 : decode cX12_act 11 = .ok (.invokestatic 218, 3) := by decide +kernel
theorem dX12_act_14 : decode cX12_act 14 = .ok (.ifCond .ne 9, 3) := by decide +kernel
theorem dX12_act_17 : decode cX12_act 17 = .ok (.aload_n 0, 1) := by decide +kernel
theorem dX12_act_18 : decode cX12_act 18 = .ok (.iconst 1, 1) := by decide +kernel
theorem dX12_act_19 : decode cX12_act 19 = .ok (.invokevirtual 253, 3) := by decide +kernel
theorem dX12_act_22 : decode cX12_act 22 = .ok (.ireturn, 1) := by decide +kernel
theorem dX12_act_23 : decode cX12_act 23 = .ok (.aload_n 0, 1) := by decide +kernel
theorem dX12_act_24 : decode cX12_act 24 = .ok (.iconst 0, 1) := by decide +kernel
theorem dX12_act_25 : decode cX12_act 25 = .ok (.putfield 478, 3) := by decide +kernel
theorem dX12_act_28 : decode cX12_act 28 = .ok (.aload_n 0, 1) := by decide +kernel
theorem dX12_act_29 : decode cX12_act 29 = .ok (.iload_n 2, 1) := by decide +kernel
theorem dX12_act_30 : decode cX12_act 30 = .ok (.ifCond .ne 12, 3) := by decide +kernel
theorem dX12_act_33 : decode cX12_act 33 = .ok (.aload_n 0, 1) := by decide +kernel
theorem dX12_act_34 : decode cX12_act 34 = .ok (.iload_n 1, 1) := by decide +kernel
theorem dX12_act_35 : decode cX12_act 35 = .ok (.iload_n 3, 1) := by decide +kernel
theorem dX12_act_36 : decode cX12_act 36 = .ok (.invokevirtual 550, 3) := by decide +kernel
theorem dX12_act_39 : decode cX12_act 39 = .ok (.goto 37, 3) := by decide +kernel
theorem dX12_act_42 : decode cX12_act 42 = .ok (.iload_n 2, 1) := by decide +kernel
theorem dX12_act_43 : decode cX12_act 43 = .ok (.iconst 1, 1) := by decide +kernel
theorem dX12_act_44 : decode cX12_act 44 = .ok (.if_icmp .ne 12, 3) := by decide +kernel
theorem dX12_act_47 : decode cX12_act 47 = .ok (.aload_n 0, 1) := by decide +kernel
theorem dX12_act_48 : decode cX12_act 48 = .ok (.iload_n 1, 1) := by decide +kernel
theorem dX12_act_49 : decode cX12_act 49 = .ok (.iload_n 3, 1) := by decide +kernel
theorem dX12_act_50 : decode cX12_act 50 = .ok (.invokevirtual 553, 3) := by decide +kernel
theorem dX12_act_53 : decode cX12_act 53 = .ok (.goto 23, 3) := by decide +kernel
theorem dX12_act_56 : decode cX12_act 56 = .ok (.iload_n 2, 1) := by decide +kernel
theorem dX12_act_57 : decode cX12_act 57 = .ok (.iconst 2, 1) := by decide +kernel
theorem dX12_act_58 : decode cX12_act 58 = .ok (.if_icmp .ne 12, 3) := by decide +kernel
theorem dX12_act_61 : decode cX12_act 61 = .ok (.aload_n 0, 1) := by decide +kernel
theorem dX12_act_62 : decode cX12_act 62 = .ok (.iload_n 1, 1) := by decide +kernel
theorem dX12_act_63 : decode cX12_act 63 = .ok (.iload_n 3, 1) := by decide +kernel
theorem dX12_act_64 : decode cX12_act 64 = .ok (.invokevirtual 556, 3) := by decide +kernel
theorem dX12_act_67 : decode cX12_act 67 = .ok (.goto 9, 3) := by decide +kernel
theorem dX12_act_70 : decode cX12_act 70 = .ok (.aload_n 0, 1) := by decide +kernel
theorem dX12_act_71 : decode cX12_act 71 = .ok (.iload_n 1, 1) := by decide +kernel
theorem dX12_act_72 : decode cX12_act 72 = .ok (.iload_n 3, 1) := by decide +kernel
theorem dX12_act_73 : decode cX12_act 73 = .ok (.invokevirtual 562, 3) := by decide +kernel
theorem dX12_act_76 : decode cX12_act 76 = .ok (.invokevirtual 250, 3) := by decide +kernel
theorem dX12_act_79 : decode cX12_act 79 = .ok (.ireturn, 1) := by decide +kernel
theorem dX12_trace_0 : decode cX12_trace 0 = .ok (.iload_n 1, 1) := by decide +kernel
theorem dX12_trace_1 : decode cX12_trace 1 = .ok (.iconst 0, 1) := by decide +kernel
theorem dX12_trace_2 : decode cX12_trace 2 = .ok (.aload_n 0, 1) := by decide +kernel
theorem dX12_trace_3 : decode cX12_trace 3 = .ok (.getfield 478, 3) := by decide +kernel
theorem dX12_trace_6 : decode cX12_trace 6 = .ok (.bipush 50, 2) := by decide +kernel
theorem dX12_trace_8 : decode cX12_trace 8 = .ok (.if_icmp .ge 10, 3) := by decide +kernel
theorem dX12_trace_11 : decode cX12_trace 11 = .ok (.aload_n 0, 1) := by decide +kernel
theorem dX12_trace_12 : decode cX12_trace 12 = .ok (.getfield 478, 3) := by decide +kernel
theorem dX12_trace_15 : decode cX12_trace 15 = .ok (.goto 5, 3) := by decide +kernel
theorem dX12_trace_18 : decode cX12_trace 18 = .ok (.bipush 50, 2) := by decide +kernel
theorem dX12_trace_20 : decode cX12_trace 20 = .ok (.iconst 1, 1) := by decide +kernel
theorem dX12_trace_21 : decode cX12_trace 21 = .ok (.isub, 1) := by decide +kernel
theorem dX12_trace_22 : decode cX12_trace 22 = .ok (.invokestatic 218, 3) := by decide +kernel
theorem dX12_trace_25 : decode cX12_trace 25 = .ok (.ifCond .eq 12, 3) := by decide +kernel
theorem dX12_trace_28 : decode cX12_trace 28 = .ok (.aload_n 0, 1) := by decide +kernel
theorem dX12_trace_29 : decode cX12_trace 29 = .ok (.getfield 69, 3) := by decide +kernel
theorem dX12_trace_32 : decode cX12_trace 32 = .ok (.iload_n 1, 1) := by decide +kernel
theorem dX12_trace_33 : decode cX12_trace 33 = .ok (.iaload, 1) := by decide +kernel
theorem dX12_trace_34 : decode cX12_trace 34 = .ok (.goto 4, 3) := by decide +kernel
theorem dX12_trace_37 : decode cX12_trace 37 = .ok (.iconst (-1), 1) := by decide +kernel
theorem dX12_trace_38 : decode cX12_trace 38 = .ok (.ireturn, 1) := by decide +kernel
theorem dX12_modulo_0 : decode cX12_modulo 0 = .ok (.iload_n 0, 1) := by decide +kernel
theorem dX12_modulo_1 : decode cX12_modulo 1 = .ok (.iload_n 1, 1) := by decide +kernel
theorem dX12_modulo_2 : decode cX12_modulo 2 = .ok (.irem, 1) := by decide +kernel
theorem dX12_modulo_3 : decode cX12_modulo 3 = .ok (.iload_n 1, 1) := by decide +kernel
theorem dX12_modulo_4 : decode cX12_modulo 4 = .ok (.iadd, 1) := by decide +kernel
theorem dX12_modulo_5 : decode cX12_modulo 5 = .ok (.iload_n 1, 1) := by decide +kernel
theorem dX12_modulo_6 : decode cX12_modulo 6 = .ok (.irem, 1) := by decide +kernel
theorem dX12_modulo_7 : decode cX12_modulo 7 = .ok (.ireturn, 1) := by decide +kernel
theorem dX12_rowTaken_0 : decode cX12_rowTaken 0 = .ok (.aload_n 0, 1) := by decide +kernel
theorem dX12_rowTaken_1 : decode cX12_rowTaken 1 = .ok (.iload_n 1, 1) := by decide +kernel
theorem dX12_rowTaken_2 : decode cX12_rowTaken 2 = .ok (.invokevirtual 275, 3) := by decide +kernel
theorem dX12_rowTaken_5 : decode cX12_rowTaken 5 = .ok (.ifCond .ne 10, 3) := by decide +kernel
theorem dX12_rowTaken_8 : decode cX12_rowTaken 8 = .ok (.aload_n 0, 1) := by decide +kernel
theorem dX12_rowTaken_9 : decode cX12_rowTaken 9 = .ok (.bipush 10, 2) := by decide +kernel
theorem dX12_rowTaken_11 : decode cX12_rowTaken 11 = .ok (.invokevirtual 253, 3) := by decide +kernel
theorem dX12_rowTaken_14 : decode cX12_rowTaken 14 = .ok (.ireturn, 1) := by decide +kernel
theorem dX12_rowTaken_15 : decode cX12_rowTaken 15 = .ok (.iload_n 2, 1) := by decide +kernel
theorem dX12_rowTaken_16 : decode cX12_rowTaken 16 = .ok (.ifCond .eq 28, 3) := by decide +kernel
theorem dX12_rowTaken_19 : decode cX12_rowTaken 19 = .ok (.iload_n 2, 1) := by decide +kernel
theorem dX12_rowTaken_20 : decode cX12_rowTaken 20 = .ok (.aload_n 0, 1) := by decide +kernel
theorem dX12_rowTaken_21 : decode cX12_rowTaken 21 = .ok (.getfield 13, 3) := by decide +kernel
theorem dX12_rowTaken_24 : decode cX12_rowTaken 24 = .ok (.iload_n 1, 1) := by decide +kernel
theorem dX12_rowTaken_25 : decode cX12_rowTaken 25 = .ok (.iaload, 1) := by decide +kernel
theorem dX12_rowTaken_26 : decode cX12_rowTaken 26 = .ok (.if_icmp .eq 18, 3) := by decide +kernel
theorem dX12_rowTaken_29 : decode cX12_rowTaken 29 = .ok (.iload_n 2, 1) := by decide +kernel
theorem dX12_rowTaken_30 : decode cX12_rowTaken 30 = .ok (.iconst 1, 1) := by decide +kernel
theorem dX12_rowTaken_31 : decode cX12_rowTaken 31 = .ok (.if_icmp .ne 17, 3) := by decide +kernel
theorem dX12_rowTaken_34 : decode cX12_rowTaken 34 = .ok (.aload_n 0, 1) := by decide +kernel
theorem dX12_rowTaken_35 : decode cX12_rowTaken 35 = .ok (.getfield 13, 3) := by decide +kernel
theorem dX12_rowTaken_38 : decode cX12_rowTaken 38 = .ok (.iload_n 1, 1) := by decide +kernel
theorem dX12_rowTaken_39 : decode cX12_rowTaken 39 = .ok (.iaload, 1) := by decide +kernel
theorem dX12_rowTaken_40 : decode cX12_rowTaken 40 = .ok (.iconst 2, 1) := by decide +kernel
theorem dX12_rowTaken_41 : decode cX12_rowTaken 41 = .ok (.if_icmp .ne 7, 3) := by decide +kernel
theorem dX12_rowTaken_44 : decode cX12_rowTaken 44 = .ok (.iconst 1, 1) := by decide +kernel
theorem dX12_rowTaken_45 : decode cX12_rowTaken 45 = .ok (.goto 4, 3) := by decide +kernel
theorem dX12_rowTaken_48 : decode cX12_rowTaken 48 = .ok (.iconst 0, 1) := by decide +kernel
theorem dX12_rowTaken_49 : decode cX12_rowTaken 49 = .ok (.istore_n 3, 1) := by decide +kernel
theorem dX12_rowTaken_50 : decode cX12_rowTaken 50 = .ok (.iload_n 3, 1) := by decide +kernel
theorem dX12_rowTaken_51 : decode cX12_rowTaken 51 = .ok (.ifCond .eq 16, 3) := by decide +kernel
theorem dX12_rowTaken_54 : decode cX12_rowTaken 54 = .ok (.aload_n 0, 1) := by decide +kernel
theorem dX12_rowTaken_55 : decode cX12_rowTaken 55 = .ok (.aload_n 0, 1) := by decide +kernel
theorem dX12_rowTaken_56 : decode cX12_rowTaken 56 = .ok (.getfield 13, 3) := by decide +kernel
theorem dX12_rowTaken_59 : decode cX12_rowTaken 59 = .ok (.iload_n 1, 1) := by decide +kernel
theorem dX12_rowTaken_60 : decode cX12_rowTaken 60 = .ok (.iaload, 1) := by decide +kernel
theorem dX12_rowTaken_61 : decode cX12_rowTaken 61 = .ok (.invokevirtual 250, 3) := by decide +kernel
theorem dX12_rowTaken_64 : decode cX12_rowTaken 64 = .ok (.goto 9, 3) := by decide +kernel
theorem dX12_rowTaken_67 : decode cX12_rowTaken 67 = .ok (.aload_n 0, 1) := by decide +kernel
theorem dX12_rowTaken_68 : decode cX12_rowTaken 68 = .ok (.bipush 11, 2) := by decide +kernel
theorem dX12_rowTaken_70 : decode cX12_rowTaken 70 = .ok (.invokevirtual 253, 3) := by decide +kernel
theorem dX12_rowTaken_73 : decode cX12_rowTaken 73 = .ok (.ireturn, 1) := by decide +kernel
theorem dX12_copied_0 : decode cX12_copied 0 = .ok (.iconst 0, 1) := by decide +kernel
theorem dX12_copied_1 : decode cX12_copied 1 = .ok (.istore_n 3, 1) := by decide +kernel
theorem dX12_copied_2 : decode cX12_copied 2 = .ok (.iconst 2, 1) := by decide +kernel
theorem dX12_copied_3 : decode cX12_copied 3 = .ok (.istore 4, 2) := by decide +kernel
theorem dX12_copied_5 : decode cX12_copied 5 = .ok (.iload 4, 2) := by decide +kernel
theorem dX12_copied_7 : decode cX12_copied 7 = .ok (.iconst 2, 1) := by decide +kernel
theorem dX12_copied_8 : decode cX12_copied 8 = .ok (.iload_n 2, 1) := by decide +kernel
theorem dX12_copied_9 : decode cX12_copied 9 = .ok (.iadd, 1) := by decide +kernel
theorem dX12_copied_10 : decode cX12_copied 10 = .ok (.if_icmp .ge 24, 3) := by decide +kernel
theorem dX12_copied_13 : decode cX12_copied 13 = .ok (.iload_n 3, 1) := by decide +kernel
theorem dX12_copied_14 : decode cX12_copied 14 = .ok (.aload_n 0, 1) := by decide +kernel
theorem dX12_copied_15 : decode cX12_copied 15 = .ok (.getfield 66, 3) := by decide +kernel
theorem dX12_copied_18 : decode cX12_copied 18 = .ok (.bipush 40, 2) := by decide +kernel
theorem dX12_copied_20 : decode cX12_copied 20 = .ok (.iload_n 1, 1) := by decide +kernel
theorem dX12_copied_21 : decode cX12_copied 21 = .ok (.imul, 1) := by decide +kernel
theorem dX12_copied_22 : decode cX12_copied 22 = .ok (.iload 4, 2) := by decide +kernel
theorem dX12_copied_24 : decode cX12_copied 24 = .ok (.iadd, 1) := by decide +kernel
theorem dX12_copied_25 : decode cX12_copied 25 = .ok (.iaload, 1) := by decide +kernel
theorem dX12_copied_26 : decode cX12_copied 26 = .ok (.iadd, 1) := by decide +kernel
theorem dX12_copied_27 : decode cX12_copied 27 = .ok (.istore_n 3, 1) := by decide +kernel
theorem dX12_copied_28 : decode cX12_copied 28 = .ok (.iinc 4 1, 3) := by decide +kernel
theorem dX12_copied_31 : decode cX12_copied 31 = .ok (.goto (-26), 3) := by decide +kernel
theorem dX12_copied_34 : decode cX12_copied 34 = .ok (.iload_n 3, 1) := by decide +kernel
theorem dX12_copied_35 : decode cX12_copied 35 = .ok (.ireturn, 1) := by decide +kernel
theorem dX12_forge_0 : decode cX12_forge 0 = .ok (.iload_n 1, 1) := by decide +kernel
theorem dX12_forge_1 : decode cX12_forge 1 = .ok (.iconst 0, 1) := by decide +kernel
theorem dX12_forge_2 : decode cX12_forge 2 = .ok (.bipush 6, 2) := by decide +kernel
theorem dX12_forge_4 : decode cX12_forge 4 = .ok (.invokestatic 218, 3) := by decide +kernel
theorem dX12_forge_7 : decode cX12_forge 7 = .ok (.ifCond .eq 25, 3) := by decide +kernel
theorem dX12_forge_10 : decode cX12_forge 10 = .ok (.iload_n 2, 1) := by decide +kernel
theorem dX12_forge_11 : decode cX12_forge 11 = .ok (.bipush (-100), 2) := by decide +kernel
theorem dX12_forge_13 : decode cX12_forge 13 = .ok (.bipush 100, 2) := by decide +kernel
theorem dX12_forge_15 : decode cX12_forge 15 = .ok (.invokestatic 218, 3) := by decide +kernel
theorem dX12_forge_18 : decode cX12_forge 18 = .ok (.ifCond .eq 14, 3) := by decide +kernel
theorem dX12_forge_21 : decode cX12_forge 21 = .ok (.iload_n 3, 1) := by decide +kernel
theorem dX12_forge_22 : decode cX12_forge 22 = .ok (.bipush (-100), 2) := by decide +kernel
theorem dX12_forge_24 : decode cX12_forge 24 = .ok (.bipush 100, 2) := by decide +kernel
theorem dX12_forge_26 : decode cX12_forge 26 = .ok (.invokestatic 218, 3) := by decide +kernel
theorem dX12_forge_29 : decode cX12_forge 29 = .ok (.ifCond .ne 9, 3) := by decide +kernel
theorem dX12_forge_32 : decode cX12_forge 32 = .ok (.aload_n 0, 1) := by decide +kernel
theorem dX12_forge_33 : decode cX12_forge 33 = .ok (.iconst 1, 1) := by decide +kernel
theorem dX12_forge_34 : decode cX12_forge 34 = .ok (.invokevirtual 253, 3) := by decide +kernel
theorem dX12_forge_37 : decode cX12_forge 37 = .ok (.ireturn, 1) := by decide +kernel
theorem dX12_forge_38 : decode cX12_forge 38 = .ok (.iload_n 3, 1) := by decide +kernel
theorem dX12_forge_39 : decode cX12_forge 39 = .ok (.bipush 10, 2) := by decide +kernel
theorem dX12_forge_41 : decode cX12_forge 41 = .ok (.invokestatic 565, 3) := by decide +kernel
theorem dX12_forge_44 : decode cX12_forge 44 = .ok (.istore 4, 2) := by decide +kernel
theorem dX12_forge_46 : decode cX12_forge 46 = .ok (.iload_n 3, 1) := by decide +kernel
theorem dX12_forge_47 : decode cX12_forge 47 = .ok (.bipush 6, 2) := by decide +kernel
theorem dX12_forge_49 : decode cX12_forge 49 = .ok (.invokestatic 565, 3) := by decide +kernel
theorem dX12_forge_52 : decode cX12_forge 52 = .ok (.istore 5, 2) := by decide +kernel
theorem dX12_forge_54 : decode cX12_forge 54 = .ok (.iload_n 1, 1) := by decide +kernel
theorem dX12_forge_55 : decode cX12_forge 55 = .ok (.tableswitch 303 0 5 #[37, 49, 68, 151, 233, 280], 37) := by decide +kernel
theorem dX12_forge_92 : decode cX12_forge 92 = .ok (.aload_n 0, 1) := by decide +kernel
theorem dX12_forge_93 : decode cX12_forge 93 = .ok (.iload 4, 2) := by decide +kernel
theorem dX12_forge_95 : decode cX12_forge 95 = .ok (.iload_n 2, 1) := by decide +kernel
theorem dX12_forge_96 : decode cX12_forge 96 = .ok (.iconst 5, 1) := by decide +kernel
theorem dX12_forge_97 : decode cX12_forge 97 = .ok (.invokestatic 565, 3) := by decide +kernel
theorem dX12_forge_100 : decode cX12_forge 100 = .ok (.invokevirtual 568, 3) := by decide +kernel
theorem dX12_forge_103 : decode cX12_forge 103 = .ok (.ireturn, 1) := by decide +kernel
theorem dX12_forge_104 : decode cX12_forge 104 = .ok (.iload_n 2, 1) := by decide +kernel
theorem dX12_forge_105 : decode cX12_forge 105 = .ok (.ifCond .ge 12, 3) := by decide +kernel
theorem dX12_forge_108 : decode cX12_forge 108 = .ok (.aload_n 0, 1) := by decide +kernel
theorem dX12_forge_109 : decode cX12_forge 109 = .ok (.bipush 13, 2) := by decide +kernel
theorem dX12_forge_111 : decode cX12_forge 111 = .ok (.invokevirtual 253, 3) := by decide +kernel
theorem dX12_forge_114 : decode cX12_forge 114 = .ok (.goto 8, 3) := by decide +kernel
theorem dX12_forge_117 : decode cX12_forge 117 = .ok (.aload_n 0, 1) := by decide +kernel
theorem dX12_forge_118 : decode cX12_forge 118 = .ok (.iload_n 2, 1) := by decide +kernel
theorem dX12_forge_119 : decode cX12_forge 119 = .ok (.invokevirtual 250, 3) := by decide +kernel
theorem dX12_forge_122 : decode cX12_forge 122 = .ok (.ireturn, 1) := by decide +kernel
theorem dX12_forge_123 : decode cX12_forge 123 = .ok (.aload_n 0, 1) := by decide +kernel
theorem dX12_forge_124 : decode cX12_forge 124 = .ok (.getfield 60, 3) := by decide +kernel
theorem dX12_forge_127 : decode cX12_forge 127 = .ok (.iload 5, 2) := by decide +kernel
theorem dX12_forge_129 : decode cX12_forge 129 = .ok (.iaload, 1) := by decide +kernel
theorem dX12_forge_130 : decode cX12_forge 130 = .ok (.iconst (-1), 1) := by decide +kernel
theorem dX12_forge_131 : decode cX12_forge 131 = .ok (.if_icmp .ne 12, 3) := by decide +kernel
theorem dX12_forge_134 : decode cX12_forge 134 = .ok (.aload_n 0, 1) := by decide +kernel
theorem dX12_forge_135 : decode cX12_forge 135 = .ok (.bipush 10, 2) := by decide +kernel
theorem dX12_forge_137 : decode cX12_forge 137 = .ok (.invokevirtual 253, 3) := by decide +kernel
theorem dX12_forge_140 : decode cX12_forge 140 = .ok (.goto 65, 3) := by decide +kernel
theorem dX12_forge_143 : decode cX12_forge 143 = .ok (.aload_n 0, 1) := by decide +kernel
theorem dX12_forge_144 : decode cX12_forge 144 = .ok (.getfield 60, 3) := by decide +kernel
theorem dX12_forge_147 : decode cX12_forge 147 = .ok (.iload 5, 2) := by decide +kernel
theorem dX12_forge_149 : decode cX12_forge 149 = .ok (.iaload, 1) := by decide +kernel
theorem dX12_forge_150 : decode cX12_forge 150 = .ok (.iconst 1, 1) := by decide +kernel
theorem dX12_forge_151 : decode cX12_forge 151 = .ok (.if_icmp .eq 12, 3) := by decide +kernel
theorem dX12_forge_154 : decode cX12_forge 154 = .ok (.aload_n 0, 1) := by decide +kernel
theorem dX12_forge_155 : decode cX12_forge 155 = .ok (.bipush 11, 2) := by decide +kernel
theorem dX12_forge_157 : decode cX12_forge 157 = .ok (.invokevirtual 253, 3) := by decide +kernel
theorem dX12_forge_160 : decode cX12_forge 160 = .ok (.goto 45, 3) := by decide +kernel
theorem dX12_forge_163 : decode cX12_forge 163 = .ok (.iload_n 2, 1) := by decide +kernel
theorem dX12_forge_164 : decode cX12_forge 164 = .ok (.iconst 0, 1) := by decide +kernel
theorem dX12_forge_165 : decode cX12_forge 165 = .ok (.aload_n 0, 1) := by decide +kernel
theorem dX12_forge_166 : decode cX12_forge 166 = .ok (.getfield 63, 3) := by decide +kernel
theorem dX12_forge_169 : decode cX12_forge 169 = .ok (.iload 5, 2) := by decide +kernel
theorem dX12_forge_171 : decode cX12_forge 171 = .ok (.iaload, 1) := by decide +kernel
theorem dX12_forge_172 : decode cX12_forge 172 = .ok (.iconst 1, 1) := by decide +kernel
theorem dX12_forge_173 : decode cX12_forge 173 = .ok (.isub, 1) := by decide +kernel
theorem dX12_forge_174 : decode cX12_forge 174 = .ok (.invokestatic 218, 3) := by decide +kernel
theorem dX12_forge_177 : decode cX12_forge 177 = .ok (.ifCond .eq 22, 3) := by decide +kernel
theorem dX12_forge_180 : decode cX12_forge 180 = .ok (.aload_n 0, 1) := by decide +kernel
theorem dX12_forge_181 : decode cX12_forge 181 = .ok (.aload_n 0, 1) := by decide +kernel
theorem dX12_forge_182 : decode cX12_forge 182 = .ok (.getfield 66, 3) := by decide +kernel
theorem dX12_forge_185 : decode cX12_forge 185 = .ok (.bipush 40, 2) := by decide +kernel
theorem dX12_forge_187 : decode cX12_forge 187 = .ok (.iload 5, 2) := by decide +kernel
theorem dX12_forge_189 : decode cX12_forge 189 = .ok (.imul, 1) := by decide +kernel
theorem dX12_forge_190 : decode cX12_forge 190 = .ok (.iload_n 2, 1) := by decide +kernel
theorem dX12_forge_191 : decode cX12_forge 191 = .ok (.iadd, 1) := by decide +kernel
theorem dX12_forge_192 : decode cX12_forge 192 = .ok (.iaload, 1) := by decide +kernel
theorem dX12_forge_193 : decode cX12_forge 193 = .ok (.invokevirtual 250, 3) := by decide +kernel
theorem dX12_forge_196 : decode cX12_forge 196 = .ok (.goto 9, 3) := by decide +kernel
theorem dX12_forge_199 : decode cX12_forge 199 = .ok (.aload_n 0, 1) := by decide +kernel
theorem dX12_forge_200 : decode cX12_forge 200 = .ok (.bipush 12, 2) := by decide +kernel
theorem dX12_forge_202 : decode cX12_forge 202 = .ok (.invokevirtual 253, 3) := by decide +kernel
theorem dX12_forge_205 : decode cX12_forge 205 = .ok (.ireturn, 1) := by decide +kernel
theorem dX12_forge_206 : decode cX12_forge 206 = .ok (.aload_n 0, 1) := by decide +kernel
theorem dX12_forge_207 : decode cX12_forge 207 = .ok (.getfield 60, 3) := by decide +kernel
theorem dX12_forge_210 : decode cX12_forge 210 = .ok (.iload 5, 2) := by decide +kernel
theorem dX12_forge_212 : decode cX12_forge 212 = .ok (.iaload, 1) := by decide +kernel
theorem dX12_forge_213 : decode cX12_forge 213 = .ok (.iconst (-1), 1) := by decide +kernel
theorem dX12_forge_214 : decode cX12_forge 214 = .ok (.if_icmp .ne 12, 3) := by decide +kernel
theorem dX12_forge_217 : decode cX12_forge 217 = .ok (.aload_n 0, 1) := by decide +kernel
theorem dX12_forge_218 : decode cX12_forge 218 = .ok (.bipush 10, 2) := by decide +kernel
theorem dX12_forge_220 : decode cX12_forge 220 = .ok (.invokevirtual 253, 3) := by decide +kernel
theorem dX12_forge_223 : decode cX12_forge 223 = .ok (.goto 64, 3) := by decide +kernel
theorem dX12_forge_226 : decode cX12_forge 226 = .ok (.aload_n 0, 1) := by decide +kernel
theorem dX12_forge_227 : decode cX12_forge 227 = .ok (.getfield 60, 3) := by decide +kernel
theorem dX12_forge_230 : decode cX12_forge 230 = .ok (.iload 5, 2) := by decide +kernel
theorem dX12_forge_232 : decode cX12_forge 232 = .ok (.iaload, 1) := by decide +kernel
theorem dX12_forge_233 : decode cX12_forge 233 = .ok (.ifCond .eq 12, 3) := by decide +kernel
theorem dX12_forge_236 : decode cX12_forge 236 = .ok (.aload_n 0, 1) := by decide +kernel
theorem dX12_forge_237 : decode cX12_forge 237 = .ok (.bipush 11, 2) := by decide +kernel
theorem dX12_forge_239 : decode cX12_forge 239 = .ok (.invokevirtual 253, 3) := by decide +kernel
theorem dX12_forge_242 : decode cX12_forge 242 = .ok (.goto 45, 3) := by decide +kernel
theorem dX12_forge_245 : decode cX12_forge 245 = .ok (.iload_n 2, 1) := by decide +kernel
theorem dX12_forge_246 : decode cX12_forge 246 = .ok (.iconst 0, 1) := by decide +kernel
theorem dX12_forge_247 : decode cX12_forge 247 = .ok (.iconst 2, 1) := by decide +kernel
theorem dX12_forge_248 : decode cX12_forge 248 = .ok (.invokestatic 218, 3) := by decide +kernel
theorem dX12_forge_251 : decode cX12_forge 251 = .ok (.ifCond .eq 30, 3) := by decide +kernel
theorem dX12_forge_254 : decode cX12_forge 254 = .ok (.iconst 2, 1) := by decide +kernel
theorem dX12_forge_255 : decode cX12_forge 255 = .ok (.iload_n 2, 1) := by decide +kernel
theorem dX12_forge_256 : decode cX12_forge 256 = .ok (.iadd, 1) := by decide +kernel
theorem dX12_forge_257 : decode cX12_forge 257 = .ok (.aload_n 0, 1) := by decide +kernel
theorem dX12_forge_258 : decode cX12_forge 258 = .ok (.getfield 63, 3) := by decide +kernel
theorem dX12_forge_261 : decode cX12_forge 261 = .ok (.iload 5, 2) := by decide +kernel
theorem dX12_forge_263 : decode cX12_forge 263 = .ok (.iaload, 1) := by decide +kernel
theorem dX12_forge_264 : decode cX12_forge 264 = .ok (.if_icmp .gt 17, 3) := by decide +kernel
theorem dX12_forge_267 : decode cX12_forge 267 = .ok (.aload_n 0, 1) := by decide +kernel
theorem dX12_forge_268 : decode cX12_forge 268 = .ok (.aload_n 0, 1) := by decide +kernel
theorem dX12_forge_269 : decode cX12_forge 269 = .ok (.iload 5, 2) := by decide +kernel
theorem dX12_forge_271 : decode cX12_forge 271 = .ok (.iload_n 2, 1) := by decide +kernel
theorem dX12_forge_272 : decode cX12_forge 272 = .ok (.invokevirtual 571, 3) := by decide +kernel
theorem dX12_forge_275 : decode cX12_forge 275 = .ok (.invokevirtual 250, 3) := by decide +kernel
theorem dX12_forge_278 : decode cX12_forge 278 = .ok (.goto 9, 3) := by decide +kernel
theorem dX12_forge_281 : decode cX12_forge 281 = .ok (.aload_n 0, 1) := by decide +kernel
theorem dX12_forge_282 : decode cX12_forge 282 = .ok (.bipush 12, 2) := by decide +kernel
theorem dX12_forge_284 : decode cX12_forge 284 = .ok (.invokevirtual 253, 3) := by decide +kernel
theorem dX12_forge_287 : decode cX12_forge 287 = .ok (.ireturn, 1) := by decide +kernel
theorem dX12_forge_288 : decode cX12_forge 288 = .ok (.aload_n 0, 1) := by decide +kernel
theorem dX12_forge_289 : decode cX12_forge 289 = .ok (.iload 4, 2) := by decide +kernel
theorem dX12_forge_291 : decode cX12_forge 291 = .ok (.invokevirtual 275, 3) := by decide +kernel
theorem dX12_forge_294 : decode cX12_forge 294 = .ok (.ifCond .ne 11, 3) := by decide +kernel
theorem dX12_forge_297 : decode cX12_forge 297 = .ok (.aload_n 0, 1) := by decide +kernel
theorem dX12_forge_298 : decode cX12_forge 298 = .ok (.iconst 0, 1) := by decide +kernel
theorem dX12_forge_299 : decode cX12_forge 299 = .ok (.invokevirtual 250, 3) := by decide +kernel
theorem dX12_forge_302 : decode cX12_forge 302 = .ok (.goto 32, 3) := by decide +kernel
theorem dX12_forge_305 : decode cX12_forge 305 = .ok (.aload_n 0, 1) := by decide +kernel
theorem dX12_forge_306 : decode cX12_forge 306 = .ok (.iload 4, 2) := by decide +kernel
theorem dX12_forge_308 : decode cX12_forge 308 = .ok (.invokevirtual 544, 3) := by decide +kernel
theorem dX12_forge_311 : decode cX12_forge 311 = .ok (.ifCond .eq 17, 3) := by decide +kernel
theorem dX12_forge_314 : decode cX12_forge 314 = .ok (.aload_n 0, 1) := by decide +kernel
theorem dX12_forge_315 : decode cX12_forge 315 = .ok (.aload_n 0, 1) := by decide +kernel
theorem dX12_forge_316 : decode cX12_forge 316 = .ok (.getfield 13, 3) := by decide +kernel
theorem dX12_forge_319 : decode cX12_forge 319 = .ok (.iload 4, 2) := by decide +kernel
theorem dX12_forge_321 : decode cX12_forge 321 = .ok (.iaload, 1) := by decide +kernel
theorem dX12_forge_322 : decode cX12_forge 322 = .ok (.invokevirtual 250, 3) := by decide +kernel
theorem dX12_forge_325 : decode cX12_forge 325 = .ok (.goto 9, 3) := by decide +kernel
theorem dX12_forge_328 : decode cX12_forge 328 = .ok (.aload_n 0, 1) := by decide +kernel
theorem dX12_forge_329 : decode cX12_forge 329 = .ok (.bipush 14, 2) := by decide +kernel
theorem dX12_forge_331 : decode cX12_forge 331 = .ok (.invokevirtual 253, 3) := by decide +kernel
theorem dX12_forge_334 : decode cX12_forge 334 = .ok (.ireturn, 1) := by decide +kernel
theorem dX12_forge_335 : decode cX12_forge 335 = .ok (.iload_n 2, 1) := by decide +kernel
theorem dX12_forge_336 : decode cX12_forge 336 = .ok (.ifCond .ne 12, 3) := by decide +kernel
theorem dX12_forge_339 : decode cX12_forge 339 = .ok (.aload_n 0, 1) := by decide +kernel
theorem dX12_forge_340 : decode cX12_forge 340 = .ok (.bipush 15, 2) := by decide +kernel
theorem dX12_forge_342 : decode cX12_forge 342 = .ok (.invokevirtual 253, 3) := by decide +kernel
theorem dX12_forge_345 : decode cX12_forge 345 = .ok (.goto 12, 3) := by decide +kernel
theorem dX12_forge_348 : decode cX12_forge 348 = .ok (.aload_n 0, 1) := by decide +kernel
theorem dX12_forge_349 : decode cX12_forge 349 = .ok (.sipush 1000, 3) := by decide +kernel
theorem dX12_forge_352 : decode cX12_forge 352 = .ok (.iload_n 2, 1) := by decide +kernel
theorem dX12_forge_353 : decode cX12_forge 353 = .ok (.idiv, 1) := by decide +kernel
theorem dX12_forge_354 : decode cX12_forge 354 = .ok (.invokevirtual 250, 3) := by decide +kernel
theorem dX12_forge_357 : decode cX12_forge 357 = .ok (.ireturn, 1) := by decide +kernel
theorem dX12_forge_358 : decode cX12_forge 358 = .ok (.iload_n 2, 1) := by decide +kernel
theorem dX12_forge_359 : decode cX12_forge 359 = .ok (.iconst 1, 1) := by decide +kernel
theorem dX12_forge_360 : decode cX12_forge 360 = .ok (.iand, 1) := by decide +kernel
theorem dX12_forge_361 : decode cX12_forge 361 = .ok (.ifCond .ne 12, 3) := by decide +kernel
theorem dX12_forge_364 : decode cX12_forge 364 = .ok (.aload_n 0, 1) := by decide +kernel
theorem dX12_forge_365 : decode cX12_forge 365 = .ok (.bipush 10, 2) := by decide +kernel
theorem dX12_forge_367 : decode cX12_forge 367 = .ok (.invokevirtual 253, 3) := by decide +kernel
theorem dX12_forge_370 : decode cX12_forge 370 = .ok (.goto 8, 3) := by decide +kernel
theorem dX12_forge_373 : decode cX12_forge 373 = .ok (.aload_n 0, 1) := by decide +kernel
theorem dX12_forge_374 : decode cX12_forge 374 = .ok (.iconst 1, 1) := by decide +kernel
theorem dX12_forge_375 : decode cX12_forge 375 = .ok (.invokevirtual 250, 3) := by decide +kernel
theorem dX12_forge_378 : decode cX12_forge 378 = .ok (.ireturn, 1) := by decide +kernel
theorem dX12_status_0 : decode cX12_status 0 = .ok (.aload_n 0, 1) := by decide +kernel
theorem dX12_status_1 : decode cX12_status 1 = .ok (.getfield 212, 3) := by decide +kernel
theorem dX12_status_4 : decode cX12_status 4 = .ok (.ireturn, 1) := by decide +kernel
theorem eX12_isOfOne {G : GG} {d rc rs : Nat} (o : Nat) (a1 : Int32) (a2 : Int32)  {M : Mem} {Q : Option Value → Mem → Prop} (h : (x_h M o).1 = 28 ∧ Call G d 0 0 mX12_canAsk [.ref o, .int a1] M (fun r2 M3 => ∃ v4 : Int32, r2 = some (.int v4) ∧ (v4 = 0 → Q (some (.int 0)) M3) ∧ (¬ v4 = 0 → (x_h M3 o).1 = 28 ∧ (∃ b7, x_r M3 o 11 = some b7 ∧ (x_h M3 b7).1 = 1 ∧ vp_in a1 (x_h M3 b7).2 ∧ Call G d 0 0 mX12_bits [.int (x_i M3 b7 a1.toNatClampNeg)] M3 (fun r10 M11 => ∃ v12 : Int32, r10 = some (.int v12) ∧ (¬ v12 = a2 → Q (some (.int 0)) M11) ∧ (v12 = a2 → Q (some (.int 1)) M11)))))) : Call G (d + 1) rc rs mX12_isOfOne [.ref o, .int a1, .int a2] M Q := by
  refine call_of (by decide) (Nat.le_of_ble_eq_true rfl) ?_
  show Wk G (d + 1) rc rs mX12_isOfOne 0 [some (.ref o), some (.int a1), some (.int a2)] [] M Q
  refine r_aload_n (pc := 0) (i := 0) dX12_isOfOne_0 rfl rfl ?_
  refine r_iload_n (pc := 1) (i := 1) dX12_isOfOne_1 rfl rfl ?_
  obtain ⟨k1, h⟩ := h
  refine r_callV (pc := 2) (ci := 12) (as := [_]) (st := []) okX12_canAsk lkX12_286 inX12_canAsk seX12_canAsk ⟨_, rfl, rfl⟩ dX12_isOfOne_2 rfl k1 (Nat.le_of_ble_eq_true rfl) (Nat.zero_le _) (Nat.zero_le _) (Call.mono h (fun r2 M3 h => ?_))
  obtain ⟨v4, rfl, h⟩ := h
  refine r_if_eq (pc := 5) (tgt := 25) dX12_isOfOne_5 (by decide) (fun c5 => ?_) (fun c5 => ?_)
  · replace h := h.1 c5
    refine r_iconst (pc := 25) (v := 0) dX12_isOfOne_25 (by decide) ?_
    exact r_zret (pc := 26) dX12_isOfOne_26 rfl (Or.inl rfl) h
  · replace h := h.2 c5
    refine r_aload_n (pc := 8) (i := 0) dX12_isOfOne_8 rfl rfl ?_
    obtain ⟨k6, h⟩ := h
    obtain ⟨b7, hb7, h⟩ := h
    refine r_getr (pc := 9) flX12_38 dX12_isOfOne_9 rfl k6 hb7 ?_
    refine r_iload_n (pc := 12) (i := 1) dX12_isOfOne_12 rfl rfl ?_
    obtain ⟨k8, h⟩ := h
    obtain ⟨i9, h⟩ := h
    refine r_iald (pc := 13) dX12_isOfOne_13 k8 i9 ?_
    refine r_callS (pc := 14) (as := [_]) (st := []) okX12_bits lkX12_222 stX12_bits dX12_isOfOne_14 rfl (Nat.le_of_ble_eq_true rfl) (Nat.zero_le _) (Nat.zero_le _) (Call.mono h (fun r10 M11 h => ?_))
    obtain ⟨v12, rfl, h⟩ := h
    refine r_iload_n (pc := 17) (i := 2) dX12_isOfOne_17 rfl rfl ?_
    refine r_icmp_ne (pc := 18) (tgt := 25) dX12_isOfOne_18 (by decide) (fun c13 => ?_) (fun c13 => ?_)
    · replace h := h.1 c13
      refine r_iconst (pc := 25) (v := 0) dX12_isOfOne_25 (by decide) ?_
      exact r_zret (pc := 26) dX12_isOfOne_26 rfl (Or.inl rfl) h
    · replace h := h.2 c13
      refine r_iconst (pc := 21) (v := 1) dX12_isOfOne_21 (by decide) ?_
      refine r_goto (pc := 22) (tgt := 26) dX12_isOfOne_22 (by decide) ?_
      exact r_zret (pc := 26) dX12_isOfOne_26 rfl (Or.inr rfl) h
abbrev LX12_next__48 (G : GG) (d rc rs : Nat) (p0 : Nat) (x1 : Int32) (l2 : Int64) (M : Mem) (Q : Option Value → Mem → Prop) : Prop := Wk G (d + 1) rc rs mX12_next_ 48 [some (.ref p0), some (.int x1), some (.long l2), none, none, none, none] [] M Q
abbrev LX12_next__81 (G : GG) (d rc rs : Nat) (p0 : Nat) (x1 : Int32) (l2 : Int64) (x4 : Int32) (M : Mem) (Q : Option Value → Mem → Prop) : Prop := Wk G (d + 1) rc rs mX12_next_ 81 [some (.ref p0), some (.int x1), some (.long l2), none, some (.int x4), none, none] [] M Q
abbrev LX12_next__126 (G : GG) (d rc rs : Nat) (p0 : Nat) (x1 : Int32) (l2 : Int64) (x4 : Int32) (z5 : Option Value) (z6 : Option Value) (M : Mem) (Q : Option Value → Mem → Prop) : Prop := Wk G (d + 1) rc rs mX12_next_ 126 [some (.ref p0), some (.int x1), some (.long l2), none, some (.int x4), z5, z6] [] M Q
abbrev LX12_next__142 (G : GG) (d rc rs : Nat) (p0 : Nat) (x1 : Int32) (l2 : Int64) (x4 : Int32) (x5 : Int32) (z6 : Option Value) (M : Mem) (Q : Option Value → Mem → Prop) : Prop := Wk G (d + 1) rc rs mX12_next_ 142 [some (.ref p0), some (.int x1), some (.long l2), none, some (.int x4), some (.int x5), z6] [] M Q
theorem eX12_next_ {G : GG} {d rc rs : Nat} (o : Nat) (a1 : Int32) (a2 : Int64)  {M : Mem} {Q : Option Value → Mem → Prop} (h : (x_h M o).1 = 28 ∧ Call G d 0 0 mX12_isOfOne [.ref o, .int a1, .int 1] M (fun r2 M3 => ∃ v4 : Int32, r2 = some (.int v4) ∧ (v4 = 0 → Q (some (.long (-2))) M3) ∧ (¬ v4 = 0 → Call G d 0 0 mX12_isOutside [.long a2, .long (-1), .long 4611686018427387904] M3 (fun r6 M7 => ∃ v8 : Int32, r6 = some (.int v8) ∧ (v8 = 0 → (¬ (lg_cmp a2 (-1)) = 0 → LX12_next__48 G d rc rs o a1 a2 M7 Q) ∧ ((lg_cmp a2 (-1)) = 0 → (x_h M7 o).1 = 28 ∧ (∃ b12, x_r M7 o 16 = some b12 ∧ (x_h M7 b12).1 = 3 ∧ vp_in (40 * a1) (x_h M7 b12).2 ∧ ((x_i M7 b12 (40 * a1).toNatClampNeg) = 0 → LX12_next__48 G d rc rs o a1 a2 M7 Q) ∧ (¬ (x_i M7 b12 (40 * a1).toNatClampNeg) = 0 → Q (some (.long 0)) M7)))) ∧ (¬ v8 = 0 → Q (some (.long (-2))) M7))))) : Call G (d + 1) rc rs mX12_next_ [.ref o, .int a1, .long a2] M Q := by
  refine call_of (by decide) (Nat.le_of_ble_eq_true rfl) ?_
  show Wk G (d + 1) rc rs mX12_next_ 0 [some (.ref o), some (.int a1), some (.long a2), none, none, none, none] [] M Q
  refine r_aload_n (pc := 0) (i := 0) dX12_next__0 rfl rfl ?_
  refine r_iload_n (pc := 1) (i := 1) dX12_next__1 rfl rfl ?_
  refine r_iconst (pc := 2) (v := 1) dX12_next__2 (by decide) ?_
  obtain ⟨k1, h⟩ := h
  refine r_callV (pc := 3) (ci := 12) (as := [_, _]) (st := []) okX12_isOfOne lkX12_509 inX12_isOfOne seX12_isOfOne ⟨_, rfl, rfl⟩ dX12_next__3 rfl k1 (Nat.le_of_ble_eq_true rfl) (Nat.zero_le _) (Nat.zero_le _) (Call.mono h (fun r2 M3 h => ?_))
  obtain ⟨v4, rfl, h⟩ := h
  refine r_if_eq (pc := 6) (tgt := 22) dX12_next__6 (by decide) (fun c5 => ?_) (fun c5 => ?_)
  · replace h := h.1 c5
    refine r_ldc2 (pc := 22) (v := (-2)) dX12_next__22 ww_1777 ?_
    exact r_lret (pc := 25) dX12_next__25 rfl h
  · replace h := h.2 c5
    refine r_lload_n (pc := 9) (i := 2) dX12_next__9 rfl rfl ?_
    refine r_ldc2 (pc := 10) (v := (-1)) dX12_next__10 ww_1784 ?_
    refine r_ldc2 (pc := 13) (v := 4611686018427387904) dX12_next__13 ww_1761 ?_
    refine r_callS (pc := 16) (as := [_, _, _]) (st := []) okX12_isOutside lkX12_483 stX12_isOutside dX12_next__16 rfl (Nat.le_of_ble_eq_true rfl) (Nat.zero_le _) (Nat.zero_le _) (Call.mono h (fun r6 M7 h => ?_))
    obtain ⟨v8, rfl, h⟩ := h
    refine r_if_eq (pc := 19) (tgt := 26) dX12_next__19 (by decide) (fun c9 => ?_) (fun c9 => ?_)
    · replace h := h.1 c9
      refine r_lload_n (pc := 26) (i := 2) dX12_next__26 rfl rfl ?_
      refine r_ldc2 (pc := 27) (v := (-1)) dX12_next__27 ww_1784 ?_
      refine r_lcmp (pc := 30) dX12_next__30 ?_
      refine r_if_ne (pc := 31) (tgt := 48) dX12_next__31 (by decide) (fun c10 => ?_) (fun c10 => ?_)
      · replace h := h.1 c10
        exact h
      · replace h := h.2 c10
        refine r_aload_n (pc := 34) (i := 0) dX12_next__34 rfl rfl ?_
        obtain ⟨k11, h⟩ := h
        obtain ⟨b12, hb12, h⟩ := h
        refine r_getr (pc := 35) flX12_53 dX12_next__35 rfl k11 hb12 ?_
        refine r_bipush (pc := 38) (v := 40) dX12_next__38 (by decide) ?_
        refine r_iload_n (pc := 40) (i := 1) dX12_next__40 rfl rfl ?_
        refine r_imul (pc := 41) dX12_next__41 ?_
        obtain ⟨k13, h⟩ := h
        obtain ⟨i14, h⟩ := h
        refine r_zald (pc := 42) dX12_next__42 k13 i14 ?_
        refine r_if_eq (pc := 43) (tgt := 48) dX12_next__43 (by decide) (fun c15 => ?_) (fun c15 => ?_)
        · replace h := h.1 c15
          exact h
        · replace h := h.2 c15
          refine r_lconst (pc := 46) (v := 0) dX12_next__46 (by decide) ?_
          exact r_lret (pc := 47) dX12_next__47 rfl h
    · replace h := h.2 c9
      refine r_ldc2 (pc := 22) (v := (-2)) dX12_next__22 ww_1777 ?_
      exact r_lret (pc := 25) dX12_next__25 rfl h
theorem vX12_next__48 {G : GG} {d rc rs : Nat} (p0 : Nat) (x1 : Int32) (l2 : Int64)  {M : Mem} {Q : Option Value → Mem → Prop} (h : (x_h M p0).1 = 28 ∧ Call G d 0 0 mX12_leadsAll [.ref p0, .int x1] M (fun r2 M3 => r2 = none ∧ (0 ≤ (lg_cmp l2 0) → (x_h M3 p0).1 = 28 ∧ Call G d 0 0 mX12_digitsOf [.ref p0, .int 0, .long l2, .int 110] M3 (fun r6 M7 => r6 = none ∧ (x_h M7 p0).1 = 28 ∧ (∃ b9, x_r M7 p0 88 = some b9 ∧ (x_h M7 b9).1 = 1 ∧ vp_in 0 (x_h M7 b9).2 ∧ (∀ M12, M12 = x_si M7 b9 (0 : Int32).toNatClampNeg 0 → LX12_next__81 G d rc rs p0 x1 l2 0 M12 Q)))) ∧ (¬ 0 ≤ (lg_cmp l2 0) → (x_h M3 p0).1 = 28 ∧ Call G d 0 0 mX12_digitsOf [.ref p0, .int 0, .long 0, .int 110] M3 (fun r14 M15 => r14 = none ∧ (x_h M15 p0).1 = 28 ∧ (∃ b17, x_r M15 p0 88 = some b17 ∧ (x_h M15 b17).1 = 1 ∧ vp_in 0 (x_h M15 b17).2 ∧ (∀ M20, M20 = x_si M15 b17 (0 : Int32).toNatClampNeg 0 → LX12_next__81 G d rc rs p0 x1 l2 0 M20 Q)))))) : LX12_next__48 G d rc rs p0 x1 l2 M Q := by
  show Wk G (d + 1) rc rs mX12_next_ 48 _ _ M Q
  refine r_aload_n (pc := 48) (i := 0) dX12_next__48 rfl rfl ?_
  refine r_iload_n (pc := 49) (i := 1) dX12_next__49 rfl rfl ?_
  obtain ⟨k1, h⟩ := h
  refine r_callV (pc := 50) (ci := 12) (as := [_]) (st := []) okX12_leadsAll lkX12_512 inX12_leadsAll seX12_leadsAll ⟨_, rfl, rfl⟩ dX12_next__50 rfl k1 (Nat.le_of_ble_eq_true rfl) (Nat.zero_le _) (Nat.zero_le _) (Call.mono h (fun r2 M3 h => ?_))
  obtain ⟨rfl, h⟩ := h
  refine r_aload_n (pc := 53) (i := 0) dX12_next__53 rfl rfl ?_
  refine r_iconst (pc := 54) (v := 0) dX12_next__54 (by decide) ?_
  refine r_lload_n (pc := 55) (i := 2) dX12_next__55 rfl rfl ?_
  refine r_lconst (pc := 56) (v := 0) dX12_next__56 (by decide) ?_
  refine r_lcmp (pc := 57) dX12_next__57 ?_
  refine r_if_ge (pc := 58) (tgt := 65) dX12_next__58 (by decide) (fun c4 => ?_) (fun c4 => ?_)
  · replace h := h.1 c4
    refine r_lload_n (pc := 65) (i := 2) dX12_next__65 rfl rfl ?_
    refine r_bipush (pc := 66) (v := 110) dX12_next__66 (by decide) ?_
    obtain ⟨k5, h⟩ := h
    refine r_callV (pc := 68) (ci := 12) (as := [_, _, _]) (st := []) okX12_digitsOf lkX12_487 inX12_digitsOf seX12_digitsOf ⟨_, rfl, rfl⟩ dX12_next__68 rfl k5 (Nat.le_of_ble_eq_true rfl) (Nat.zero_le _) (Nat.zero_le _) (Call.mono h (fun r6 M7 h => ?_))
    obtain ⟨rfl, h⟩ := h
    refine r_aload_n (pc := 71) (i := 0) dX12_next__71 rfl rfl ?_
    obtain ⟨k8, h⟩ := h
    obtain ⟨b9, hb9, h⟩ := h
    refine r_getr (pc := 72) flX12_200 dX12_next__72 rfl k8 hb9 ?_
    refine r_iconst (pc := 75) (v := 0) dX12_next__75 (by decide) ?_
    refine r_iconst (pc := 76) (v := 0) dX12_next__76 (by decide) ?_
    obtain ⟨k10, h⟩ := h
    obtain ⟨i11, h⟩ := h
    refine r_iast (pc := 77) dX12_next__77 k10 i11 ?_
    replace h := h _ rfl
    refine r_iconst (pc := 78) (v := 0) dX12_next__78 (by decide) ?_
    refine r_istore (pc := 79) (i := 4) dX12_next__79 rfl (Nat.le_of_ble_eq_true rfl) ?_
    exact h
  · replace h := h.2 c4
    refine r_lconst (pc := 61) (v := 0) dX12_next__61 (by decide) ?_
    refine r_goto (pc := 62) (tgt := 66) dX12_next__62 (by decide) ?_
    refine r_bipush (pc := 66) (v := 110) dX12_next__66 (by decide) ?_
    obtain ⟨k13, h⟩ := h
    refine r_callV (pc := 68) (ci := 12) (as := [_, _, _]) (st := []) okX12_digitsOf lkX12_487 inX12_digitsOf seX12_digitsOf ⟨_, rfl, rfl⟩ dX12_next__68 rfl k13 (Nat.le_of_ble_eq_true rfl) (Nat.zero_le _) (Nat.zero_le _) (Call.mono h (fun r14 M15 h => ?_))
    obtain ⟨rfl, h⟩ := h
    refine r_aload_n (pc := 71) (i := 0) dX12_next__71 rfl rfl ?_
    obtain ⟨k16, h⟩ := h
    obtain ⟨b17, hb17, h⟩ := h
    refine r_getr (pc := 72) flX12_200 dX12_next__72 rfl k16 hb17 ?_
    refine r_iconst (pc := 75) (v := 0) dX12_next__75 (by decide) ?_
    refine r_iconst (pc := 76) (v := 0) dX12_next__76 (by decide) ?_
    obtain ⟨k18, h⟩ := h
    obtain ⟨i19, h⟩ := h
    refine r_iast (pc := 77) dX12_next__77 k18 i19 ?_
    replace h := h _ rfl
    refine r_iconst (pc := 78) (v := 0) dX12_next__78 (by decide) ?_
    refine r_istore (pc := 79) (i := 4) dX12_next__79 rfl (Nat.le_of_ble_eq_true rfl) ?_
    exact h
theorem vX12_next__81 {G : GG} {d rc rs : Nat} (p0 : Nat) (x1 : Int32) (l2 : Int64) (x4 : Int32)  {M : Mem} {Q : Option Value → Mem → Prop} (h : (110 ≤ x4 → LX12_next__126 G d rc rs p0 x1 l2 109 none none M Q) ∧ (¬ 110 ≤ x4 → (x_h M p0).1 = 28 ∧ (∃ b3, x_r M p0 88 = some b3 ∧ (x_h M b3).1 = 1 ∧ vp_in x4 (x_h M b3).2 ∧ (∃ b6, x_r M p0 85 = some b6 ∧ (x_h M b6).1 = 1 ∧ vp_in x4 (x_h M b6).2 ∧ Call G d 0 0 mX12_to [.ref p0, .int x1, .int (x_i M b3 x4.toNatClampNeg), .int (x_i M b6 x4.toNatClampNeg)] M (fun r9 M10 => ∃ v11 : Int32, r9 = some (.int v11) ∧ (x_h M10 b3).1 = 1 ∧ vp_in (x4 + 1) (x_h M10 b3).2 ∧ (∀ M14, M14 = x_si M10 b3 (x4 + 1).toNatClampNeg v11 → LX12_next__81 G d rc rs p0 x1 l2 (x4 + 1) M14 Q)))))) : LX12_next__81 G d rc rs p0 x1 l2 x4 M Q := by
  show Wk G (d + 1) rc rs mX12_next_ 81 _ _ M Q
  refine r_iload (pc := 81) (i := 4) dX12_next__81 rfl ?_
  refine r_bipush (pc := 83) (v := 110) dX12_next__83 (by decide) ?_
  refine r_icmp_ge (pc := 85) (tgt := 122) dX12_next__85 (by decide) (fun c1 => ?_) (fun c1 => ?_)
  · replace h := h.1 c1
    refine r_bipush (pc := 122) (v := 109) dX12_next__122 (by decide) ?_
    refine r_istore (pc := 124) (i := 4) dX12_next__124 rfl (Nat.le_of_ble_eq_true rfl) ?_
    exact h
  · replace h := h.2 c1
    refine r_aload_n (pc := 88) (i := 0) dX12_next__88 rfl rfl ?_
    obtain ⟨k2, h⟩ := h
    obtain ⟨b3, hb3, h⟩ := h
    refine r_getr (pc := 89) flX12_200 dX12_next__89 rfl k2 hb3 ?_
    refine r_iload (pc := 92) (i := 4) dX12_next__92 rfl ?_
    refine r_iconst (pc := 94) (v := 1) dX12_next__94 (by decide) ?_
    refine r_iadd (pc := 95) dX12_next__95 ?_
    refine r_aload_n (pc := 96) (i := 0) dX12_next__96 rfl rfl ?_
    refine r_iload_n (pc := 97) (i := 1) dX12_next__97 rfl rfl ?_
    refine r_aload_n (pc := 98) (i := 0) dX12_next__98 rfl rfl ?_
    refine r_getr (pc := 99) flX12_200 dX12_next__99 rfl k2 hb3 ?_
    refine r_iload (pc := 102) (i := 4) dX12_next__102 rfl ?_
    obtain ⟨k4, h⟩ := h
    obtain ⟨i5, h⟩ := h
    refine r_iald (pc := 104) dX12_next__104 k4 i5 ?_
    refine r_aload_n (pc := 105) (i := 0) dX12_next__105 rfl rfl ?_
    obtain ⟨b6, hb6, h⟩ := h
    refine r_getr (pc := 106) flX12_191 dX12_next__106 rfl k2 hb6 ?_
    refine r_iload (pc := 109) (i := 4) dX12_next__109 rfl ?_
    obtain ⟨k7, h⟩ := h
    obtain ⟨i8, h⟩ := h
    refine r_iald (pc := 111) dX12_next__111 k7 i8 ?_
    refine r_callV (pc := 112) (ci := 12) (as := [_, _, _]) (st := [_, _]) okX12_to lkX12_506 inX12_to seX12_to ⟨_, rfl, rfl⟩ dX12_next__112 rfl k2 (Nat.le_of_ble_eq_true rfl) (Nat.zero_le _) (Nat.zero_le _) (Call.mono h (fun r9 M10 h => ?_))
    obtain ⟨v11, rfl, h⟩ := h
    obtain ⟨k12, h⟩ := h
    obtain ⟨i13, h⟩ := h
    refine r_iast (pc := 115) dX12_next__115 k12 i13 ?_
    replace h := h _ rfl
    refine r_iinc (pc := 116) (i := 4) (v := _ + 1) dX12_next__116 rfl rfl rfl ?_
    refine r_goto (pc := 119) (tgt := 81) dX12_next__119 (by decide) ?_
    exact h
theorem vX12_next__126 {G : GG} {d rc rs : Nat} (p0 : Nat) (x1 : Int32) (l2 : Int64) (x4 : Int32) (z5 : Option Value) (z6 : Option Value) (hz5 : c1 z5 = true) (hz6 : c1 z6 = true) {M : Mem} {Q : Option Value → Mem → Prop} (h : (x4 < 0 → Q (some (.long (-1))) M) ∧ (¬ x4 < 0 → (x_h M p0).1 = 28 ∧ (∃ b3, x_r M p0 85 = some b3 ∧ (x_h M b3).1 = 1 ∧ vp_in x4 (x_h M b3).2 ∧ LX12_next__142 G d rc rs p0 x1 l2 x4 ((x_i M b3 x4.toNatClampNeg) + 1) z6 M Q))) : LX12_next__126 G d rc rs p0 x1 l2 x4 z5 z6 M Q := by
  show Wk G (d + 1) rc rs mX12_next_ 126 _ _ M Q
  refine r_iload (pc := 126) (i := 4) dX12_next__126 rfl ?_
  refine r_if_lt (pc := 128) (tgt := 210) dX12_next__128 (by decide) (fun c1 => ?_) (fun c1 => ?_)
  · replace h := h.1 c1
    refine r_ldc2 (pc := 210) (v := (-1)) dX12_next__210 ww_1784 ?_
    exact r_lret (pc := 213) dX12_next__213 rfl h
  · replace h := h.2 c1
    refine r_aload_n (pc := 131) (i := 0) dX12_next__131 rfl rfl ?_
    obtain ⟨k2, h⟩ := h
    obtain ⟨b3, hb3, h⟩ := h
    refine r_getr (pc := 132) flX12_191 dX12_next__132 rfl k2 hb3 ?_
    refine r_iload (pc := 135) (i := 4) dX12_next__135 rfl ?_
    obtain ⟨k4, h⟩ := h
    obtain ⟨i5, h⟩ := h
    refine r_iald (pc := 137) dX12_next__137 k4 i5 ?_
    refine r_iconst (pc := 138) (v := 1) dX12_next__138 (by decide) ?_
    refine r_iadd (pc := 139) dX12_next__139 ?_
    refine r_istore (pc := 140) (i := 5) dX12_next__140 rfl (Nat.le_of_ble_eq_true rfl) ?_
    exact h
theorem vX12_next__142 {G : GG} {d rc rs : Nat} (p0 : Nat) (x1 : Int32) (l2 : Int64) (x4 : Int32) (x5 : Int32) (z6 : Option Value) (hz6 : c1 z6 = true) {M : Mem} {Q : Option Value → Mem → Prop} (h : (x_h M p0).1 = 28 ∧ ((x_i M p0 0) ≤ x5 → LX12_next__126 G d rc rs p0 x1 l2 (x4 + (-1)) (some (.int x5)) z6 M Q) ∧ (¬ (x_i M p0 0) ≤ x5 → ∃ b3, x_r M p0 88 = some b3 ∧ (x_h M b3).1 = 1 ∧ vp_in x4 (x_h M b3).2 ∧ Call G d 0 0 mX12_to [.ref p0, .int x1, .int (x_i M b3 x4.toNatClampNeg), .int x5] M (fun r6 M7 => ∃ v8 : Int32, r6 = some (.int v8) ∧ (x_h M7 p0).1 = 28 ∧ (∃ b10, x_r M7 p0 87 = some b10 ∧ (x_h M7 b10).1 = 3 ∧ vp_in ((40 * (109 - x4)) + v8) (x_h M7 b10).2 ∧ ((x_i M7 b10 ((40 * (109 - x4)) + v8).toNatClampNeg) = 0 → LX12_next__142 G d rc rs p0 x1 l2 x4 (x5 + 1) (some (.int v8)) M7 Q) ∧ (¬ (x_i M7 b10 ((40 * (109 - x4)) + v8).toNatClampNeg) = 0 → Call G d 0 0 mX12_lowest [.ref p0, .int x1, .int x4, .int x5, .int v8] M7 (fun r14 M15 => ∃ v16 : Int64, r14 = some (.long v16) ∧ Q (some (.long v16)) M15)))))) : LX12_next__142 G d rc rs p0 x1 l2 x4 x5 z6 M Q := by
  show Wk G (d + 1) rc rs mX12_next_ 142 _ _ M Q
  refine r_iload (pc := 142) (i := 5) dX12_next__142 rfl ?_
  refine r_aload_n (pc := 144) (i := 0) dX12_next__144 rfl rfl ?_
  obtain ⟨k1, h⟩ := h
  refine r_geti (pc := 145) flX12_7 dX12_next__145 (Or.inl rfl) k1 ?_
  refine r_icmp_ge (pc := 148) (tgt := 204) dX12_next__148 (by decide) (fun c2 => ?_) (fun c2 => ?_)
  · replace h := h.1 c2
    refine r_iinc (pc := 204) (i := 4) (v := _ + (-1)) dX12_next__204 rfl rfl rfl ?_
    refine r_goto (pc := 207) (tgt := 126) dX12_next__207 (by decide) ?_
    exact h
  · replace h := h.2 c2
    refine r_aload_n (pc := 151) (i := 0) dX12_next__151 rfl rfl ?_
    refine r_iload_n (pc := 152) (i := 1) dX12_next__152 rfl rfl ?_
    refine r_aload_n (pc := 153) (i := 0) dX12_next__153 rfl rfl ?_
    obtain ⟨b3, hb3, h⟩ := h
    refine r_getr (pc := 154) flX12_200 dX12_next__154 rfl k1 hb3 ?_
    refine r_iload (pc := 157) (i := 4) dX12_next__157 rfl ?_
    obtain ⟨k4, h⟩ := h
    obtain ⟨i5, h⟩ := h
    refine r_iald (pc := 159) dX12_next__159 k4 i5 ?_
    refine r_iload (pc := 160) (i := 5) dX12_next__160 rfl ?_
    refine r_callV (pc := 162) (ci := 12) (as := [_, _, _]) (st := []) okX12_to lkX12_506 inX12_to seX12_to ⟨_, rfl, rfl⟩ dX12_next__162 rfl k1 (Nat.le_of_ble_eq_true rfl) (Nat.zero_le _) (Nat.zero_le _) (Call.mono h (fun r6 M7 h => ?_))
    obtain ⟨v8, rfl, h⟩ := h
    refine r_istore (pc := 165) (i := 6) dX12_next__165 rfl (Nat.le_of_ble_eq_true rfl) ?_
    refine r_aload_n (pc := 167) (i := 0) dX12_next__167 rfl rfl ?_
    obtain ⟨k9, h⟩ := h
    obtain ⟨b10, hb10, h⟩ := h
    refine r_getr (pc := 168) flX12_197 dX12_next__168 rfl k9 hb10 ?_
    refine r_bipush (pc := 171) (v := 40) dX12_next__171 (by decide) ?_
    refine r_bipush (pc := 173) (v := 109) dX12_next__173 (by decide) ?_
    refine r_iload (pc := 175) (i := 4) dX12_next__175 rfl ?_
    refine r_isub (pc := 177) dX12_next__177 ?_
    refine r_imul (pc := 178) dX12_next__178 ?_
    refine r_iload (pc := 179) (i := 6) dX12_next__179 rfl ?_
    refine r_iadd (pc := 181) dX12_next__181 ?_
    obtain ⟨k11, h⟩ := h
    obtain ⟨i12, h⟩ := h
    refine r_zald (pc := 182) dX12_next__182 k11 i12 ?_
    refine r_if_eq (pc := 183) (tgt := 198) dX12_next__183 (by decide) (fun c13 => ?_) (fun c13 => ?_)
    · replace h := h.1 c13
      refine r_iinc (pc := 198) (i := 5) (v := _ + 1) dX12_next__198 rfl rfl rfl ?_
      refine r_goto (pc := 201) (tgt := 142) dX12_next__201 (by decide) ?_
      exact h
    · replace h := h.2 c13
      refine r_aload_n (pc := 186) (i := 0) dX12_next__186 rfl rfl ?_
      refine r_iload_n (pc := 187) (i := 1) dX12_next__187 rfl rfl ?_
      refine r_iload (pc := 188) (i := 4) dX12_next__188 rfl ?_
      refine r_iload (pc := 190) (i := 5) dX12_next__190 rfl ?_
      refine r_iload (pc := 192) (i := 6) dX12_next__192 rfl ?_
      refine r_callV (pc := 194) (ci := 12) (as := [_, _, _, _]) (st := []) okX12_lowest lkX12_515 inX12_lowest seX12_lowest ⟨_, rfl, rfl⟩ dX12_next__194 rfl k9 (Nat.le_of_ble_eq_true rfl) (Nat.zero_le _) (Nat.zero_le _) (Call.mono h (fun r14 M15 h => ?_))
      obtain ⟨v16, rfl, h⟩ := h
      exact r_lret (pc := 197) dX12_next__197 rfl h
abbrev LX12_lowest_6 (G : GG) (d rc rs : Nat) (p0 : Nat) (x1 : Int32) (x2 : Int32) (x3 : Int32) (x4 : Int32) (l5 : Int64) (x7 : Int32) (M : Mem) (Q : Option Value → Mem → Prop) : Prop := Wk G (d + 1) rc rs mX12_lowest 6 [some (.ref p0), some (.int x1), some (.int x2), some (.int x3), some (.int x4), some (.long l5), none, some (.int x7), none, none] [] M Q
abbrev LX12_lowest_51 (G : GG) (d rc rs : Nat) (p0 : Nat) (x1 : Int32) (x2 : Int32) (x3 : Int32) (x4 : Int32) (l5 : Int64) (x7 : Int32) (x8 : Int32) (z9 : Option Value) (M : Mem) (Q : Option Value → Mem → Prop) : Prop := Wk G (d + 1) rc rs mX12_lowest 51 [some (.ref p0), some (.int x1), some (.int x2), some (.int x3), some (.int x4), some (.long l5), none, some (.int x7), some (.int x8), z9] [] M Q
abbrev LX12_lowest_61 (G : GG) (d rc rs : Nat) (p0 : Nat) (x1 : Int32) (x2 : Int32) (x3 : Int32) (x4 : Int32) (l5 : Int64) (x7 : Int32) (x8 : Int32) (x9 : Int32) (M : Mem) (Q : Option Value → Mem → Prop) : Prop := Wk G (d + 1) rc rs mX12_lowest 61 [some (.ref p0), some (.int x1), some (.int x2), some (.int x3), some (.int x4), some (.long l5), none, some (.int x7), some (.int x8), some (.int x9)] [] M Q
theorem eX12_lowest {G : GG} {d rc rs : Nat} (o : Nat) (a1 : Int32) (a2 : Int32) (a3 : Int32) (a4 : Int32)  {M : Mem} {Q : Option Value → Mem → Prop} (h : LX12_lowest_6 G d rc rs o a1 a2 a3 a4 0 0 M Q) : Call G (d + 1) rc rs mX12_lowest [.ref o, .int a1, .int a2, .int a3, .int a4] M Q := by
  refine call_of (by decide) (Nat.le_of_ble_eq_true rfl) ?_
  show Wk G (d + 1) rc rs mX12_lowest 0 [some (.ref o), some (.int a1), some (.int a2), some (.int a3), some (.int a4), none, none, none, none, none] [] M Q
  refine r_lconst (pc := 0) (v := 0) dX12_lowest_0 (by decide) ?_
  refine r_lstore (pc := 1) (i := 5) dX12_lowest_1 rfl (Nat.le_of_ble_eq_true rfl) ?_
  refine r_iconst (pc := 3) (v := 0) dX12_lowest_3 (by decide) ?_
  refine r_istore (pc := 4) (i := 7) dX12_lowest_4 rfl (Nat.le_of_ble_eq_true rfl) ?_
  exact h
theorem vX12_lowest_6 {G : GG} {d rc rs : Nat} (p0 : Nat) (x1 : Int32) (x2 : Int32) (x3 : Int32) (x4 : Int32) (l5 : Int64) (x7 : Int32)  {M : Mem} {Q : Option Value → Mem → Prop} (h : (x2 ≤ x7 → (x_h M p0).1 = 28 ∧ Call G d 0 0 mX12_longer [.ref p0, .long l5, .int x3] M (fun r3 M4 => ∃ v5 : Int64, r3 = some (.long v5) ∧ LX12_lowest_51 G d rc rs p0 x1 x2 x3 x4 v5 x4 (x2 + 1) none M4 Q)) ∧ (¬ x2 ≤ x7 → (x_h M p0).1 = 28 ∧ (∃ b7, x_r M p0 85 = some b7 ∧ (x_h M b7).1 = 1 ∧ vp_in x7 (x_h M b7).2 ∧ Call G d 0 0 mX12_longer [.ref p0, .long l5, .int (x_i M b7 x7.toNatClampNeg)] M (fun r10 M11 => ∃ v12 : Int64, r10 = some (.long v12) ∧ LX12_lowest_6 G d rc rs p0 x1 x2 x3 x4 v12 (x7 + 1) M11 Q)))) : LX12_lowest_6 G d rc rs p0 x1 x2 x3 x4 l5 x7 M Q := by
  show Wk G (d + 1) rc rs mX12_lowest 6 _ _ M Q
  refine r_iload (pc := 6) (i := 7) dX12_lowest_6 rfl ?_
  refine r_iload_n (pc := 8) (i := 2) dX12_lowest_8 rfl rfl ?_
  refine r_icmp_ge (pc := 9) (tgt := 33) dX12_lowest_9 (by decide) (fun c1 => ?_) (fun c1 => ?_)
  · replace h := h.1 c1
    refine r_aload_n (pc := 33) (i := 0) dX12_lowest_33 rfl rfl ?_
    refine r_lload (pc := 34) (i := 5) dX12_lowest_34 rfl ?_
    refine r_iload_n (pc := 36) (i := 3) dX12_lowest_36 rfl rfl ?_
    obtain ⟨k2, h⟩ := h
    refine r_callV (pc := 37) (ci := 12) (as := [_, _]) (st := []) okX12_longer lkX12_497 inX12_longer seX12_longer ⟨_, rfl, rfl⟩ dX12_lowest_37 rfl k2 (Nat.le_of_ble_eq_true rfl) (Nat.zero_le _) (Nat.zero_le _) (Call.mono h (fun r3 M4 h => ?_))
    obtain ⟨v5, rfl, h⟩ := h
    refine r_lstore (pc := 40) (i := 5) dX12_lowest_40 rfl (Nat.le_of_ble_eq_true rfl) ?_
    refine r_iload (pc := 42) (i := 4) dX12_lowest_42 rfl ?_
    refine r_istore (pc := 44) (i := 7) dX12_lowest_44 rfl (Nat.le_of_ble_eq_true rfl) ?_
    refine r_iload_n (pc := 46) (i := 2) dX12_lowest_46 rfl rfl ?_
    refine r_iconst (pc := 47) (v := 1) dX12_lowest_47 (by decide) ?_
    refine r_iadd (pc := 48) dX12_lowest_48 ?_
    refine r_istore (pc := 49) (i := 8) dX12_lowest_49 rfl (Nat.le_of_ble_eq_true rfl) ?_
    exact h
  · replace h := h.2 c1
    refine r_aload_n (pc := 12) (i := 0) dX12_lowest_12 rfl rfl ?_
    refine r_lload (pc := 13) (i := 5) dX12_lowest_13 rfl ?_
    refine r_aload_n (pc := 15) (i := 0) dX12_lowest_15 rfl rfl ?_
    obtain ⟨k6, h⟩ := h
    obtain ⟨b7, hb7, h⟩ := h
    refine r_getr (pc := 16) flX12_191 dX12_lowest_16 rfl k6 hb7 ?_
    refine r_iload (pc := 19) (i := 7) dX12_lowest_19 rfl ?_
    obtain ⟨k8, h⟩ := h
    obtain ⟨i9, h⟩ := h
    refine r_iald (pc := 21) dX12_lowest_21 k8 i9 ?_
    refine r_callV (pc := 22) (ci := 12) (as := [_, _]) (st := []) okX12_longer lkX12_497 inX12_longer seX12_longer ⟨_, rfl, rfl⟩ dX12_lowest_22 rfl k6 (Nat.le_of_ble_eq_true rfl) (Nat.zero_le _) (Nat.zero_le _) (Call.mono h (fun r10 M11 h => ?_))
    obtain ⟨v12, rfl, h⟩ := h
    refine r_lstore (pc := 25) (i := 5) dX12_lowest_25 rfl (Nat.le_of_ble_eq_true rfl) ?_
    refine r_iinc (pc := 27) (i := 7) (v := _ + 1) dX12_lowest_27 rfl rfl rfl ?_
    refine r_goto (pc := 30) (tgt := 6) dX12_lowest_30 (by decide) ?_
    exact h
theorem vX12_lowest_51 {G : GG} {d rc rs : Nat} (p0 : Nat) (x1 : Int32) (x2 : Int32) (x3 : Int32) (x4 : Int32) (l5 : Int64) (x7 : Int32) (x8 : Int32) (z9 : Option Value) (hz9 : c1 z9 = true) {M : Mem} {Q : Option Value → Mem → Prop} (h : (110 ≤ x8 → ((lg_cmp l5 4611686018427387904) ≤ 0 → Q (some (.long l5)) M) ∧ (¬ (lg_cmp l5 4611686018427387904) ≤ 0 → Q (some (.long (-3))) M)) ∧ (¬ 110 ≤ x8 → LX12_lowest_61 G d rc rs p0 x1 x2 x3 x4 l5 x7 x8 0 M Q)) : LX12_lowest_51 G d rc rs p0 x1 x2 x3 x4 l5 x7 x8 z9 M Q := by
  show Wk G (d + 1) rc rs mX12_lowest 51 _ _ M Q
  refine r_iload (pc := 51) (i := 8) dX12_lowest_51 rfl ?_
  refine r_bipush (pc := 53) (v := 110) dX12_lowest_53 (by decide) ?_
  refine r_icmp_ge (pc := 55) (tgt := 120) dX12_lowest_55 (by decide) (fun c1 => ?_) (fun c1 => ?_)
  · replace h := h.1 c1
    refine r_lload (pc := 120) (i := 5) dX12_lowest_120 rfl ?_
    refine r_ldc2 (pc := 122) (v := 4611686018427387904) dX12_lowest_122 ww_1761 ?_
    refine r_lcmp (pc := 125) dX12_lowest_125 ?_
    refine r_if_le (pc := 126) (tgt := 135) dX12_lowest_126 (by decide) (fun c2 => ?_) (fun c2 => ?_)
    · replace h := h.1 c2
      refine r_lload (pc := 135) (i := 5) dX12_lowest_135 rfl ?_
      exact r_lret (pc := 137) dX12_lowest_137 rfl h
    · replace h := h.2 c2
      refine r_ldc2 (pc := 129) (v := (-3)) dX12_lowest_129 ww_1778 ?_
      refine r_goto (pc := 132) (tgt := 137) dX12_lowest_132 (by decide) ?_
      exact r_lret (pc := 137) dX12_lowest_137 rfl h
  · replace h := h.2 c1
    refine r_iconst (pc := 58) (v := 0) dX12_lowest_58 (by decide) ?_
    refine r_istore (pc := 59) (i := 9) dX12_lowest_59 rfl (Nat.le_of_ble_eq_true rfl) ?_
    exact h
theorem vX12_lowest_61 {G : GG} {d rc rs : Nat} (p0 : Nat) (x1 : Int32) (x2 : Int32) (x3 : Int32) (x4 : Int32) (l5 : Int64) (x7 : Int32) (x8 : Int32) (x9 : Int32)  {M : Mem} {Q : Option Value → Mem → Prop} (h : (x_h M p0).1 = 28 ∧ (∃ b2, x_r M p0 87 = some b2 ∧ Call G d 0 0 mX12_to [.ref p0, .int x1, .int x7, .int x9] M (fun r3 M4 => ∃ v5 : Int32, r3 = some (.int v5) ∧ (x_h M4 b2).1 = 3 ∧ vp_in ((40 * (109 - x8)) + v5) (x_h M4 b2).2 ∧ (¬ (x_i M4 b2 ((40 * (109 - x8)) + v5).toNatClampNeg) = 0 → (x_h M4 p0).1 = 28 ∧ Call G d 0 0 mX12_longer [.ref p0, .long l5, .int x9] M4 (fun r10 M11 => ∃ v12 : Int64, r10 = some (.long v12) ∧ (x_h M11 p0).1 = 28 ∧ Call G d 0 0 mX12_to [.ref p0, .int x1, .int x7, .int x9] M11 (fun r14 M15 => ∃ v16 : Int32, r14 = some (.int v16) ∧ LX12_lowest_51 G d rc rs p0 x1 x2 x3 x4 v12 v16 (x8 + 1) (some (.int x9)) M15 Q))) ∧ ((x_i M4 b2 ((40 * (109 - x8)) + v5).toNatClampNeg) = 0 → LX12_lowest_61 G d rc rs p0 x1 x2 x3 x4 l5 x7 x8 (x9 + 1) M4 Q)))) : LX12_lowest_61 G d rc rs p0 x1 x2 x3 x4 l5 x7 x8 x9 M Q := by
  show Wk G (d + 1) rc rs mX12_lowest 61 _ _ M Q
  refine r_aload_n (pc := 61) (i := 0) dX12_lowest_61 rfl rfl ?_
  obtain ⟨k1, h⟩ := h
  obtain ⟨b2, hb2, h⟩ := h
  refine r_getr (pc := 62) flX12_197 dX12_lowest_62 rfl k1 hb2 ?_
  refine r_bipush (pc := 65) (v := 40) dX12_lowest_65 (by decide) ?_
  refine r_bipush (pc := 67) (v := 109) dX12_lowest_67 (by decide) ?_
  refine r_iload (pc := 69) (i := 8) dX12_lowest_69 rfl ?_
  refine r_isub (pc := 71) dX12_lowest_71 ?_
  refine r_imul (pc := 72) dX12_lowest_72 ?_
  refine r_aload_n (pc := 73) (i := 0) dX12_lowest_73 rfl rfl ?_
  refine r_iload_n (pc := 74) (i := 1) dX12_lowest_74 rfl rfl ?_
  refine r_iload (pc := 75) (i := 7) dX12_lowest_75 rfl ?_
  refine r_iload (pc := 77) (i := 9) dX12_lowest_77 rfl ?_
  refine r_callV (pc := 79) (ci := 12) (as := [_, _, _]) (st := [_, _]) okX12_to lkX12_506 inX12_to seX12_to ⟨_, rfl, rfl⟩ dX12_lowest_79 rfl k1 (Nat.le_of_ble_eq_true rfl) (Nat.zero_le _) (Nat.zero_le _) (Call.mono h (fun r3 M4 h => ?_))
  obtain ⟨v5, rfl, h⟩ := h
  refine r_iadd (pc := 82) dX12_lowest_82 ?_
  obtain ⟨k6, h⟩ := h
  obtain ⟨i7, h⟩ := h
  refine r_zald (pc := 83) dX12_lowest_83 k6 i7 ?_
  refine r_if_ne (pc := 84) (tgt := 93) dX12_lowest_84 (by decide) (fun c8 => ?_) (fun c8 => ?_)
  · replace h := h.1 c8
    refine r_aload_n (pc := 93) (i := 0) dX12_lowest_93 rfl rfl ?_
    refine r_lload (pc := 94) (i := 5) dX12_lowest_94 rfl ?_
    refine r_iload (pc := 96) (i := 9) dX12_lowest_96 rfl ?_
    obtain ⟨k9, h⟩ := h
    refine r_callV (pc := 98) (ci := 12) (as := [_, _]) (st := []) okX12_longer lkX12_497 inX12_longer seX12_longer ⟨_, rfl, rfl⟩ dX12_lowest_98 rfl k9 (Nat.le_of_ble_eq_true rfl) (Nat.zero_le _) (Nat.zero_le _) (Call.mono h (fun r10 M11 h => ?_))
    obtain ⟨v12, rfl, h⟩ := h
    refine r_lstore (pc := 101) (i := 5) dX12_lowest_101 rfl (Nat.le_of_ble_eq_true rfl) ?_
    refine r_aload_n (pc := 103) (i := 0) dX12_lowest_103 rfl rfl ?_
    refine r_iload_n (pc := 104) (i := 1) dX12_lowest_104 rfl rfl ?_
    refine r_iload (pc := 105) (i := 7) dX12_lowest_105 rfl ?_
    refine r_iload (pc := 107) (i := 9) dX12_lowest_107 rfl ?_
    obtain ⟨k13, h⟩ := h
    refine r_callV (pc := 109) (ci := 12) (as := [_, _, _]) (st := []) okX12_to lkX12_506 inX12_to seX12_to ⟨_, rfl, rfl⟩ dX12_lowest_109 rfl k13 (Nat.le_of_ble_eq_true rfl) (Nat.zero_le _) (Nat.zero_le _) (Call.mono h (fun r14 M15 h => ?_))
    obtain ⟨v16, rfl, h⟩ := h
    refine r_istore (pc := 112) (i := 7) dX12_lowest_112 rfl (Nat.le_of_ble_eq_true rfl) ?_
    refine r_iinc (pc := 114) (i := 8) (v := _ + 1) dX12_lowest_114 rfl rfl rfl ?_
    refine r_goto (pc := 117) (tgt := 51) dX12_lowest_117 (by decide) ?_
    exact h
  · replace h := h.2 c8
    refine r_iinc (pc := 87) (i := 9) (v := _ + 1) dX12_lowest_87 rfl rfl rfl ?_
    refine r_goto (pc := 90) (tgt := 61) dX12_lowest_90 (by decide) ?_
    exact h
theorem eX12_plus {G : GG} {d rc rs : Nat} (a1 : Int64) (a2 : Int64)  {M : Mem} {Q : Option Value → Mem → Prop} (h : ((lg_cmp a1 (4611686018427387904 - a2)) ≤ 0 → Q (some (.long (a1 + a2))) M) ∧ (¬ (lg_cmp a1 (4611686018427387904 - a2)) ≤ 0 → Q (some (.long 4611686018427387905)) M)) : Call G (d + 1) rc rs mX12_plus [.long a1, .long a2] M Q := by
  refine call_of (by decide) (Nat.le_of_ble_eq_true rfl) ?_
  show Wk G (d + 1) rc rs mX12_plus 0 [some (.long a1), none, some (.long a2), none] [] M Q
  refine r_lload_n (pc := 0) (i := 0) dX12_plus_0 rfl rfl ?_
  refine r_ldc2 (pc := 1) (v := 4611686018427387904) dX12_plus_1 ww_1761 ?_
  refine r_lload_n (pc := 4) (i := 2) dX12_plus_4 rfl rfl ?_
  refine r_lsub (pc := 5) dX12_plus_5 ?_
  refine r_lcmp (pc := 6) dX12_plus_6 ?_
  refine r_if_le (pc := 7) (tgt := 16) dX12_plus_7 (by decide) (fun c1 => ?_) (fun c1 => ?_)
  · replace h := h.1 c1
    refine r_lload_n (pc := 16) (i := 0) dX12_plus_16 rfl rfl ?_
    refine r_lload_n (pc := 17) (i := 2) dX12_plus_17 rfl rfl ?_
    refine r_ladd (pc := 18) dX12_plus_18 ?_
    exact r_lret (pc := 19) dX12_plus_19 rfl h
  · replace h := h.2 c1
    refine r_ldc2 (pc := 10) (v := 4611686018427387905) dX12_plus_10 ww_1783 ?_
    refine r_goto (pc := 13) (tgt := 19) dX12_plus_13 (by decide) ?_
    exact r_lret (pc := 19) dX12_plus_19 rfl h
abbrev LX12_goes_28 (G : GG) (d rc rs : Nat) (p0 : Nat) (x1 : Int32) (x2 : Int32) (x3 : Int32) (x4 : Int32) (x5 : Int32) (x6 : Int32) (M : Mem) (Q : Option Value → Mem → Prop) : Prop := Wk G (d + 1) rc rs mX12_goes 28 [some (.ref p0), some (.int x1), some (.int x2), some (.int x3), some (.int x4), some (.int x5), some (.int x6), none, none] [] M Q
abbrev LX12_goes_52 (G : GG) (d rc rs : Nat) (p0 : Nat) (x1 : Int32) (x2 : Int32) (x3 : Int32) (x4 : Int32) (x5 : Int32) (x6 : Int32) (z7 : Option Value) (z8 : Option Value) (M : Mem) (Q : Option Value → Mem → Prop) : Prop := Wk G (d + 1) rc rs mX12_goes 52 [some (.ref p0), some (.int x1), some (.int x2), some (.int x3), some (.int x4), some (.int x5), some (.int x6), z7, z8] [] M Q
abbrev LX12_goes_62 (G : GG) (d rc rs : Nat) (p0 : Nat) (x1 : Int32) (x2 : Int32) (x3 : Int32) (x4 : Int32) (x5 : Int32) (x6 : Int32) (x7 : Int32) (z8 : Option Value) (M : Mem) (Q : Option Value → Mem → Prop) : Prop := Wk G (d + 1) rc rs mX12_goes 62 [some (.ref p0), some (.int x1), some (.int x2), some (.int x3), some (.int x4), some (.int x5), some (.int x6), some (.int x7), z8] [] M Q
abbrev LX12_goes_126 (G : GG) (d rc rs : Nat) (p0 : Nat) (x1 : Int32) (x2 : Int32) (x3 : Int32) (x4 : Int32) (x5 : Int32) (x6 : Int32) (z7 : Option Value) (z8 : Option Value) (M : Mem) (Q : Option Value → Mem → Prop) : Prop := Wk G (d + 1) rc rs mX12_goes 126 [some (.ref p0), some (.int x1), some (.int x2), some (.int x3), some (.int x4), some (.int x5), some (.int x6), z7, z8] [] M Q
theorem eX12_goes {G : GG} {d rc rs : Nat} (o : Nat) (a1 : Int32) (a2 : Int32) (a3 : Int32)  {M : Mem} {Q : Option Value → Mem → Prop} (h : (x_h M o).1 = 28 ∧ (∃ b2, x_r M o 14 = some b2 ∧ (x_h M b2).1 = 1 ∧ vp_in a1 (x_h M b2).2 ∧ (∃ b5, x_r M o 11 = some b5 ∧ (x_h M b5).1 = 1 ∧ vp_in a1 (x_h M b5).2 ∧ Call G d 0 0 mX12_across [.ref o, .int (x_i M b5 a1.toNatClampNeg)] M (fun r8 M9 => ∃ v10 : Int32, r8 = some (.int v10) ∧ (x_h M9 o).1 = 28 ∧ ¬ (x_i M9 o 0) = 0 ∧ LX12_goes_28 G d rc rs o a1 a2 a3 (x_i M b2 a1.toNatClampNeg) (v10 / (x_i M9 o 0)) 0 M9 Q)))) : Call G (d + 1) rc rs mX12_goes [.ref o, .int a1, .int a2, .int a3] M Q := by
  refine call_of (by decide) (Nat.le_of_ble_eq_true rfl) ?_
  show Wk G (d + 1) rc rs mX12_goes 0 [some (.ref o), some (.int a1), some (.int a2), some (.int a3), none, none, none, none, none] [] M Q
  refine r_aload_n (pc := 0) (i := 0) dX12_goes_0 rfl rfl ?_
  obtain ⟨k1, h⟩ := h
  obtain ⟨b2, hb2, h⟩ := h
  refine r_getr (pc := 1) flX12_47 dX12_goes_1 rfl k1 hb2 ?_
  refine r_iload_n (pc := 4) (i := 1) dX12_goes_4 rfl rfl ?_
  obtain ⟨k3, h⟩ := h
  obtain ⟨i4, h⟩ := h
  refine r_iald (pc := 5) dX12_goes_5 k3 i4 ?_
  refine r_istore (pc := 6) (i := 4) dX12_goes_6 rfl (Nat.le_of_ble_eq_true rfl) ?_
  refine r_aload_n (pc := 8) (i := 0) dX12_goes_8 rfl rfl ?_
  refine r_aload_n (pc := 9) (i := 0) dX12_goes_9 rfl rfl ?_
  obtain ⟨b5, hb5, h⟩ := h
  refine r_getr (pc := 10) flX12_38 dX12_goes_10 rfl k1 hb5 ?_
  refine r_iload_n (pc := 13) (i := 1) dX12_goes_13 rfl rfl ?_
  obtain ⟨k6, h⟩ := h
  obtain ⟨i7, h⟩ := h
  refine r_iald (pc := 14) dX12_goes_14 k6 i7 ?_
  refine r_callV (pc := 15) (ci := 12) (as := [_]) (st := []) okX12_across lkX12_417 inX12_across seX12_across ⟨_, rfl, rfl⟩ dX12_goes_15 rfl k1 (Nat.le_of_ble_eq_true rfl) (Nat.zero_le _) (Nat.zero_le _) (Call.mono h (fun r8 M9 h => ?_))
  obtain ⟨v10, rfl, h⟩ := h
  refine r_aload_n (pc := 18) (i := 0) dX12_goes_18 rfl rfl ?_
  obtain ⟨k11, h⟩ := h
  refine r_geti (pc := 19) flX12_7 dX12_goes_19 (Or.inl rfl) k11 ?_
  obtain ⟨n12, h⟩ := h
  refine r_idiv (pc := 22) dX12_goes_22 n12 ?_
  refine r_istore (pc := 23) (i := 5) dX12_goes_23 rfl (Nat.le_of_ble_eq_true rfl) ?_
  refine r_iconst (pc := 25) (v := 0) dX12_goes_25 (by decide) ?_
  refine r_istore (pc := 26) (i := 6) dX12_goes_26 rfl (Nat.le_of_ble_eq_true rfl) ?_
  exact h
theorem vX12_goes_28 {G : GG} {d rc rs : Nat} (p0 : Nat) (x1 : Int32) (x2 : Int32) (x3 : Int32) (x4 : Int32) (x5 : Int32) (x6 : Int32)  {M : Mem} {Q : Option Value → Mem → Prop} (h : (x4 ≤ x6 → LX12_goes_52 G d rc rs p0 x1 x2 x3 x4 x5 0 none none M Q) ∧ (¬ x4 ≤ x6 → (x_h M p0).1 = 28 ∧ (∃ b3, x_r M p0 90 = some b3 ∧ (x_h M b3).1 = 2 ∧ vp_in x6 (x_h M b3).2 ∧ (∀ M6, M6 = x_sl M b3 x6.toNatClampNeg 0 → LX12_goes_28 G d rc rs p0 x1 x2 x3 x4 x5 (x6 + 1) M6 Q)))) : LX12_goes_28 G d rc rs p0 x1 x2 x3 x4 x5 x6 M Q := by
  show Wk G (d + 1) rc rs mX12_goes 28 _ _ M Q
  refine r_iload (pc := 28) (i := 6) dX12_goes_28 rfl ?_
  refine r_iload (pc := 30) (i := 4) dX12_goes_30 rfl ?_
  refine r_icmp_ge (pc := 32) (tgt := 49) dX12_goes_32 (by decide) (fun c1 => ?_) (fun c1 => ?_)
  · replace h := h.1 c1
    refine r_iconst (pc := 49) (v := 0) dX12_goes_49 (by decide) ?_
    refine r_istore (pc := 50) (i := 6) dX12_goes_50 rfl (Nat.le_of_ble_eq_true rfl) ?_
    exact h
  · replace h := h.2 c1
    refine r_aload_n (pc := 35) (i := 0) dX12_goes_35 rfl rfl ?_
    obtain ⟨k2, h⟩ := h
    obtain ⟨b3, hb3, h⟩ := h
    refine r_getr (pc := 36) flX12_206 dX12_goes_36 rfl k2 hb3 ?_
    refine r_iload (pc := 39) (i := 6) dX12_goes_39 rfl ?_
    refine r_lconst (pc := 41) (v := 0) dX12_goes_41 (by decide) ?_
    obtain ⟨k4, h⟩ := h
    obtain ⟨i5, h⟩ := h
    refine r_last (pc := 42) dX12_goes_42 k4 i5 ?_
    replace h := h _ rfl
    refine r_iinc (pc := 43) (i := 6) (v := _ + 1) dX12_goes_43 rfl rfl rfl ?_
    refine r_goto (pc := 46) (tgt := 28) dX12_goes_46 (by decide) ?_
    exact h
theorem vX12_goes_52 {G : GG} {d rc rs : Nat} (p0 : Nat) (x1 : Int32) (x2 : Int32) (x3 : Int32) (x4 : Int32) (x5 : Int32) (x6 : Int32) (z7 : Option Value) (z8 : Option Value) (hz7 : c1 z7 = true) (hz8 : c1 z8 = true) {M : Mem} {Q : Option Value → Mem → Prop} (h : (x4 ≤ x6 → LX12_goes_126 G d rc rs p0 x1 x2 x3 x4 x5 0 z7 z8 M Q) ∧ (¬ x4 ≤ x6 → LX12_goes_62 G d rc rs p0 x1 x2 x3 x4 x5 x6 x2 z8 M Q)) : LX12_goes_52 G d rc rs p0 x1 x2 x3 x4 x5 x6 z7 z8 M Q := by
  show Wk G (d + 1) rc rs mX12_goes 52 _ _ M Q
  refine r_iload (pc := 52) (i := 6) dX12_goes_52 rfl ?_
  refine r_iload (pc := 54) (i := 4) dX12_goes_54 rfl ?_
  refine r_icmp_ge (pc := 56) (tgt := 123) dX12_goes_56 (by decide) (fun c1 => ?_) (fun c1 => ?_)
  · replace h := h.1 c1
    refine r_iconst (pc := 123) (v := 0) dX12_goes_123 (by decide) ?_
    refine r_istore (pc := 124) (i := 6) dX12_goes_124 rfl (Nat.le_of_ble_eq_true rfl) ?_
    exact h
  · replace h := h.2 c1
    refine r_iload_n (pc := 59) (i := 2) dX12_goes_59 rfl rfl ?_
    refine r_istore (pc := 60) (i := 7) dX12_goes_60 rfl (Nat.le_of_ble_eq_true rfl) ?_
    exact h
theorem vX12_goes_62 {G : GG} {d rc rs : Nat} (p0 : Nat) (x1 : Int32) (x2 : Int32) (x3 : Int32) (x4 : Int32) (x5 : Int32) (x6 : Int32) (x7 : Int32) (z8 : Option Value) (hz8 : c1 z8 = true) {M : Mem} {Q : Option Value → Mem → Prop} (h : (x_h M p0).1 = 28 ∧ ((x_i M p0 0) ≤ x7 → LX12_goes_52 G d rc rs p0 x1 x2 x3 x4 x5 (x6 + 1) (some (.int x7)) z8 M Q) ∧ (¬ (x_i M p0 0) ≤ x7 → Call G d 0 0 mX12_to [.ref p0, .int x1, .int x6, .int ((x7 * x5) + x3)] M (fun r3 M4 => ∃ v5 : Int32, r3 = some (.int v5) ∧ (x_h M4 p0).1 = 28 ∧ (∃ b7, x_r M4 p0 90 = some b7 ∧ (x_h M4 b7).1 = 2 ∧ vp_in v5 (x_h M4 b7).2 ∧ (∃ b10, x_r M4 p0 89 = some b10 ∧ (x_h M4 b10).1 = 2 ∧ vp_in x6 (x_h M4 b10).2 ∧ Call G d 0 0 mX12_plus [.long (x_l M4 b7 v5.toNatClampNeg), .long (x_l M4 b10 x6.toNatClampNeg)] M4 (fun r13 M14 => ∃ v15 : Int64, r13 = some (.long v15) ∧ (x_h M14 b7).1 = 2 ∧ vp_in v5 (x_h M14 b7).2 ∧ (∀ M18, M18 = x_sl M14 b7 v5.toNatClampNeg v15 → LX12_goes_62 G d rc rs p0 x1 x2 x3 x4 x5 x6 (x7 + 1) (some (.int v5)) M18 Q))))))) : LX12_goes_62 G d rc rs p0 x1 x2 x3 x4 x5 x6 x7 z8 M Q := by
  show Wk G (d + 1) rc rs mX12_goes 62 _ _ M Q
  refine r_iload (pc := 62) (i := 7) dX12_goes_62 rfl ?_
  refine r_aload_n (pc := 64) (i := 0) dX12_goes_64 rfl rfl ?_
  obtain ⟨k1, h⟩ := h
  refine r_geti (pc := 65) flX12_7 dX12_goes_65 (Or.inl rfl) k1 ?_
  refine r_icmp_ge (pc := 68) (tgt := 117) dX12_goes_68 (by decide) (fun c2 => ?_) (fun c2 => ?_)
  · replace h := h.1 c2
    refine r_iinc (pc := 117) (i := 6) (v := _ + 1) dX12_goes_117 rfl rfl rfl ?_
    refine r_goto (pc := 120) (tgt := 52) dX12_goes_120 (by decide) ?_
    exact h
  · replace h := h.2 c2
    refine r_aload_n (pc := 71) (i := 0) dX12_goes_71 rfl rfl ?_
    refine r_iload_n (pc := 72) (i := 1) dX12_goes_72 rfl rfl ?_
    refine r_iload (pc := 73) (i := 6) dX12_goes_73 rfl ?_
    refine r_iload (pc := 75) (i := 7) dX12_goes_75 rfl ?_
    refine r_iload (pc := 77) (i := 5) dX12_goes_77 rfl ?_
    refine r_imul (pc := 79) dX12_goes_79 ?_
    refine r_iload_n (pc := 80) (i := 3) dX12_goes_80 rfl rfl ?_
    refine r_iadd (pc := 81) dX12_goes_81 ?_
    refine r_callV (pc := 82) (ci := 12) (as := [_, _, _]) (st := []) okX12_to lkX12_506 inX12_to seX12_to ⟨_, rfl, rfl⟩ dX12_goes_82 rfl k1 (Nat.le_of_ble_eq_true rfl) (Nat.zero_le _) (Nat.zero_le _) (Call.mono h (fun r3 M4 h => ?_))
    obtain ⟨v5, rfl, h⟩ := h
    refine r_istore (pc := 85) (i := 8) dX12_goes_85 rfl (Nat.le_of_ble_eq_true rfl) ?_
    refine r_aload_n (pc := 87) (i := 0) dX12_goes_87 rfl rfl ?_
    obtain ⟨k6, h⟩ := h
    obtain ⟨b7, hb7, h⟩ := h
    refine r_getr (pc := 88) flX12_206 dX12_goes_88 rfl k6 hb7 ?_
    refine r_iload (pc := 91) (i := 8) dX12_goes_91 rfl ?_
    refine r_aload_n (pc := 93) (i := 0) dX12_goes_93 rfl rfl ?_
    refine r_getr (pc := 94) flX12_206 dX12_goes_94 rfl k6 hb7 ?_
    refine r_iload (pc := 97) (i := 8) dX12_goes_97 rfl ?_
    obtain ⟨k8, h⟩ := h
    obtain ⟨i9, h⟩ := h
    refine r_lald (pc := 99) dX12_goes_99 k8 i9 ?_
    refine r_aload_n (pc := 100) (i := 0) dX12_goes_100 rfl rfl ?_
    obtain ⟨b10, hb10, h⟩ := h
    refine r_getr (pc := 101) flX12_203 dX12_goes_101 rfl k6 hb10 ?_
    refine r_iload (pc := 104) (i := 6) dX12_goes_104 rfl ?_
    obtain ⟨k11, h⟩ := h
    obtain ⟨i12, h⟩ := h
    refine r_lald (pc := 106) dX12_goes_106 k11 i12 ?_
    refine r_callS (pc := 107) (as := [_, _]) (st := [_, _]) okX12_plus lkX12_519 stX12_plus dX12_goes_107 rfl (Nat.le_of_ble_eq_true rfl) (Nat.zero_le _) (Nat.zero_le _) (Call.mono h (fun r13 M14 h => ?_))
    obtain ⟨v15, rfl, h⟩ := h
    obtain ⟨k16, h⟩ := h
    obtain ⟨i17, h⟩ := h
    refine r_last (pc := 110) dX12_goes_110 k16 i17 ?_
    replace h := h _ rfl
    refine r_iinc (pc := 111) (i := 7) (v := _ + 1) dX12_goes_111 rfl rfl rfl ?_
    refine r_goto (pc := 114) (tgt := 62) dX12_goes_114 (by decide) ?_
    exact h
theorem vX12_goes_126 {G : GG} {d rc rs : Nat} (p0 : Nat) (x1 : Int32) (x2 : Int32) (x3 : Int32) (x4 : Int32) (x5 : Int32) (x6 : Int32) (z7 : Option Value) (z8 : Option Value) (hz7 : c1 z7 = true) (hz8 : c1 z8 = true) {M : Mem} {Q : Option Value → Mem → Prop} (h : (x4 ≤ x6 → Q none M) ∧ (¬ x4 ≤ x6 → (x_h M p0).1 = 28 ∧ (∃ b3, x_r M p0 89 = some b3 ∧ ∃ b4, x_r M p0 90 = some b4 ∧ (x_h M b4).1 = 2 ∧ vp_in x6 (x_h M b4).2 ∧ (x_h M b3).1 = 2 ∧ vp_in x6 (x_h M b3).2 ∧ (∀ M9, M9 = x_sl M b3 x6.toNatClampNeg (x_l M b4 x6.toNatClampNeg) → LX12_goes_126 G d rc rs p0 x1 x2 x3 x4 x5 (x6 + 1) z7 z8 M9 Q)))) : LX12_goes_126 G d rc rs p0 x1 x2 x3 x4 x5 x6 z7 z8 M Q := by
  show Wk G (d + 1) rc rs mX12_goes 126 _ _ M Q
  refine r_iload (pc := 126) (i := 6) dX12_goes_126 rfl ?_
  refine r_iload (pc := 128) (i := 4) dX12_goes_128 rfl ?_
  refine r_icmp_ge (pc := 130) (tgt := 153) dX12_goes_130 (by decide) (fun c1 => ?_) (fun c1 => ?_)
  · replace h := h.1 c1
    exact r_vret (pc := 153) dX12_goes_153 rfl h
  · replace h := h.2 c1
    refine r_aload_n (pc := 133) (i := 0) dX12_goes_133 rfl rfl ?_
    obtain ⟨k2, h⟩ := h
    obtain ⟨b3, hb3, h⟩ := h
    refine r_getr (pc := 134) flX12_203 dX12_goes_134 rfl k2 hb3 ?_
    refine r_iload (pc := 137) (i := 6) dX12_goes_137 rfl ?_
    refine r_aload_n (pc := 139) (i := 0) dX12_goes_139 rfl rfl ?_
    obtain ⟨b4, hb4, h⟩ := h
    refine r_getr (pc := 140) flX12_206 dX12_goes_140 rfl k2 hb4 ?_
    refine r_iload (pc := 143) (i := 6) dX12_goes_143 rfl ?_
    obtain ⟨k5, h⟩ := h
    obtain ⟨i6, h⟩ := h
    refine r_lald (pc := 145) dX12_goes_145 k5 i6 ?_
    obtain ⟨k7, h⟩ := h
    obtain ⟨i8, h⟩ := h
    refine r_last (pc := 146) dX12_goes_146 k7 i8 ?_
    replace h := h _ rfl
    refine r_iinc (pc := 147) (i := 6) (v := _ + 1) dX12_goes_147 rfl rfl rfl ?_
    refine r_goto (pc := 150) (tgt := 126) dX12_goes_150 (by decide) ?_
    exact h
abbrev LX12_howMany_35 (G : GG) (d rc rs : Nat) (p0 : Nat) (x1 : Int32) (l2 : Int64) (x4 : Int32) (x5 : Int32) (l6 : Int64) (x8 : Int32) (z9 : Option Value) (z10 : Option Value) (M : Mem) (Q : Option Value → Mem → Prop) : Prop := Wk G (d + 1) rc rs mX12_howMany 35 [some (.ref p0), some (.int x1), some (.long l2), none, some (.int x4), some (.int x5), some (.long l6), none, some (.int x8), z9, z10] [] M Q
abbrev LX12_howMany_49 (G : GG) (d rc rs : Nat) (p0 : Nat) (x1 : Int32) (l2 : Int64) (x4 : Int32) (x5 : Int32) (l6 : Int64) (x8 : Int32) (x9 : Int32) (z10 : Option Value) (M : Mem) (Q : Option Value → Mem → Prop) : Prop := Wk G (d + 1) rc rs mX12_howMany 49 [some (.ref p0), some (.int x1), some (.long l2), none, some (.int x4), some (.int x5), some (.long l6), none, some (.int x8), some (.int x9), z10] [] M Q
abbrev LX12_howMany_82 (G : GG) (d rc rs : Nat) (p0 : Nat) (x1 : Int32) (l2 : Int64) (x4 : Int32) (x5 : Int32) (l6 : Int64) (x8 : Int32) (x9 : Int32) (z10 : Option Value) (M : Mem) (Q : Option Value → Mem → Prop) : Prop := Wk G (d + 1) rc rs mX12_howMany 82 [some (.ref p0), some (.int x1), some (.long l2), none, some (.int x4), some (.int x5), some (.long l6), none, some (.int x8), some (.int x9), z10] [] M Q
abbrev LX12_howMany_117 (G : GG) (d rc rs : Nat) (p0 : Nat) (x1 : Int32) (l2 : Int64) (x4 : Int32) (x5 : Int32) (l6 : Int64) (x8 : Int32) (x9 : Int32) (x10 : Int32) (M : Mem) (Q : Option Value → Mem → Prop) : Prop := Wk G (d + 1) rc rs mX12_howMany 117 [some (.ref p0), some (.int x1), some (.long l2), none, some (.int x4), some (.int x5), some (.long l6), none, some (.int x8), some (.int x9), some (.int x10)] [] M Q
theorem eX12_howMany {G : GG} {d rc rs : Nat} (o : Nat) (a1 : Int32) (a2 : Int64) (a3 : Int32)  {M : Mem} {Q : Option Value → Mem → Prop} (h : (x_h M o).1 = 28 ∧ (∃ b2, x_r M o 14 = some b2 ∧ (x_h M b2).1 = 1 ∧ vp_in a1 (x_h M b2).2 ∧ Call G d 0 0 mX12_digitsOf [.ref o, .int 1, .long a2, .int a3] M (fun r5 M6 => r5 = none ∧ (x_h M6 o).1 = 28 ∧ Call G d 0 0 mX12_good [.ref o, .int a1, .int a3] M6 (fun r8 M9 => r8 = none ∧ (x_h M9 o).1 = 28 ∧ Call G d 0 0 mX12_start [.ref o, .int a1, .int a3] M9 (fun r11 M12 => ∃ v13 : Int64, r11 = some (.long v13) ∧ LX12_howMany_35 G d rc rs o a1 a2 a3 (x_i M b2 a1.toNatClampNeg) v13 1 none none M12 Q))))) : Call G (d + 1) rc rs mX12_howMany [.ref o, .int a1, .long a2, .int a3] M Q := by
  refine call_of (by decide) (Nat.le_of_ble_eq_true rfl) ?_
  show Wk G (d + 1) rc rs mX12_howMany 0 [some (.ref o), some (.int a1), some (.long a2), none, some (.int a3), none, none, none, none, none, none] [] M Q
  refine r_aload_n (pc := 0) (i := 0) dX12_howMany_0 rfl rfl ?_
  obtain ⟨k1, h⟩ := h
  obtain ⟨b2, hb2, h⟩ := h
  refine r_getr (pc := 1) flX12_47 dX12_howMany_1 rfl k1 hb2 ?_
  refine r_iload_n (pc := 4) (i := 1) dX12_howMany_4 rfl rfl ?_
  obtain ⟨k3, h⟩ := h
  obtain ⟨i4, h⟩ := h
  refine r_iald (pc := 5) dX12_howMany_5 k3 i4 ?_
  refine r_istore (pc := 6) (i := 5) dX12_howMany_6 rfl (Nat.le_of_ble_eq_true rfl) ?_
  refine r_aload_n (pc := 8) (i := 0) dX12_howMany_8 rfl rfl ?_
  refine r_iconst (pc := 9) (v := 1) dX12_howMany_9 (by decide) ?_
  refine r_lload_n (pc := 10) (i := 2) dX12_howMany_10 rfl rfl ?_
  refine r_iload (pc := 11) (i := 4) dX12_howMany_11 rfl ?_
  refine r_callV (pc := 13) (ci := 12) (as := [_, _, _]) (st := []) okX12_digitsOf lkX12_487 inX12_digitsOf seX12_digitsOf ⟨_, rfl, rfl⟩ dX12_howMany_13 rfl k1 (Nat.le_of_ble_eq_true rfl) (Nat.zero_le _) (Nat.zero_le _) (Call.mono h (fun r5 M6 h => ?_))
  obtain ⟨rfl, h⟩ := h
  refine r_aload_n (pc := 16) (i := 0) dX12_howMany_16 rfl rfl ?_
  refine r_iload_n (pc := 17) (i := 1) dX12_howMany_17 rfl rfl ?_
  refine r_iload (pc := 18) (i := 4) dX12_howMany_18 rfl ?_
  obtain ⟨k7, h⟩ := h
  refine r_callV (pc := 20) (ci := 12) (as := [_, _]) (st := []) okX12_good lkX12_523 inX12_good seX12_good ⟨_, rfl, rfl⟩ dX12_howMany_20 rfl k7 (Nat.le_of_ble_eq_true rfl) (Nat.zero_le _) (Nat.zero_le _) (Call.mono h (fun r8 M9 h => ?_))
  obtain ⟨rfl, h⟩ := h
  refine r_aload_n (pc := 23) (i := 0) dX12_howMany_23 rfl rfl ?_
  refine r_iload_n (pc := 24) (i := 1) dX12_howMany_24 rfl rfl ?_
  refine r_iload (pc := 25) (i := 4) dX12_howMany_25 rfl ?_
  obtain ⟨k10, h⟩ := h
  refine r_callV (pc := 27) (ci := 12) (as := [_, _]) (st := []) okX12_start lkX12_527 inX12_start seX12_start ⟨_, rfl, rfl⟩ dX12_howMany_27 rfl k10 (Nat.le_of_ble_eq_true rfl) (Nat.zero_le _) (Nat.zero_le _) (Call.mono h (fun r11 M12 h => ?_))
  obtain ⟨v13, rfl, h⟩ := h
  refine r_lstore (pc := 30) (i := 6) dX12_howMany_30 rfl (Nat.le_of_ble_eq_true rfl) ?_
  refine r_iconst (pc := 32) (v := 1) dX12_howMany_32 (by decide) ?_
  refine r_istore (pc := 33) (i := 8) dX12_howMany_33 rfl (Nat.le_of_ble_eq_true rfl) ?_
  exact h
theorem vX12_howMany_35 {G : GG} {d rc rs : Nat} (p0 : Nat) (x1 : Int32) (l2 : Int64) (x4 : Int32) (x5 : Int32) (l6 : Int64) (x8 : Int32) (z9 : Option Value) (z10 : Option Value) (hz9 : c1 z9 = true) (hz10 : c1 z10 = true) {M : Mem} {Q : Option Value → Mem → Prop} (h : (((2 * x5) + 1) < x8 → ((lg_cmp l6 4611686018427387904) ≤ 0 → Q (some (.long l6)) M) ∧ (¬ (lg_cmp l6 4611686018427387904) ≤ 0 → Q (some (.long (-3))) M)) ∧ (¬ ((2 * x5) + 1) < x8 → LX12_howMany_49 G d rc rs p0 x1 l2 x4 x5 l6 x8 0 z10 M Q)) : LX12_howMany_35 G d rc rs p0 x1 l2 x4 x5 l6 x8 z9 z10 M Q := by
  show Wk G (d + 1) rc rs mX12_howMany 35 _ _ M Q
  refine r_iload (pc := 35) (i := 8) dX12_howMany_35 rfl ?_
  refine r_iconst (pc := 37) (v := 2) dX12_howMany_37 (by decide) ?_
  refine r_iload (pc := 38) (i := 5) dX12_howMany_38 rfl ?_
  refine r_imul (pc := 40) dX12_howMany_40 ?_
  refine r_iconst (pc := 41) (v := 1) dX12_howMany_41 (by decide) ?_
  refine r_iadd (pc := 42) dX12_howMany_42 ?_
  refine r_icmp_gt (pc := 43) (tgt := 210) dX12_howMany_43 (by decide) (fun c1 => ?_) (fun c1 => ?_)
  · replace h := h.1 c1
    refine r_lload (pc := 210) (i := 6) dX12_howMany_210 rfl ?_
    refine r_ldc2 (pc := 212) (v := 4611686018427387904) dX12_howMany_212 ww_1761 ?_
    refine r_lcmp (pc := 215) dX12_howMany_215 ?_
    refine r_if_le (pc := 216) (tgt := 225) dX12_howMany_216 (by decide) (fun c2 => ?_) (fun c2 => ?_)
    · replace h := h.1 c2
      refine r_lload (pc := 225) (i := 6) dX12_howMany_225 rfl ?_
      exact r_lret (pc := 227) dX12_howMany_227 rfl h
    · replace h := h.2 c2
      refine r_ldc2 (pc := 219) (v := (-3)) dX12_howMany_219 ww_1778 ?_
      refine r_goto (pc := 222) (tgt := 227) dX12_howMany_222 (by decide) ?_
      exact r_lret (pc := 227) dX12_howMany_227 rfl h
  · replace h := h.2 c1
    refine r_iconst (pc := 46) (v := 0) dX12_howMany_46 (by decide) ?_
    refine r_istore (pc := 47) (i := 9) dX12_howMany_47 rfl (Nat.le_of_ble_eq_true rfl) ?_
    exact h
theorem vX12_howMany_49 {G : GG} {d rc rs : Nat} (p0 : Nat) (x1 : Int32) (l2 : Int64) (x4 : Int32) (x5 : Int32) (l6 : Int64) (x8 : Int32) (x9 : Int32) (z10 : Option Value) (hz10 : c1 z10 = true) {M : Mem} {Q : Option Value → Mem → Prop} (h : (x5 ≤ x9 → LX12_howMany_82 G d rc rs p0 x1 l2 x4 x5 l6 x8 0 z10 M Q) ∧ (¬ x5 ≤ x9 → (x_h M p0).1 = 28 ∧ (∃ b3, x_r M p0 89 = some b3 ∧ (¬ x9 = 0 → (x_h M b3).1 = 2 ∧ vp_in x9 (x_h M b3).2 ∧ (∀ M7, M7 = x_sl M b3 x9.toNatClampNeg 0 → LX12_howMany_49 G d rc rs p0 x1 l2 x4 x5 l6 x8 (x9 + 1) z10 M7 Q)) ∧ (x9 = 0 → (x_h M b3).1 = 2 ∧ vp_in x9 (x_h M b3).2 ∧ (∀ M10, M10 = x_sl M b3 x9.toNatClampNeg 1 → LX12_howMany_49 G d rc rs p0 x1 l2 x4 x5 l6 x8 (x9 + 1) z10 M10 Q))))) : LX12_howMany_49 G d rc rs p0 x1 l2 x4 x5 l6 x8 x9 z10 M Q := by
  show Wk G (d + 1) rc rs mX12_howMany 49 _ _ M Q
  refine r_iload (pc := 49) (i := 9) dX12_howMany_49 rfl ?_
  refine r_iload (pc := 51) (i := 5) dX12_howMany_51 rfl ?_
  refine r_icmp_ge (pc := 53) (tgt := 79) dX12_howMany_53 (by decide) (fun c1 => ?_) (fun c1 => ?_)
  · replace h := h.1 c1
    refine r_iconst (pc := 79) (v := 0) dX12_howMany_79 (by decide) ?_
    refine r_istore (pc := 80) (i := 9) dX12_howMany_80 rfl (Nat.le_of_ble_eq_true rfl) ?_
    exact h
  · replace h := h.2 c1
    refine r_aload_n (pc := 56) (i := 0) dX12_howMany_56 rfl rfl ?_
    obtain ⟨k2, h⟩ := h
    obtain ⟨b3, hb3, h⟩ := h
    refine r_getr (pc := 57) flX12_203 dX12_howMany_57 rfl k2 hb3 ?_
    refine r_iload (pc := 60) (i := 9) dX12_howMany_60 rfl ?_
    refine r_iload (pc := 62) (i := 9) dX12_howMany_62 rfl ?_
    refine r_if_ne (pc := 64) (tgt := 71) dX12_howMany_64 (by decide) (fun c4 => ?_) (fun c4 => ?_)
    · replace h := h.1 c4
      refine r_lconst (pc := 71) (v := 0) dX12_howMany_71 (by decide) ?_
      obtain ⟨k5, h⟩ := h
      obtain ⟨i6, h⟩ := h
      refine r_last (pc := 72) dX12_howMany_72 k5 i6 ?_
      replace h := h _ rfl
      refine r_iinc (pc := 73) (i := 9) (v := _ + 1) dX12_howMany_73 rfl rfl rfl ?_
      refine r_goto (pc := 76) (tgt := 49) dX12_howMany_76 (by decide) ?_
      exact h
    · replace h := h.2 c4
      refine r_lconst (pc := 67) (v := 1) dX12_howMany_67 (by decide) ?_
      refine r_goto (pc := 68) (tgt := 72) dX12_howMany_68 (by decide) ?_
      obtain ⟨k8, h⟩ := h
      obtain ⟨i9, h⟩ := h
      refine r_last (pc := 72) dX12_howMany_72 k8 i9 ?_
      replace h := h _ rfl
      refine r_iinc (pc := 73) (i := 9) (v := _ + 1) dX12_howMany_73 rfl rfl rfl ?_
      refine r_goto (pc := 76) (tgt := 49) dX12_howMany_76 (by decide) ?_
      exact h
theorem vX12_howMany_82 {G : GG} {d rc rs : Nat} (p0 : Nat) (x1 : Int32) (l2 : Int64) (x4 : Int32) (x5 : Int32) (l6 : Int64) (x8 : Int32) (x9 : Int32) (z10 : Option Value) (hz10 : c1 z10 = true) {M : Mem} {Q : Option Value → Mem → Prop} (h : (x8 ≤ x9 → LX12_howMany_117 G d rc rs p0 x1 l2 x4 x5 l6 x8 0 0 M Q) ∧ (¬ x8 ≤ x9 → (¬ x9 = 0 → (x_h M p0).1 = 28 ∧ Call G d 0 0 mX12_goes [.ref p0, .int x1, .int 0, .int 0] M (fun r4 M5 => r4 = none ∧ LX12_howMany_82 G d rc rs p0 x1 l2 x4 x5 l6 x8 (x9 + 1) z10 M5 Q)) ∧ (x9 = 0 → (x_h M p0).1 = 28 ∧ Call G d 0 0 mX12_goes [.ref p0, .int x1, .int 1, .int 0] M (fun r7 M8 => r7 = none ∧ LX12_howMany_82 G d rc rs p0 x1 l2 x4 x5 l6 x8 (x9 + 1) z10 M8 Q)))) : LX12_howMany_82 G d rc rs p0 x1 l2 x4 x5 l6 x8 x9 z10 M Q := by
  show Wk G (d + 1) rc rs mX12_howMany 82 _ _ M Q
  refine r_iload (pc := 82) (i := 9) dX12_howMany_82 rfl ?_
  refine r_iload (pc := 84) (i := 8) dX12_howMany_84 rfl ?_
  refine r_icmp_ge (pc := 86) (tgt := 111) dX12_howMany_86 (by decide) (fun c1 => ?_) (fun c1 => ?_)
  · replace h := h.1 c1
    refine r_iconst (pc := 111) (v := 0) dX12_howMany_111 (by decide) ?_
    refine r_istore (pc := 112) (i := 9) dX12_howMany_112 rfl (Nat.le_of_ble_eq_true rfl) ?_
    refine r_iconst (pc := 114) (v := 0) dX12_howMany_114 (by decide) ?_
    refine r_istore (pc := 115) (i := 10) dX12_howMany_115 rfl (Nat.le_of_ble_eq_true rfl) ?_
    exact h
  · replace h := h.2 c1
    refine r_aload_n (pc := 89) (i := 0) dX12_howMany_89 rfl rfl ?_
    refine r_iload_n (pc := 90) (i := 1) dX12_howMany_90 rfl rfl ?_
    refine r_iload (pc := 91) (i := 9) dX12_howMany_91 rfl ?_
    refine r_if_ne (pc := 93) (tgt := 100) dX12_howMany_93 (by decide) (fun c2 => ?_) (fun c2 => ?_)
    · replace h := h.1 c2
      refine r_iconst (pc := 100) (v := 0) dX12_howMany_100 (by decide) ?_
      refine r_iconst (pc := 101) (v := 0) dX12_howMany_101 (by decide) ?_
      obtain ⟨k3, h⟩ := h
      refine r_callV (pc := 102) (ci := 12) (as := [_, _, _]) (st := []) okX12_goes lkX12_531 inX12_goes seX12_goes ⟨_, rfl, rfl⟩ dX12_howMany_102 rfl k3 (Nat.le_of_ble_eq_true rfl) (Nat.zero_le _) (Nat.zero_le _) (Call.mono h (fun r4 M5 h => ?_))
      obtain ⟨rfl, h⟩ := h
      refine r_iinc (pc := 105) (i := 9) (v := _ + 1) dX12_howMany_105 rfl rfl rfl ?_
      refine r_goto (pc := 108) (tgt := 82) dX12_howMany_108 (by decide) ?_
      exact h
    · replace h := h.2 c2
      refine r_iconst (pc := 96) (v := 1) dX12_howMany_96 (by decide) ?_
      refine r_goto (pc := 97) (tgt := 101) dX12_howMany_97 (by decide) ?_
      refine r_iconst (pc := 101) (v := 0) dX12_howMany_101 (by decide) ?_
      obtain ⟨k6, h⟩ := h
      refine r_callV (pc := 102) (ci := 12) (as := [_, _, _]) (st := []) okX12_goes lkX12_531 inX12_goes seX12_goes ⟨_, rfl, rfl⟩ dX12_howMany_102 rfl k6 (Nat.le_of_ble_eq_true rfl) (Nat.zero_le _) (Nat.zero_le _) (Call.mono h (fun r7 M8 h => ?_))
      obtain ⟨rfl, h⟩ := h
      refine r_iinc (pc := 105) (i := 9) (v := _ + 1) dX12_howMany_105 rfl rfl rfl ?_
      refine r_goto (pc := 108) (tgt := 82) dX12_howMany_108 (by decide) ?_
      exact h
theorem vX12_howMany_117 {G : GG} {d rc rs : Nat} (p0 : Nat) (x1 : Int32) (l2 : Int64) (x4 : Int32) (x5 : Int32) (l6 : Int64) (x8 : Int32) (x9 : Int32) (x10 : Int32)  {M : Mem} {Q : Option Value → Mem → Prop} (h : (x5 ≤ x10 → (x9 = 0 → (x9 = 0 → LX12_howMany_35 G d rc rs p0 x1 l2 x4 x5 l6 (x8 + 1) (some (.int x9)) (some (.int x10)) M Q) ∧ (¬ x9 = 0 → (x_h M p0).1 = 28 ∧ Call G d 0 0 mX12_behind [.ref p0, .int x1, .int x4] M (fun r5 M6 => ∃ v7 : Int64, r5 = some (.long v7) ∧ Call G d 0 0 mX12_plus [.long l6, .long v7] M6 (fun r8 M9 => ∃ v10 : Int64, r8 = some (.long v10) ∧ LX12_howMany_35 G d rc rs p0 x1 l2 x4 x5 v10 (x8 + 1) (some (.int x9)) (some (.int x10)) M9 Q)))) ∧ (¬ x9 = 0 → (x8 ≤ x5 → (x9 = 0 → LX12_howMany_35 G d rc rs p0 x1 l2 x4 x5 l6 (x8 + 1) (some (.int x9)) (some (.int x10)) M Q) ∧ (¬ x9 = 0 → (x_h M p0).1 = 28 ∧ Call G d 0 0 mX12_behind [.ref p0, .int x1, .int x4] M (fun r14 M15 => ∃ v16 : Int64, r14 = some (.long v16) ∧ Call G d 0 0 mX12_plus [.long l6, .long v16] M15 (fun r17 M18 => ∃ v19 : Int64, r17 = some (.long v19) ∧ LX12_howMany_35 G d rc rs p0 x1 l2 x4 x5 v19 (x8 + 1) (some (.int x9)) (some (.int x10)) M18 Q)))) ∧ (¬ x8 ≤ x5 → Q (some (.long (-1))) M))) ∧ (¬ x5 ≤ x10 → (¬ x9 = 0 → LX12_howMany_117 G d rc rs p0 x1 l2 x4 x5 l6 x8 1 (x10 + 1) M Q) ∧ (x9 = 0 → (x_h M p0).1 = 28 ∧ (∃ b22, x_r M p0 89 = some b22 ∧ (x_h M b22).1 = 2 ∧ vp_in x10 (x_h M b22).2 ∧ ((lg_cmp (x_l M b22 x10.toNatClampNeg) 0) ≤ 0 → LX12_howMany_117 G d rc rs p0 x1 l2 x4 x5 l6 x8 0 (x10 + 1) M Q) ∧ (¬ (lg_cmp (x_l M b22 x10.toNatClampNeg) 0) ≤ 0 → ∃ b26, x_r M p0 91 = some b26 ∧ (x_h M b26).1 = 3 ∧ vp_in x10 (x_h M b26).2 ∧ ((x_i M b26 x10.toNatClampNeg) = 0 → LX12_howMany_117 G d rc rs p0 x1 l2 x4 x5 l6 x8 0 (x10 + 1) M Q) ∧ (¬ (x_i M b26 x10.toNatClampNeg) = 0 → LX12_howMany_117 G d rc rs p0 x1 l2 x4 x5 l6 x8 1 (x10 + 1) M Q)))))) : LX12_howMany_117 G d rc rs p0 x1 l2 x4 x5 l6 x8 x9 x10 M Q := by
  show Wk G (d + 1) rc rs mX12_howMany 117 _ _ M Q
  refine r_iload (pc := 117) (i := 10) dX12_howMany_117 rfl ?_
  refine r_iload (pc := 119) (i := 5) dX12_howMany_119 rfl ?_
  refine r_icmp_ge (pc := 121) (tgt := 164) dX12_howMany_121 (by decide) (fun c1 => ?_) (fun c1 => ?_)
  · replace h := h.1 c1
    refine r_iload (pc := 164) (i := 9) dX12_howMany_164 rfl ?_
    refine r_if_eq (pc := 166) (tgt := 180) dX12_howMany_166 (by decide) (fun c2 => ?_) (fun c2 => ?_)
    · replace h := h.1 c2
      refine r_iload (pc := 180) (i := 9) dX12_howMany_180 rfl ?_
      refine r_if_eq (pc := 182) (tgt := 200) dX12_howMany_182 (by decide) (fun c3 => ?_) (fun c3 => ?_)
      · replace h := h.1 c3
        refine r_lload (pc := 200) (i := 6) dX12_howMany_200 rfl ?_
        refine r_lstore (pc := 202) (i := 6) dX12_howMany_202 rfl (Nat.le_of_ble_eq_true rfl) ?_
        refine r_iinc (pc := 204) (i := 8) (v := _ + 1) dX12_howMany_204 rfl rfl rfl ?_
        refine r_goto (pc := 207) (tgt := 35) dX12_howMany_207 (by decide) ?_
        exact h
      · replace h := h.2 c3
        refine r_lload (pc := 185) (i := 6) dX12_howMany_185 rfl ?_
        refine r_aload_n (pc := 187) (i := 0) dX12_howMany_187 rfl rfl ?_
        refine r_iload_n (pc := 188) (i := 1) dX12_howMany_188 rfl rfl ?_
        refine r_iload (pc := 189) (i := 4) dX12_howMany_189 rfl ?_
        obtain ⟨k4, h⟩ := h
        refine r_callV (pc := 191) (ci := 12) (as := [_, _]) (st := [_]) okX12_behind lkX12_535 inX12_behind seX12_behind ⟨_, rfl, rfl⟩ dX12_howMany_191 rfl k4 (Nat.le_of_ble_eq_true rfl) (Nat.zero_le _) (Nat.zero_le _) (Call.mono h (fun r5 M6 h => ?_))
        obtain ⟨v7, rfl, h⟩ := h
        refine r_callS (pc := 194) (as := [_, _]) (st := []) okX12_plus lkX12_519 stX12_plus dX12_howMany_194 rfl (Nat.le_of_ble_eq_true rfl) (Nat.zero_le _) (Nat.zero_le _) (Call.mono h (fun r8 M9 h => ?_))
        obtain ⟨v10, rfl, h⟩ := h
        refine r_goto (pc := 197) (tgt := 202) dX12_howMany_197 (by decide) ?_
        refine r_lstore (pc := 202) (i := 6) dX12_howMany_202 rfl (Nat.le_of_ble_eq_true rfl) ?_
        refine r_iinc (pc := 204) (i := 8) (v := _ + 1) dX12_howMany_204 rfl rfl rfl ?_
        refine r_goto (pc := 207) (tgt := 35) dX12_howMany_207 (by decide) ?_
        exact h
    · replace h := h.2 c2
      refine r_iload (pc := 169) (i := 8) dX12_howMany_169 rfl ?_
      refine r_iload (pc := 171) (i := 5) dX12_howMany_171 rfl ?_
      refine r_icmp_le (pc := 173) (tgt := 180) dX12_howMany_173 (by decide) (fun c11 => ?_) (fun c11 => ?_)
      · replace h := h.1 c11
        refine r_iload (pc := 180) (i := 9) dX12_howMany_180 rfl ?_
        refine r_if_eq (pc := 182) (tgt := 200) dX12_howMany_182 (by decide) (fun c12 => ?_) (fun c12 => ?_)
        · replace h := h.1 c12
          refine r_lload (pc := 200) (i := 6) dX12_howMany_200 rfl ?_
          refine r_lstore (pc := 202) (i := 6) dX12_howMany_202 rfl (Nat.le_of_ble_eq_true rfl) ?_
          refine r_iinc (pc := 204) (i := 8) (v := _ + 1) dX12_howMany_204 rfl rfl rfl ?_
          refine r_goto (pc := 207) (tgt := 35) dX12_howMany_207 (by decide) ?_
          exact h
        · replace h := h.2 c12
          refine r_lload (pc := 185) (i := 6) dX12_howMany_185 rfl ?_
          refine r_aload_n (pc := 187) (i := 0) dX12_howMany_187 rfl rfl ?_
          refine r_iload_n (pc := 188) (i := 1) dX12_howMany_188 rfl rfl ?_
          refine r_iload (pc := 189) (i := 4) dX12_howMany_189 rfl ?_
          obtain ⟨k13, h⟩ := h
          refine r_callV (pc := 191) (ci := 12) (as := [_, _]) (st := [_]) okX12_behind lkX12_535 inX12_behind seX12_behind ⟨_, rfl, rfl⟩ dX12_howMany_191 rfl k13 (Nat.le_of_ble_eq_true rfl) (Nat.zero_le _) (Nat.zero_le _) (Call.mono h (fun r14 M15 h => ?_))
          obtain ⟨v16, rfl, h⟩ := h
          refine r_callS (pc := 194) (as := [_, _]) (st := []) okX12_plus lkX12_519 stX12_plus dX12_howMany_194 rfl (Nat.le_of_ble_eq_true rfl) (Nat.zero_le _) (Nat.zero_le _) (Call.mono h (fun r17 M18 h => ?_))
          obtain ⟨v19, rfl, h⟩ := h
          refine r_goto (pc := 197) (tgt := 202) dX12_howMany_197 (by decide) ?_
          refine r_lstore (pc := 202) (i := 6) dX12_howMany_202 rfl (Nat.le_of_ble_eq_true rfl) ?_
          refine r_iinc (pc := 204) (i := 8) (v := _ + 1) dX12_howMany_204 rfl rfl rfl ?_
          refine r_goto (pc := 207) (tgt := 35) dX12_howMany_207 (by decide) ?_
          exact h
      · replace h := h.2 c11
        refine r_ldc2 (pc := 176) (v := (-1)) dX12_howMany_176 ww_1784 ?_
        exact r_lret (pc := 179) dX12_howMany_179 rfl h
  · replace h := h.2 c1
    refine r_iload (pc := 124) (i := 9) dX12_howMany_124 rfl ?_
    refine r_if_ne (pc := 126) (tgt := 151) dX12_howMany_126 (by decide) (fun c20 => ?_) (fun c20 => ?_)
    · replace h := h.1 c20
      refine r_iconst (pc := 151) (v := 1) dX12_howMany_151 (by decide) ?_
      refine r_goto (pc := 152) (tgt := 156) dX12_howMany_152 (by decide) ?_
      refine r_istore (pc := 156) (i := 9) dX12_howMany_156 rfl (Nat.le_of_ble_eq_true rfl) ?_
      refine r_iinc (pc := 158) (i := 10) (v := _ + 1) dX12_howMany_158 rfl rfl rfl ?_
      refine r_goto (pc := 161) (tgt := 117) dX12_howMany_161 (by decide) ?_
      exact h
    · replace h := h.2 c20
      refine r_aload_n (pc := 129) (i := 0) dX12_howMany_129 rfl rfl ?_
      obtain ⟨k21, h⟩ := h
      obtain ⟨b22, hb22, h⟩ := h
      refine r_getr (pc := 130) flX12_203 dX12_howMany_130 rfl k21 hb22 ?_
      refine r_iload (pc := 133) (i := 10) dX12_howMany_133 rfl ?_
      obtain ⟨k23, h⟩ := h
      obtain ⟨i24, h⟩ := h
      refine r_lald (pc := 135) dX12_howMany_135 k23 i24 ?_
      refine r_lconst (pc := 136) (v := 0) dX12_howMany_136 (by decide) ?_
      refine r_lcmp (pc := 137) dX12_howMany_137 ?_
      refine r_if_le (pc := 138) (tgt := 155) dX12_howMany_138 (by decide) (fun c25 => ?_) (fun c25 => ?_)
      · replace h := h.1 c25
        refine r_iconst (pc := 155) (v := 0) dX12_howMany_155 (by decide) ?_
        refine r_istore (pc := 156) (i := 9) dX12_howMany_156 rfl (Nat.le_of_ble_eq_true rfl) ?_
        refine r_iinc (pc := 158) (i := 10) (v := _ + 1) dX12_howMany_158 rfl rfl rfl ?_
        refine r_goto (pc := 161) (tgt := 117) dX12_howMany_161 (by decide) ?_
        exact h
      · replace h := h.2 c25
        refine r_aload_n (pc := 141) (i := 0) dX12_howMany_141 rfl rfl ?_
        obtain ⟨b26, hb26, h⟩ := h
        refine r_getr (pc := 142) flX12_209 dX12_howMany_142 rfl k21 hb26 ?_
        refine r_iload (pc := 145) (i := 10) dX12_howMany_145 rfl ?_
        obtain ⟨k27, h⟩ := h
        obtain ⟨i28, h⟩ := h
        refine r_zald (pc := 147) dX12_howMany_147 k27 i28 ?_
        refine r_if_eq (pc := 148) (tgt := 155) dX12_howMany_148 (by decide) (fun c29 => ?_) (fun c29 => ?_)
        · replace h := h.1 c29
          refine r_iconst (pc := 155) (v := 0) dX12_howMany_155 (by decide) ?_
          refine r_istore (pc := 156) (i := 9) dX12_howMany_156 rfl (Nat.le_of_ble_eq_true rfl) ?_
          refine r_iinc (pc := 158) (i := 10) (v := _ + 1) dX12_howMany_158 rfl rfl rfl ?_
          refine r_goto (pc := 161) (tgt := 117) dX12_howMany_161 (by decide) ?_
          exact h
        · replace h := h.2 c29
          refine r_iconst (pc := 151) (v := 1) dX12_howMany_151 (by decide) ?_
          refine r_goto (pc := 152) (tgt := 156) dX12_howMany_152 (by decide) ?_
          refine r_istore (pc := 156) (i := 9) dX12_howMany_156 rfl (Nat.le_of_ble_eq_true rfl) ?_
          refine r_iinc (pc := 158) (i := 10) (v := _ + 1) dX12_howMany_158 rfl rfl rfl ?_
          refine r_goto (pc := 161) (tgt := 117) dX12_howMany_161 (by decide) ?_
          exact h
abbrev LX12_behind_2 (G : GG) (d rc rs : Nat) (p0 : Nat) (x1 : Int32) (x2 : Int32) (x3 : Int32) (M : Mem) (Q : Option Value → Mem → Prop) : Prop := Wk G (d + 1) rc rs mX12_behind 2 [some (.ref p0), some (.int x1), some (.int x2), some (.int x3), none, none] [] M Q
abbrev LX12_behind_50 (G : GG) (d rc rs : Nat) (p0 : Nat) (x1 : Int32) (x2 : Int32) (l3 : Int64) (x5 : Int32) (M : Mem) (Q : Option Value → Mem → Prop) : Prop := Wk G (d + 1) rc rs mX12_behind 50 [some (.ref p0), some (.int x1), some (.int x2), some (.long l3), none, some (.int x5)] [] M Q
theorem eX12_behind {G : GG} {d rc rs : Nat} (o : Nat) (a1 : Int32) (a2 : Int32)  {M : Mem} {Q : Option Value → Mem → Prop} (h : LX12_behind_2 G d rc rs o a1 a2 0 M Q) : Call G (d + 1) rc rs mX12_behind [.ref o, .int a1, .int a2] M Q := by
  refine call_of (by decide) (Nat.le_of_ble_eq_true rfl) ?_
  show Wk G (d + 1) rc rs mX12_behind 0 [some (.ref o), some (.int a1), some (.int a2), none, none, none] [] M Q
  refine r_iconst (pc := 0) (v := 0) dX12_behind_0 (by decide) ?_
  refine r_istore_n (pc := 1) (i := 3) dX12_behind_1 rfl rfl (Nat.le_of_ble_eq_true rfl) ?_
  exact h
theorem vX12_behind_2 {G : GG} {d rc rs : Nat} (p0 : Nat) (x1 : Int32) (x2 : Int32) (x3 : Int32)  {M : Mem} {Q : Option Value → Mem → Prop} (h : (x2 ≤ x3 → LX12_behind_50 G d rc rs p0 x1 x2 0 0 M Q) ∧ (¬ x2 ≤ x3 → (x_h M p0).1 = 28 ∧ (∃ b3, x_r M p0 11 = some b3 ∧ (x_h M b3).1 = 1 ∧ vp_in x1 (x_h M b3).2 ∧ Call G d 0 0 mX12_bits [.int (x_i M b3 x1.toNatClampNeg)] M (fun r6 M7 => ∃ v8 : Int32, r6 = some (.int v8) ∧ (¬ v8 = 2 → (x_h M7 p0).1 = 28 ∧ Call G d 0 0 mX12_goes [.ref p0, .int x1, .int 0, .int 0] M7 (fun r11 M12 => r11 = none ∧ LX12_behind_2 G d rc rs p0 x1 x2 (x3 + 1) M12 Q)) ∧ (v8 = 2 → (x_h M7 p0).1 = 28 ∧ (∃ b14, x_r M7 p0 85 = some b14 ∧ (x_h M7 b14).1 = 1 ∧ vp_in (110 + x3) (x_h M7 b14).2 ∧ Call G d 0 0 mX12_goes [.ref p0, .int x1, .int 0, .int (x_i M7 b14 (110 + x3).toNatClampNeg)] M7 (fun r17 M18 => r17 = none ∧ LX12_behind_2 G d rc rs p0 x1 x2 (x3 + 1) M18 Q))))))) : LX12_behind_2 G d rc rs p0 x1 x2 x3 M Q := by
  show Wk G (d + 1) rc rs mX12_behind 2 _ _ M Q
  refine r_iload_n (pc := 2) (i := 3) dX12_behind_2 rfl rfl ?_
  refine r_iload_n (pc := 3) (i := 2) dX12_behind_3 rfl rfl ?_
  refine r_icmp_ge (pc := 4) (tgt := 45) dX12_behind_4 (by decide) (fun c1 => ?_) (fun c1 => ?_)
  · replace h := h.1 c1
    refine r_lconst (pc := 45) (v := 0) dX12_behind_45 (by decide) ?_
    refine r_lstore_n (pc := 46) (i := 3) dX12_behind_46 rfl rfl (Nat.le_of_ble_eq_true rfl) ?_
    refine r_iconst (pc := 47) (v := 0) dX12_behind_47 (by decide) ?_
    refine r_istore (pc := 48) (i := 5) dX12_behind_48 rfl (Nat.le_of_ble_eq_true rfl) ?_
    exact h
  · replace h := h.2 c1
    refine r_aload_n (pc := 7) (i := 0) dX12_behind_7 rfl rfl ?_
    refine r_iload_n (pc := 8) (i := 1) dX12_behind_8 rfl rfl ?_
    refine r_iconst (pc := 9) (v := 0) dX12_behind_9 (by decide) ?_
    refine r_aload_n (pc := 10) (i := 0) dX12_behind_10 rfl rfl ?_
    obtain ⟨k2, h⟩ := h
    obtain ⟨b3, hb3, h⟩ := h
    refine r_getr (pc := 11) flX12_38 dX12_behind_11 rfl k2 hb3 ?_
    refine r_iload_n (pc := 14) (i := 1) dX12_behind_14 rfl rfl ?_
    obtain ⟨k4, h⟩ := h
    obtain ⟨i5, h⟩ := h
    refine r_iald (pc := 15) dX12_behind_15 k4 i5 ?_
    refine r_callS (pc := 16) (as := [_]) (st := [_, _, _]) okX12_bits lkX12_222 stX12_bits dX12_behind_16 rfl (Nat.le_of_ble_eq_true rfl) (Nat.zero_le _) (Nat.zero_le _) (Call.mono h (fun r6 M7 h => ?_))
    obtain ⟨v8, rfl, h⟩ := h
    refine r_iconst (pc := 19) (v := 2) dX12_behind_19 (by decide) ?_
    refine r_icmp_ne (pc := 20) (tgt := 35) dX12_behind_20 (by decide) (fun c9 => ?_) (fun c9 => ?_)
    · replace h := h.1 c9
      refine r_iconst (pc := 35) (v := 0) dX12_behind_35 (by decide) ?_
      obtain ⟨k10, h⟩ := h
      refine r_callV (pc := 36) (ci := 12) (as := [_, _, _]) (st := []) okX12_goes lkX12_531 inX12_goes seX12_goes ⟨_, rfl, rfl⟩ dX12_behind_36 rfl k10 (Nat.le_of_ble_eq_true rfl) (Nat.zero_le _) (Nat.zero_le _) (Call.mono h (fun r11 M12 h => ?_))
      obtain ⟨rfl, h⟩ := h
      refine r_iinc (pc := 39) (i := 3) (v := _ + 1) dX12_behind_39 rfl rfl rfl ?_
      refine r_goto (pc := 42) (tgt := 2) dX12_behind_42 (by decide) ?_
      exact h
    · replace h := h.2 c9
      refine r_aload_n (pc := 23) (i := 0) dX12_behind_23 rfl rfl ?_
      obtain ⟨k13, h⟩ := h
      obtain ⟨b14, hb14, h⟩ := h
      refine r_getr (pc := 24) flX12_191 dX12_behind_24 rfl k13 hb14 ?_
      refine r_bipush (pc := 27) (v := 110) dX12_behind_27 (by decide) ?_
      refine r_iload_n (pc := 29) (i := 3) dX12_behind_29 rfl rfl ?_
      refine r_iadd (pc := 30) dX12_behind_30 ?_
      obtain ⟨k15, h⟩ := h
      obtain ⟨i16, h⟩ := h
      refine r_iald (pc := 31) dX12_behind_31 k15 i16 ?_
      refine r_goto (pc := 32) (tgt := 36) dX12_behind_32 (by decide) ?_
      refine r_callV (pc := 36) (ci := 12) (as := [_, _, _]) (st := []) okX12_goes lkX12_531 inX12_goes seX12_goes ⟨_, rfl, rfl⟩ dX12_behind_36 rfl k13 (Nat.le_of_ble_eq_true rfl) (Nat.zero_le _) (Nat.zero_le _) (Call.mono h (fun r17 M18 h => ?_))
      obtain ⟨rfl, h⟩ := h
      refine r_iinc (pc := 39) (i := 3) (v := _ + 1) dX12_behind_39 rfl rfl rfl ?_
      refine r_goto (pc := 42) (tgt := 2) dX12_behind_42 (by decide) ?_
      exact h
theorem vX12_behind_50 {G : GG} {d rc rs : Nat} (p0 : Nat) (x1 : Int32) (x2 : Int32) (l3 : Int64) (x5 : Int32)  {M : Mem} {Q : Option Value → Mem → Prop} (h : (x_h M p0).1 = 28 ∧ (∃ b2, x_r M p0 14 = some b2 ∧ (x_h M b2).1 = 1 ∧ vp_in x1 (x_h M b2).2 ∧ ((x_i M b2 x1.toNatClampNeg) ≤ x5 → Q (some (.long l3)) M) ∧ (¬ (x_i M b2 x1.toNatClampNeg) ≤ x5 → ∃ b6, x_r M p0 16 = some b6 ∧ (x_h M b6).1 = 3 ∧ vp_in ((40 * x1) + x5) (x_h M b6).2 ∧ ((x_i M b6 ((40 * x1) + x5).toNatClampNeg) = 0 → LX12_behind_50 G d rc rs p0 x1 x2 l3 (x5 + 1) M Q) ∧ (¬ (x_i M b6 ((40 * x1) + x5).toNatClampNeg) = 0 → ∃ b10, x_r M p0 89 = some b10 ∧ (x_h M b10).1 = 2 ∧ vp_in x5 (x_h M b10).2 ∧ Call G d 0 0 mX12_plus [.long l3, .long (x_l M b10 x5.toNatClampNeg)] M (fun r13 M14 => ∃ v15 : Int64, r13 = some (.long v15) ∧ LX12_behind_50 G d rc rs p0 x1 x2 v15 (x5 + 1) M14 Q))))) : LX12_behind_50 G d rc rs p0 x1 x2 l3 x5 M Q := by
  show Wk G (d + 1) rc rs mX12_behind 50 _ _ M Q
  refine r_iload (pc := 50) (i := 5) dX12_behind_50 rfl ?_
  refine r_aload_n (pc := 52) (i := 0) dX12_behind_52 rfl rfl ?_
  obtain ⟨k1, h⟩ := h
  obtain ⟨b2, hb2, h⟩ := h
  refine r_getr (pc := 53) flX12_47 dX12_behind_53 rfl k1 hb2 ?_
  refine r_iload_n (pc := 56) (i := 1) dX12_behind_56 rfl rfl ?_
  obtain ⟨k3, h⟩ := h
  obtain ⟨i4, h⟩ := h
  refine r_iald (pc := 57) dX12_behind_57 k3 i4 ?_
  refine r_icmp_ge (pc := 58) (tgt := 98) dX12_behind_58 (by decide) (fun c5 => ?_) (fun c5 => ?_)
  · replace h := h.1 c5
    refine r_lload_n (pc := 98) (i := 3) dX12_behind_98 rfl rfl ?_
    exact r_lret (pc := 99) dX12_behind_99 rfl h
  · replace h := h.2 c5
    refine r_aload_n (pc := 61) (i := 0) dX12_behind_61 rfl rfl ?_
    obtain ⟨b6, hb6, h⟩ := h
    refine r_getr (pc := 62) flX12_53 dX12_behind_62 rfl k1 hb6 ?_
    refine r_bipush (pc := 65) (v := 40) dX12_behind_65 (by decide) ?_
    refine r_iload_n (pc := 67) (i := 1) dX12_behind_67 rfl rfl ?_
    refine r_imul (pc := 68) dX12_behind_68 ?_
    refine r_iload (pc := 69) (i := 5) dX12_behind_69 rfl ?_
    refine r_iadd (pc := 71) dX12_behind_71 ?_
    obtain ⟨k7, h⟩ := h
    obtain ⟨i8, h⟩ := h
    refine r_zald (pc := 72) dX12_behind_72 k7 i8 ?_
    refine r_if_eq (pc := 73) (tgt := 90) dX12_behind_73 (by decide) (fun c9 => ?_) (fun c9 => ?_)
    · replace h := h.1 c9
      refine r_lload_n (pc := 90) (i := 3) dX12_behind_90 rfl rfl ?_
      refine r_lstore_n (pc := 91) (i := 3) dX12_behind_91 rfl rfl (Nat.le_of_ble_eq_true rfl) ?_
      refine r_iinc (pc := 92) (i := 5) (v := _ + 1) dX12_behind_92 rfl rfl rfl ?_
      refine r_goto (pc := 95) (tgt := 50) dX12_behind_95 (by decide) ?_
      exact h
    · replace h := h.2 c9
      refine r_lload_n (pc := 76) (i := 3) dX12_behind_76 rfl rfl ?_
      refine r_aload_n (pc := 77) (i := 0) dX12_behind_77 rfl rfl ?_
      obtain ⟨b10, hb10, h⟩ := h
      refine r_getr (pc := 78) flX12_203 dX12_behind_78 rfl k1 hb10 ?_
      refine r_iload (pc := 81) (i := 5) dX12_behind_81 rfl ?_
      obtain ⟨k11, h⟩ := h
      obtain ⟨i12, h⟩ := h
      refine r_lald (pc := 83) dX12_behind_83 k11 i12 ?_
      refine r_callS (pc := 84) (as := [_, _]) (st := []) okX12_plus lkX12_519 stX12_plus dX12_behind_84 rfl (Nat.le_of_ble_eq_true rfl) (Nat.zero_le _) (Nat.zero_le _) (Call.mono h (fun r13 M14 h => ?_))
      obtain ⟨v15, rfl, h⟩ := h
      refine r_goto (pc := 87) (tgt := 91) dX12_behind_87 (by decide) ?_
      refine r_lstore_n (pc := 91) (i := 3) dX12_behind_91 rfl rfl (Nat.le_of_ble_eq_true rfl) ?_
      refine r_iinc (pc := 92) (i := 5) (v := _ + 1) dX12_behind_92 rfl rfl rfl ?_
      refine r_goto (pc := 95) (tgt := 50) dX12_behind_95 (by decide) ?_
      exact h
abbrev LX12_start_2 (G : GG) (d rc rs : Nat) (p0 : Nat) (x1 : Int32) (x2 : Int32) (x3 : Int32) (M : Mem) (Q : Option Value → Mem → Prop) : Prop := Wk G (d + 1) rc rs mX12_start 2 [some (.ref p0), some (.int x1), some (.int x2), some (.int x3)] [] M Q
theorem eX12_start {G : GG} {d rc rs : Nat} (o : Nat) (a1 : Int32) (a2 : Int32)  {M : Mem} {Q : Option Value → Mem → Prop} (h : LX12_start_2 G d rc rs o a1 a2 0 M Q) : Call G (d + 1) rc rs mX12_start [.ref o, .int a1, .int a2] M Q := by
  refine call_of (by decide) (Nat.le_of_ble_eq_true rfl) ?_
  show Wk G (d + 1) rc rs mX12_start 0 [some (.ref o), some (.int a1), some (.int a2), none] [] M Q
  refine r_iconst (pc := 0) (v := 0) dX12_start_0 (by decide) ?_
  refine r_istore_n (pc := 1) (i := 3) dX12_start_1 rfl rfl (Nat.le_of_ble_eq_true rfl) ?_
  exact h
theorem vX12_start_2 {G : GG} {d rc rs : Nat} (p0 : Nat) (x1 : Int32) (x2 : Int32) (x3 : Int32)  {M : Mem} {Q : Option Value → Mem → Prop} (h : (x_h M p0).1 = 28 ∧ (∃ b2, x_r M p0 14 = some b2 ∧ (x_h M b2).1 = 1 ∧ vp_in x1 (x_h M b2).2 ∧ ((x_i M b2 x1.toNatClampNeg) ≤ x3 → Call G d 0 0 mX12_behind [.ref p0, .int x1, .int x2] M (fun r6 M7 => ∃ v8 : Int64, r6 = some (.long v8) ∧ Q (some (.long v8)) M7)) ∧ (¬ (x_i M b2 x1.toNatClampNeg) ≤ x3 → ∃ b9, x_r M p0 89 = some b9 ∧ (¬ x3 = 0 → (x_h M b9).1 = 2 ∧ vp_in x3 (x_h M b9).2 ∧ (∀ M13, M13 = x_sl M b9 x3.toNatClampNeg 0 → LX12_start_2 G d rc rs p0 x1 x2 (x3 + 1) M13 Q)) ∧ (x3 = 0 → (x_h M b9).1 = 2 ∧ vp_in x3 (x_h M b9).2 ∧ (∀ M16, M16 = x_sl M b9 x3.toNatClampNeg 1 → LX12_start_2 G d rc rs p0 x1 x2 (x3 + 1) M16 Q))))) : LX12_start_2 G d rc rs p0 x1 x2 x3 M Q := by
  show Wk G (d + 1) rc rs mX12_start 2 _ _ M Q
  refine r_iload_n (pc := 2) (i := 3) dX12_start_2 rfl rfl ?_
  refine r_aload_n (pc := 3) (i := 0) dX12_start_3 rfl rfl ?_
  obtain ⟨k1, h⟩ := h
  obtain ⟨b2, hb2, h⟩ := h
  refine r_getr (pc := 4) flX12_47 dX12_start_4 rfl k1 hb2 ?_
  refine r_iload_n (pc := 7) (i := 1) dX12_start_7 rfl rfl ?_
  obtain ⟨k3, h⟩ := h
  obtain ⟨i4, h⟩ := h
  refine r_iald (pc := 8) dX12_start_8 k3 i4 ?_
  refine r_icmp_ge (pc := 9) (tgt := 33) dX12_start_9 (by decide) (fun c5 => ?_) (fun c5 => ?_)
  · replace h := h.1 c5
    refine r_aload_n (pc := 33) (i := 0) dX12_start_33 rfl rfl ?_
    refine r_iload_n (pc := 34) (i := 1) dX12_start_34 rfl rfl ?_
    refine r_iload_n (pc := 35) (i := 2) dX12_start_35 rfl rfl ?_
    refine r_callV (pc := 36) (ci := 12) (as := [_, _]) (st := []) okX12_behind lkX12_535 inX12_behind seX12_behind ⟨_, rfl, rfl⟩ dX12_start_36 rfl k1 (Nat.le_of_ble_eq_true rfl) (Nat.zero_le _) (Nat.zero_le _) (Call.mono h (fun r6 M7 h => ?_))
    obtain ⟨v8, rfl, h⟩ := h
    exact r_lret (pc := 39) dX12_start_39 rfl h
  · replace h := h.2 c5
    refine r_aload_n (pc := 12) (i := 0) dX12_start_12 rfl rfl ?_
    obtain ⟨b9, hb9, h⟩ := h
    refine r_getr (pc := 13) flX12_203 dX12_start_13 rfl k1 hb9 ?_
    refine r_iload_n (pc := 16) (i := 3) dX12_start_16 rfl rfl ?_
    refine r_iload_n (pc := 17) (i := 3) dX12_start_17 rfl rfl ?_
    refine r_if_ne (pc := 18) (tgt := 25) dX12_start_18 (by decide) (fun c10 => ?_) (fun c10 => ?_)
    · replace h := h.1 c10
      refine r_lconst (pc := 25) (v := 0) dX12_start_25 (by decide) ?_
      obtain ⟨k11, h⟩ := h
      obtain ⟨i12, h⟩ := h
      refine r_last (pc := 26) dX12_start_26 k11 i12 ?_
      replace h := h _ rfl
      refine r_iinc (pc := 27) (i := 3) (v := _ + 1) dX12_start_27 rfl rfl rfl ?_
      refine r_goto (pc := 30) (tgt := 2) dX12_start_30 (by decide) ?_
      exact h
    · replace h := h.2 c10
      refine r_lconst (pc := 21) (v := 1) dX12_start_21 (by decide) ?_
      refine r_goto (pc := 22) (tgt := 26) dX12_start_22 (by decide) ?_
      obtain ⟨k14, h⟩ := h
      obtain ⟨i15, h⟩ := h
      refine r_last (pc := 26) dX12_start_26 k14 i15 ?_
      replace h := h _ rfl
      refine r_iinc (pc := 27) (i := 3) (v := _ + 1) dX12_start_27 rfl rfl rfl ?_
      refine r_goto (pc := 30) (tgt := 2) dX12_start_30 (by decide) ?_
      exact h
abbrev LX12_good_2 (G : GG) (d rc rs : Nat) (p0 : Nat) (x1 : Int32) (x2 : Int32) (x3 : Int32) (z4 : Option Value) (M : Mem) (Q : Option Value → Mem → Prop) : Prop := Wk G (d + 1) rc rs mX12_good 2 [some (.ref p0), some (.int x1), some (.int x2), some (.int x3), z4] [] M Q
abbrev LX12_good_15 (G : GG) (d rc rs : Nat) (p0 : Nat) (x1 : Int32) (x2 : Int32) (x3 : Int32) (x4 : Int32) (M : Mem) (Q : Option Value → Mem → Prop) : Prop := Wk G (d + 1) rc rs mX12_good 15 [some (.ref p0), some (.int x1), some (.int x2), some (.int x3), some (.int x4)] [] M Q
theorem eX12_good {G : GG} {d rc rs : Nat} (o : Nat) (a1 : Int32) (a2 : Int32)  {M : Mem} {Q : Option Value → Mem → Prop} (h : LX12_good_2 G d rc rs o a1 a2 0 none M Q) : Call G (d + 1) rc rs mX12_good [.ref o, .int a1, .int a2] M Q := by
  refine call_of (by decide) (Nat.le_of_ble_eq_true rfl) ?_
  show Wk G (d + 1) rc rs mX12_good 0 [some (.ref o), some (.int a1), some (.int a2), none, none] [] M Q
  refine r_iconst (pc := 0) (v := 0) dX12_good_0 (by decide) ?_
  refine r_istore_n (pc := 1) (i := 3) dX12_good_1 rfl rfl (Nat.le_of_ble_eq_true rfl) ?_
  exact h
theorem vX12_good_2 {G : GG} {d rc rs : Nat} (p0 : Nat) (x1 : Int32) (x2 : Int32) (x3 : Int32) (z4 : Option Value) (hz4 : c1 z4 = true) {M : Mem} {Q : Option Value → Mem → Prop} (h : (x_h M p0).1 = 28 ∧ (∃ b2, x_r M p0 14 = some b2 ∧ (x_h M b2).1 = 1 ∧ vp_in x1 (x_h M b2).2 ∧ ((x_i M b2 x1.toNatClampNeg) ≤ x3 → Q none M) ∧ (¬ (x_i M b2 x1.toNatClampNeg) ≤ x3 → LX12_good_15 G d rc rs p0 x1 x2 x3 0 M Q))) : LX12_good_2 G d rc rs p0 x1 x2 x3 z4 M Q := by
  show Wk G (d + 1) rc rs mX12_good 2 _ _ M Q
  refine r_iload_n (pc := 2) (i := 3) dX12_good_2 rfl rfl ?_
  refine r_aload_n (pc := 3) (i := 0) dX12_good_3 rfl rfl ?_
  obtain ⟨k1, h⟩ := h
  obtain ⟨b2, hb2, h⟩ := h
  refine r_getr (pc := 4) flX12_47 dX12_good_4 rfl k1 hb2 ?_
  refine r_iload_n (pc := 7) (i := 1) dX12_good_7 rfl rfl ?_
  obtain ⟨k3, h⟩ := h
  obtain ⟨i4, h⟩ := h
  refine r_iald (pc := 8) dX12_good_8 k3 i4 ?_
  refine r_icmp_ge (pc := 9) (tgt := 78) dX12_good_9 (by decide) (fun c5 => ?_) (fun c5 => ?_)
  · replace h := h.1 c5
    exact r_vret (pc := 78) dX12_good_78 rfl h
  · replace h := h.2 c5
    refine r_iconst (pc := 12) (v := 0) dX12_good_12 (by decide) ?_
    refine r_istore (pc := 13) (i := 4) dX12_good_13 rfl (Nat.le_of_ble_eq_true rfl) ?_
    exact h
theorem vX12_good_15 {G : GG} {d rc rs : Nat} (p0 : Nat) (x1 : Int32) (x2 : Int32) (x3 : Int32) (x4 : Int32)  {M : Mem} {Q : Option Value → Mem → Prop} (h : (x_h M p0).1 = 28 ∧ (∃ b2, x_r M p0 14 = some b2 ∧ (x_h M b2).1 = 1 ∧ vp_in x1 (x_h M b2).2 ∧ ((x_i M b2 x1.toNatClampNeg) ≤ x4 → ∃ b6, x_r M p0 91 = some b6 ∧ Call G d 0 0 mX12_behind [.ref p0, .int x1, .int x2] M (fun r7 M8 => ∃ v9 : Int64, r7 = some (.long v9) ∧ ((lg_cmp v9 0) ≤ 0 → (x_h M8 b6).1 = 3 ∧ vp_in x3 (x_h M8 b6).2 ∧ (∀ M13, M13 = x_si M8 b6 x3.toNatClampNeg 0 → LX12_good_2 G d rc rs p0 x1 x2 (x3 + 1) (some (.int x4)) M13 Q)) ∧ (¬ (lg_cmp v9 0) ≤ 0 → (x_h M8 b6).1 = 3 ∧ vp_in x3 (x_h M8 b6).2 ∧ (∀ M16, M16 = x_si M8 b6 x3.toNatClampNeg 1 → LX12_good_2 G d rc rs p0 x1 x2 (x3 + 1) (some (.int x4)) M16 Q)))) ∧ (¬ (x_i M b2 x1.toNatClampNeg) ≤ x4 → ∃ b17, x_r M p0 89 = some b17 ∧ (¬ x4 = x3 → (x_h M b17).1 = 2 ∧ vp_in x4 (x_h M b17).2 ∧ (∀ M21, M21 = x_sl M b17 x4.toNatClampNeg 0 → LX12_good_15 G d rc rs p0 x1 x2 x3 (x4 + 1) M21 Q)) ∧ (x4 = x3 → (x_h M b17).1 = 2 ∧ vp_in x4 (x_h M b17).2 ∧ (∀ M24, M24 = x_sl M b17 x4.toNatClampNeg 1 → LX12_good_15 G d rc rs p0 x1 x2 x3 (x4 + 1) M24 Q))))) : LX12_good_15 G d rc rs p0 x1 x2 x3 x4 M Q := by
  show Wk G (d + 1) rc rs mX12_good 15 _ _ M Q
  refine r_iload (pc := 15) (i := 4) dX12_good_15 rfl ?_
  refine r_aload_n (pc := 17) (i := 0) dX12_good_17 rfl rfl ?_
  obtain ⟨k1, h⟩ := h
  obtain ⟨b2, hb2, h⟩ := h
  refine r_getr (pc := 18) flX12_47 dX12_good_18 rfl k1 hb2 ?_
  refine r_iload_n (pc := 21) (i := 1) dX12_good_21 rfl rfl ?_
  obtain ⟨k3, h⟩ := h
  obtain ⟨i4, h⟩ := h
  refine r_iald (pc := 22) dX12_good_22 k3 i4 ?_
  refine r_icmp_ge (pc := 23) (tgt := 50) dX12_good_23 (by decide) (fun c5 => ?_) (fun c5 => ?_)
  · replace h := h.1 c5
    refine r_aload_n (pc := 50) (i := 0) dX12_good_50 rfl rfl ?_
    obtain ⟨b6, hb6, h⟩ := h
    refine r_getr (pc := 51) flX12_209 dX12_good_51 rfl k1 hb6 ?_
    refine r_iload_n (pc := 54) (i := 3) dX12_good_54 rfl rfl ?_
    refine r_aload_n (pc := 55) (i := 0) dX12_good_55 rfl rfl ?_
    refine r_iload_n (pc := 56) (i := 1) dX12_good_56 rfl rfl ?_
    refine r_iload_n (pc := 57) (i := 2) dX12_good_57 rfl rfl ?_
    refine r_callV (pc := 58) (ci := 12) (as := [_, _]) (st := [_, _]) okX12_behind lkX12_535 inX12_behind seX12_behind ⟨_, rfl, rfl⟩ dX12_good_58 rfl k1 (Nat.le_of_ble_eq_true rfl) (Nat.zero_le _) (Nat.zero_le _) (Call.mono h (fun r7 M8 h => ?_))
    obtain ⟨v9, rfl, h⟩ := h
    refine r_lconst (pc := 61) (v := 0) dX12_good_61 (by decide) ?_
    refine r_lcmp (pc := 62) dX12_good_62 ?_
    refine r_if_le (pc := 63) (tgt := 70) dX12_good_63 (by decide) (fun c10 => ?_) (fun c10 => ?_)
    · replace h := h.1 c10
      refine r_iconst (pc := 70) (v := 0) dX12_good_70 (by decide) ?_
      obtain ⟨k11, h⟩ := h
      obtain ⟨i12, h⟩ := h
      refine r_zast (pc := 71) dX12_good_71 (Or.inl rfl) k11 i12 ?_
      replace h := h _ rfl
      refine r_iinc (pc := 72) (i := 3) (v := _ + 1) dX12_good_72 rfl rfl rfl ?_
      refine r_goto (pc := 75) (tgt := 2) dX12_good_75 (by decide) ?_
      exact h
    · replace h := h.2 c10
      refine r_iconst (pc := 66) (v := 1) dX12_good_66 (by decide) ?_
      refine r_goto (pc := 67) (tgt := 71) dX12_good_67 (by decide) ?_
      obtain ⟨k14, h⟩ := h
      obtain ⟨i15, h⟩ := h
      refine r_zast (pc := 71) dX12_good_71 (Or.inr rfl) k14 i15 ?_
      replace h := h _ rfl
      refine r_iinc (pc := 72) (i := 3) (v := _ + 1) dX12_good_72 rfl rfl rfl ?_
      refine r_goto (pc := 75) (tgt := 2) dX12_good_75 (by decide) ?_
      exact h
  · replace h := h.2 c5
    refine r_aload_n (pc := 26) (i := 0) dX12_good_26 rfl rfl ?_
    obtain ⟨b17, hb17, h⟩ := h
    refine r_getr (pc := 27) flX12_203 dX12_good_27 rfl k1 hb17 ?_
    refine r_iload (pc := 30) (i := 4) dX12_good_30 rfl ?_
    refine r_iload (pc := 32) (i := 4) dX12_good_32 rfl ?_
    refine r_iload_n (pc := 34) (i := 3) dX12_good_34 rfl rfl ?_
    refine r_icmp_ne (pc := 35) (tgt := 42) dX12_good_35 (by decide) (fun c18 => ?_) (fun c18 => ?_)
    · replace h := h.1 c18
      refine r_lconst (pc := 42) (v := 0) dX12_good_42 (by decide) ?_
      obtain ⟨k19, h⟩ := h
      obtain ⟨i20, h⟩ := h
      refine r_last (pc := 43) dX12_good_43 k19 i20 ?_
      replace h := h _ rfl
      refine r_iinc (pc := 44) (i := 4) (v := _ + 1) dX12_good_44 rfl rfl rfl ?_
      refine r_goto (pc := 47) (tgt := 15) dX12_good_47 (by decide) ?_
      exact h
    · replace h := h.2 c18
      refine r_lconst (pc := 38) (v := 1) dX12_good_38 (by decide) ?_
      refine r_goto (pc := 39) (tgt := 43) dX12_good_39 (by decide) ?_
      obtain ⟨k22, h⟩ := h
      obtain ⟨i23, h⟩ := h
      refine r_last (pc := 43) dX12_good_43 k22 i23 ?_
      replace h := h _ rfl
      refine r_iinc (pc := 44) (i := 4) (v := _ + 1) dX12_good_44 rfl rfl rfl ?_
      refine r_goto (pc := 47) (tgt := 15) dX12_good_47 (by decide) ?_
      exact h
theorem eX12_many {G : GG} {d rc rs : Nat} (o : Nat) (a1 : Int32)  {M : Mem} {Q : Option Value → Mem → Prop} (h : (x_h M o).1 = 28 ∧ Call G d 0 0 mX12_isOfOne [.ref o, .int a1, .int 1] M (fun r2 M3 => ∃ v4 : Int32, r2 = some (.int v4) ∧ (v4 = 0 → Q (some (.long (-2))) M3) ∧ (¬ v4 = 0 → (x_h M3 o).1 = 28 ∧ Call G d 0 0 mX12_howMany [.ref o, .int a1, .long 0, .int 0] M3 (fun r7 M8 => ∃ v9 : Int64, r7 = some (.long v9) ∧ Q (some (.long v9)) M8)))) : Call G (d + 1) rc rs mX12_many [.ref o, .int a1] M Q := by
  refine call_of (by decide) (Nat.le_of_ble_eq_true rfl) ?_
  show Wk G (d + 1) rc rs mX12_many 0 [some (.ref o), some (.int a1)] [] M Q
  refine r_aload_n (pc := 0) (i := 0) dX12_many_0 rfl rfl ?_
  refine r_iload_n (pc := 1) (i := 1) dX12_many_1 rfl rfl ?_
  refine r_iconst (pc := 2) (v := 1) dX12_many_2 (by decide) ?_
  obtain ⟨k1, h⟩ := h
  refine r_callV (pc := 3) (ci := 12) (as := [_, _]) (st := []) okX12_isOfOne lkX12_509 inX12_isOfOne seX12_isOfOne ⟨_, rfl, rfl⟩ dX12_many_3 rfl k1 (Nat.le_of_ble_eq_true rfl) (Nat.zero_le _) (Nat.zero_le _) (Call.mono h (fun r2 M3 h => ?_))
  obtain ⟨v4, rfl, h⟩ := h
  refine r_if_eq (pc := 6) (tgt := 19) dX12_many_6 (by decide) (fun c5 => ?_) (fun c5 => ?_)
  · replace h := h.1 c5
    refine r_ldc2 (pc := 19) (v := (-2)) dX12_many_19 ww_1777 ?_
    exact r_lret (pc := 22) dX12_many_22 rfl h
  · replace h := h.2 c5
    refine r_aload_n (pc := 9) (i := 0) dX12_many_9 rfl rfl ?_
    refine r_iload_n (pc := 10) (i := 1) dX12_many_10 rfl rfl ?_
    refine r_lconst (pc := 11) (v := 0) dX12_many_11 (by decide) ?_
    refine r_iconst (pc := 12) (v := 0) dX12_many_12 (by decide) ?_
    obtain ⟨k6, h⟩ := h
    refine r_callV (pc := 13) (ci := 12) (as := [_, _, _]) (st := []) okX12_howMany lkX12_538 inX12_howMany seX12_howMany ⟨_, rfl, rfl⟩ dX12_many_13 rfl k6 (Nat.le_of_ble_eq_true rfl) (Nat.zero_le _) (Nat.zero_le _) (Call.mono h (fun r7 M8 h => ?_))
    obtain ⟨v9, rfl, h⟩ := h
    refine r_goto (pc := 16) (tgt := 22) dX12_many_16 (by decide) ?_
    exact r_lret (pc := 22) dX12_many_22 rfl h
theorem eX12_values {G : GG} {d rc rs : Nat} (o : Nat) (a1 : Int32) (a2 : Int64)  {M : Mem} {Q : Option Value → Mem → Prop} (h : (x_h M o).1 = 28 ∧ Call G d 0 0 mX12_isOfOne [.ref o, .int a1, .int 2] M (fun r2 M3 => ∃ v4 : Int32, r2 = some (.int v4) ∧ (v4 = 0 → Q (some (.long (-2))) M3) ∧ (¬ v4 = 0 → Call G d 0 0 mX12_isOutside [.long a2, .long 0, .long 1073741824] M3 (fun r6 M7 => ∃ v8 : Int32, r6 = some (.int v8) ∧ (v8 = 0 → (x_h M7 o).1 = 28 ∧ Call G d 0 0 mX12_howMany [.ref o, .int a1, .long a2, .int 31] M7 (fun r11 M12 => ∃ v13 : Int64, r11 = some (.long v13) ∧ Q (some (.long v13)) M12)) ∧ (¬ v8 = 0 → Q (some (.long (-2))) M7))))) : Call G (d + 1) rc rs mX12_values [.ref o, .int a1, .long a2] M Q := by
  refine call_of (by decide) (Nat.le_of_ble_eq_true rfl) ?_
  show Wk G (d + 1) rc rs mX12_values 0 [some (.ref o), some (.int a1), some (.long a2), none] [] M Q
  refine r_aload_n (pc := 0) (i := 0) dX12_values_0 rfl rfl ?_
  refine r_iload_n (pc := 1) (i := 1) dX12_values_1 rfl rfl ?_
  refine r_iconst (pc := 2) (v := 2) dX12_values_2 (by decide) ?_
  obtain ⟨k1, h⟩ := h
  refine r_callV (pc := 3) (ci := 12) (as := [_, _]) (st := []) okX12_isOfOne lkX12_509 inX12_isOfOne seX12_isOfOne ⟨_, rfl, rfl⟩ dX12_values_3 rfl k1 (Nat.le_of_ble_eq_true rfl) (Nat.zero_le _) (Nat.zero_le _) (Call.mono h (fun r2 M3 h => ?_))
  obtain ⟨v4, rfl, h⟩ := h
  refine r_if_eq (pc := 6) (tgt := 20) dX12_values_6 (by decide) (fun c5 => ?_) (fun c5 => ?_)
  · replace h := h.1 c5
    refine r_ldc2 (pc := 20) (v := (-2)) dX12_values_20 ww_1777 ?_
    refine r_goto (pc := 23) (tgt := 34) dX12_values_23 (by decide) ?_
    exact r_lret (pc := 34) dX12_values_34 rfl h
  · replace h := h.2 c5
    refine r_lload_n (pc := 9) (i := 2) dX12_values_9 rfl rfl ?_
    refine r_lconst (pc := 10) (v := 0) dX12_values_10 (by decide) ?_
    refine r_ldc2 (pc := 11) (v := 1073741824) dX12_values_11 ww_1855 ?_
    refine r_callS (pc := 14) (as := [_, _, _]) (st := []) okX12_isOutside lkX12_483 stX12_isOutside dX12_values_14 rfl (Nat.le_of_ble_eq_true rfl) (Nat.zero_le _) (Nat.zero_le _) (Call.mono h (fun r6 M7 h => ?_))
    obtain ⟨v8, rfl, h⟩ := h
    refine r_if_eq (pc := 17) (tgt := 26) dX12_values_17 (by decide) (fun c9 => ?_) (fun c9 => ?_)
    · replace h := h.1 c9
      refine r_aload_n (pc := 26) (i := 0) dX12_values_26 rfl rfl ?_
      refine r_iload_n (pc := 27) (i := 1) dX12_values_27 rfl rfl ?_
      refine r_lload_n (pc := 28) (i := 2) dX12_values_28 rfl rfl ?_
      refine r_bipush (pc := 29) (v := 31) dX12_values_29 (by decide) ?_
      obtain ⟨k10, h⟩ := h
      refine r_callV (pc := 31) (ci := 12) (as := [_, _, _]) (st := []) okX12_howMany lkX12_538 inX12_howMany seX12_howMany ⟨_, rfl, rfl⟩ dX12_values_31 rfl k10 (Nat.le_of_ble_eq_true rfl) (Nat.zero_le _) (Nat.zero_le _) (Call.mono h (fun r11 M12 h => ?_))
      obtain ⟨v13, rfl, h⟩ := h
      exact r_lret (pc := 34) dX12_values_34 rfl h
    · replace h := h.2 c9
      refine r_ldc2 (pc := 20) (v := (-2)) dX12_values_20 ww_1777 ?_
      refine r_goto (pc := 23) (tgt := 34) dX12_values_23 (by decide) ?_
      exact r_lret (pc := 34) dX12_values_34 rfl h
abbrev LX12_alike_63 (G : GG) (d rc rs : Nat) (p0 : Nat) (x1 : Int32) (x2 : Int32) (x3 : Int32) (x4 : Int32) (z5 : Option Value) (M : Mem) (Q : Option Value → Mem → Prop) : Prop := Wk G (d + 1) rc rs mX12_alike 63 [some (.ref p0), some (.int x1), some (.int x2), some (.int x3), some (.int x4), z5] [] M Q
abbrev LX12_alike_114 (G : GG) (d rc rs : Nat) (p0 : Nat) (x1 : Int32) (x2 : Int32) (x3 : Int32) (x4 : Int32) (x5 : Int32) (M : Mem) (Q : Option Value → Mem → Prop) : Prop := Wk G (d + 1) rc rs mX12_alike 114 [some (.ref p0), some (.int x1), some (.int x2), some (.int x3), some (.int x4), some (.int x5)] [] M Q
theorem eX12_alike {G : GG} {d rc rs : Nat} (o : Nat) (a1 : Int32) (a2 : Int32)  {M : Mem} {Q : Option Value → Mem → Prop} (h : (x_h M o).1 = 28 ∧ Call G d 0 0 mX12_canAsk [.ref o, .int a1] M (fun r2 M3 => ∃ v4 : Int32, r2 = some (.int v4) ∧ (v4 = 0 → Q (some (.int (-1))) M3) ∧ (¬ v4 = 0 → (x_h M3 o).1 = 28 ∧ Call G d 0 0 mX12_canAsk [.ref o, .int a2] M3 (fun r7 M8 => ∃ v9 : Int32, r7 = some (.int v9) ∧ (¬ v9 = 0 → (x_h M8 o).1 = 28 ∧ (∃ b12, x_r M8 o 11 = some b12 ∧ (x_h M8 b12).1 = 1 ∧ vp_in a1 (x_h M8 b12).2 ∧ Call G d 0 0 mX12_bits [.int (x_i M8 b12 a1.toNatClampNeg)] M8 (fun r15 M16 => ∃ v17 : Int32, r15 = some (.int v17) ∧ (x_h M16 o).1 = 28 ∧ (∃ b19, x_r M16 o 11 = some b19 ∧ (x_h M16 b19).1 = 1 ∧ vp_in a2 (x_h M16 b19).2 ∧ Call G d 0 0 mX12_bits [.int (x_i M16 b19 a2.toNatClampNeg)] M16 (fun r22 M23 => ∃ v24 : Int32, r22 = some (.int v24) ∧ (¬ v17 = v24 → LX12_alike_63 G d rc rs o a1 a2 0 0 none M23 Q) ∧ (v17 = v24 → (x_h M23 o).1 = 28 ∧ (∃ b27, x_r M23 o 14 = some b27 ∧ (x_h M23 b27).1 = 1 ∧ vp_in a1 (x_h M23 b27).2 ∧ vp_in a2 (x_h M23 b27).2 ∧ (¬ (x_i M23 b27 a1.toNatClampNeg) = (x_i M23 b27 a2.toNatClampNeg) → LX12_alike_63 G d rc rs o a1 a2 0 0 none M23 Q) ∧ ((x_i M23 b27 a1.toNatClampNeg) = (x_i M23 b27 a2.toNatClampNeg) → LX12_alike_63 G d rc rs o a1 a2 1 0 none M23 Q)))))))) ∧ (v9 = 0 → Q (some (.int (-1))) M8))))) : Call G (d + 1) rc rs mX12_alike [.ref o, .int a1, .int a2] M Q := by
  refine call_of (by decide) (Nat.le_of_ble_eq_true rfl) ?_
  show Wk G (d + 1) rc rs mX12_alike 0 [some (.ref o), some (.int a1), some (.int a2), none, none, none] [] M Q
  refine r_aload_n (pc := 0) (i := 0) dX12_alike_0 rfl rfl ?_
  refine r_iload_n (pc := 1) (i := 1) dX12_alike_1 rfl rfl ?_
  obtain ⟨k1, h⟩ := h
  refine r_callV (pc := 2) (ci := 12) (as := [_]) (st := []) okX12_canAsk lkX12_286 inX12_canAsk seX12_canAsk ⟨_, rfl, rfl⟩ dX12_alike_2 rfl k1 (Nat.le_of_ble_eq_true rfl) (Nat.zero_le _) (Nat.zero_le _) (Call.mono h (fun r2 M3 h => ?_))
  obtain ⟨v4, rfl, h⟩ := h
  refine r_if_eq (pc := 5) (tgt := 16) dX12_alike_5 (by decide) (fun c5 => ?_) (fun c5 => ?_)
  · replace h := h.1 c5
    refine r_iconst (pc := 16) (v := (-1)) dX12_alike_16 (by decide) ?_
    exact r_iret (pc := 17) dX12_alike_17 rfl h
  · replace h := h.2 c5
    refine r_aload_n (pc := 8) (i := 0) dX12_alike_8 rfl rfl ?_
    refine r_iload_n (pc := 9) (i := 2) dX12_alike_9 rfl rfl ?_
    obtain ⟨k6, h⟩ := h
    refine r_callV (pc := 10) (ci := 12) (as := [_]) (st := []) okX12_canAsk lkX12_286 inX12_canAsk seX12_canAsk ⟨_, rfl, rfl⟩ dX12_alike_10 rfl k6 (Nat.le_of_ble_eq_true rfl) (Nat.zero_le _) (Nat.zero_le _) (Call.mono h (fun r7 M8 h => ?_))
    obtain ⟨v9, rfl, h⟩ := h
    refine r_if_ne (pc := 13) (tgt := 18) dX12_alike_13 (by decide) (fun c10 => ?_) (fun c10 => ?_)
    · replace h := h.1 c10
      refine r_aload_n (pc := 18) (i := 0) dX12_alike_18 rfl rfl ?_
      obtain ⟨k11, h⟩ := h
      obtain ⟨b12, hb12, h⟩ := h
      refine r_getr (pc := 19) flX12_38 dX12_alike_19 rfl k11 hb12 ?_
      refine r_iload_n (pc := 22) (i := 1) dX12_alike_22 rfl rfl ?_
      obtain ⟨k13, h⟩ := h
      obtain ⟨i14, h⟩ := h
      refine r_iald (pc := 23) dX12_alike_23 k13 i14 ?_
      refine r_callS (pc := 24) (as := [_]) (st := []) okX12_bits lkX12_222 stX12_bits dX12_alike_24 rfl (Nat.le_of_ble_eq_true rfl) (Nat.zero_le _) (Nat.zero_le _) (Call.mono h (fun r15 M16 h => ?_))
      obtain ⟨v17, rfl, h⟩ := h
      refine r_aload_n (pc := 27) (i := 0) dX12_alike_27 rfl rfl ?_
      obtain ⟨k18, h⟩ := h
      obtain ⟨b19, hb19, h⟩ := h
      refine r_getr (pc := 28) flX12_38 dX12_alike_28 rfl k18 hb19 ?_
      refine r_iload_n (pc := 31) (i := 2) dX12_alike_31 rfl rfl ?_
      obtain ⟨k20, h⟩ := h
      obtain ⟨i21, h⟩ := h
      refine r_iald (pc := 32) dX12_alike_32 k20 i21 ?_
      refine r_callS (pc := 33) (as := [_]) (st := [_]) okX12_bits lkX12_222 stX12_bits dX12_alike_33 rfl (Nat.le_of_ble_eq_true rfl) (Nat.zero_le _) (Nat.zero_le _) (Call.mono h (fun r22 M23 h => ?_))
      obtain ⟨v24, rfl, h⟩ := h
      refine r_icmp_ne (pc := 36) (tgt := 58) dX12_alike_36 (by decide) (fun c25 => ?_) (fun c25 => ?_)
      · replace h := h.1 c25
        refine r_iconst (pc := 58) (v := 0) dX12_alike_58 (by decide) ?_
        refine r_istore_n (pc := 59) (i := 3) dX12_alike_59 rfl rfl (Nat.le_of_ble_eq_true rfl) ?_
        refine r_iconst (pc := 60) (v := 0) dX12_alike_60 (by decide) ?_
        refine r_istore (pc := 61) (i := 4) dX12_alike_61 rfl (Nat.le_of_ble_eq_true rfl) ?_
        exact h
      · replace h := h.2 c25
        refine r_aload_n (pc := 39) (i := 0) dX12_alike_39 rfl rfl ?_
        obtain ⟨k26, h⟩ := h
        obtain ⟨b27, hb27, h⟩ := h
        refine r_getr (pc := 40) flX12_47 dX12_alike_40 rfl k26 hb27 ?_
        refine r_iload_n (pc := 43) (i := 1) dX12_alike_43 rfl rfl ?_
        obtain ⟨k28, h⟩ := h
        obtain ⟨i29, h⟩ := h
        refine r_iald (pc := 44) dX12_alike_44 k28 i29 ?_
        refine r_aload_n (pc := 45) (i := 0) dX12_alike_45 rfl rfl ?_
        refine r_getr (pc := 46) flX12_47 dX12_alike_46 rfl k26 hb27 ?_
        refine r_iload_n (pc := 49) (i := 2) dX12_alike_49 rfl rfl ?_
        obtain ⟨i30, h⟩ := h
        refine r_iald (pc := 50) dX12_alike_50 k28 i30 ?_
        refine r_icmp_ne (pc := 51) (tgt := 58) dX12_alike_51 (by decide) (fun c31 => ?_) (fun c31 => ?_)
        · replace h := h.1 c31
          refine r_iconst (pc := 58) (v := 0) dX12_alike_58 (by decide) ?_
          refine r_istore_n (pc := 59) (i := 3) dX12_alike_59 rfl rfl (Nat.le_of_ble_eq_true rfl) ?_
          refine r_iconst (pc := 60) (v := 0) dX12_alike_60 (by decide) ?_
          refine r_istore (pc := 61) (i := 4) dX12_alike_61 rfl (Nat.le_of_ble_eq_true rfl) ?_
          exact h
        · replace h := h.2 c31
          refine r_iconst (pc := 54) (v := 1) dX12_alike_54 (by decide) ?_
          refine r_goto (pc := 55) (tgt := 59) dX12_alike_55 (by decide) ?_
          refine r_istore_n (pc := 59) (i := 3) dX12_alike_59 rfl rfl (Nat.le_of_ble_eq_true rfl) ?_
          refine r_iconst (pc := 60) (v := 0) dX12_alike_60 (by decide) ?_
          refine r_istore (pc := 61) (i := 4) dX12_alike_61 rfl (Nat.le_of_ble_eq_true rfl) ?_
          exact h
    · replace h := h.2 c10
      refine r_iconst (pc := 16) (v := (-1)) dX12_alike_16 (by decide) ?_
      exact r_iret (pc := 17) dX12_alike_17 rfl h
theorem vX12_alike_63 {G : GG} {d rc rs : Nat} (p0 : Nat) (x1 : Int32) (x2 : Int32) (x3 : Int32) (x4 : Int32) (z5 : Option Value) (hz5 : c1 z5 = true) {M : Mem} {Q : Option Value → Mem → Prop} (h : (x3 = 0 → (x3 = 0 → Q (some (.int 0)) M) ∧ (¬ x3 = 0 → Q (some (.int 1)) M)) ∧ (¬ x3 = 0 → (x_h M p0).1 = 28 ∧ (∃ b4, x_r M p0 14 = some b4 ∧ (x_h M b4).1 = 1 ∧ vp_in x1 (x_h M b4).2 ∧ ((x_i M b4 x1.toNatClampNeg) ≤ x4 → (x3 = 0 → Q (some (.int 0)) M) ∧ (¬ x3 = 0 → Q (some (.int 1)) M)) ∧ (¬ (x_i M b4 x1.toNatClampNeg) ≤ x4 → ∃ b9, x_r M p0 16 = some b9 ∧ (x_h M b9).1 = 3 ∧ vp_in ((40 * x1) + x4) (x_h M b9).2 ∧ vp_in ((40 * x2) + x4) (x_h M b9).2 ∧ (¬ (x_i M b9 ((40 * x1) + x4).toNatClampNeg) = (x_i M b9 ((40 * x2) + x4).toNatClampNeg) → LX12_alike_114 G d rc rs p0 x1 x2 0 x4 0 M Q) ∧ ((x_i M b9 ((40 * x1) + x4).toNatClampNeg) = (x_i M b9 ((40 * x2) + x4).toNatClampNeg) → LX12_alike_114 G d rc rs p0 x1 x2 1 x4 0 M Q))))) : LX12_alike_63 G d rc rs p0 x1 x2 x3 x4 z5 M Q := by
  show Wk G (d + 1) rc rs mX12_alike 63 _ _ M Q
  refine r_iload_n (pc := 63) (i := 3) dX12_alike_63 rfl rfl ?_
  refine r_if_eq (pc := 64) (tgt := 172) dX12_alike_64 (by decide) (fun c1 => ?_) (fun c1 => ?_)
  · replace h := h.1 c1
    refine r_iload_n (pc := 172) (i := 3) dX12_alike_172 rfl rfl ?_
    refine r_if_eq (pc := 173) (tgt := 180) dX12_alike_173 (by decide) (fun c2 => ?_) (fun c2 => ?_)
    · replace h := h.1 c2
      refine r_iconst (pc := 180) (v := 0) dX12_alike_180 (by decide) ?_
      exact r_iret (pc := 181) dX12_alike_181 rfl h
    · replace h := h.2 c2
      refine r_iconst (pc := 176) (v := 1) dX12_alike_176 (by decide) ?_
      refine r_goto (pc := 177) (tgt := 181) dX12_alike_177 (by decide) ?_
      exact r_iret (pc := 181) dX12_alike_181 rfl h
  · replace h := h.2 c1
    refine r_iload (pc := 67) (i := 4) dX12_alike_67 rfl ?_
    refine r_aload_n (pc := 69) (i := 0) dX12_alike_69 rfl rfl ?_
    obtain ⟨k3, h⟩ := h
    obtain ⟨b4, hb4, h⟩ := h
    refine r_getr (pc := 70) flX12_47 dX12_alike_70 rfl k3 hb4 ?_
    refine r_iload_n (pc := 73) (i := 1) dX12_alike_73 rfl rfl ?_
    obtain ⟨k5, h⟩ := h
    obtain ⟨i6, h⟩ := h
    refine r_iald (pc := 74) dX12_alike_74 k5 i6 ?_
    refine r_icmp_ge (pc := 75) (tgt := 172) dX12_alike_75 (by decide) (fun c7 => ?_) (fun c7 => ?_)
    · replace h := h.1 c7
      refine r_iload_n (pc := 172) (i := 3) dX12_alike_172 rfl rfl ?_
      refine r_if_eq (pc := 173) (tgt := 180) dX12_alike_173 (by decide) (fun c8 => ?_) (fun c8 => ?_)
      · replace h := h.1 c8
        refine r_iconst (pc := 180) (v := 0) dX12_alike_180 (by decide) ?_
        exact r_iret (pc := 181) dX12_alike_181 rfl h
      · replace h := h.2 c8
        refine r_iconst (pc := 176) (v := 1) dX12_alike_176 (by decide) ?_
        refine r_goto (pc := 177) (tgt := 181) dX12_alike_177 (by decide) ?_
        exact r_iret (pc := 181) dX12_alike_181 rfl h
    · replace h := h.2 c7
      refine r_aload_n (pc := 78) (i := 0) dX12_alike_78 rfl rfl ?_
      obtain ⟨b9, hb9, h⟩ := h
      refine r_getr (pc := 79) flX12_53 dX12_alike_79 rfl k3 hb9 ?_
      refine r_bipush (pc := 82) (v := 40) dX12_alike_82 (by decide) ?_
      refine r_iload_n (pc := 84) (i := 1) dX12_alike_84 rfl rfl ?_
      refine r_imul (pc := 85) dX12_alike_85 ?_
      refine r_iload (pc := 86) (i := 4) dX12_alike_86 rfl ?_
      refine r_iadd (pc := 88) dX12_alike_88 ?_
      obtain ⟨k10, h⟩ := h
      obtain ⟨i11, h⟩ := h
      refine r_zald (pc := 89) dX12_alike_89 k10 i11 ?_
      refine r_aload_n (pc := 90) (i := 0) dX12_alike_90 rfl rfl ?_
      refine r_getr (pc := 91) flX12_53 dX12_alike_91 rfl k3 hb9 ?_
      refine r_bipush (pc := 94) (v := 40) dX12_alike_94 (by decide) ?_
      refine r_iload_n (pc := 96) (i := 2) dX12_alike_96 rfl rfl ?_
      refine r_imul (pc := 97) dX12_alike_97 ?_
      refine r_iload (pc := 98) (i := 4) dX12_alike_98 rfl ?_
      refine r_iadd (pc := 100) dX12_alike_100 ?_
      obtain ⟨i12, h⟩ := h
      refine r_zald (pc := 101) dX12_alike_101 k10 i12 ?_
      refine r_icmp_ne (pc := 102) (tgt := 109) dX12_alike_102 (by decide) (fun c13 => ?_) (fun c13 => ?_)
      · replace h := h.1 c13
        refine r_iconst (pc := 109) (v := 0) dX12_alike_109 (by decide) ?_
        refine r_istore_n (pc := 110) (i := 3) dX12_alike_110 rfl rfl (Nat.le_of_ble_eq_true rfl) ?_
        refine r_iconst (pc := 111) (v := 0) dX12_alike_111 (by decide) ?_
        refine r_istore (pc := 112) (i := 5) dX12_alike_112 rfl (Nat.le_of_ble_eq_true rfl) ?_
        exact h
      · replace h := h.2 c13
        refine r_iconst (pc := 105) (v := 1) dX12_alike_105 (by decide) ?_
        refine r_goto (pc := 106) (tgt := 110) dX12_alike_106 (by decide) ?_
        refine r_istore_n (pc := 110) (i := 3) dX12_alike_110 rfl rfl (Nat.le_of_ble_eq_true rfl) ?_
        refine r_iconst (pc := 111) (v := 0) dX12_alike_111 (by decide) ?_
        refine r_istore (pc := 112) (i := 5) dX12_alike_112 rfl (Nat.le_of_ble_eq_true rfl) ?_
        exact h
theorem vX12_alike_114 {G : GG} {d rc rs : Nat} (p0 : Nat) (x1 : Int32) (x2 : Int32) (x3 : Int32) (x4 : Int32) (x5 : Int32)  {M : Mem} {Q : Option Value → Mem → Prop} (h : (x3 = 0 → LX12_alike_63 G d rc rs p0 x1 x2 x3 (x4 + 1) (some (.int x5)) M Q) ∧ (¬ x3 = 0 → (x_h M p0).1 = 28 ∧ (∃ b3, x_r M p0 11 = some b3 ∧ (x_h M b3).1 = 1 ∧ vp_in x1 (x_h M b3).2 ∧ Call G d 0 0 mX12_across [.ref p0, .int (x_i M b3 x1.toNatClampNeg)] M (fun r6 M7 => ∃ v8 : Int32, r6 = some (.int v8) ∧ (v8 ≤ x5 → LX12_alike_63 G d rc rs p0 x1 x2 x3 (x4 + 1) (some (.int x5)) M7 Q) ∧ (¬ v8 ≤ x5 → (x_h M7 p0).1 = 28 ∧ Call G d 0 0 mX12_to [.ref p0, .int x1, .int x4, .int x5] M7 (fun r11 M12 => ∃ v13 : Int32, r11 = some (.int v13) ∧ (x_h M12 p0).1 = 28 ∧ Call G d 0 0 mX12_to [.ref p0, .int x2, .int x4, .int x5] M12 (fun r15 M16 => ∃ v17 : Int32, r15 = some (.int v17) ∧ (¬ v13 = v17 → LX12_alike_114 G d rc rs p0 x1 x2 0 x4 (x5 + 1) M16 Q) ∧ (v13 = v17 → LX12_alike_114 G d rc rs p0 x1 x2 1 x4 (x5 + 1) M16 Q)))))))) : LX12_alike_114 G d rc rs p0 x1 x2 x3 x4 x5 M Q := by
  show Wk G (d + 1) rc rs mX12_alike 114 _ _ M Q
  refine r_iload_n (pc := 114) (i := 3) dX12_alike_114 rfl rfl ?_
  refine r_if_eq (pc := 115) (tgt := 166) dX12_alike_115 (by decide) (fun c1 => ?_) (fun c1 => ?_)
  · replace h := h.1 c1
    refine r_iinc (pc := 166) (i := 4) (v := _ + 1) dX12_alike_166 rfl rfl rfl ?_
    refine r_goto (pc := 169) (tgt := 63) dX12_alike_169 (by decide) ?_
    exact h
  · replace h := h.2 c1
    refine r_iload (pc := 118) (i := 5) dX12_alike_118 rfl ?_
    refine r_aload_n (pc := 120) (i := 0) dX12_alike_120 rfl rfl ?_
    refine r_aload_n (pc := 121) (i := 0) dX12_alike_121 rfl rfl ?_
    obtain ⟨k2, h⟩ := h
    obtain ⟨b3, hb3, h⟩ := h
    refine r_getr (pc := 122) flX12_38 dX12_alike_122 rfl k2 hb3 ?_
    refine r_iload_n (pc := 125) (i := 1) dX12_alike_125 rfl rfl ?_
    obtain ⟨k4, h⟩ := h
    obtain ⟨i5, h⟩ := h
    refine r_iald (pc := 126) dX12_alike_126 k4 i5 ?_
    refine r_callV (pc := 127) (ci := 12) (as := [_]) (st := [_]) okX12_across lkX12_417 inX12_across seX12_across ⟨_, rfl, rfl⟩ dX12_alike_127 rfl k2 (Nat.le_of_ble_eq_true rfl) (Nat.zero_le _) (Nat.zero_le _) (Call.mono h (fun r6 M7 h => ?_))
    obtain ⟨v8, rfl, h⟩ := h
    refine r_icmp_ge (pc := 130) (tgt := 166) dX12_alike_130 (by decide) (fun c9 => ?_) (fun c9 => ?_)
    · replace h := h.1 c9
      refine r_iinc (pc := 166) (i := 4) (v := _ + 1) dX12_alike_166 rfl rfl rfl ?_
      refine r_goto (pc := 169) (tgt := 63) dX12_alike_169 (by decide) ?_
      exact h
    · replace h := h.2 c9
      refine r_aload_n (pc := 133) (i := 0) dX12_alike_133 rfl rfl ?_
      refine r_iload_n (pc := 134) (i := 1) dX12_alike_134 rfl rfl ?_
      refine r_iload (pc := 135) (i := 4) dX12_alike_135 rfl ?_
      refine r_iload (pc := 137) (i := 5) dX12_alike_137 rfl ?_
      obtain ⟨k10, h⟩ := h
      refine r_callV (pc := 139) (ci := 12) (as := [_, _, _]) (st := []) okX12_to lkX12_506 inX12_to seX12_to ⟨_, rfl, rfl⟩ dX12_alike_139 rfl k10 (Nat.le_of_ble_eq_true rfl) (Nat.zero_le _) (Nat.zero_le _) (Call.mono h (fun r11 M12 h => ?_))
      obtain ⟨v13, rfl, h⟩ := h
      refine r_aload_n (pc := 142) (i := 0) dX12_alike_142 rfl rfl ?_
      refine r_iload_n (pc := 143) (i := 2) dX12_alike_143 rfl rfl ?_
      refine r_iload (pc := 144) (i := 4) dX12_alike_144 rfl ?_
      refine r_iload (pc := 146) (i := 5) dX12_alike_146 rfl ?_
      obtain ⟨k14, h⟩ := h
      refine r_callV (pc := 148) (ci := 12) (as := [_, _, _]) (st := [_]) okX12_to lkX12_506 inX12_to seX12_to ⟨_, rfl, rfl⟩ dX12_alike_148 rfl k14 (Nat.le_of_ble_eq_true rfl) (Nat.zero_le _) (Nat.zero_le _) (Call.mono h (fun r15 M16 h => ?_))
      obtain ⟨v17, rfl, h⟩ := h
      refine r_icmp_ne (pc := 151) (tgt := 158) dX12_alike_151 (by decide) (fun c18 => ?_) (fun c18 => ?_)
      · replace h := h.1 c18
        refine r_iconst (pc := 158) (v := 0) dX12_alike_158 (by decide) ?_
        refine r_istore_n (pc := 159) (i := 3) dX12_alike_159 rfl rfl (Nat.le_of_ble_eq_true rfl) ?_
        refine r_iinc (pc := 160) (i := 5) (v := _ + 1) dX12_alike_160 rfl rfl rfl ?_
        refine r_goto (pc := 163) (tgt := 114) dX12_alike_163 (by decide) ?_
        exact h
      · replace h := h.2 c18
        refine r_iconst (pc := 154) (v := 1) dX12_alike_154 (by decide) ?_
        refine r_goto (pc := 155) (tgt := 159) dX12_alike_155 (by decide) ?_
        refine r_istore_n (pc := 159) (i := 3) dX12_alike_159 rfl rfl (Nat.le_of_ble_eq_true rfl) ?_
        refine r_iinc (pc := 160) (i := 5) (v := _ + 1) dX12_alike_160 rfl rfl rfl ?_
        refine r_goto (pc := 163) (tgt := 114) dX12_alike_163 (by decide) ?_
        exact h
theorem eX12_ran {G : GG} {d rc rs : Nat} (o : Nat) (a1 : Int32)  {M : Mem} {Q : Option Value → Mem → Prop} (h : (x_h M o).1 = 28 ∧ (50 ≤ (x_i M o 24) → ∀ M3, M3 = x_si M o 24 ((x_i M o 24) + 1) → Q none M3) ∧ (¬ 50 ≤ (x_i M o 24) → ∃ b4, x_r M o 23 = some b4 ∧ (x_h M b4).1 = 1 ∧ vp_in (x_i M o 24) (x_h M b4).2 ∧ (∀ M7, M7 = x_si M b4 (x_i M o 24).toNatClampNeg a1 → ∀ M8, M8 = x_si M7 o 24 ((x_i M7 o 24) + 1) → Q none M8))) : Call G (d + 1) rc rs mX12_ran [.ref o, .int a1] M Q := by
  refine call_of (by decide) (Nat.le_of_ble_eq_true rfl) ?_
  show Wk G (d + 1) rc rs mX12_ran 0 [some (.ref o), some (.int a1)] [] M Q
  refine r_aload_n (pc := 0) (i := 0) dX12_ran_0 rfl rfl ?_
  obtain ⟨k1, h⟩ := h
  refine r_geti (pc := 1) flX12_478 dX12_ran_1 (Or.inl rfl) k1 ?_
  refine r_bipush (pc := 4) (v := 50) dX12_ran_4 (by decide) ?_
  refine r_icmp_ge (pc := 6) (tgt := 19) dX12_ran_6 (by decide) (fun c2 => ?_) (fun c2 => ?_)
  · replace h := h.1 c2
    refine r_aload_n (pc := 19) (i := 0) dX12_ran_19 rfl rfl ?_
    refine r_dup (pc := 20) dX12_ran_20 rfl ?_
    refine r_geti (pc := 21) flX12_478 dX12_ran_21 (Or.inl rfl) k1 ?_
    refine r_iconst (pc := 24) (v := 1) dX12_ran_24 (by decide) ?_
    refine r_iadd (pc := 25) dX12_ran_25 ?_
    refine r_puti (pc := 26) flX12_478 dX12_ran_26 (Or.inl rfl) (fun q hq => by cases hq; rfl) k1 ?_
    replace h := h _ rfl
    exact r_vret (pc := 29) dX12_ran_29 rfl h
  · replace h := h.2 c2
    refine r_aload_n (pc := 9) (i := 0) dX12_ran_9 rfl rfl ?_
    obtain ⟨b4, hb4, h⟩ := h
    refine r_getr (pc := 10) flX12_69 dX12_ran_10 rfl k1 hb4 ?_
    refine r_aload_n (pc := 13) (i := 0) dX12_ran_13 rfl rfl ?_
    refine r_geti (pc := 14) flX12_478 dX12_ran_14 (Or.inl rfl) k1 ?_
    refine r_iload_n (pc := 17) (i := 1) dX12_ran_17 rfl rfl ?_
    obtain ⟨k5, h⟩ := h
    obtain ⟨i6, h⟩ := h
    refine r_iast (pc := 18) dX12_ran_18 k5 i6 ?_
    replace h := h _ rfl
    refine r_aload_n (pc := 19) (i := 0) dX12_ran_19 rfl rfl ?_
    refine r_dup (pc := 20) dX12_ran_20 rfl ?_
    refine r_geti (pc := 21) flX12_478 dX12_ran_21 (Or.inl rfl) k1 ?_
    refine r_iconst (pc := 24) (v := 1) dX12_ran_24 (by decide) ?_
    refine r_iadd (pc := 25) dX12_ran_25 ?_
    refine r_puti (pc := 26) flX12_478 dX12_ran_26 (Or.inl rfl) (fun q hq => by cases hq; rfl) k1 ?_
    replace h := h _ rfl
    exact r_vret (pc := 29) dX12_ran_29 rfl h
theorem eX12_isGrown {G : GG} {d rc rs : Nat} (o : Nat) (a1 : Int32)  {M : Mem} {Q : Option Value → Mem → Prop} (h : (x_h M o).1 = 28 ∧ (∃ b2, x_r M o 2 = some b2 ∧ (x_h M b2).1 = 1 ∧ vp_in a1 (x_h M b2).2 ∧ ((x_i M b2 a1.toNatClampNeg) = 1 → Q (some (.int 1)) M) ∧ (¬ (x_i M b2 a1.toNatClampNeg) = 1 → (¬ (x_i M b2 a1.toNatClampNeg) = 2 → Q (some (.int 0)) M) ∧ ((x_i M b2 a1.toNatClampNeg) = 2 → Q (some (.int 1)) M)))) : Call G (d + 1) rc rs mX12_isGrown [.ref o, .int a1] M Q := by
  refine call_of (by decide) (Nat.le_of_ble_eq_true rfl) ?_
  show Wk G (d + 1) rc rs mX12_isGrown 0 [some (.ref o), some (.int a1)] [] M Q
  refine r_aload_n (pc := 0) (i := 0) dX12_isGrown_0 rfl rfl ?_
  obtain ⟨k1, h⟩ := h
  obtain ⟨b2, hb2, h⟩ := h
  refine r_getr (pc := 1) flX12_13 dX12_isGrown_1 rfl k1 hb2 ?_
  refine r_iload_n (pc := 4) (i := 1) dX12_isGrown_4 rfl rfl ?_
  obtain ⟨k3, h⟩ := h
  obtain ⟨i4, h⟩ := h
  refine r_iald (pc := 5) dX12_isGrown_5 k3 i4 ?_
  refine r_iconst (pc := 6) (v := 1) dX12_isGrown_6 (by decide) ?_
  refine r_icmp_eq (pc := 7) (tgt := 20) dX12_isGrown_7 (by decide) (fun c5 => ?_) (fun c5 => ?_)
  · replace h := h.1 c5
    refine r_iconst (pc := 20) (v := 1) dX12_isGrown_20 (by decide) ?_
    refine r_goto (pc := 21) (tgt := 25) dX12_isGrown_21 (by decide) ?_
    exact r_zret (pc := 25) dX12_isGrown_25 rfl (Or.inr rfl) h
  · replace h := h.2 c5
    refine r_aload_n (pc := 10) (i := 0) dX12_isGrown_10 rfl rfl ?_
    refine r_getr (pc := 11) flX12_13 dX12_isGrown_11 rfl k1 hb2 ?_
    refine r_iload_n (pc := 14) (i := 1) dX12_isGrown_14 rfl rfl ?_
    refine r_iald (pc := 15) dX12_isGrown_15 k3 i4 ?_
    refine r_iconst (pc := 16) (v := 2) dX12_isGrown_16 (by decide) ?_
    refine r_icmp_ne (pc := 17) (tgt := 24) dX12_isGrown_17 (by decide) (fun c6 => ?_) (fun c6 => ?_)
    · replace h := h.1 c6
      refine r_iconst (pc := 24) (v := 0) dX12_isGrown_24 (by decide) ?_
      exact r_zret (pc := 25) dX12_isGrown_25 rfl (Or.inl rfl) h
    · replace h := h.2 c6
      refine r_iconst (pc := 20) (v := 1) dX12_isGrown_20 (by decide) ?_
      refine r_goto (pc := 21) (tgt := 25) dX12_isGrown_21 (by decide) ?_
      exact r_zret (pc := 25) dX12_isGrown_25 rfl (Or.inr rfl) h
theorem eX12_read0 {G : GG} {d rc rs : Nat} (o : Nat) (a1 : Int32) (a2 : Int32)  {M : Mem} {Q : Option Value → Mem → Prop} (h : (x_h M o).1 = 28 ∧ Call G d 0 0 mX12_isGrown [.ref o, .int a1] M (fun r2 M3 => ∃ v4 : Int32, r2 = some (.int v4) ∧ (v4 = 0 → (x_h M3 o).1 = 28 ∧ Call G d 0 0 mX12_ran [.ref o, .int 10] M3 (fun r7 M8 => r7 = none ∧ (x_h M8 o).1 = 28 ∧ Call G d 0 0 mX12_isGrown [.ref o, .int a1] M8 (fun r10 M11 => ∃ v12 : Int32, r10 = some (.int v12) ∧ (v12 = 0 → Q (some (.int (a2 + a1))) M11) ∧ (¬ v12 = 0 → Q (some (.int ((a2 + a1) * 2))) M11)))) ∧ (¬ v4 = 0 → (x_h M3 o).1 = 28 ∧ Call G d 0 0 mX12_ran [.ref o, .int 20] M3 (fun r15 M16 => r15 = none ∧ (x_h M16 o).1 = 28 ∧ Call G d 0 0 mX12_ran [.ref o, .int 10] M16 (fun r18 M19 => r18 = none ∧ (x_h M19 o).1 = 28 ∧ Call G d 0 0 mX12_isGrown [.ref o, .int a1] M19 (fun r21 M22 => ∃ v23 : Int32, r21 = some (.int v23) ∧ (v23 = 0 → Q (some (.int (a2 + a1))) M22) ∧ (¬ v23 = 0 → Q (some (.int ((a2 + a1) * 2))) M22))))))) : Call G (d + 1) rc rs mX12_read0 [.ref o, .int a1, .int a2] M Q := by
  refine call_of (by decide) (Nat.le_of_ble_eq_true rfl) ?_
  show Wk G (d + 1) rc rs mX12_read0 0 [some (.ref o), some (.int a1), some (.int a2)] [] M Q
  refine r_aload_n (pc := 0) (i := 0) dX12_read0_0 rfl rfl ?_
  refine r_iload_n (pc := 1) (i := 1) dX12_read0_1 rfl rfl ?_
  obtain ⟨k1, h⟩ := h
  refine r_callV (pc := 2) (ci := 12) (as := [_]) (st := []) okX12_isGrown lkX12_544 inX12_isGrown seX12_isGrown ⟨_, rfl, rfl⟩ dX12_read0_2 rfl k1 (Nat.le_of_ble_eq_true rfl) (Nat.zero_le _) (Nat.zero_le _) (Call.mono h (fun r2 M3 h => ?_))
  obtain ⟨v4, rfl, h⟩ := h
  refine r_if_eq (pc := 5) (tgt := 14) dX12_read0_5 (by decide) (fun c5 => ?_) (fun c5 => ?_)
  · replace h := h.1 c5
    refine r_aload_n (pc := 14) (i := 0) dX12_read0_14 rfl rfl ?_
    refine r_bipush (pc := 15) (v := 10) dX12_read0_15 (by decide) ?_
    obtain ⟨k6, h⟩ := h
    refine r_callV (pc := 17) (ci := 12) (as := [_]) (st := []) okX12_ran lkX12_547 inX12_ran seX12_ran ⟨_, rfl, rfl⟩ dX12_read0_17 rfl k6 (Nat.le_of_ble_eq_true rfl) (Nat.zero_le _) (Nat.zero_le _) (Call.mono h (fun r7 M8 h => ?_))
    obtain ⟨rfl, h⟩ := h
    refine r_aload_n (pc := 20) (i := 0) dX12_read0_20 rfl rfl ?_
    refine r_iload_n (pc := 21) (i := 1) dX12_read0_21 rfl rfl ?_
    obtain ⟨k9, h⟩ := h
    refine r_callV (pc := 22) (ci := 12) (as := [_]) (st := []) okX12_isGrown lkX12_544 inX12_isGrown seX12_isGrown ⟨_, rfl, rfl⟩ dX12_read0_22 rfl k9 (Nat.le_of_ble_eq_true rfl) (Nat.zero_le _) (Nat.zero_le _) (Call.mono h (fun r10 M11 h => ?_))
    obtain ⟨v12, rfl, h⟩ := h
    refine r_if_eq (pc := 25) (tgt := 36) dX12_read0_25 (by decide) (fun c13 => ?_) (fun c13 => ?_)
    · replace h := h.1 c13
      refine r_iload_n (pc := 36) (i := 2) dX12_read0_36 rfl rfl ?_
      refine r_iload_n (pc := 37) (i := 1) dX12_read0_37 rfl rfl ?_
      refine r_iadd (pc := 38) dX12_read0_38 ?_
      exact r_iret (pc := 39) dX12_read0_39 rfl h
    · replace h := h.2 c13
      refine r_iload_n (pc := 28) (i := 2) dX12_read0_28 rfl rfl ?_
      refine r_iload_n (pc := 29) (i := 1) dX12_read0_29 rfl rfl ?_
      refine r_iadd (pc := 30) dX12_read0_30 ?_
      refine r_iconst (pc := 31) (v := 2) dX12_read0_31 (by decide) ?_
      refine r_imul (pc := 32) dX12_read0_32 ?_
      refine r_goto (pc := 33) (tgt := 39) dX12_read0_33 (by decide) ?_
      exact r_iret (pc := 39) dX12_read0_39 rfl h
  · replace h := h.2 c5
    refine r_aload_n (pc := 8) (i := 0) dX12_read0_8 rfl rfl ?_
    refine r_bipush (pc := 9) (v := 20) dX12_read0_9 (by decide) ?_
    obtain ⟨k14, h⟩ := h
    refine r_callV (pc := 11) (ci := 12) (as := [_]) (st := []) okX12_ran lkX12_547 inX12_ran seX12_ran ⟨_, rfl, rfl⟩ dX12_read0_11 rfl k14 (Nat.le_of_ble_eq_true rfl) (Nat.zero_le _) (Nat.zero_le _) (Call.mono h (fun r15 M16 h => ?_))
    obtain ⟨rfl, h⟩ := h
    refine r_aload_n (pc := 14) (i := 0) dX12_read0_14 rfl rfl ?_
    refine r_bipush (pc := 15) (v := 10) dX12_read0_15 (by decide) ?_
    obtain ⟨k17, h⟩ := h
    refine r_callV (pc := 17) (ci := 12) (as := [_]) (st := []) okX12_ran lkX12_547 inX12_ran seX12_ran ⟨_, rfl, rfl⟩ dX12_read0_17 rfl k17 (Nat.le_of_ble_eq_true rfl) (Nat.zero_le _) (Nat.zero_le _) (Call.mono h (fun r18 M19 h => ?_))
    obtain ⟨rfl, h⟩ := h
    refine r_aload_n (pc := 20) (i := 0) dX12_read0_20 rfl rfl ?_
    refine r_iload_n (pc := 21) (i := 1) dX12_read0_21 rfl rfl ?_
    obtain ⟨k20, h⟩ := h
    refine r_callV (pc := 22) (ci := 12) (as := [_]) (st := []) okX12_isGrown lkX12_544 inX12_isGrown seX12_isGrown ⟨_, rfl, rfl⟩ dX12_read0_22 rfl k20 (Nat.le_of_ble_eq_true rfl) (Nat.zero_le _) (Nat.zero_le _) (Call.mono h (fun r21 M22 h => ?_))
    obtain ⟨v23, rfl, h⟩ := h
    refine r_if_eq (pc := 25) (tgt := 36) dX12_read0_25 (by decide) (fun c24 => ?_) (fun c24 => ?_)
    · replace h := h.1 c24
      refine r_iload_n (pc := 36) (i := 2) dX12_read0_36 rfl rfl ?_
      refine r_iload_n (pc := 37) (i := 1) dX12_read0_37 rfl rfl ?_
      refine r_iadd (pc := 38) dX12_read0_38 ?_
      exact r_iret (pc := 39) dX12_read0_39 rfl h
    · replace h := h.2 c24
      refine r_iload_n (pc := 28) (i := 2) dX12_read0_28 rfl rfl ?_
      refine r_iload_n (pc := 29) (i := 1) dX12_read0_29 rfl rfl ?_
      refine r_iadd (pc := 30) dX12_read0_30 ?_
      refine r_iconst (pc := 31) (v := 2) dX12_read0_31 (by decide) ?_
      refine r_imul (pc := 32) dX12_read0_32 ?_
      refine r_goto (pc := 33) (tgt := 39) dX12_read0_33 (by decide) ?_
      exact r_iret (pc := 39) dX12_read0_39 rfl h
abbrev LX12_step0_32 (G : GG) (d rc rs : Nat) (p0 : Nat) (x1 : Int32) (x2 : Int32) (M : Mem) (Q : Option Value → Mem → Prop) : Prop := Wk G (d + 1) rc rs mX12_step0 32 [some (.ref p0), some (.int x1), some (.int x2), none] [] M Q
theorem eX12_step0 {G : GG} {d rc rs : Nat} (o : Nat) (a1 : Int32) (a2 : Int32)  {M : Mem} {Q : Option Value → Mem → Prop} (h : (x_h M o).1 = 28 ∧ (∃ b2, x_r M o 2 = some b2 ∧ (x_h M b2).1 = 1 ∧ vp_in a1 (x_h M b2).2 ∧ (¬ (x_i M b2 a1.toNatClampNeg) = 2 → (¬ (x_i M b2 a1.toNatClampNeg) = 4 → LX12_step0_32 G d rc rs o a1 a2 M Q) ∧ ((x_i M b2 a1.toNatClampNeg) = 4 → Call G d 0 0 mX12_ran [.ref o, .int 50] M (fun r7 M8 => r7 = none ∧ LX12_step0_32 G d rc rs o a1 a2 M8 Q))) ∧ ((x_i M b2 a1.toNatClampNeg) = 2 → Call G d 0 0 mX12_ran [.ref o, .int 30] M (fun r9 M10 => r9 = none ∧ (x_h M10 o).1 = 28 ∧ (∃ b12, x_r M10 o 2 = some b12 ∧ (x_h M10 b12).1 = 1 ∧ vp_in a1 (x_h M10 b12).2 ∧ (¬ (x_i M10 b12 a1.toNatClampNeg) = 4 → LX12_step0_32 G d rc rs o a1 a2 M10 Q) ∧ ((x_i M10 b12 a1.toNatClampNeg) = 4 → Call G d 0 0 mX12_ran [.ref o, .int 50] M10 (fun r16 M17 => r16 = none ∧ LX12_step0_32 G d rc rs o a1 a2 M17 Q))))))) : Call G (d + 1) rc rs mX12_step0 [.ref o, .int a1, .int a2] M Q := by
  refine call_of (by decide) (Nat.le_of_ble_eq_true rfl) ?_
  show Wk G (d + 1) rc rs mX12_step0 0 [some (.ref o), some (.int a1), some (.int a2), none] [] M Q
  refine r_aload_n (pc := 0) (i := 0) dX12_step0_0 rfl rfl ?_
  obtain ⟨k1, h⟩ := h
  obtain ⟨b2, hb2, h⟩ := h
  refine r_getr (pc := 1) flX12_13 dX12_step0_1 rfl k1 hb2 ?_
  refine r_iload_n (pc := 4) (i := 1) dX12_step0_4 rfl rfl ?_
  obtain ⟨k3, h⟩ := h
  obtain ⟨i4, h⟩ := h
  refine r_iald (pc := 5) dX12_step0_5 k3 i4 ?_
  refine r_iconst (pc := 6) (v := 2) dX12_step0_6 (by decide) ?_
  refine r_icmp_ne (pc := 7) (tgt := 16) dX12_step0_7 (by decide) (fun c5 => ?_) (fun c5 => ?_)
  · replace h := h.1 c5
    refine r_aload_n (pc := 16) (i := 0) dX12_step0_16 rfl rfl ?_
    refine r_getr (pc := 17) flX12_13 dX12_step0_17 rfl k1 hb2 ?_
    refine r_iload_n (pc := 20) (i := 1) dX12_step0_20 rfl rfl ?_
    refine r_iald (pc := 21) dX12_step0_21 k3 i4 ?_
    refine r_iconst (pc := 22) (v := 4) dX12_step0_22 (by decide) ?_
    refine r_icmp_ne (pc := 23) (tgt := 32) dX12_step0_23 (by decide) (fun c6 => ?_) (fun c6 => ?_)
    · replace h := h.1 c6
      exact h
    · replace h := h.2 c6
      refine r_aload_n (pc := 26) (i := 0) dX12_step0_26 rfl rfl ?_
      refine r_bipush (pc := 27) (v := 50) dX12_step0_27 (by decide) ?_
      refine r_callV (pc := 29) (ci := 12) (as := [_]) (st := []) okX12_ran lkX12_547 inX12_ran seX12_ran ⟨_, rfl, rfl⟩ dX12_step0_29 rfl k1 (Nat.le_of_ble_eq_true rfl) (Nat.zero_le _) (Nat.zero_le _) (Call.mono h (fun r7 M8 h => ?_))
      obtain ⟨rfl, h⟩ := h
      exact h
  · replace h := h.2 c5
    refine r_aload_n (pc := 10) (i := 0) dX12_step0_10 rfl rfl ?_
    refine r_bipush (pc := 11) (v := 30) dX12_step0_11 (by decide) ?_
    refine r_callV (pc := 13) (ci := 12) (as := [_]) (st := []) okX12_ran lkX12_547 inX12_ran seX12_ran ⟨_, rfl, rfl⟩ dX12_step0_13 rfl k1 (Nat.le_of_ble_eq_true rfl) (Nat.zero_le _) (Nat.zero_le _) (Call.mono h (fun r9 M10 h => ?_))
    obtain ⟨rfl, h⟩ := h
    refine r_aload_n (pc := 16) (i := 0) dX12_step0_16 rfl rfl ?_
    obtain ⟨k11, h⟩ := h
    obtain ⟨b12, hb12, h⟩ := h
    refine r_getr (pc := 17) flX12_13 dX12_step0_17 rfl k11 hb12 ?_
    refine r_iload_n (pc := 20) (i := 1) dX12_step0_20 rfl rfl ?_
    obtain ⟨k13, h⟩ := h
    obtain ⟨i14, h⟩ := h
    refine r_iald (pc := 21) dX12_step0_21 k13 i14 ?_
    refine r_iconst (pc := 22) (v := 4) dX12_step0_22 (by decide) ?_
    refine r_icmp_ne (pc := 23) (tgt := 32) dX12_step0_23 (by decide) (fun c15 => ?_) (fun c15 => ?_)
    · replace h := h.1 c15
      exact h
    · replace h := h.2 c15
      refine r_aload_n (pc := 26) (i := 0) dX12_step0_26 rfl rfl ?_
      refine r_bipush (pc := 27) (v := 50) dX12_step0_27 (by decide) ?_
      refine r_callV (pc := 29) (ci := 12) (as := [_]) (st := []) okX12_ran lkX12_547 inX12_ran seX12_ran ⟨_, rfl, rfl⟩ dX12_step0_29 rfl k11 (Nat.le_of_ble_eq_true rfl) (Nat.zero_le _) (Nat.zero_le _) (Call.mono h (fun r16 M17 h => ?_))
      obtain ⟨rfl, h⟩ := h
      exact h
theorem vX12_step0_32 {G : GG} {d rc rs : Nat} (p0 : Nat) (x1 : Int32) (x2 : Int32)  {M : Mem} {Q : Option Value → Mem → Prop} (h : (x_h M p0).1 = 28 ∧ Call G d 0 0 mX12_ran [.ref p0, .int 11] M (fun r2 M3 => r2 = none ∧ (x_h M3 p0).1 = 28 ∧ (∃ b5, x_r M3 p0 2 = some b5 ∧ (x_h M3 b5).1 = 1 ∧ vp_in x1 (x_h M3 b5).2 ∧ (¬ (x_i M3 b5 x1.toNatClampNeg) = 4 → Call G d 0 0 mX12_read0 [.ref p0, .int x1, .int x2] M3 (fun r9 M10 => ∃ v11 : Int32, r9 = some (.int v11) ∧ (x_h M10 p0).1 = 28 ∧ (∃ b13, x_r M10 p0 2 = some b13 ∧ (x_h M10 b13).1 = 1 ∧ vp_in x1 (x_h M10 b13).2 ∧ (¬ (x_i M10 b13 x1.toNatClampNeg) = 2 → Q (some (.int (v11 * 3))) M10) ∧ ((x_i M10 b13 x1.toNatClampNeg) = 2 → Q (some (.int ((v11 * 3) + 5))) M10)))) ∧ ((x_i M3 b5 x1.toNatClampNeg) = 4 → Call G d 0 0 mX12_read0 [.ref p0, .int x1, .int (x2 - 1)] M3 (fun r17 M18 => ∃ v19 : Int32, r17 = some (.int v19) ∧ (x_h M18 p0).1 = 28 ∧ (∃ b21, x_r M18 p0 2 = some b21 ∧ (x_h M18 b21).1 = 1 ∧ vp_in x1 (x_h M18 b21).2 ∧ (¬ (x_i M18 b21 x1.toNatClampNeg) = 2 → Q (some (.int (v19 * 3))) M18) ∧ ((x_i M18 b21 x1.toNatClampNeg) = 2 → Q (some (.int ((v19 * 3) + 5))) M18))))))) : LX12_step0_32 G d rc rs p0 x1 x2 M Q := by
  show Wk G (d + 1) rc rs mX12_step0 32 _ _ M Q
  refine r_aload_n (pc := 32) (i := 0) dX12_step0_32 rfl rfl ?_
  refine r_bipush (pc := 33) (v := 11) dX12_step0_33 (by decide) ?_
  obtain ⟨k1, h⟩ := h
  refine r_callV (pc := 35) (ci := 12) (as := [_]) (st := []) okX12_ran lkX12_547 inX12_ran seX12_ran ⟨_, rfl, rfl⟩ dX12_step0_35 rfl k1 (Nat.le_of_ble_eq_true rfl) (Nat.zero_le _) (Nat.zero_le _) (Call.mono h (fun r2 M3 h => ?_))
  obtain ⟨rfl, h⟩ := h
  refine r_aload_n (pc := 38) (i := 0) dX12_step0_38 rfl rfl ?_
  refine r_iload_n (pc := 39) (i := 1) dX12_step0_39 rfl rfl ?_
  refine r_aload_n (pc := 40) (i := 0) dX12_step0_40 rfl rfl ?_
  obtain ⟨k4, h⟩ := h
  obtain ⟨b5, hb5, h⟩ := h
  refine r_getr (pc := 41) flX12_13 dX12_step0_41 rfl k4 hb5 ?_
  refine r_iload_n (pc := 44) (i := 1) dX12_step0_44 rfl rfl ?_
  obtain ⟨k6, h⟩ := h
  obtain ⟨i7, h⟩ := h
  refine r_iald (pc := 45) dX12_step0_45 k6 i7 ?_
  refine r_iconst (pc := 46) (v := 4) dX12_step0_46 (by decide) ?_
  refine r_icmp_ne (pc := 47) (tgt := 56) dX12_step0_47 (by decide) (fun c8 => ?_) (fun c8 => ?_)
  · replace h := h.1 c8
    refine r_iload_n (pc := 56) (i := 2) dX12_step0_56 rfl rfl ?_
    refine r_callV (pc := 57) (ci := 12) (as := [_, _]) (st := []) okX12_read0 lkX12_550 inX12_read0 seX12_read0 ⟨_, rfl, rfl⟩ dX12_step0_57 rfl k4 (Nat.le_of_ble_eq_true rfl) (Nat.zero_le _) (Nat.zero_le _) (Call.mono h (fun r9 M10 h => ?_))
    obtain ⟨v11, rfl, h⟩ := h
    refine r_iconst (pc := 60) (v := 3) dX12_step0_60 (by decide) ?_
    refine r_imul (pc := 61) dX12_step0_61 ?_
    refine r_istore_n (pc := 62) (i := 3) dX12_step0_62 rfl rfl (Nat.le_of_ble_eq_true rfl) ?_
    refine r_aload_n (pc := 63) (i := 0) dX12_step0_63 rfl rfl ?_
    obtain ⟨k12, h⟩ := h
    obtain ⟨b13, hb13, h⟩ := h
    refine r_getr (pc := 64) flX12_13 dX12_step0_64 rfl k12 hb13 ?_
    refine r_iload_n (pc := 67) (i := 1) dX12_step0_67 rfl rfl ?_
    obtain ⟨k14, h⟩ := h
    obtain ⟨i15, h⟩ := h
    refine r_iald (pc := 68) dX12_step0_68 k14 i15 ?_
    refine r_iconst (pc := 69) (v := 2) dX12_step0_69 (by decide) ?_
    refine r_icmp_ne (pc := 70) (tgt := 79) dX12_step0_70 (by decide) (fun c16 => ?_) (fun c16 => ?_)
    · replace h := h.1 c16
      refine r_iload_n (pc := 79) (i := 3) dX12_step0_79 rfl rfl ?_
      exact r_iret (pc := 80) dX12_step0_80 rfl h
    · replace h := h.2 c16
      refine r_iload_n (pc := 73) (i := 3) dX12_step0_73 rfl rfl ?_
      refine r_iconst (pc := 74) (v := 5) dX12_step0_74 (by decide) ?_
      refine r_iadd (pc := 75) dX12_step0_75 ?_
      refine r_goto (pc := 76) (tgt := 80) dX12_step0_76 (by decide) ?_
      exact r_iret (pc := 80) dX12_step0_80 rfl h
  · replace h := h.2 c8
    refine r_iload_n (pc := 50) (i := 2) dX12_step0_50 rfl rfl ?_
    refine r_iconst (pc := 51) (v := 1) dX12_step0_51 (by decide) ?_
    refine r_isub (pc := 52) dX12_step0_52 ?_
    refine r_goto (pc := 53) (tgt := 57) dX12_step0_53 (by decide) ?_
    refine r_callV (pc := 57) (ci := 12) (as := [_, _]) (st := []) okX12_read0 lkX12_550 inX12_read0 seX12_read0 ⟨_, rfl, rfl⟩ dX12_step0_57 rfl k4 (Nat.le_of_ble_eq_true rfl) (Nat.zero_le _) (Nat.zero_le _) (Call.mono h (fun r17 M18 h => ?_))
    obtain ⟨v19, rfl, h⟩ := h
    refine r_iconst (pc := 60) (v := 3) dX12_step0_60 (by decide) ?_
    refine r_imul (pc := 61) dX12_step0_61 ?_
    refine r_istore_n (pc := 62) (i := 3) dX12_step0_62 rfl rfl (Nat.le_of_ble_eq_true rfl) ?_
    refine r_aload_n (pc := 63) (i := 0) dX12_step0_63 rfl rfl ?_
    obtain ⟨k20, h⟩ := h
    obtain ⟨b21, hb21, h⟩ := h
    refine r_getr (pc := 64) flX12_13 dX12_step0_64 rfl k20 hb21 ?_
    refine r_iload_n (pc := 67) (i := 1) dX12_step0_67 rfl rfl ?_
    obtain ⟨k22, h⟩ := h
    obtain ⟨i23, h⟩ := h
    refine r_iald (pc := 68) dX12_step0_68 k22 i23 ?_
    refine r_iconst (pc := 69) (v := 2) dX12_step0_69 (by decide) ?_
    refine r_icmp_ne (pc := 70) (tgt := 79) dX12_step0_70 (by decide) (fun c24 => ?_) (fun c24 => ?_)
    · replace h := h.1 c24
      refine r_iload_n (pc := 79) (i := 3) dX12_step0_79 rfl rfl ?_
      exact r_iret (pc := 80) dX12_step0_80 rfl h
    · replace h := h.2 c24
      refine r_iload_n (pc := 73) (i := 3) dX12_step0_73 rfl rfl ?_
      refine r_iconst (pc := 74) (v := 5) dX12_step0_74 (by decide) ?_
      refine r_iadd (pc := 75) dX12_step0_75 ?_
      refine r_goto (pc := 76) (tgt := 80) dX12_step0_76 (by decide) ?_
      exact r_iret (pc := 80) dX12_step0_80 rfl h
abbrev LX12_join0_32 (G : GG) (d rc rs : Nat) (p0 : Nat) (x1 : Int32) (x2 : Int32) (M : Mem) (Q : Option Value → Mem → Prop) : Prop := Wk G (d + 1) rc rs mX12_join0 32 [some (.ref p0), some (.int x1), some (.int x2), none] [] M Q
theorem eX12_join0 {G : GG} {d rc rs : Nat} (o : Nat) (a1 : Int32) (a2 : Int32)  {M : Mem} {Q : Option Value → Mem → Prop} (h : (x_h M o).1 = 28 ∧ (∃ b2, x_r M o 2 = some b2 ∧ (x_h M b2).1 = 1 ∧ vp_in a1 (x_h M b2).2 ∧ (¬ (x_i M b2 a1.toNatClampNeg) = 2 → (¬ (x_i M b2 a1.toNatClampNeg) = 3 → LX12_join0_32 G d rc rs o a1 a2 M Q) ∧ ((x_i M b2 a1.toNatClampNeg) = 3 → Call G d 0 0 mX12_ran [.ref o, .int 40] M (fun r7 M8 => r7 = none ∧ LX12_join0_32 G d rc rs o a1 a2 M8 Q))) ∧ ((x_i M b2 a1.toNatClampNeg) = 2 → Call G d 0 0 mX12_ran [.ref o, .int 31] M (fun r9 M10 => r9 = none ∧ (x_h M10 o).1 = 28 ∧ (∃ b12, x_r M10 o 2 = some b12 ∧ (x_h M10 b12).1 = 1 ∧ vp_in a1 (x_h M10 b12).2 ∧ (¬ (x_i M10 b12 a1.toNatClampNeg) = 3 → LX12_join0_32 G d rc rs o a1 a2 M10 Q) ∧ ((x_i M10 b12 a1.toNatClampNeg) = 3 → Call G d 0 0 mX12_ran [.ref o, .int 40] M10 (fun r16 M17 => r16 = none ∧ LX12_join0_32 G d rc rs o a1 a2 M17 Q))))))) : Call G (d + 1) rc rs mX12_join0 [.ref o, .int a1, .int a2] M Q := by
  refine call_of (by decide) (Nat.le_of_ble_eq_true rfl) ?_
  show Wk G (d + 1) rc rs mX12_join0 0 [some (.ref o), some (.int a1), some (.int a2), none] [] M Q
  refine r_aload_n (pc := 0) (i := 0) dX12_join0_0 rfl rfl ?_
  obtain ⟨k1, h⟩ := h
  obtain ⟨b2, hb2, h⟩ := h
  refine r_getr (pc := 1) flX12_13 dX12_join0_1 rfl k1 hb2 ?_
  refine r_iload_n (pc := 4) (i := 1) dX12_join0_4 rfl rfl ?_
  obtain ⟨k3, h⟩ := h
  obtain ⟨i4, h⟩ := h
  refine r_iald (pc := 5) dX12_join0_5 k3 i4 ?_
  refine r_iconst (pc := 6) (v := 2) dX12_join0_6 (by decide) ?_
  refine r_icmp_ne (pc := 7) (tgt := 16) dX12_join0_7 (by decide) (fun c5 => ?_) (fun c5 => ?_)
  · replace h := h.1 c5
    refine r_aload_n (pc := 16) (i := 0) dX12_join0_16 rfl rfl ?_
    refine r_getr (pc := 17) flX12_13 dX12_join0_17 rfl k1 hb2 ?_
    refine r_iload_n (pc := 20) (i := 1) dX12_join0_20 rfl rfl ?_
    refine r_iald (pc := 21) dX12_join0_21 k3 i4 ?_
    refine r_iconst (pc := 22) (v := 3) dX12_join0_22 (by decide) ?_
    refine r_icmp_ne (pc := 23) (tgt := 32) dX12_join0_23 (by decide) (fun c6 => ?_) (fun c6 => ?_)
    · replace h := h.1 c6
      exact h
    · replace h := h.2 c6
      refine r_aload_n (pc := 26) (i := 0) dX12_join0_26 rfl rfl ?_
      refine r_bipush (pc := 27) (v := 40) dX12_join0_27 (by decide) ?_
      refine r_callV (pc := 29) (ci := 12) (as := [_]) (st := []) okX12_ran lkX12_547 inX12_ran seX12_ran ⟨_, rfl, rfl⟩ dX12_join0_29 rfl k1 (Nat.le_of_ble_eq_true rfl) (Nat.zero_le _) (Nat.zero_le _) (Call.mono h (fun r7 M8 h => ?_))
      obtain ⟨rfl, h⟩ := h
      exact h
  · replace h := h.2 c5
    refine r_aload_n (pc := 10) (i := 0) dX12_join0_10 rfl rfl ?_
    refine r_bipush (pc := 11) (v := 31) dX12_join0_11 (by decide) ?_
    refine r_callV (pc := 13) (ci := 12) (as := [_]) (st := []) okX12_ran lkX12_547 inX12_ran seX12_ran ⟨_, rfl, rfl⟩ dX12_join0_13 rfl k1 (Nat.le_of_ble_eq_true rfl) (Nat.zero_le _) (Nat.zero_le _) (Call.mono h (fun r9 M10 h => ?_))
    obtain ⟨rfl, h⟩ := h
    refine r_aload_n (pc := 16) (i := 0) dX12_join0_16 rfl rfl ?_
    obtain ⟨k11, h⟩ := h
    obtain ⟨b12, hb12, h⟩ := h
    refine r_getr (pc := 17) flX12_13 dX12_join0_17 rfl k11 hb12 ?_
    refine r_iload_n (pc := 20) (i := 1) dX12_join0_20 rfl rfl ?_
    obtain ⟨k13, h⟩ := h
    obtain ⟨i14, h⟩ := h
    refine r_iald (pc := 21) dX12_join0_21 k13 i14 ?_
    refine r_iconst (pc := 22) (v := 3) dX12_join0_22 (by decide) ?_
    refine r_icmp_ne (pc := 23) (tgt := 32) dX12_join0_23 (by decide) (fun c15 => ?_) (fun c15 => ?_)
    · replace h := h.1 c15
      exact h
    · replace h := h.2 c15
      refine r_aload_n (pc := 26) (i := 0) dX12_join0_26 rfl rfl ?_
      refine r_bipush (pc := 27) (v := 40) dX12_join0_27 (by decide) ?_
      refine r_callV (pc := 29) (ci := 12) (as := [_]) (st := []) okX12_ran lkX12_547 inX12_ran seX12_ran ⟨_, rfl, rfl⟩ dX12_join0_29 rfl k11 (Nat.le_of_ble_eq_true rfl) (Nat.zero_le _) (Nat.zero_le _) (Call.mono h (fun r16 M17 h => ?_))
      obtain ⟨rfl, h⟩ := h
      exact h
theorem vX12_join0_32 {G : GG} {d rc rs : Nat} (p0 : Nat) (x1 : Int32) (x2 : Int32)  {M : Mem} {Q : Option Value → Mem → Prop} (h : (x_h M p0).1 = 28 ∧ Call G d 0 0 mX12_ran [.ref p0, .int 12] M (fun r2 M3 => r2 = none ∧ (x_h M3 p0).1 = 28 ∧ (∃ b5, x_r M3 p0 3 = some b5 ∧ (x_h M3 b5).1 = 1 ∧ vp_in x1 (x_h M3 b5).2 ∧ (∃ b8, x_r M3 p0 2 = some b8 ∧ (x_h M3 b8).1 = 1 ∧ vp_in x1 (x_h M3 b8).2 ∧ (¬ (x_i M3 b8 x1.toNatClampNeg) = 2 → (¬ (x_i M3 b8 x1.toNatClampNeg) = 3 → Q (some (.int (x2 ^^^ (x_i M3 b5 x1.toNatClampNeg)))) M3) ∧ ((x_i M3 b8 x1.toNatClampNeg) = 3 → Q (some (.int ((x2 ^^^ (x_i M3 b5 x1.toNatClampNeg)) * x1))) M3)) ∧ ((x_i M3 b8 x1.toNatClampNeg) = 2 → Q (some (.int ((x2 ^^^ (x_i M3 b5 x1.toNatClampNeg)) - x2))) M3))))) : LX12_join0_32 G d rc rs p0 x1 x2 M Q := by
  show Wk G (d + 1) rc rs mX12_join0 32 _ _ M Q
  refine r_aload_n (pc := 32) (i := 0) dX12_join0_32 rfl rfl ?_
  refine r_bipush (pc := 33) (v := 12) dX12_join0_33 (by decide) ?_
  obtain ⟨k1, h⟩ := h
  refine r_callV (pc := 35) (ci := 12) (as := [_]) (st := []) okX12_ran lkX12_547 inX12_ran seX12_ran ⟨_, rfl, rfl⟩ dX12_join0_35 rfl k1 (Nat.le_of_ble_eq_true rfl) (Nat.zero_le _) (Nat.zero_le _) (Call.mono h (fun r2 M3 h => ?_))
  obtain ⟨rfl, h⟩ := h
  refine r_iload_n (pc := 38) (i := 2) dX12_join0_38 rfl rfl ?_
  refine r_aload_n (pc := 39) (i := 0) dX12_join0_39 rfl rfl ?_
  obtain ⟨k4, h⟩ := h
  obtain ⟨b5, hb5, h⟩ := h
  refine r_getr (pc := 40) flX12_17 dX12_join0_40 rfl k4 hb5 ?_
  refine r_iload_n (pc := 43) (i := 1) dX12_join0_43 rfl rfl ?_
  obtain ⟨k6, h⟩ := h
  obtain ⟨i7, h⟩ := h
  refine r_iald (pc := 44) dX12_join0_44 k6 i7 ?_
  refine r_ixor (pc := 45) dX12_join0_45 ?_
  refine r_istore_n (pc := 46) (i := 3) dX12_join0_46 rfl rfl (Nat.le_of_ble_eq_true rfl) ?_
  refine r_aload_n (pc := 47) (i := 0) dX12_join0_47 rfl rfl ?_
  obtain ⟨b8, hb8, h⟩ := h
  refine r_getr (pc := 48) flX12_13 dX12_join0_48 rfl k4 hb8 ?_
  refine r_iload_n (pc := 51) (i := 1) dX12_join0_51 rfl rfl ?_
  obtain ⟨k9, h⟩ := h
  obtain ⟨i10, h⟩ := h
  refine r_iald (pc := 52) dX12_join0_52 k9 i10 ?_
  refine r_iconst (pc := 53) (v := 2) dX12_join0_53 (by decide) ?_
  refine r_icmp_ne (pc := 54) (tgt := 63) dX12_join0_54 (by decide) (fun c11 => ?_) (fun c11 => ?_)
  · replace h := h.1 c11
    refine r_aload_n (pc := 63) (i := 0) dX12_join0_63 rfl rfl ?_
    refine r_getr (pc := 64) flX12_13 dX12_join0_64 rfl k4 hb8 ?_
    refine r_iload_n (pc := 67) (i := 1) dX12_join0_67 rfl rfl ?_
    refine r_iald (pc := 68) dX12_join0_68 k9 i10 ?_
    refine r_iconst (pc := 69) (v := 3) dX12_join0_69 (by decide) ?_
    refine r_icmp_ne (pc := 70) (tgt := 79) dX12_join0_70 (by decide) (fun c12 => ?_) (fun c12 => ?_)
    · replace h := h.1 c12
      refine r_iload_n (pc := 79) (i := 3) dX12_join0_79 rfl rfl ?_
      exact r_iret (pc := 80) dX12_join0_80 rfl h
    · replace h := h.2 c12
      refine r_iload_n (pc := 73) (i := 3) dX12_join0_73 rfl rfl ?_
      refine r_iload_n (pc := 74) (i := 1) dX12_join0_74 rfl rfl ?_
      refine r_imul (pc := 75) dX12_join0_75 ?_
      refine r_goto (pc := 76) (tgt := 80) dX12_join0_76 (by decide) ?_
      exact r_iret (pc := 80) dX12_join0_80 rfl h
  · replace h := h.2 c11
    refine r_iload_n (pc := 57) (i := 3) dX12_join0_57 rfl rfl ?_
    refine r_iload_n (pc := 58) (i := 2) dX12_join0_58 rfl rfl ?_
    refine r_isub (pc := 59) dX12_join0_59 ?_
    refine r_goto (pc := 60) (tgt := 80) dX12_join0_60 (by decide) ?_
    exact r_iret (pc := 80) dX12_join0_80 rfl h
theorem eX12_machineTell {G : GG} {d rc rs : Nat} (o : Nat) (a1 : Int32) (a2 : Int32)  {M : Mem} {Q : Option Value → Mem → Prop} (h : (x_h M o).1 = 28 ∧ Call G d 0 0 mX12_ran [.ref o, .int 13] M (fun r2 M3 => r2 = none ∧ (x_h M3 o).1 = 28 ∧ Call G d 0 0 mX12_step0 [.ref o, .int a1, .int a2] M3 (fun r5 M6 => ∃ v7 : Int32, r5 = some (.int v7) ∧ (x_h M6 o).1 = 28 ∧ Call G d 0 0 mX12_join0 [.ref o, .int a1, .int a2] M6 (fun r9 M10 => ∃ v11 : Int32, r9 = some (.int v11) ∧ Q (some (.int (v7 - v11))) M10)))) : Call G (d + 1) rc rs mX12_machineTell [.ref o, .int a1, .int a2] M Q := by
  refine call_of (by decide) (Nat.le_of_ble_eq_true rfl) ?_
  show Wk G (d + 1) rc rs mX12_machineTell 0 [some (.ref o), some (.int a1), some (.int a2), none] [] M Q
  refine r_aload_n (pc := 0) (i := 0) dX12_machineTell_0 rfl rfl ?_
  refine r_bipush (pc := 1) (v := 13) dX12_machineTell_1 (by decide) ?_
  obtain ⟨k1, h⟩ := h
  refine r_callV (pc := 3) (ci := 12) (as := [_]) (st := []) okX12_ran lkX12_547 inX12_ran seX12_ran ⟨_, rfl, rfl⟩ dX12_machineTell_3 rfl k1 (Nat.le_of_ble_eq_true rfl) (Nat.zero_le _) (Nat.zero_le _) (Call.mono h (fun r2 M3 h => ?_))
  obtain ⟨rfl, h⟩ := h
  refine r_aload_n (pc := 6) (i := 0) dX12_machineTell_6 rfl rfl ?_
  refine r_iload_n (pc := 7) (i := 1) dX12_machineTell_7 rfl rfl ?_
  refine r_iload_n (pc := 8) (i := 2) dX12_machineTell_8 rfl rfl ?_
  obtain ⟨k4, h⟩ := h
  refine r_callV (pc := 9) (ci := 12) (as := [_, _]) (st := []) okX12_step0 lkX12_553 inX12_step0 seX12_step0 ⟨_, rfl, rfl⟩ dX12_machineTell_9 rfl k4 (Nat.le_of_ble_eq_true rfl) (Nat.zero_le _) (Nat.zero_le _) (Call.mono h (fun r5 M6 h => ?_))
  obtain ⟨v7, rfl, h⟩ := h
  refine r_istore_n (pc := 12) (i := 3) dX12_machineTell_12 rfl rfl (Nat.le_of_ble_eq_true rfl) ?_
  refine r_iload_n (pc := 13) (i := 3) dX12_machineTell_13 rfl rfl ?_
  refine r_aload_n (pc := 14) (i := 0) dX12_machineTell_14 rfl rfl ?_
  refine r_iload_n (pc := 15) (i := 1) dX12_machineTell_15 rfl rfl ?_
  refine r_iload_n (pc := 16) (i := 2) dX12_machineTell_16 rfl rfl ?_
  obtain ⟨k8, h⟩ := h
  refine r_callV (pc := 17) (ci := 12) (as := [_, _]) (st := [_]) okX12_join0 lkX12_556 inX12_join0 seX12_join0 ⟨_, rfl, rfl⟩ dX12_machineTell_17 rfl k8 (Nat.le_of_ble_eq_true rfl) (Nat.zero_le _) (Nat.zero_le _) (Call.mono h (fun r9 M10 h => ?_))
  obtain ⟨v11, rfl, h⟩ := h
  refine r_isub (pc := 20) dX12_machineTell_20 ?_
  exact r_iret (pc := 21) dX12_machineTell_21 rfl h
theorem eX12_tell0 {G : GG} {d rc rs : Nat} (o : Nat) (a1 : Int32) (a2 : Int32)  {M : Mem} {Q : Option Value → Mem → Prop} (h : (x_h M o).1 = 28 ∧ Call G d 0 0 mX12_isGrown [.ref o, .int a1] M (fun r2 M3 => ∃ v4 : Int32, r2 = some (.int v4) ∧ (v4 = 0 → (x_h M3 o).1 = 28 ∧ (∃ b7, x_r M3 o 2 = some b7 ∧ (x_h M3 b7).1 = 1 ∧ vp_in a1 (x_h M3 b7).2 ∧ (¬ (x_i M3 b7 a1.toNatClampNeg) = 4 → Call G d 0 0 mX12_machineTell [.ref o, .int a1, .int a2] M3 (fun r11 M12 => ∃ v13 : Int32, r11 = some (.int v13) ∧ Q (some (.int v13)) M12)) ∧ ((x_i M3 b7 a1.toNatClampNeg) = 4 → Call G d 0 0 mX12_ran [.ref o, .int 51] M3 (fun r14 M15 => r14 = none ∧ (x_h M15 o).1 = 28 ∧ Call G d 0 0 mX12_join0 [.ref o, .int a1, .int a2] M15 (fun r17 M18 => ∃ v19 : Int32, r17 = some (.int v19) ∧ (x_h M18 o).1 = 28 ∧ Call G d 0 0 mX12_machineTell [.ref o, .int a1, .int a2] M18 (fun r21 M22 => ∃ v23 : Int32, r21 = some (.int v23) ∧ Q (some (.int (v19 ^^^ v23))) M22)))))) ∧ (¬ v4 = 0 → (x_h M3 o).1 = 28 ∧ Call G d 0 0 mX12_ran [.ref o, .int 21] M3 (fun r25 M26 => r25 = none ∧ (x_h M26 o).1 = 28 ∧ Call G d 0 0 mX12_machineTell [.ref o, .int a1, .int (a2 + 1)] M26 (fun r28 M29 => ∃ v30 : Int32, r28 = some (.int v30) ∧ Q (some (.int v30)) M29))))) : Call G (d + 1) rc rs mX12_tell0 [.ref o, .int a1, .int a2] M Q := by
  refine call_of (by decide) (Nat.le_of_ble_eq_true rfl) ?_
  show Wk G (d + 1) rc rs mX12_tell0 0 [some (.ref o), some (.int a1), some (.int a2), none] [] M Q
  refine r_aload_n (pc := 0) (i := 0) dX12_tell0_0 rfl rfl ?_
  refine r_iload_n (pc := 1) (i := 1) dX12_tell0_1 rfl rfl ?_
  obtain ⟨k1, h⟩ := h
  refine r_callV (pc := 2) (ci := 12) (as := [_]) (st := []) okX12_isGrown lkX12_544 inX12_isGrown seX12_isGrown ⟨_, rfl, rfl⟩ dX12_tell0_2 rfl k1 (Nat.le_of_ble_eq_true rfl) (Nat.zero_le _) (Nat.zero_le _) (Call.mono h (fun r2 M3 h => ?_))
  obtain ⟨v4, rfl, h⟩ := h
  refine r_if_eq (pc := 5) (tgt := 23) dX12_tell0_5 (by decide) (fun c5 => ?_) (fun c5 => ?_)
  · replace h := h.1 c5
    refine r_aload_n (pc := 23) (i := 0) dX12_tell0_23 rfl rfl ?_
    obtain ⟨k6, h⟩ := h
    obtain ⟨b7, hb7, h⟩ := h
    refine r_getr (pc := 24) flX12_13 dX12_tell0_24 rfl k6 hb7 ?_
    refine r_iload_n (pc := 27) (i := 1) dX12_tell0_27 rfl rfl ?_
    obtain ⟨k8, h⟩ := h
    obtain ⟨i9, h⟩ := h
    refine r_iald (pc := 28) dX12_tell0_28 k8 i9 ?_
    refine r_iconst (pc := 29) (v := 4) dX12_tell0_29 (by decide) ?_
    refine r_icmp_ne (pc := 30) (tgt := 55) dX12_tell0_30 (by decide) (fun c10 => ?_) (fun c10 => ?_)
    · replace h := h.1 c10
      refine r_aload_n (pc := 55) (i := 0) dX12_tell0_55 rfl rfl ?_
      refine r_iload_n (pc := 56) (i := 1) dX12_tell0_56 rfl rfl ?_
      refine r_iload_n (pc := 57) (i := 2) dX12_tell0_57 rfl rfl ?_
      refine r_callV (pc := 58) (ci := 12) (as := [_, _]) (st := []) okX12_machineTell lkX12_559 inX12_machineTell seX12_machineTell ⟨_, rfl, rfl⟩ dX12_tell0_58 rfl k6 (Nat.le_of_ble_eq_true rfl) (Nat.zero_le _) (Nat.zero_le _) (Call.mono h (fun r11 M12 h => ?_))
      obtain ⟨v13, rfl, h⟩ := h
      exact r_iret (pc := 61) dX12_tell0_61 rfl h
    · replace h := h.2 c10
      refine r_aload_n (pc := 33) (i := 0) dX12_tell0_33 rfl rfl ?_
      refine r_bipush (pc := 34) (v := 51) dX12_tell0_34 (by decide) ?_
      refine r_callV (pc := 36) (ci := 12) (as := [_]) (st := []) okX12_ran lkX12_547 inX12_ran seX12_ran ⟨_, rfl, rfl⟩ dX12_tell0_36 rfl k6 (Nat.le_of_ble_eq_true rfl) (Nat.zero_le _) (Nat.zero_le _) (Call.mono h (fun r14 M15 h => ?_))
      obtain ⟨rfl, h⟩ := h
      refine r_aload_n (pc := 39) (i := 0) dX12_tell0_39 rfl rfl ?_
      refine r_iload_n (pc := 40) (i := 1) dX12_tell0_40 rfl rfl ?_
      refine r_iload_n (pc := 41) (i := 2) dX12_tell0_41 rfl rfl ?_
      obtain ⟨k16, h⟩ := h
      refine r_callV (pc := 42) (ci := 12) (as := [_, _]) (st := []) okX12_join0 lkX12_556 inX12_join0 seX12_join0 ⟨_, rfl, rfl⟩ dX12_tell0_42 rfl k16 (Nat.le_of_ble_eq_true rfl) (Nat.zero_le _) (Nat.zero_le _) (Call.mono h (fun r17 M18 h => ?_))
      obtain ⟨v19, rfl, h⟩ := h
      refine r_istore_n (pc := 45) (i := 3) dX12_tell0_45 rfl rfl (Nat.le_of_ble_eq_true rfl) ?_
      refine r_iload_n (pc := 46) (i := 3) dX12_tell0_46 rfl rfl ?_
      refine r_aload_n (pc := 47) (i := 0) dX12_tell0_47 rfl rfl ?_
      refine r_iload_n (pc := 48) (i := 1) dX12_tell0_48 rfl rfl ?_
      refine r_iload_n (pc := 49) (i := 2) dX12_tell0_49 rfl rfl ?_
      obtain ⟨k20, h⟩ := h
      refine r_callV (pc := 50) (ci := 12) (as := [_, _]) (st := [_]) okX12_machineTell lkX12_559 inX12_machineTell seX12_machineTell ⟨_, rfl, rfl⟩ dX12_tell0_50 rfl k20 (Nat.le_of_ble_eq_true rfl) (Nat.zero_le _) (Nat.zero_le _) (Call.mono h (fun r21 M22 h => ?_))
      obtain ⟨v23, rfl, h⟩ := h
      refine r_ixor (pc := 53) dX12_tell0_53 ?_
      exact r_iret (pc := 54) dX12_tell0_54 rfl h
  · replace h := h.2 c5
    refine r_aload_n (pc := 8) (i := 0) dX12_tell0_8 rfl rfl ?_
    refine r_bipush (pc := 9) (v := 21) dX12_tell0_9 (by decide) ?_
    obtain ⟨k24, h⟩ := h
    refine r_callV (pc := 11) (ci := 12) (as := [_]) (st := []) okX12_ran lkX12_547 inX12_ran seX12_ran ⟨_, rfl, rfl⟩ dX12_tell0_11 rfl k24 (Nat.le_of_ble_eq_true rfl) (Nat.zero_le _) (Nat.zero_le _) (Call.mono h (fun r25 M26 h => ?_))
    obtain ⟨rfl, h⟩ := h
    refine r_aload_n (pc := 14) (i := 0) dX12_tell0_14 rfl rfl ?_
    refine r_iload_n (pc := 15) (i := 1) dX12_tell0_15 rfl rfl ?_
    refine r_iload_n (pc := 16) (i := 2) dX12_tell0_16 rfl rfl ?_
    refine r_iconst (pc := 17) (v := 1) dX12_tell0_17 (by decide) ?_
    refine r_iadd (pc := 18) dX12_tell0_18 ?_
    obtain ⟨k27, h⟩ := h
    refine r_callV (pc := 19) (ci := 12) (as := [_, _]) (st := []) okX12_machineTell lkX12_559 inX12_machineTell seX12_machineTell ⟨_, rfl, rfl⟩ dX12_tell0_19 rfl k27 (Nat.le_of_ble_eq_true rfl) (Nat.zero_le _) (Nat.zero_le _) (Call.mono h (fun r28 M29 h => ?_))
    obtain ⟨v30, rfl, h⟩ := h
    exact r_iret (pc := 22) dX12_tell0_22 rfl h
theorem eX12_act {G : GG} {d rc rs : Nat} (o : Nat) (a1 : Int32) (a2 : Int32) (a3 : Int32)  {M : Mem} {Q : Option Value → Mem → Prop} (h : (x_h M o).1 = 28 ∧ Call G d 0 0 mX12_isRow [.ref o, .int a1] M (fun r2 M3 => ∃ v4 : Int32, r2 = some (.int v4) ∧ (v4 = 0 → (x_h M3 o).1 = 28 ∧ Call G d 0 0 mX12_refused [.ref o, .int 1] M3 (fun r7 M8 => ∃ v9 : Int32, r7 = some (.int v9) ∧ Q (some (.int v9)) M8)) ∧ (¬ v4 = 0 → Call G d 0 0 mX12_in [.int a2, .int 0, .int 3] M3 (fun r10 M11 => ∃ v12 : Int32, r10 = some (.int v12) ∧ (¬ v12 = 0 → (x_h M11 o).1 = 28 ∧ (∀ M15, M15 = x_si M11 o 24 0 → (¬ a2 = 0 → (¬ a2 = 1 → (¬ a2 = 2 → Call G d 0 0 mX12_tell0 [.ref o, .int a1, .int a3] M15 (fun r19 M20 => ∃ v21 : Int32, r19 = some (.int v21) ∧ (x_h M20 o).1 = 28 ∧ Call G d 0 0 mX12_done [.ref o, .int v21] M20 (fun r23 M24 => ∃ v25 : Int32, r23 = some (.int v25) ∧ Q (some (.int v25)) M24))) ∧ (a2 = 2 → Call G d 0 0 mX12_join0 [.ref o, .int a1, .int a3] M15 (fun r26 M27 => ∃ v28 : Int32, r26 = some (.int v28) ∧ (x_h M27 o).1 = 28 ∧ Call G d 0 0 mX12_done [.ref o, .int v28] M27 (fun r30 M31 => ∃ v32 : Int32, r30 = some (.int v32) ∧ Q (some (.int v32)) M31)))) ∧ (a2 = 1 → Call G d 0 0 mX12_step0 [.ref o, .int a1, .int a3] M15 (fun r33 M34 => ∃ v35 : Int32, r33 = some (.int v35) ∧ (x_h M34 o).1 = 28 ∧ Call G d 0 0 mX12_done [.ref o, .int v35] M34 (fun r37 M38 => ∃ v39 : Int32, r37 = some (.int v39) ∧ Q (some (.int v39)) M38)))) ∧ (a2 = 0 → Call G d 0 0 mX12_read0 [.ref o, .int a1, .int a3] M15 (fun r40 M41 => ∃ v42 : Int32, r40 = some (.int v42) ∧ (x_h M41 o).1 = 28 ∧ Call G d 0 0 mX12_done [.ref o, .int v42] M41 (fun r44 M45 => ∃ v46 : Int32, r44 = some (.int v46) ∧ Q (some (.int v46)) M45))))) ∧ (v12 = 0 → (x_h M11 o).1 = 28 ∧ Call G d 0 0 mX12_refused [.ref o, .int 1] M11 (fun r48 M49 => ∃ v50 : Int32, r48 = some (.int v50) ∧ Q (some (.int v50)) M49)))))) : Call G (d + 1) rc rs mX12_act [.ref o, .int a1, .int a2, .int a3] M Q := by
  refine call_of (by decide) (Nat.le_of_ble_eq_true rfl) ?_
  show Wk G (d + 1) rc rs mX12_act 0 [some (.ref o), some (.int a1), some (.int a2), some (.int a3)] [] M Q
  refine r_aload_n (pc := 0) (i := 0) dX12_act_0 rfl rfl ?_
  refine r_iload_n (pc := 1) (i := 1) dX12_act_1 rfl rfl ?_
  obtain ⟨k1, h⟩ := h
  refine r_callV (pc := 2) (ci := 12) (as := [_]) (st := []) okX12_isRow lkX12_275 inX12_isRow seX12_isRow ⟨_, rfl, rfl⟩ dX12_act_2 rfl k1 (Nat.le_of_ble_eq_true rfl) (Nat.zero_le _) (Nat.zero_le _) (Call.mono h (fun r2 M3 h => ?_))
  obtain ⟨v4, rfl, h⟩ := h
  refine r_if_eq (pc := 5) (tgt := 17) dX12_act_5 (by decide) (fun c5 => ?_) (fun c5 => ?_)
  · replace h := h.1 c5
    refine r_aload_n (pc := 17) (i := 0) dX12_act_17 rfl rfl ?_
    refine r_iconst (pc := 18) (v := 1) dX12_act_18 (by decide) ?_
    obtain ⟨k6, h⟩ := h
    refine r_callV (pc := 19) (ci := 12) (as := [_]) (st := []) okX12_refused lkX12_253 inX12_refused seX12_refused ⟨_, rfl, rfl⟩ dX12_act_19 rfl k6 (Nat.le_of_ble_eq_true rfl) (Nat.zero_le _) (Nat.zero_le _) (Call.mono h (fun r7 M8 h => ?_))
    obtain ⟨v9, rfl, h⟩ := h
    exact r_iret (pc := 22) dX12_act_22 rfl h
  · replace h := h.2 c5
    refine r_iload_n (pc := 8) (i := 2) dX12_act_8 rfl rfl ?_
    refine r_iconst (pc := 9) (v := 0) dX12_act_9 (by decide) ?_
    refine r_iconst (pc := 10) (v := 3) dX12_act_10 (by decide) ?_
    refine r_callS (pc := 11) (as := [_, _, _]) (st := []) okX12_in lkX12_218 stX12_in dX12_act_11 rfl (Nat.le_of_ble_eq_true rfl) (Nat.zero_le _) (Nat.zero_le _) (Call.mono h (fun r10 M11 h => ?_))
    obtain ⟨v12, rfl, h⟩ := h
    refine r_if_ne (pc := 14) (tgt := 23) dX12_act_14 (by decide) (fun c13 => ?_) (fun c13 => ?_)
    · replace h := h.1 c13
      refine r_aload_n (pc := 23) (i := 0) dX12_act_23 rfl rfl ?_
      refine r_iconst (pc := 24) (v := 0) dX12_act_24 (by decide) ?_
      obtain ⟨k14, h⟩ := h
      refine r_puti (pc := 25) flX12_478 dX12_act_25 (Or.inl rfl) (fun q hq => by cases hq; rfl) k14 ?_
      replace h := h _ rfl
      refine r_aload_n (pc := 28) (i := 0) dX12_act_28 rfl rfl ?_
      refine r_iload_n (pc := 29) (i := 2) dX12_act_29 rfl rfl ?_
      refine r_if_ne (pc := 30) (tgt := 42) dX12_act_30 (by decide) (fun c16 => ?_) (fun c16 => ?_)
      · replace h := h.1 c16
        refine r_iload_n (pc := 42) (i := 2) dX12_act_42 rfl rfl ?_
        refine r_iconst (pc := 43) (v := 1) dX12_act_43 (by decide) ?_
        refine r_icmp_ne (pc := 44) (tgt := 56) dX12_act_44 (by decide) (fun c17 => ?_) (fun c17 => ?_)
        · replace h := h.1 c17
          refine r_iload_n (pc := 56) (i := 2) dX12_act_56 rfl rfl ?_
          refine r_iconst (pc := 57) (v := 2) dX12_act_57 (by decide) ?_
          refine r_icmp_ne (pc := 58) (tgt := 70) dX12_act_58 (by decide) (fun c18 => ?_) (fun c18 => ?_)
          · replace h := h.1 c18
            refine r_aload_n (pc := 70) (i := 0) dX12_act_70 rfl rfl ?_
            refine r_iload_n (pc := 71) (i := 1) dX12_act_71 rfl rfl ?_
            refine r_iload_n (pc := 72) (i := 3) dX12_act_72 rfl rfl ?_
            refine r_callV (pc := 73) (ci := 12) (as := [_, _]) (st := [_]) okX12_tell0 lkX12_562 inX12_tell0 seX12_tell0 ⟨_, rfl, rfl⟩ dX12_act_73 rfl k14 (Nat.le_of_ble_eq_true rfl) (Nat.zero_le _) (Nat.zero_le _) (Call.mono h (fun r19 M20 h => ?_))
            obtain ⟨v21, rfl, h⟩ := h
            obtain ⟨k22, h⟩ := h
            refine r_callV (pc := 76) (ci := 12) (as := [_]) (st := []) okX12_done lkX12_250 inX12_done seX12_done ⟨_, rfl, rfl⟩ dX12_act_76 rfl k22 (Nat.le_of_ble_eq_true rfl) (Nat.zero_le _) (Nat.zero_le _) (Call.mono h (fun r23 M24 h => ?_))
            obtain ⟨v25, rfl, h⟩ := h
            exact r_iret (pc := 79) dX12_act_79 rfl h
          · replace h := h.2 c18
            refine r_aload_n (pc := 61) (i := 0) dX12_act_61 rfl rfl ?_
            refine r_iload_n (pc := 62) (i := 1) dX12_act_62 rfl rfl ?_
            refine r_iload_n (pc := 63) (i := 3) dX12_act_63 rfl rfl ?_
            refine r_callV (pc := 64) (ci := 12) (as := [_, _]) (st := [_]) okX12_join0 lkX12_556 inX12_join0 seX12_join0 ⟨_, rfl, rfl⟩ dX12_act_64 rfl k14 (Nat.le_of_ble_eq_true rfl) (Nat.zero_le _) (Nat.zero_le _) (Call.mono h (fun r26 M27 h => ?_))
            obtain ⟨v28, rfl, h⟩ := h
            refine r_goto (pc := 67) (tgt := 76) dX12_act_67 (by decide) ?_
            obtain ⟨k29, h⟩ := h
            refine r_callV (pc := 76) (ci := 12) (as := [_]) (st := []) okX12_done lkX12_250 inX12_done seX12_done ⟨_, rfl, rfl⟩ dX12_act_76 rfl k29 (Nat.le_of_ble_eq_true rfl) (Nat.zero_le _) (Nat.zero_le _) (Call.mono h (fun r30 M31 h => ?_))
            obtain ⟨v32, rfl, h⟩ := h
            exact r_iret (pc := 79) dX12_act_79 rfl h
        · replace h := h.2 c17
          refine r_aload_n (pc := 47) (i := 0) dX12_act_47 rfl rfl ?_
          refine r_iload_n (pc := 48) (i := 1) dX12_act_48 rfl rfl ?_
          refine r_iload_n (pc := 49) (i := 3) dX12_act_49 rfl rfl ?_
          refine r_callV (pc := 50) (ci := 12) (as := [_, _]) (st := [_]) okX12_step0 lkX12_553 inX12_step0 seX12_step0 ⟨_, rfl, rfl⟩ dX12_act_50 rfl k14 (Nat.le_of_ble_eq_true rfl) (Nat.zero_le _) (Nat.zero_le _) (Call.mono h (fun r33 M34 h => ?_))
          obtain ⟨v35, rfl, h⟩ := h
          refine r_goto (pc := 53) (tgt := 76) dX12_act_53 (by decide) ?_
          obtain ⟨k36, h⟩ := h
          refine r_callV (pc := 76) (ci := 12) (as := [_]) (st := []) okX12_done lkX12_250 inX12_done seX12_done ⟨_, rfl, rfl⟩ dX12_act_76 rfl k36 (Nat.le_of_ble_eq_true rfl) (Nat.zero_le _) (Nat.zero_le _) (Call.mono h (fun r37 M38 h => ?_))
          obtain ⟨v39, rfl, h⟩ := h
          exact r_iret (pc := 79) dX12_act_79 rfl h
      · replace h := h.2 c16
        refine r_aload_n (pc := 33) (i := 0) dX12_act_33 rfl rfl ?_
        refine r_iload_n (pc := 34) (i := 1) dX12_act_34 rfl rfl ?_
        refine r_iload_n (pc := 35) (i := 3) dX12_act_35 rfl rfl ?_
        refine r_callV (pc := 36) (ci := 12) (as := [_, _]) (st := [_]) okX12_read0 lkX12_550 inX12_read0 seX12_read0 ⟨_, rfl, rfl⟩ dX12_act_36 rfl k14 (Nat.le_of_ble_eq_true rfl) (Nat.zero_le _) (Nat.zero_le _) (Call.mono h (fun r40 M41 h => ?_))
        obtain ⟨v42, rfl, h⟩ := h
        refine r_goto (pc := 39) (tgt := 76) dX12_act_39 (by decide) ?_
        obtain ⟨k43, h⟩ := h
        refine r_callV (pc := 76) (ci := 12) (as := [_]) (st := []) okX12_done lkX12_250 inX12_done seX12_done ⟨_, rfl, rfl⟩ dX12_act_76 rfl k43 (Nat.le_of_ble_eq_true rfl) (Nat.zero_le _) (Nat.zero_le _) (Call.mono h (fun r44 M45 h => ?_))
        obtain ⟨v46, rfl, h⟩ := h
        exact r_iret (pc := 79) dX12_act_79 rfl h
    · replace h := h.2 c13
      refine r_aload_n (pc := 17) (i := 0) dX12_act_17 rfl rfl ?_
      refine r_iconst (pc := 18) (v := 1) dX12_act_18 (by decide) ?_
      obtain ⟨k47, h⟩ := h
      refine r_callV (pc := 19) (ci := 12) (as := [_]) (st := []) okX12_refused lkX12_253 inX12_refused seX12_refused ⟨_, rfl, rfl⟩ dX12_act_19 rfl k47 (Nat.le_of_ble_eq_true rfl) (Nat.zero_le _) (Nat.zero_le _) (Call.mono h (fun r48 M49 h => ?_))
      obtain ⟨v50, rfl, h⟩ := h
      exact r_iret (pc := 22) dX12_act_22 rfl h
theorem eX12_trace {G : GG} {d rc rs : Nat} (o : Nat) (a1 : Int32)  {M : Mem} {Q : Option Value → Mem → Prop} (h : (x_h M o).1 = 28 ∧ (50 ≤ (x_i M o 24) → Call G d 0 0 mX12_in [.int a1, .int 0, .int (50 - 1)] M (fun r3 M4 => ∃ v5 : Int32, r3 = some (.int v5) ∧ (v5 = 0 → Q (some (.int (-1))) M4) ∧ (¬ v5 = 0 → (x_h M4 o).1 = 28 ∧ (∃ b8, x_r M4 o 23 = some b8 ∧ (x_h M4 b8).1 = 1 ∧ vp_in a1 (x_h M4 b8).2 ∧ Q (some (.int (x_i M4 b8 a1.toNatClampNeg))) M4)))) ∧ (¬ 50 ≤ (x_i M o 24) → Call G d 0 0 mX12_in [.int a1, .int 0, .int ((x_i M o 24) - 1)] M (fun r11 M12 => ∃ v13 : Int32, r11 = some (.int v13) ∧ (v13 = 0 → Q (some (.int (-1))) M12) ∧ (¬ v13 = 0 → (x_h M12 o).1 = 28 ∧ (∃ b16, x_r M12 o 23 = some b16 ∧ (x_h M12 b16).1 = 1 ∧ vp_in a1 (x_h M12 b16).2 ∧ Q (some (.int (x_i M12 b16 a1.toNatClampNeg))) M12))))) : Call G (d + 1) rc rs mX12_trace [.ref o, .int a1] M Q := by
  refine call_of (by decide) (Nat.le_of_ble_eq_true rfl) ?_
  show Wk G (d + 1) rc rs mX12_trace 0 [some (.ref o), some (.int a1)] [] M Q
  refine r_iload_n (pc := 0) (i := 1) dX12_trace_0 rfl rfl ?_
  refine r_iconst (pc := 1) (v := 0) dX12_trace_1 (by decide) ?_
  refine r_aload_n (pc := 2) (i := 0) dX12_trace_2 rfl rfl ?_
  obtain ⟨k1, h⟩ := h
  refine r_geti (pc := 3) flX12_478 dX12_trace_3 (Or.inl rfl) k1 ?_
  refine r_bipush (pc := 6) (v := 50) dX12_trace_6 (by decide) ?_
  refine r_icmp_ge (pc := 8) (tgt := 18) dX12_trace_8 (by decide) (fun c2 => ?_) (fun c2 => ?_)
  · replace h := h.1 c2
    refine r_bipush (pc := 18) (v := 50) dX12_trace_18 (by decide) ?_
    refine r_iconst (pc := 20) (v := 1) dX12_trace_20 (by decide) ?_
    refine r_isub (pc := 21) dX12_trace_21 ?_
    refine r_callS (pc := 22) (as := [_, _, _]) (st := []) okX12_in lkX12_218 stX12_in dX12_trace_22 rfl (Nat.le_of_ble_eq_true rfl) (Nat.zero_le _) (Nat.zero_le _) (Call.mono h (fun r3 M4 h => ?_))
    obtain ⟨v5, rfl, h⟩ := h
    refine r_if_eq (pc := 25) (tgt := 37) dX12_trace_25 (by decide) (fun c6 => ?_) (fun c6 => ?_)
    · replace h := h.1 c6
      refine r_iconst (pc := 37) (v := (-1)) dX12_trace_37 (by decide) ?_
      exact r_iret (pc := 38) dX12_trace_38 rfl h
    · replace h := h.2 c6
      refine r_aload_n (pc := 28) (i := 0) dX12_trace_28 rfl rfl ?_
      obtain ⟨k7, h⟩ := h
      obtain ⟨b8, hb8, h⟩ := h
      refine r_getr (pc := 29) flX12_69 dX12_trace_29 rfl k7 hb8 ?_
      refine r_iload_n (pc := 32) (i := 1) dX12_trace_32 rfl rfl ?_
      obtain ⟨k9, h⟩ := h
      obtain ⟨i10, h⟩ := h
      refine r_iald (pc := 33) dX12_trace_33 k9 i10 ?_
      refine r_goto (pc := 34) (tgt := 38) dX12_trace_34 (by decide) ?_
      exact r_iret (pc := 38) dX12_trace_38 rfl h
  · replace h := h.2 c2
    refine r_aload_n (pc := 11) (i := 0) dX12_trace_11 rfl rfl ?_
    refine r_geti (pc := 12) flX12_478 dX12_trace_12 (Or.inl rfl) k1 ?_
    refine r_goto (pc := 15) (tgt := 20) dX12_trace_15 (by decide) ?_
    refine r_iconst (pc := 20) (v := 1) dX12_trace_20 (by decide) ?_
    refine r_isub (pc := 21) dX12_trace_21 ?_
    refine r_callS (pc := 22) (as := [_, _, _]) (st := []) okX12_in lkX12_218 stX12_in dX12_trace_22 rfl (Nat.le_of_ble_eq_true rfl) (Nat.zero_le _) (Nat.zero_le _) (Call.mono h (fun r11 M12 h => ?_))
    obtain ⟨v13, rfl, h⟩ := h
    refine r_if_eq (pc := 25) (tgt := 37) dX12_trace_25 (by decide) (fun c14 => ?_) (fun c14 => ?_)
    · replace h := h.1 c14
      refine r_iconst (pc := 37) (v := (-1)) dX12_trace_37 (by decide) ?_
      exact r_iret (pc := 38) dX12_trace_38 rfl h
    · replace h := h.2 c14
      refine r_aload_n (pc := 28) (i := 0) dX12_trace_28 rfl rfl ?_
      obtain ⟨k15, h⟩ := h
      obtain ⟨b16, hb16, h⟩ := h
      refine r_getr (pc := 29) flX12_69 dX12_trace_29 rfl k15 hb16 ?_
      refine r_iload_n (pc := 32) (i := 1) dX12_trace_32 rfl rfl ?_
      obtain ⟨k17, h⟩ := h
      obtain ⟨i18, h⟩ := h
      refine r_iald (pc := 33) dX12_trace_33 k17 i18 ?_
      refine r_goto (pc := 34) (tgt := 38) dX12_trace_34 (by decide) ?_
      exact r_iret (pc := 38) dX12_trace_38 rfl h
theorem eX12_modulo {G : GG} {d rc rs : Nat} (a1 : Int32) (a2 : Int32)  {M : Mem} {Q : Option Value → Mem → Prop} (h : ¬ a2 = 0 ∧ ¬ a2 = 0 ∧ Q (some (.int (((a1 - a1 / a2 * a2) + a2) - ((a1 - a1 / a2 * a2) + a2) / a2 * a2))) M) : Call G (d + 1) rc rs mX12_modulo [.int a1, .int a2] M Q := by
  refine call_of (by decide) (Nat.le_of_ble_eq_true rfl) ?_
  show Wk G (d + 1) rc rs mX12_modulo 0 [some (.int a1), some (.int a2)] [] M Q
  refine r_iload_n (pc := 0) (i := 0) dX12_modulo_0 rfl rfl ?_
  refine r_iload_n (pc := 1) (i := 1) dX12_modulo_1 rfl rfl ?_
  obtain ⟨n1, h⟩ := h
  refine r_irem (pc := 2) dX12_modulo_2 n1 ?_
  refine r_iload_n (pc := 3) (i := 1) dX12_modulo_3 rfl rfl ?_
  refine r_iadd (pc := 4) dX12_modulo_4 ?_
  refine r_iload_n (pc := 5) (i := 1) dX12_modulo_5 rfl rfl ?_
  obtain ⟨n2, h⟩ := h
  refine r_irem (pc := 6) dX12_modulo_6 n2 ?_
  exact r_iret (pc := 7) dX12_modulo_7 rfl h
theorem eX12_rowTaken {G : GG} {d rc rs : Nat} (o : Nat) (a1 : Int32) (a2 : Int32)  {M : Mem} {Q : Option Value → Mem → Prop} (h : (x_h M o).1 = 28 ∧ Call G d 0 0 mX12_isRow [.ref o, .int a1] M (fun r2 M3 => ∃ v4 : Int32, r2 = some (.int v4) ∧ (¬ v4 = 0 → (a2 = 0 → ((1 : Int32) = 0 → (x_h M3 o).1 = 28 ∧ Call G d 0 0 mX12_refused [.ref o, .int 11] M3 (fun r9 M10 => ∃ v11 : Int32, r9 = some (.int v11) ∧ Q (some (.int v11)) M10)) ∧ (¬ (1 : Int32) = 0 → (x_h M3 o).1 = 28 ∧ (∃ b13, x_r M3 o 2 = some b13 ∧ (x_h M3 b13).1 = 1 ∧ vp_in a1 (x_h M3 b13).2 ∧ Call G d 0 0 mX12_done [.ref o, .int (x_i M3 b13 a1.toNatClampNeg)] M3 (fun r16 M17 => ∃ v18 : Int32, r16 = some (.int v18) ∧ Q (some (.int v18)) M17)))) ∧ (¬ a2 = 0 → (x_h M3 o).1 = 28 ∧ (∃ b20, x_r M3 o 2 = some b20 ∧ (x_h M3 b20).1 = 1 ∧ vp_in a1 (x_h M3 b20).2 ∧ (a2 = (x_i M3 b20 a1.toNatClampNeg) → ((1 : Int32) = 0 → Call G d 0 0 mX12_refused [.ref o, .int 11] M3 (fun r25 M26 => ∃ v27 : Int32, r25 = some (.int v27) ∧ Q (some (.int v27)) M26)) ∧ (¬ (1 : Int32) = 0 → Call G d 0 0 mX12_done [.ref o, .int (x_i M3 b20 a1.toNatClampNeg)] M3 (fun r28 M29 => ∃ v30 : Int32, r28 = some (.int v30) ∧ Q (some (.int v30)) M29))) ∧ (¬ a2 = (x_i M3 b20 a1.toNatClampNeg) → (¬ a2 = 1 → ((0 : Int32) = 0 → Call G d 0 0 mX12_refused [.ref o, .int 11] M3 (fun r33 M34 => ∃ v35 : Int32, r33 = some (.int v35) ∧ Q (some (.int v35)) M34)) ∧ (¬ (0 : Int32) = 0 → Call G d 0 0 mX12_done [.ref o, .int (x_i M3 b20 a1.toNatClampNeg)] M3 (fun r36 M37 => ∃ v38 : Int32, r36 = some (.int v38) ∧ Q (some (.int v38)) M37))) ∧ (a2 = 1 → (¬ (x_i M3 b20 a1.toNatClampNeg) = 2 → ((0 : Int32) = 0 → Call G d 0 0 mX12_refused [.ref o, .int 11] M3 (fun r41 M42 => ∃ v43 : Int32, r41 = some (.int v43) ∧ Q (some (.int v43)) M42)) ∧ (¬ (0 : Int32) = 0 → Call G d 0 0 mX12_done [.ref o, .int (x_i M3 b20 a1.toNatClampNeg)] M3 (fun r44 M45 => ∃ v46 : Int32, r44 = some (.int v46) ∧ Q (some (.int v46)) M45))) ∧ ((x_i M3 b20 a1.toNatClampNeg) = 2 → ((1 : Int32) = 0 → Call G d 0 0 mX12_refused [.ref o, .int 11] M3 (fun r48 M49 => ∃ v50 : Int32, r48 = some (.int v50) ∧ Q (some (.int v50)) M49)) ∧ (¬ (1 : Int32) = 0 → Call G d 0 0 mX12_done [.ref o, .int (x_i M3 b20 a1.toNatClampNeg)] M3 (fun r51 M52 => ∃ v53 : Int32, r51 = some (.int v53) ∧ Q (some (.int v53)) M52)))))))) ∧ (v4 = 0 → (x_h M3 o).1 = 28 ∧ Call G d 0 0 mX12_refused [.ref o, .int 10] M3 (fun r55 M56 => ∃ v57 : Int32, r55 = some (.int v57) ∧ Q (some (.int v57)) M56)))) : Call G (d + 1) rc rs mX12_rowTaken [.ref o, .int a1, .int a2] M Q := by
  refine call_of (by decide) (Nat.le_of_ble_eq_true rfl) ?_
  show Wk G (d + 1) rc rs mX12_rowTaken 0 [some (.ref o), some (.int a1), some (.int a2), none] [] M Q
  refine r_aload_n (pc := 0) (i := 0) dX12_rowTaken_0 rfl rfl ?_
  refine r_iload_n (pc := 1) (i := 1) dX12_rowTaken_1 rfl rfl ?_
  obtain ⟨k1, h⟩ := h
  refine r_callV (pc := 2) (ci := 12) (as := [_]) (st := []) okX12_isRow lkX12_275 inX12_isRow seX12_isRow ⟨_, rfl, rfl⟩ dX12_rowTaken_2 rfl k1 (Nat.le_of_ble_eq_true rfl) (Nat.zero_le _) (Nat.zero_le _) (Call.mono h (fun r2 M3 h => ?_))
  obtain ⟨v4, rfl, h⟩ := h
  refine r_if_ne (pc := 5) (tgt := 15) dX12_rowTaken_5 (by decide) (fun c5 => ?_) (fun c5 => ?_)
  · replace h := h.1 c5
    refine r_iload_n (pc := 15) (i := 2) dX12_rowTaken_15 rfl rfl ?_
    refine r_if_eq (pc := 16) (tgt := 44) dX12_rowTaken_16 (by decide) (fun c6 => ?_) (fun c6 => ?_)
    · replace h := h.1 c6
      refine r_iconst (pc := 44) (v := 1) dX12_rowTaken_44 (by decide) ?_
      refine r_goto (pc := 45) (tgt := 49) dX12_rowTaken_45 (by decide) ?_
      refine r_istore_n (pc := 49) (i := 3) dX12_rowTaken_49 rfl rfl (Nat.le_of_ble_eq_true rfl) ?_
      refine r_iload_n (pc := 50) (i := 3) dX12_rowTaken_50 rfl rfl ?_
      refine r_if_eq (pc := 51) (tgt := 67) dX12_rowTaken_51 (by decide) (fun c7 => ?_) (fun c7 => ?_)
      · replace h := h.1 c7
        refine r_aload_n (pc := 67) (i := 0) dX12_rowTaken_67 rfl rfl ?_
        refine r_bipush (pc := 68) (v := 11) dX12_rowTaken_68 (by decide) ?_
        obtain ⟨k8, h⟩ := h
        refine r_callV (pc := 70) (ci := 12) (as := [_]) (st := []) okX12_refused lkX12_253 inX12_refused seX12_refused ⟨_, rfl, rfl⟩ dX12_rowTaken_70 rfl k8 (Nat.le_of_ble_eq_true rfl) (Nat.zero_le _) (Nat.zero_le _) (Call.mono h (fun r9 M10 h => ?_))
        obtain ⟨v11, rfl, h⟩ := h
        exact r_iret (pc := 73) dX12_rowTaken_73 rfl h
      · replace h := h.2 c7
        refine r_aload_n (pc := 54) (i := 0) dX12_rowTaken_54 rfl rfl ?_
        refine r_aload_n (pc := 55) (i := 0) dX12_rowTaken_55 rfl rfl ?_
        obtain ⟨k12, h⟩ := h
        obtain ⟨b13, hb13, h⟩ := h
        refine r_getr (pc := 56) flX12_13 dX12_rowTaken_56 rfl k12 hb13 ?_
        refine r_iload_n (pc := 59) (i := 1) dX12_rowTaken_59 rfl rfl ?_
        obtain ⟨k14, h⟩ := h
        obtain ⟨i15, h⟩ := h
        refine r_iald (pc := 60) dX12_rowTaken_60 k14 i15 ?_
        refine r_callV (pc := 61) (ci := 12) (as := [_]) (st := []) okX12_done lkX12_250 inX12_done seX12_done ⟨_, rfl, rfl⟩ dX12_rowTaken_61 rfl k12 (Nat.le_of_ble_eq_true rfl) (Nat.zero_le _) (Nat.zero_le _) (Call.mono h (fun r16 M17 h => ?_))
        obtain ⟨v18, rfl, h⟩ := h
        refine r_goto (pc := 64) (tgt := 73) dX12_rowTaken_64 (by decide) ?_
        exact r_iret (pc := 73) dX12_rowTaken_73 rfl h
    · replace h := h.2 c6
      refine r_iload_n (pc := 19) (i := 2) dX12_rowTaken_19 rfl rfl ?_
      refine r_aload_n (pc := 20) (i := 0) dX12_rowTaken_20 rfl rfl ?_
      obtain ⟨k19, h⟩ := h
      obtain ⟨b20, hb20, h⟩ := h
      refine r_getr (pc := 21) flX12_13 dX12_rowTaken_21 rfl k19 hb20 ?_
      refine r_iload_n (pc := 24) (i := 1) dX12_rowTaken_24 rfl rfl ?_
      obtain ⟨k21, h⟩ := h
      obtain ⟨i22, h⟩ := h
      refine r_iald (pc := 25) dX12_rowTaken_25 k21 i22 ?_
      refine r_icmp_eq (pc := 26) (tgt := 44) dX12_rowTaken_26 (by decide) (fun c23 => ?_) (fun c23 => ?_)
      · replace h := h.1 c23
        refine r_iconst (pc := 44) (v := 1) dX12_rowTaken_44 (by decide) ?_
        refine r_goto (pc := 45) (tgt := 49) dX12_rowTaken_45 (by decide) ?_
        refine r_istore_n (pc := 49) (i := 3) dX12_rowTaken_49 rfl rfl (Nat.le_of_ble_eq_true rfl) ?_
        refine r_iload_n (pc := 50) (i := 3) dX12_rowTaken_50 rfl rfl ?_
        refine r_if_eq (pc := 51) (tgt := 67) dX12_rowTaken_51 (by decide) (fun c24 => ?_) (fun c24 => ?_)
        · replace h := h.1 c24
          refine r_aload_n (pc := 67) (i := 0) dX12_rowTaken_67 rfl rfl ?_
          refine r_bipush (pc := 68) (v := 11) dX12_rowTaken_68 (by decide) ?_
          refine r_callV (pc := 70) (ci := 12) (as := [_]) (st := []) okX12_refused lkX12_253 inX12_refused seX12_refused ⟨_, rfl, rfl⟩ dX12_rowTaken_70 rfl k19 (Nat.le_of_ble_eq_true rfl) (Nat.zero_le _) (Nat.zero_le _) (Call.mono h (fun r25 M26 h => ?_))
          obtain ⟨v27, rfl, h⟩ := h
          exact r_iret (pc := 73) dX12_rowTaken_73 rfl h
        · replace h := h.2 c24
          refine r_aload_n (pc := 54) (i := 0) dX12_rowTaken_54 rfl rfl ?_
          refine r_aload_n (pc := 55) (i := 0) dX12_rowTaken_55 rfl rfl ?_
          refine r_getr (pc := 56) flX12_13 dX12_rowTaken_56 rfl k19 hb20 ?_
          refine r_iload_n (pc := 59) (i := 1) dX12_rowTaken_59 rfl rfl ?_
          refine r_iald (pc := 60) dX12_rowTaken_60 k21 i22 ?_
          refine r_callV (pc := 61) (ci := 12) (as := [_]) (st := []) okX12_done lkX12_250 inX12_done seX12_done ⟨_, rfl, rfl⟩ dX12_rowTaken_61 rfl k19 (Nat.le_of_ble_eq_true rfl) (Nat.zero_le _) (Nat.zero_le _) (Call.mono h (fun r28 M29 h => ?_))
          obtain ⟨v30, rfl, h⟩ := h
          refine r_goto (pc := 64) (tgt := 73) dX12_rowTaken_64 (by decide) ?_
          exact r_iret (pc := 73) dX12_rowTaken_73 rfl h
      · replace h := h.2 c23
        refine r_iload_n (pc := 29) (i := 2) dX12_rowTaken_29 rfl rfl ?_
        refine r_iconst (pc := 30) (v := 1) dX12_rowTaken_30 (by decide) ?_
        refine r_icmp_ne (pc := 31) (tgt := 48) dX12_rowTaken_31 (by decide) (fun c31 => ?_) (fun c31 => ?_)
        · replace h := h.1 c31
          refine r_iconst (pc := 48) (v := 0) dX12_rowTaken_48 (by decide) ?_
          refine r_istore_n (pc := 49) (i := 3) dX12_rowTaken_49 rfl rfl (Nat.le_of_ble_eq_true rfl) ?_
          refine r_iload_n (pc := 50) (i := 3) dX12_rowTaken_50 rfl rfl ?_
          refine r_if_eq (pc := 51) (tgt := 67) dX12_rowTaken_51 (by decide) (fun c32 => ?_) (fun c32 => ?_)
          · replace h := h.1 c32
            refine r_aload_n (pc := 67) (i := 0) dX12_rowTaken_67 rfl rfl ?_
            refine r_bipush (pc := 68) (v := 11) dX12_rowTaken_68 (by decide) ?_
            refine r_callV (pc := 70) (ci := 12) (as := [_]) (st := []) okX12_refused lkX12_253 inX12_refused seX12_refused ⟨_, rfl, rfl⟩ dX12_rowTaken_70 rfl k19 (Nat.le_of_ble_eq_true rfl) (Nat.zero_le _) (Nat.zero_le _) (Call.mono h (fun r33 M34 h => ?_))
            obtain ⟨v35, rfl, h⟩ := h
            exact r_iret (pc := 73) dX12_rowTaken_73 rfl h
          · replace h := h.2 c32
            refine r_aload_n (pc := 54) (i := 0) dX12_rowTaken_54 rfl rfl ?_
            refine r_aload_n (pc := 55) (i := 0) dX12_rowTaken_55 rfl rfl ?_
            refine r_getr (pc := 56) flX12_13 dX12_rowTaken_56 rfl k19 hb20 ?_
            refine r_iload_n (pc := 59) (i := 1) dX12_rowTaken_59 rfl rfl ?_
            refine r_iald (pc := 60) dX12_rowTaken_60 k21 i22 ?_
            refine r_callV (pc := 61) (ci := 12) (as := [_]) (st := []) okX12_done lkX12_250 inX12_done seX12_done ⟨_, rfl, rfl⟩ dX12_rowTaken_61 rfl k19 (Nat.le_of_ble_eq_true rfl) (Nat.zero_le _) (Nat.zero_le _) (Call.mono h (fun r36 M37 h => ?_))
            obtain ⟨v38, rfl, h⟩ := h
            refine r_goto (pc := 64) (tgt := 73) dX12_rowTaken_64 (by decide) ?_
            exact r_iret (pc := 73) dX12_rowTaken_73 rfl h
        · replace h := h.2 c31
          refine r_aload_n (pc := 34) (i := 0) dX12_rowTaken_34 rfl rfl ?_
          refine r_getr (pc := 35) flX12_13 dX12_rowTaken_35 rfl k19 hb20 ?_
          refine r_iload_n (pc := 38) (i := 1) dX12_rowTaken_38 rfl rfl ?_
          refine r_iald (pc := 39) dX12_rowTaken_39 k21 i22 ?_
          refine r_iconst (pc := 40) (v := 2) dX12_rowTaken_40 (by decide) ?_
          refine r_icmp_ne (pc := 41) (tgt := 48) dX12_rowTaken_41 (by decide) (fun c39 => ?_) (fun c39 => ?_)
          · replace h := h.1 c39
            refine r_iconst (pc := 48) (v := 0) dX12_rowTaken_48 (by decide) ?_
            refine r_istore_n (pc := 49) (i := 3) dX12_rowTaken_49 rfl rfl (Nat.le_of_ble_eq_true rfl) ?_
            refine r_iload_n (pc := 50) (i := 3) dX12_rowTaken_50 rfl rfl ?_
            refine r_if_eq (pc := 51) (tgt := 67) dX12_rowTaken_51 (by decide) (fun c40 => ?_) (fun c40 => ?_)
            · replace h := h.1 c40
              refine r_aload_n (pc := 67) (i := 0) dX12_rowTaken_67 rfl rfl ?_
              refine r_bipush (pc := 68) (v := 11) dX12_rowTaken_68 (by decide) ?_
              refine r_callV (pc := 70) (ci := 12) (as := [_]) (st := []) okX12_refused lkX12_253 inX12_refused seX12_refused ⟨_, rfl, rfl⟩ dX12_rowTaken_70 rfl k19 (Nat.le_of_ble_eq_true rfl) (Nat.zero_le _) (Nat.zero_le _) (Call.mono h (fun r41 M42 h => ?_))
              obtain ⟨v43, rfl, h⟩ := h
              exact r_iret (pc := 73) dX12_rowTaken_73 rfl h
            · replace h := h.2 c40
              refine r_aload_n (pc := 54) (i := 0) dX12_rowTaken_54 rfl rfl ?_
              refine r_aload_n (pc := 55) (i := 0) dX12_rowTaken_55 rfl rfl ?_
              refine r_getr (pc := 56) flX12_13 dX12_rowTaken_56 rfl k19 hb20 ?_
              refine r_iload_n (pc := 59) (i := 1) dX12_rowTaken_59 rfl rfl ?_
              refine r_iald (pc := 60) dX12_rowTaken_60 k21 i22 ?_
              refine r_callV (pc := 61) (ci := 12) (as := [_]) (st := []) okX12_done lkX12_250 inX12_done seX12_done ⟨_, rfl, rfl⟩ dX12_rowTaken_61 rfl k19 (Nat.le_of_ble_eq_true rfl) (Nat.zero_le _) (Nat.zero_le _) (Call.mono h (fun r44 M45 h => ?_))
              obtain ⟨v46, rfl, h⟩ := h
              refine r_goto (pc := 64) (tgt := 73) dX12_rowTaken_64 (by decide) ?_
              exact r_iret (pc := 73) dX12_rowTaken_73 rfl h
          · replace h := h.2 c39
            refine r_iconst (pc := 44) (v := 1) dX12_rowTaken_44 (by decide) ?_
            refine r_goto (pc := 45) (tgt := 49) dX12_rowTaken_45 (by decide) ?_
            refine r_istore_n (pc := 49) (i := 3) dX12_rowTaken_49 rfl rfl (Nat.le_of_ble_eq_true rfl) ?_
            refine r_iload_n (pc := 50) (i := 3) dX12_rowTaken_50 rfl rfl ?_
            refine r_if_eq (pc := 51) (tgt := 67) dX12_rowTaken_51 (by decide) (fun c47 => ?_) (fun c47 => ?_)
            · replace h := h.1 c47
              refine r_aload_n (pc := 67) (i := 0) dX12_rowTaken_67 rfl rfl ?_
              refine r_bipush (pc := 68) (v := 11) dX12_rowTaken_68 (by decide) ?_
              refine r_callV (pc := 70) (ci := 12) (as := [_]) (st := []) okX12_refused lkX12_253 inX12_refused seX12_refused ⟨_, rfl, rfl⟩ dX12_rowTaken_70 rfl k19 (Nat.le_of_ble_eq_true rfl) (Nat.zero_le _) (Nat.zero_le _) (Call.mono h (fun r48 M49 h => ?_))
              obtain ⟨v50, rfl, h⟩ := h
              exact r_iret (pc := 73) dX12_rowTaken_73 rfl h
            · replace h := h.2 c47
              refine r_aload_n (pc := 54) (i := 0) dX12_rowTaken_54 rfl rfl ?_
              refine r_aload_n (pc := 55) (i := 0) dX12_rowTaken_55 rfl rfl ?_
              refine r_getr (pc := 56) flX12_13 dX12_rowTaken_56 rfl k19 hb20 ?_
              refine r_iload_n (pc := 59) (i := 1) dX12_rowTaken_59 rfl rfl ?_
              refine r_iald (pc := 60) dX12_rowTaken_60 k21 i22 ?_
              refine r_callV (pc := 61) (ci := 12) (as := [_]) (st := []) okX12_done lkX12_250 inX12_done seX12_done ⟨_, rfl, rfl⟩ dX12_rowTaken_61 rfl k19 (Nat.le_of_ble_eq_true rfl) (Nat.zero_le _) (Nat.zero_le _) (Call.mono h (fun r51 M52 h => ?_))
              obtain ⟨v53, rfl, h⟩ := h
              refine r_goto (pc := 64) (tgt := 73) dX12_rowTaken_64 (by decide) ?_
              exact r_iret (pc := 73) dX12_rowTaken_73 rfl h
  · replace h := h.2 c5
    refine r_aload_n (pc := 8) (i := 0) dX12_rowTaken_8 rfl rfl ?_
    refine r_bipush (pc := 9) (v := 10) dX12_rowTaken_9 (by decide) ?_
    obtain ⟨k54, h⟩ := h
    refine r_callV (pc := 11) (ci := 12) (as := [_]) (st := []) okX12_refused lkX12_253 inX12_refused seX12_refused ⟨_, rfl, rfl⟩ dX12_rowTaken_11 rfl k54 (Nat.le_of_ble_eq_true rfl) (Nat.zero_le _) (Nat.zero_le _) (Call.mono h (fun r55 M56 h => ?_))
    obtain ⟨v57, rfl, h⟩ := h
    exact r_iret (pc := 14) dX12_rowTaken_14 rfl h
abbrev LX12_copied_5 (G : GG) (d rc rs : Nat) (p0 : Nat) (x1 : Int32) (x2 : Int32) (x3 : Int32) (x4 : Int32) (M : Mem) (Q : Option Value → Mem → Prop) : Prop := Wk G (d + 1) rc rs mX12_copied 5 [some (.ref p0), some (.int x1), some (.int x2), some (.int x3), some (.int x4)] [] M Q
theorem eX12_copied {G : GG} {d rc rs : Nat} (o : Nat) (a1 : Int32) (a2 : Int32)  {M : Mem} {Q : Option Value → Mem → Prop} (h : LX12_copied_5 G d rc rs o a1 a2 0 2 M Q) : Call G (d + 1) rc rs mX12_copied [.ref o, .int a1, .int a2] M Q := by
  refine call_of (by decide) (Nat.le_of_ble_eq_true rfl) ?_
  show Wk G (d + 1) rc rs mX12_copied 0 [some (.ref o), some (.int a1), some (.int a2), none, none] [] M Q
  refine r_iconst (pc := 0) (v := 0) dX12_copied_0 (by decide) ?_
  refine r_istore_n (pc := 1) (i := 3) dX12_copied_1 rfl rfl (Nat.le_of_ble_eq_true rfl) ?_
  refine r_iconst (pc := 2) (v := 2) dX12_copied_2 (by decide) ?_
  refine r_istore (pc := 3) (i := 4) dX12_copied_3 rfl (Nat.le_of_ble_eq_true rfl) ?_
  exact h
theorem vX12_copied_5 {G : GG} {d rc rs : Nat} (p0 : Nat) (x1 : Int32) (x2 : Int32) (x3 : Int32) (x4 : Int32)  {M : Mem} {Q : Option Value → Mem → Prop} (h : ((2 + x2) ≤ x4 → Q (some (.int x3)) M) ∧ (¬ (2 + x2) ≤ x4 → (x_h M p0).1 = 28 ∧ (∃ b3, x_r M p0 21 = some b3 ∧ (x_h M b3).1 = 1 ∧ vp_in ((40 * x1) + x4) (x_h M b3).2 ∧ LX12_copied_5 G d rc rs p0 x1 x2 (x3 + (x_i M b3 ((40 * x1) + x4).toNatClampNeg)) (x4 + 1) M Q))) : LX12_copied_5 G d rc rs p0 x1 x2 x3 x4 M Q := by
  show Wk G (d + 1) rc rs mX12_copied 5 _ _ M Q
  refine r_iload (pc := 5) (i := 4) dX12_copied_5 rfl ?_
  refine r_iconst (pc := 7) (v := 2) dX12_copied_7 (by decide) ?_
  refine r_iload_n (pc := 8) (i := 2) dX12_copied_8 rfl rfl ?_
  refine r_iadd (pc := 9) dX12_copied_9 ?_
  refine r_icmp_ge (pc := 10) (tgt := 34) dX12_copied_10 (by decide) (fun c1 => ?_) (fun c1 => ?_)
  · replace h := h.1 c1
    refine r_iload_n (pc := 34) (i := 3) dX12_copied_34 rfl rfl ?_
    exact r_iret (pc := 35) dX12_copied_35 rfl h
  · replace h := h.2 c1
    refine r_iload_n (pc := 13) (i := 3) dX12_copied_13 rfl rfl ?_
    refine r_aload_n (pc := 14) (i := 0) dX12_copied_14 rfl rfl ?_
    obtain ⟨k2, h⟩ := h
    obtain ⟨b3, hb3, h⟩ := h
    refine r_getr (pc := 15) flX12_66 dX12_copied_15 rfl k2 hb3 ?_
    refine r_bipush (pc := 18) (v := 40) dX12_copied_18 (by decide) ?_
    refine r_iload_n (pc := 20) (i := 1) dX12_copied_20 rfl rfl ?_
    refine r_imul (pc := 21) dX12_copied_21 ?_
    refine r_iload (pc := 22) (i := 4) dX12_copied_22 rfl ?_
    refine r_iadd (pc := 24) dX12_copied_24 ?_
    obtain ⟨k4, h⟩ := h
    obtain ⟨i5, h⟩ := h
    refine r_iald (pc := 25) dX12_copied_25 k4 i5 ?_
    refine r_iadd (pc := 26) dX12_copied_26 ?_
    refine r_istore_n (pc := 27) (i := 3) dX12_copied_27 rfl rfl (Nat.le_of_ble_eq_true rfl) ?_
    refine r_iinc (pc := 28) (i := 4) (v := _ + 1) dX12_copied_28 rfl rfl rfl ?_
    refine r_goto (pc := 31) (tgt := 5) dX12_copied_31 (by decide) ?_
    exact h
theorem eX12_forge {G : GG} {d rc rs : Nat} (o : Nat) (a1 : Int32) (a2 : Int32) (a3 : Int32)  {M : Mem} {Q : Option Value → Mem → Prop} (h : Call G d 0 0 mX12_in [.int a1, .int 0, .int 6] M (fun r1 M2 => ∃ v3 : Int32, r1 = some (.int v3) ∧ (v3 = 0 → (x_h M2 o).1 = 28 ∧ Call G d 0 0 mX12_refused [.ref o, .int 1] M2 (fun r6 M7 => ∃ v8 : Int32, r6 = some (.int v8) ∧ Q (some (.int v8)) M7)) ∧ (¬ v3 = 0 → Call G d 0 0 mX12_in [.int a2, .int (-100), .int 100] M2 (fun r9 M10 => ∃ v11 : Int32, r9 = some (.int v11) ∧ (v11 = 0 → (x_h M10 o).1 = 28 ∧ Call G d 0 0 mX12_refused [.ref o, .int 1] M10 (fun r14 M15 => ∃ v16 : Int32, r14 = some (.int v16) ∧ Q (some (.int v16)) M15)) ∧ (¬ v11 = 0 → Call G d 0 0 mX12_in [.int a3, .int (-100), .int 100] M10 (fun r17 M18 => ∃ v19 : Int32, r17 = some (.int v19) ∧ (¬ v19 = 0 → Call G d 0 0 mX12_modulo [.int a3, .int 10] M18 (fun r21 M22 => ∃ v23 : Int32, r21 = some (.int v23) ∧ Call G d 0 0 mX12_modulo [.int a3, .int 6] M22 (fun r24 M25 => ∃ v26 : Int32, r24 = some (.int v26) ∧ (a1 = 0 → Call G d 0 0 mX12_modulo [.int a2, .int 5] M25 (fun r28 M29 => ∃ v30 : Int32, r28 = some (.int v30) ∧ (x_h M29 o).1 = 28 ∧ Call G d 0 0 mX12_rowTaken [.ref o, .int v23, .int v30] M29 (fun r32 M33 => ∃ v34 : Int32, r32 = some (.int v34) ∧ Q (some (.int v34)) M33))) ∧ (a1 = 1 → (0 ≤ a2 → (x_h M25 o).1 = 28 ∧ Call G d 0 0 mX12_done [.ref o, .int a2] M25 (fun r38 M39 => ∃ v40 : Int32, r38 = some (.int v40) ∧ Q (some (.int v40)) M39)) ∧ (¬ 0 ≤ a2 → (x_h M25 o).1 = 28 ∧ Call G d 0 0 mX12_refused [.ref o, .int 13] M25 (fun r42 M43 => ∃ v44 : Int32, r42 = some (.int v44) ∧ Q (some (.int v44)) M43))) ∧ (a1 = 2 → (x_h M25 o).1 = 28 ∧ (∃ b47, x_r M25 o 19 = some b47 ∧ (x_h M25 b47).1 = 1 ∧ vp_in v26 (x_h M25 b47).2 ∧ (¬ (x_i M25 b47 v26.toNatClampNeg) = (-1) → ((x_i M25 b47 v26.toNatClampNeg) = 1 → ∃ b52, x_r M25 o 20 = some b52 ∧ (x_h M25 b52).1 = 1 ∧ vp_in v26 (x_h M25 b52).2 ∧ Call G d 0 0 mX12_in [.int a2, .int 0, .int ((x_i M25 b52 v26.toNatClampNeg) - 1)] M25 (fun r55 M56 => ∃ v57 : Int32, r55 = some (.int v57) ∧ (v57 = 0 → (x_h M56 o).1 = 28 ∧ Call G d 0 0 mX12_refused [.ref o, .int 12] M56 (fun r60 M61 => ∃ v62 : Int32, r60 = some (.int v62) ∧ Q (some (.int v62)) M61)) ∧ (¬ v57 = 0 → (x_h M56 o).1 = 28 ∧ (∃ b64, x_r M56 o 21 = some b64 ∧ (x_h M56 b64).1 = 1 ∧ vp_in ((40 * v26) + a2) (x_h M56 b64).2 ∧ Call G d 0 0 mX12_done [.ref o, .int (x_i M56 b64 ((40 * v26) + a2).toNatClampNeg)] M56 (fun r67 M68 => ∃ v69 : Int32, r67 = some (.int v69) ∧ Q (some (.int v69)) M68))))) ∧ (¬ (x_i M25 b47 v26.toNatClampNeg) = 1 → Call G d 0 0 mX12_refused [.ref o, .int 11] M25 (fun r70 M71 => ∃ v72 : Int32, r70 = some (.int v72) ∧ Q (some (.int v72)) M71))) ∧ ((x_i M25 b47 v26.toNatClampNeg) = (-1) → Call G d 0 0 mX12_refused [.ref o, .int 10] M25 (fun r73 M74 => ∃ v75 : Int32, r73 = some (.int v75) ∧ Q (some (.int v75)) M74)))) ∧ (a1 = 3 → (x_h M25 o).1 = 28 ∧ (∃ b78, x_r M25 o 19 = some b78 ∧ (x_h M25 b78).1 = 1 ∧ vp_in v26 (x_h M25 b78).2 ∧ (¬ (x_i M25 b78 v26.toNatClampNeg) = (-1) → ((x_i M25 b78 v26.toNatClampNeg) = 0 → Call G d 0 0 mX12_in [.int a2, .int 0, .int 2] M25 (fun r83 M84 => ∃ v85 : Int32, r83 = some (.int v85) ∧ (v85 = 0 → (x_h M84 o).1 = 28 ∧ Call G d 0 0 mX12_refused [.ref o, .int 12] M84 (fun r88 M89 => ∃ v90 : Int32, r88 = some (.int v90) ∧ Q (some (.int v90)) M89)) ∧ (¬ v85 = 0 → (x_h M84 o).1 = 28 ∧ (∃ b92, x_r M84 o 20 = some b92 ∧ (x_h M84 b92).1 = 1 ∧ vp_in v26 (x_h M84 b92).2 ∧ ((x_i M84 b92 v26.toNatClampNeg) < (2 + a2) → Call G d 0 0 mX12_refused [.ref o, .int 12] M84 (fun r96 M97 => ∃ v98 : Int32, r96 = some (.int v98) ∧ Q (some (.int v98)) M97)) ∧ (¬ (x_i M84 b92 v26.toNatClampNeg) < (2 + a2) → Call G d 0 0 mX12_copied [.ref o, .int v26, .int a2] M84 (fun r99 M100 => ∃ v101 : Int32, r99 = some (.int v101) ∧ (x_h M100 o).1 = 28 ∧ Call G d 0 0 mX12_done [.ref o, .int v101] M100 (fun r103 M104 => ∃ v105 : Int32, r103 = some (.int v105) ∧ Q (some (.int v105)) M104))))))) ∧ (¬ (x_i M25 b78 v26.toNatClampNeg) = 0 → Call G d 0 0 mX12_refused [.ref o, .int 11] M25 (fun r106 M107 => ∃ v108 : Int32, r106 = some (.int v108) ∧ Q (some (.int v108)) M107))) ∧ ((x_i M25 b78 v26.toNatClampNeg) = (-1) → Call G d 0 0 mX12_refused [.ref o, .int 10] M25 (fun r109 M110 => ∃ v111 : Int32, r109 = some (.int v111) ∧ Q (some (.int v111)) M110)))) ∧ (a1 = 4 → (x_h M25 o).1 = 28 ∧ Call G d 0 0 mX12_isRow [.ref o, .int v23] M25 (fun r114 M115 => ∃ v116 : Int32, r114 = some (.int v116) ∧ (¬ v116 = 0 → (x_h M115 o).1 = 28 ∧ Call G d 0 0 mX12_isGrown [.ref o, .int v23] M115 (fun r119 M120 => ∃ v121 : Int32, r119 = some (.int v121) ∧ (v121 = 0 → (x_h M120 o).1 = 28 ∧ Call G d 0 0 mX12_refused [.ref o, .int 14] M120 (fun r124 M125 => ∃ v126 : Int32, r124 = some (.int v126) ∧ Q (some (.int v126)) M125)) ∧ (¬ v121 = 0 → (x_h M120 o).1 = 28 ∧ (∃ b128, x_r M120 o 2 = some b128 ∧ (x_h M120 b128).1 = 1 ∧ vp_in v23 (x_h M120 b128).2 ∧ Call G d 0 0 mX12_done [.ref o, .int (x_i M120 b128 v23.toNatClampNeg)] M120 (fun r131 M132 => ∃ v133 : Int32, r131 = some (.int v133) ∧ Q (some (.int v133)) M132))))) ∧ (v116 = 0 → (x_h M115 o).1 = 28 ∧ Call G d 0 0 mX12_done [.ref o, .int 0] M115 (fun r135 M136 => ∃ v137 : Int32, r135 = some (.int v137) ∧ Q (some (.int v137)) M136)))) ∧ (a1 = 5 → (¬ a2 = 0 → ¬ a2 = 0 ∧ (x_h M25 o).1 = 28 ∧ Call G d 0 0 mX12_done [.ref o, .int (1000 / a2)] M25 (fun r142 M143 => ∃ v144 : Int32, r142 = some (.int v144) ∧ Q (some (.int v144)) M143)) ∧ (a2 = 0 → (x_h M25 o).1 = 28 ∧ Call G d 0 0 mX12_refused [.ref o, .int 15] M25 (fun r146 M147 => ∃ v148 : Int32, r146 = some (.int v148) ∧ Q (some (.int v148)) M147))) ∧ (¬ a1 = 0 ∧ ¬ a1 = 1 ∧ ¬ a1 = 2 ∧ ¬ a1 = 3 ∧ ¬ a1 = 4 ∧ ¬ a1 = 5 → (¬ (a2 &&& 1) = 0 → (x_h M25 o).1 = 28 ∧ Call G d 0 0 mX12_done [.ref o, .int 1] M25 (fun r151 M152 => ∃ v153 : Int32, r151 = some (.int v153) ∧ Q (some (.int v153)) M152)) ∧ ((a2 &&& 1) = 0 → (x_h M25 o).1 = 28 ∧ Call G d 0 0 mX12_refused [.ref o, .int 10] M25 (fun r155 M156 => ∃ v157 : Int32, r155 = some (.int v157) ∧ Q (some (.int v157)) M156)))))) ∧ (v19 = 0 → (x_h M18 o).1 = 28 ∧ Call G d 0 0 mX12_refused [.ref o, .int 1] M18 (fun r159 M160 => ∃ v161 : Int32, r159 = some (.int v161) ∧ Q (some (.int v161)) M160)))))))) : Call G (d + 1) rc rs mX12_forge [.ref o, .int a1, .int a2, .int a3] M Q := by
  refine call_of (by decide) (Nat.le_of_ble_eq_true rfl) ?_
  show Wk G (d + 1) rc rs mX12_forge 0 [some (.ref o), some (.int a1), some (.int a2), some (.int a3), none, none] [] M Q
  refine r_iload_n (pc := 0) (i := 1) dX12_forge_0 rfl rfl ?_
  refine r_iconst (pc := 1) (v := 0) dX12_forge_1 (by decide) ?_
  refine r_bipush (pc := 2) (v := 6) dX12_forge_2 (by decide) ?_
  refine r_callS (pc := 4) (as := [_, _, _]) (st := []) okX12_in lkX12_218 stX12_in dX12_forge_4 rfl (Nat.le_of_ble_eq_true rfl) (Nat.zero_le _) (Nat.zero_le _) (Call.mono h (fun r1 M2 h => ?_))
  obtain ⟨v3, rfl, h⟩ := h
  refine r_if_eq (pc := 7) (tgt := 32) dX12_forge_7 (by decide) (fun c4 => ?_) (fun c4 => ?_)
  · replace h := h.1 c4
    refine r_aload_n (pc := 32) (i := 0) dX12_forge_32 rfl rfl ?_
    refine r_iconst (pc := 33) (v := 1) dX12_forge_33 (by decide) ?_
    obtain ⟨k5, h⟩ := h
    refine r_callV (pc := 34) (ci := 12) (as := [_]) (st := []) okX12_refused lkX12_253 inX12_refused seX12_refused ⟨_, rfl, rfl⟩ dX12_forge_34 rfl k5 (Nat.le_of_ble_eq_true rfl) (Nat.zero_le _) (Nat.zero_le _) (Call.mono h (fun r6 M7 h => ?_))
    obtain ⟨v8, rfl, h⟩ := h
    exact r_iret (pc := 37) dX12_forge_37 rfl h
  · replace h := h.2 c4
    refine r_iload_n (pc := 10) (i := 2) dX12_forge_10 rfl rfl ?_
    refine r_bipush (pc := 11) (v := (-100)) dX12_forge_11 (by decide) ?_
    refine r_bipush (pc := 13) (v := 100) dX12_forge_13 (by decide) ?_
    refine r_callS (pc := 15) (as := [_, _, _]) (st := []) okX12_in lkX12_218 stX12_in dX12_forge_15 rfl (Nat.le_of_ble_eq_true rfl) (Nat.zero_le _) (Nat.zero_le _) (Call.mono h (fun r9 M10 h => ?_))
    obtain ⟨v11, rfl, h⟩ := h
    refine r_if_eq (pc := 18) (tgt := 32) dX12_forge_18 (by decide) (fun c12 => ?_) (fun c12 => ?_)
    · replace h := h.1 c12
      refine r_aload_n (pc := 32) (i := 0) dX12_forge_32 rfl rfl ?_
      refine r_iconst (pc := 33) (v := 1) dX12_forge_33 (by decide) ?_
      obtain ⟨k13, h⟩ := h
      refine r_callV (pc := 34) (ci := 12) (as := [_]) (st := []) okX12_refused lkX12_253 inX12_refused seX12_refused ⟨_, rfl, rfl⟩ dX12_forge_34 rfl k13 (Nat.le_of_ble_eq_true rfl) (Nat.zero_le _) (Nat.zero_le _) (Call.mono h (fun r14 M15 h => ?_))
      obtain ⟨v16, rfl, h⟩ := h
      exact r_iret (pc := 37) dX12_forge_37 rfl h
    · replace h := h.2 c12
      refine r_iload_n (pc := 21) (i := 3) dX12_forge_21 rfl rfl ?_
      refine r_bipush (pc := 22) (v := (-100)) dX12_forge_22 (by decide) ?_
      refine r_bipush (pc := 24) (v := 100) dX12_forge_24 (by decide) ?_
      refine r_callS (pc := 26) (as := [_, _, _]) (st := []) okX12_in lkX12_218 stX12_in dX12_forge_26 rfl (Nat.le_of_ble_eq_true rfl) (Nat.zero_le _) (Nat.zero_le _) (Call.mono h (fun r17 M18 h => ?_))
      obtain ⟨v19, rfl, h⟩ := h
      refine r_if_ne (pc := 29) (tgt := 38) dX12_forge_29 (by decide) (fun c20 => ?_) (fun c20 => ?_)
      · replace h := h.1 c20
        refine r_iload_n (pc := 38) (i := 3) dX12_forge_38 rfl rfl ?_
        refine r_bipush (pc := 39) (v := 10) dX12_forge_39 (by decide) ?_
        refine r_callS (pc := 41) (as := [_, _]) (st := []) okX12_modulo lkX12_565 stX12_modulo dX12_forge_41 rfl (Nat.le_of_ble_eq_true rfl) (Nat.zero_le _) (Nat.zero_le _) (Call.mono h (fun r21 M22 h => ?_))
        obtain ⟨v23, rfl, h⟩ := h
        refine r_istore (pc := 44) (i := 4) dX12_forge_44 rfl (Nat.le_of_ble_eq_true rfl) ?_
        refine r_iload_n (pc := 46) (i := 3) dX12_forge_46 rfl rfl ?_
        refine r_bipush (pc := 47) (v := 6) dX12_forge_47 (by decide) ?_
        refine r_callS (pc := 49) (as := [_, _]) (st := []) okX12_modulo lkX12_565 stX12_modulo dX12_forge_49 rfl (Nat.le_of_ble_eq_true rfl) (Nat.zero_le _) (Nat.zero_le _) (Call.mono h (fun r24 M25 h => ?_))
        obtain ⟨v26, rfl, h⟩ := h
        refine r_istore (pc := 52) (i := 5) dX12_forge_52 rfl (Nat.le_of_ble_eq_true rfl) ?_
        refine r_iload_n (pc := 54) (i := 1) dX12_forge_54 rfl rfl ?_
        refine dite (a1 = 0) (fun c27 => ?_) (fun c27 => ?_)
        · replace h := h.1 c27
          refine r_tabIn (pc := 55) (tgt := 92) dX12_forge_55 (by rw [c27]; decide) (by rw [c27]; decide) (by rw [c27]; rfl) (by decide) ?_
          refine r_aload_n (pc := 92) (i := 0) dX12_forge_92 rfl rfl ?_
          refine r_iload (pc := 93) (i := 4) dX12_forge_93 rfl ?_
          refine r_iload_n (pc := 95) (i := 2) dX12_forge_95 rfl rfl ?_
          refine r_iconst (pc := 96) (v := 5) dX12_forge_96 (by decide) ?_
          refine r_callS (pc := 97) (as := [_, _]) (st := [_, _]) okX12_modulo lkX12_565 stX12_modulo dX12_forge_97 rfl (Nat.le_of_ble_eq_true rfl) (Nat.zero_le _) (Nat.zero_le _) (Call.mono h (fun r28 M29 h => ?_))
          obtain ⟨v30, rfl, h⟩ := h
          obtain ⟨k31, h⟩ := h
          refine r_callV (pc := 100) (ci := 12) (as := [_, _]) (st := []) okX12_rowTaken lkX12_568 inX12_rowTaken seX12_rowTaken ⟨_, rfl, rfl⟩ dX12_forge_100 rfl k31 (Nat.le_of_ble_eq_true rfl) (Nat.zero_le _) (Nat.zero_le _) (Call.mono h (fun r32 M33 h => ?_))
          obtain ⟨v34, rfl, h⟩ := h
          exact r_iret (pc := 103) dX12_forge_103 rfl h
        refine dite (a1 = 1) (fun c35 => ?_) (fun c35 => ?_)
        · replace h := h.2.1 c35
          refine r_tabIn (pc := 55) (tgt := 104) dX12_forge_55 (by rw [c35]; decide) (by rw [c35]; decide) (by rw [c35]; rfl) (by decide) ?_
          refine r_iload_n (pc := 104) (i := 2) dX12_forge_104 rfl rfl ?_
          refine r_if_ge (pc := 105) (tgt := 117) dX12_forge_105 (by decide) (fun c36 => ?_) (fun c36 => ?_)
          · replace h := h.1 c36
            refine r_aload_n (pc := 117) (i := 0) dX12_forge_117 rfl rfl ?_
            refine r_iload_n (pc := 118) (i := 2) dX12_forge_118 rfl rfl ?_
            obtain ⟨k37, h⟩ := h
            refine r_callV (pc := 119) (ci := 12) (as := [_]) (st := []) okX12_done lkX12_250 inX12_done seX12_done ⟨_, rfl, rfl⟩ dX12_forge_119 rfl k37 (Nat.le_of_ble_eq_true rfl) (Nat.zero_le _) (Nat.zero_le _) (Call.mono h (fun r38 M39 h => ?_))
            obtain ⟨v40, rfl, h⟩ := h
            exact r_iret (pc := 122) dX12_forge_122 rfl h
          · replace h := h.2 c36
            refine r_aload_n (pc := 108) (i := 0) dX12_forge_108 rfl rfl ?_
            refine r_bipush (pc := 109) (v := 13) dX12_forge_109 (by decide) ?_
            obtain ⟨k41, h⟩ := h
            refine r_callV (pc := 111) (ci := 12) (as := [_]) (st := []) okX12_refused lkX12_253 inX12_refused seX12_refused ⟨_, rfl, rfl⟩ dX12_forge_111 rfl k41 (Nat.le_of_ble_eq_true rfl) (Nat.zero_le _) (Nat.zero_le _) (Call.mono h (fun r42 M43 h => ?_))
            obtain ⟨v44, rfl, h⟩ := h
            refine r_goto (pc := 114) (tgt := 122) dX12_forge_114 (by decide) ?_
            exact r_iret (pc := 122) dX12_forge_122 rfl h
        refine dite (a1 = 2) (fun c45 => ?_) (fun c45 => ?_)
        · replace h := h.2.2.1 c45
          refine r_tabIn (pc := 55) (tgt := 123) dX12_forge_55 (by rw [c45]; decide) (by rw [c45]; decide) (by rw [c45]; rfl) (by decide) ?_
          refine r_aload_n (pc := 123) (i := 0) dX12_forge_123 rfl rfl ?_
          obtain ⟨k46, h⟩ := h
          obtain ⟨b47, hb47, h⟩ := h
          refine r_getr (pc := 124) flX12_60 dX12_forge_124 rfl k46 hb47 ?_
          refine r_iload (pc := 127) (i := 5) dX12_forge_127 rfl ?_
          obtain ⟨k48, h⟩ := h
          obtain ⟨i49, h⟩ := h
          refine r_iald (pc := 129) dX12_forge_129 k48 i49 ?_
          refine r_iconst (pc := 130) (v := (-1)) dX12_forge_130 (by decide) ?_
          refine r_icmp_ne (pc := 131) (tgt := 143) dX12_forge_131 (by decide) (fun c50 => ?_) (fun c50 => ?_)
          · replace h := h.1 c50
            refine r_aload_n (pc := 143) (i := 0) dX12_forge_143 rfl rfl ?_
            refine r_getr (pc := 144) flX12_60 dX12_forge_144 rfl k46 hb47 ?_
            refine r_iload (pc := 147) (i := 5) dX12_forge_147 rfl ?_
            refine r_iald (pc := 149) dX12_forge_149 k48 i49 ?_
            refine r_iconst (pc := 150) (v := 1) dX12_forge_150 (by decide) ?_
            refine r_icmp_eq (pc := 151) (tgt := 163) dX12_forge_151 (by decide) (fun c51 => ?_) (fun c51 => ?_)
            · replace h := h.1 c51
              refine r_iload_n (pc := 163) (i := 2) dX12_forge_163 rfl rfl ?_
              refine r_iconst (pc := 164) (v := 0) dX12_forge_164 (by decide) ?_
              refine r_aload_n (pc := 165) (i := 0) dX12_forge_165 rfl rfl ?_
              obtain ⟨b52, hb52, h⟩ := h
              refine r_getr (pc := 166) flX12_63 dX12_forge_166 rfl k46 hb52 ?_
              refine r_iload (pc := 169) (i := 5) dX12_forge_169 rfl ?_
              obtain ⟨k53, h⟩ := h
              obtain ⟨i54, h⟩ := h
              refine r_iald (pc := 171) dX12_forge_171 k53 i54 ?_
              refine r_iconst (pc := 172) (v := 1) dX12_forge_172 (by decide) ?_
              refine r_isub (pc := 173) dX12_forge_173 ?_
              refine r_callS (pc := 174) (as := [_, _, _]) (st := []) okX12_in lkX12_218 stX12_in dX12_forge_174 rfl (Nat.le_of_ble_eq_true rfl) (Nat.zero_le _) (Nat.zero_le _) (Call.mono h (fun r55 M56 h => ?_))
              obtain ⟨v57, rfl, h⟩ := h
              refine r_if_eq (pc := 177) (tgt := 199) dX12_forge_177 (by decide) (fun c58 => ?_) (fun c58 => ?_)
              · replace h := h.1 c58
                refine r_aload_n (pc := 199) (i := 0) dX12_forge_199 rfl rfl ?_
                refine r_bipush (pc := 200) (v := 12) dX12_forge_200 (by decide) ?_
                obtain ⟨k59, h⟩ := h
                refine r_callV (pc := 202) (ci := 12) (as := [_]) (st := []) okX12_refused lkX12_253 inX12_refused seX12_refused ⟨_, rfl, rfl⟩ dX12_forge_202 rfl k59 (Nat.le_of_ble_eq_true rfl) (Nat.zero_le _) (Nat.zero_le _) (Call.mono h (fun r60 M61 h => ?_))
                obtain ⟨v62, rfl, h⟩ := h
                exact r_iret (pc := 205) dX12_forge_205 rfl h
              · replace h := h.2 c58
                refine r_aload_n (pc := 180) (i := 0) dX12_forge_180 rfl rfl ?_
                refine r_aload_n (pc := 181) (i := 0) dX12_forge_181 rfl rfl ?_
                obtain ⟨k63, h⟩ := h
                obtain ⟨b64, hb64, h⟩ := h
                refine r_getr (pc := 182) flX12_66 dX12_forge_182 rfl k63 hb64 ?_
                refine r_bipush (pc := 185) (v := 40) dX12_forge_185 (by decide) ?_
                refine r_iload (pc := 187) (i := 5) dX12_forge_187 rfl ?_
                refine r_imul (pc := 189) dX12_forge_189 ?_
                refine r_iload_n (pc := 190) (i := 2) dX12_forge_190 rfl rfl ?_
                refine r_iadd (pc := 191) dX12_forge_191 ?_
                obtain ⟨k65, h⟩ := h
                obtain ⟨i66, h⟩ := h
                refine r_iald (pc := 192) dX12_forge_192 k65 i66 ?_
                refine r_callV (pc := 193) (ci := 12) (as := [_]) (st := []) okX12_done lkX12_250 inX12_done seX12_done ⟨_, rfl, rfl⟩ dX12_forge_193 rfl k63 (Nat.le_of_ble_eq_true rfl) (Nat.zero_le _) (Nat.zero_le _) (Call.mono h (fun r67 M68 h => ?_))
                obtain ⟨v69, rfl, h⟩ := h
                refine r_goto (pc := 196) (tgt := 205) dX12_forge_196 (by decide) ?_
                exact r_iret (pc := 205) dX12_forge_205 rfl h
            · replace h := h.2 c51
              refine r_aload_n (pc := 154) (i := 0) dX12_forge_154 rfl rfl ?_
              refine r_bipush (pc := 155) (v := 11) dX12_forge_155 (by decide) ?_
              refine r_callV (pc := 157) (ci := 12) (as := [_]) (st := []) okX12_refused lkX12_253 inX12_refused seX12_refused ⟨_, rfl, rfl⟩ dX12_forge_157 rfl k46 (Nat.le_of_ble_eq_true rfl) (Nat.zero_le _) (Nat.zero_le _) (Call.mono h (fun r70 M71 h => ?_))
              obtain ⟨v72, rfl, h⟩ := h
              refine r_goto (pc := 160) (tgt := 205) dX12_forge_160 (by decide) ?_
              exact r_iret (pc := 205) dX12_forge_205 rfl h
          · replace h := h.2 c50
            refine r_aload_n (pc := 134) (i := 0) dX12_forge_134 rfl rfl ?_
            refine r_bipush (pc := 135) (v := 10) dX12_forge_135 (by decide) ?_
            refine r_callV (pc := 137) (ci := 12) (as := [_]) (st := []) okX12_refused lkX12_253 inX12_refused seX12_refused ⟨_, rfl, rfl⟩ dX12_forge_137 rfl k46 (Nat.le_of_ble_eq_true rfl) (Nat.zero_le _) (Nat.zero_le _) (Call.mono h (fun r73 M74 h => ?_))
            obtain ⟨v75, rfl, h⟩ := h
            refine r_goto (pc := 140) (tgt := 205) dX12_forge_140 (by decide) ?_
            exact r_iret (pc := 205) dX12_forge_205 rfl h
        refine dite (a1 = 3) (fun c76 => ?_) (fun c76 => ?_)
        · replace h := h.2.2.2.1 c76
          refine r_tabIn (pc := 55) (tgt := 206) dX12_forge_55 (by rw [c76]; decide) (by rw [c76]; decide) (by rw [c76]; rfl) (by decide) ?_
          refine r_aload_n (pc := 206) (i := 0) dX12_forge_206 rfl rfl ?_
          obtain ⟨k77, h⟩ := h
          obtain ⟨b78, hb78, h⟩ := h
          refine r_getr (pc := 207) flX12_60 dX12_forge_207 rfl k77 hb78 ?_
          refine r_iload (pc := 210) (i := 5) dX12_forge_210 rfl ?_
          obtain ⟨k79, h⟩ := h
          obtain ⟨i80, h⟩ := h
          refine r_iald (pc := 212) dX12_forge_212 k79 i80 ?_
          refine r_iconst (pc := 213) (v := (-1)) dX12_forge_213 (by decide) ?_
          refine r_icmp_ne (pc := 214) (tgt := 226) dX12_forge_214 (by decide) (fun c81 => ?_) (fun c81 => ?_)
          · replace h := h.1 c81
            refine r_aload_n (pc := 226) (i := 0) dX12_forge_226 rfl rfl ?_
            refine r_getr (pc := 227) flX12_60 dX12_forge_227 rfl k77 hb78 ?_
            refine r_iload (pc := 230) (i := 5) dX12_forge_230 rfl ?_
            refine r_iald (pc := 232) dX12_forge_232 k79 i80 ?_
            refine r_if_eq (pc := 233) (tgt := 245) dX12_forge_233 (by decide) (fun c82 => ?_) (fun c82 => ?_)
            · replace h := h.1 c82
              refine r_iload_n (pc := 245) (i := 2) dX12_forge_245 rfl rfl ?_
              refine r_iconst (pc := 246) (v := 0) dX12_forge_246 (by decide) ?_
              refine r_iconst (pc := 247) (v := 2) dX12_forge_247 (by decide) ?_
              refine r_callS (pc := 248) (as := [_, _, _]) (st := []) okX12_in lkX12_218 stX12_in dX12_forge_248 rfl (Nat.le_of_ble_eq_true rfl) (Nat.zero_le _) (Nat.zero_le _) (Call.mono h (fun r83 M84 h => ?_))
              obtain ⟨v85, rfl, h⟩ := h
              refine r_if_eq (pc := 251) (tgt := 281) dX12_forge_251 (by decide) (fun c86 => ?_) (fun c86 => ?_)
              · replace h := h.1 c86
                refine r_aload_n (pc := 281) (i := 0) dX12_forge_281 rfl rfl ?_
                refine r_bipush (pc := 282) (v := 12) dX12_forge_282 (by decide) ?_
                obtain ⟨k87, h⟩ := h
                refine r_callV (pc := 284) (ci := 12) (as := [_]) (st := []) okX12_refused lkX12_253 inX12_refused seX12_refused ⟨_, rfl, rfl⟩ dX12_forge_284 rfl k87 (Nat.le_of_ble_eq_true rfl) (Nat.zero_le _) (Nat.zero_le _) (Call.mono h (fun r88 M89 h => ?_))
                obtain ⟨v90, rfl, h⟩ := h
                exact r_iret (pc := 287) dX12_forge_287 rfl h
              · replace h := h.2 c86
                refine r_iconst (pc := 254) (v := 2) dX12_forge_254 (by decide) ?_
                refine r_iload_n (pc := 255) (i := 2) dX12_forge_255 rfl rfl ?_
                refine r_iadd (pc := 256) dX12_forge_256 ?_
                refine r_aload_n (pc := 257) (i := 0) dX12_forge_257 rfl rfl ?_
                obtain ⟨k91, h⟩ := h
                obtain ⟨b92, hb92, h⟩ := h
                refine r_getr (pc := 258) flX12_63 dX12_forge_258 rfl k91 hb92 ?_
                refine r_iload (pc := 261) (i := 5) dX12_forge_261 rfl ?_
                obtain ⟨k93, h⟩ := h
                obtain ⟨i94, h⟩ := h
                refine r_iald (pc := 263) dX12_forge_263 k93 i94 ?_
                refine r_icmp_gt (pc := 264) (tgt := 281) dX12_forge_264 (by decide) (fun c95 => ?_) (fun c95 => ?_)
                · replace h := h.1 c95
                  refine r_aload_n (pc := 281) (i := 0) dX12_forge_281 rfl rfl ?_
                  refine r_bipush (pc := 282) (v := 12) dX12_forge_282 (by decide) ?_
                  refine r_callV (pc := 284) (ci := 12) (as := [_]) (st := []) okX12_refused lkX12_253 inX12_refused seX12_refused ⟨_, rfl, rfl⟩ dX12_forge_284 rfl k91 (Nat.le_of_ble_eq_true rfl) (Nat.zero_le _) (Nat.zero_le _) (Call.mono h (fun r96 M97 h => ?_))
                  obtain ⟨v98, rfl, h⟩ := h
                  exact r_iret (pc := 287) dX12_forge_287 rfl h
                · replace h := h.2 c95
                  refine r_aload_n (pc := 267) (i := 0) dX12_forge_267 rfl rfl ?_
                  refine r_aload_n (pc := 268) (i := 0) dX12_forge_268 rfl rfl ?_
                  refine r_iload (pc := 269) (i := 5) dX12_forge_269 rfl ?_
                  refine r_iload_n (pc := 271) (i := 2) dX12_forge_271 rfl rfl ?_
                  refine r_callV (pc := 272) (ci := 12) (as := [_, _]) (st := [_]) okX12_copied lkX12_571 inX12_copied seX12_copied ⟨_, rfl, rfl⟩ dX12_forge_272 rfl k91 (Nat.le_of_ble_eq_true rfl) (Nat.zero_le _) (Nat.zero_le _) (Call.mono h (fun r99 M100 h => ?_))
                  obtain ⟨v101, rfl, h⟩ := h
                  obtain ⟨k102, h⟩ := h
                  refine r_callV (pc := 275) (ci := 12) (as := [_]) (st := []) okX12_done lkX12_250 inX12_done seX12_done ⟨_, rfl, rfl⟩ dX12_forge_275 rfl k102 (Nat.le_of_ble_eq_true rfl) (Nat.zero_le _) (Nat.zero_le _) (Call.mono h (fun r103 M104 h => ?_))
                  obtain ⟨v105, rfl, h⟩ := h
                  refine r_goto (pc := 278) (tgt := 287) dX12_forge_278 (by decide) ?_
                  exact r_iret (pc := 287) dX12_forge_287 rfl h
            · replace h := h.2 c82
              refine r_aload_n (pc := 236) (i := 0) dX12_forge_236 rfl rfl ?_
              refine r_bipush (pc := 237) (v := 11) dX12_forge_237 (by decide) ?_
              refine r_callV (pc := 239) (ci := 12) (as := [_]) (st := []) okX12_refused lkX12_253 inX12_refused seX12_refused ⟨_, rfl, rfl⟩ dX12_forge_239 rfl k77 (Nat.le_of_ble_eq_true rfl) (Nat.zero_le _) (Nat.zero_le _) (Call.mono h (fun r106 M107 h => ?_))
              obtain ⟨v108, rfl, h⟩ := h
              refine r_goto (pc := 242) (tgt := 287) dX12_forge_242 (by decide) ?_
              exact r_iret (pc := 287) dX12_forge_287 rfl h
          · replace h := h.2 c81
            refine r_aload_n (pc := 217) (i := 0) dX12_forge_217 rfl rfl ?_
            refine r_bipush (pc := 218) (v := 10) dX12_forge_218 (by decide) ?_
            refine r_callV (pc := 220) (ci := 12) (as := [_]) (st := []) okX12_refused lkX12_253 inX12_refused seX12_refused ⟨_, rfl, rfl⟩ dX12_forge_220 rfl k77 (Nat.le_of_ble_eq_true rfl) (Nat.zero_le _) (Nat.zero_le _) (Call.mono h (fun r109 M110 h => ?_))
            obtain ⟨v111, rfl, h⟩ := h
            refine r_goto (pc := 223) (tgt := 287) dX12_forge_223 (by decide) ?_
            exact r_iret (pc := 287) dX12_forge_287 rfl h
        refine dite (a1 = 4) (fun c112 => ?_) (fun c112 => ?_)
        · replace h := h.2.2.2.2.1 c112
          refine r_tabIn (pc := 55) (tgt := 288) dX12_forge_55 (by rw [c112]; decide) (by rw [c112]; decide) (by rw [c112]; rfl) (by decide) ?_
          refine r_aload_n (pc := 288) (i := 0) dX12_forge_288 rfl rfl ?_
          refine r_iload (pc := 289) (i := 4) dX12_forge_289 rfl ?_
          obtain ⟨k113, h⟩ := h
          refine r_callV (pc := 291) (ci := 12) (as := [_]) (st := []) okX12_isRow lkX12_275 inX12_isRow seX12_isRow ⟨_, rfl, rfl⟩ dX12_forge_291 rfl k113 (Nat.le_of_ble_eq_true rfl) (Nat.zero_le _) (Nat.zero_le _) (Call.mono h (fun r114 M115 h => ?_))
          obtain ⟨v116, rfl, h⟩ := h
          refine r_if_ne (pc := 294) (tgt := 305) dX12_forge_294 (by decide) (fun c117 => ?_) (fun c117 => ?_)
          · replace h := h.1 c117
            refine r_aload_n (pc := 305) (i := 0) dX12_forge_305 rfl rfl ?_
            refine r_iload (pc := 306) (i := 4) dX12_forge_306 rfl ?_
            obtain ⟨k118, h⟩ := h
            refine r_callV (pc := 308) (ci := 12) (as := [_]) (st := []) okX12_isGrown lkX12_544 inX12_isGrown seX12_isGrown ⟨_, rfl, rfl⟩ dX12_forge_308 rfl k118 (Nat.le_of_ble_eq_true rfl) (Nat.zero_le _) (Nat.zero_le _) (Call.mono h (fun r119 M120 h => ?_))
            obtain ⟨v121, rfl, h⟩ := h
            refine r_if_eq (pc := 311) (tgt := 328) dX12_forge_311 (by decide) (fun c122 => ?_) (fun c122 => ?_)
            · replace h := h.1 c122
              refine r_aload_n (pc := 328) (i := 0) dX12_forge_328 rfl rfl ?_
              refine r_bipush (pc := 329) (v := 14) dX12_forge_329 (by decide) ?_
              obtain ⟨k123, h⟩ := h
              refine r_callV (pc := 331) (ci := 12) (as := [_]) (st := []) okX12_refused lkX12_253 inX12_refused seX12_refused ⟨_, rfl, rfl⟩ dX12_forge_331 rfl k123 (Nat.le_of_ble_eq_true rfl) (Nat.zero_le _) (Nat.zero_le _) (Call.mono h (fun r124 M125 h => ?_))
              obtain ⟨v126, rfl, h⟩ := h
              exact r_iret (pc := 334) dX12_forge_334 rfl h
            · replace h := h.2 c122
              refine r_aload_n (pc := 314) (i := 0) dX12_forge_314 rfl rfl ?_
              refine r_aload_n (pc := 315) (i := 0) dX12_forge_315 rfl rfl ?_
              obtain ⟨k127, h⟩ := h
              obtain ⟨b128, hb128, h⟩ := h
              refine r_getr (pc := 316) flX12_13 dX12_forge_316 rfl k127 hb128 ?_
              refine r_iload (pc := 319) (i := 4) dX12_forge_319 rfl ?_
              obtain ⟨k129, h⟩ := h
              obtain ⟨i130, h⟩ := h
              refine r_iald (pc := 321) dX12_forge_321 k129 i130 ?_
              refine r_callV (pc := 322) (ci := 12) (as := [_]) (st := []) okX12_done lkX12_250 inX12_done seX12_done ⟨_, rfl, rfl⟩ dX12_forge_322 rfl k127 (Nat.le_of_ble_eq_true rfl) (Nat.zero_le _) (Nat.zero_le _) (Call.mono h (fun r131 M132 h => ?_))
              obtain ⟨v133, rfl, h⟩ := h
              refine r_goto (pc := 325) (tgt := 334) dX12_forge_325 (by decide) ?_
              exact r_iret (pc := 334) dX12_forge_334 rfl h
          · replace h := h.2 c117
            refine r_aload_n (pc := 297) (i := 0) dX12_forge_297 rfl rfl ?_
            refine r_iconst (pc := 298) (v := 0) dX12_forge_298 (by decide) ?_
            obtain ⟨k134, h⟩ := h
            refine r_callV (pc := 299) (ci := 12) (as := [_]) (st := []) okX12_done lkX12_250 inX12_done seX12_done ⟨_, rfl, rfl⟩ dX12_forge_299 rfl k134 (Nat.le_of_ble_eq_true rfl) (Nat.zero_le _) (Nat.zero_le _) (Call.mono h (fun r135 M136 h => ?_))
            obtain ⟨v137, rfl, h⟩ := h
            refine r_goto (pc := 302) (tgt := 334) dX12_forge_302 (by decide) ?_
            exact r_iret (pc := 334) dX12_forge_334 rfl h
        refine dite (a1 = 5) (fun c138 => ?_) (fun c138 => ?_)
        · replace h := h.2.2.2.2.2.1 c138
          refine r_tabIn (pc := 55) (tgt := 335) dX12_forge_55 (by rw [c138]; decide) (by rw [c138]; decide) (by rw [c138]; rfl) (by decide) ?_
          refine r_iload_n (pc := 335) (i := 2) dX12_forge_335 rfl rfl ?_
          refine r_if_ne (pc := 336) (tgt := 348) dX12_forge_336 (by decide) (fun c139 => ?_) (fun c139 => ?_)
          · replace h := h.1 c139
            refine r_aload_n (pc := 348) (i := 0) dX12_forge_348 rfl rfl ?_
            refine r_sipush (pc := 349) (v := 1000) dX12_forge_349 (by decide) ?_
            refine r_iload_n (pc := 352) (i := 2) dX12_forge_352 rfl rfl ?_
            obtain ⟨n140, h⟩ := h
            refine r_idiv (pc := 353) dX12_forge_353 n140 ?_
            obtain ⟨k141, h⟩ := h
            refine r_callV (pc := 354) (ci := 12) (as := [_]) (st := []) okX12_done lkX12_250 inX12_done seX12_done ⟨_, rfl, rfl⟩ dX12_forge_354 rfl k141 (Nat.le_of_ble_eq_true rfl) (Nat.zero_le _) (Nat.zero_le _) (Call.mono h (fun r142 M143 h => ?_))
            obtain ⟨v144, rfl, h⟩ := h
            exact r_iret (pc := 357) dX12_forge_357 rfl h
          · replace h := h.2 c139
            refine r_aload_n (pc := 339) (i := 0) dX12_forge_339 rfl rfl ?_
            refine r_bipush (pc := 340) (v := 15) dX12_forge_340 (by decide) ?_
            obtain ⟨k145, h⟩ := h
            refine r_callV (pc := 342) (ci := 12) (as := [_]) (st := []) okX12_refused lkX12_253 inX12_refused seX12_refused ⟨_, rfl, rfl⟩ dX12_forge_342 rfl k145 (Nat.le_of_ble_eq_true rfl) (Nat.zero_le _) (Nat.zero_le _) (Call.mono h (fun r146 M147 h => ?_))
            obtain ⟨v148, rfl, h⟩ := h
            refine r_goto (pc := 345) (tgt := 357) dX12_forge_345 (by decide) ?_
            exact r_iret (pc := 357) dX12_forge_357 rfl h
        replace h := h.2.2.2.2.2.2 ⟨c27, c35, c45, c76, c112, c138⟩
        refine r_tabOut (pc := 55) (tgt := 358) dX12_forge_55 (by have tc27 : ¬ Int32.toInt _ = 0 := sw_ne c27; have tc35 : ¬ Int32.toInt _ = 1 := sw_ne c35; have tc45 : ¬ Int32.toInt _ = 2 := sw_ne c45; have tc76 : ¬ Int32.toInt _ = 3 := sw_ne c76; have tc112 : ¬ Int32.toInt _ = 4 := sw_ne c112; have tc138 : ¬ Int32.toInt _ = 5 := sw_ne c138; omega) (by decide) ?_
        refine r_iload_n (pc := 358) (i := 2) dX12_forge_358 rfl rfl ?_
        refine r_iconst (pc := 359) (v := 1) dX12_forge_359 (by decide) ?_
        refine r_iand (pc := 360) dX12_forge_360 ?_
        refine r_if_ne (pc := 361) (tgt := 373) dX12_forge_361 (by decide) (fun c149 => ?_) (fun c149 => ?_)
        · replace h := h.1 c149
          refine r_aload_n (pc := 373) (i := 0) dX12_forge_373 rfl rfl ?_
          refine r_iconst (pc := 374) (v := 1) dX12_forge_374 (by decide) ?_
          obtain ⟨k150, h⟩ := h
          refine r_callV (pc := 375) (ci := 12) (as := [_]) (st := []) okX12_done lkX12_250 inX12_done seX12_done ⟨_, rfl, rfl⟩ dX12_forge_375 rfl k150 (Nat.le_of_ble_eq_true rfl) (Nat.zero_le _) (Nat.zero_le _) (Call.mono h (fun r151 M152 h => ?_))
          obtain ⟨v153, rfl, h⟩ := h
          exact r_iret (pc := 378) dX12_forge_378 rfl h
        · replace h := h.2 c149
          refine r_aload_n (pc := 364) (i := 0) dX12_forge_364 rfl rfl ?_
          refine r_bipush (pc := 365) (v := 10) dX12_forge_365 (by decide) ?_
          obtain ⟨k154, h⟩ := h
          refine r_callV (pc := 367) (ci := 12) (as := [_]) (st := []) okX12_refused lkX12_253 inX12_refused seX12_refused ⟨_, rfl, rfl⟩ dX12_forge_367 rfl k154 (Nat.le_of_ble_eq_true rfl) (Nat.zero_le _) (Nat.zero_le _) (Call.mono h (fun r155 M156 h => ?_))
          obtain ⟨v157, rfl, h⟩ := h
          refine r_goto (pc := 370) (tgt := 378) dX12_forge_370 (by decide) ?_
          exact r_iret (pc := 378) dX12_forge_378 rfl h
      · replace h := h.2 c20
        refine r_aload_n (pc := 32) (i := 0) dX12_forge_32 rfl rfl ?_
        refine r_iconst (pc := 33) (v := 1) dX12_forge_33 (by decide) ?_
        obtain ⟨k158, h⟩ := h
        refine r_callV (pc := 34) (ci := 12) (as := [_]) (st := []) okX12_refused lkX12_253 inX12_refused seX12_refused ⟨_, rfl, rfl⟩ dX12_forge_34 rfl k158 (Nat.le_of_ble_eq_true rfl) (Nat.zero_le _) (Nat.zero_le _) (Call.mono h (fun r159 M160 h => ?_))
        obtain ⟨v161, rfl, h⟩ := h
        exact r_iret (pc := 37) dX12_forge_37 rfl h
theorem eX12_status {G : GG} {d rc rs : Nat} (o : Nat)  {M : Mem} {Q : Option Value → Mem → Prop} (h : (x_h M o).1 = 28 ∧ Q (some (.int (x_i M o 22))) M) : Call G (d + 1) rc rs mX12_status [.ref o] M Q := by
  refine call_of (by decide) (Nat.le_of_ble_eq_true rfl) ?_
  show Wk G (d + 1) rc rs mX12_status 0 [some (.ref o)] [] M Q
  refine r_aload_n (pc := 0) (i := 0) dX12_status_0 rfl rfl ?_
  obtain ⟨k1, h⟩ := h
  refine r_geti (pc := 1) flX12_212 dX12_status_1 (Or.inl rfl) k1 ?_
  exact r_iret (pc := 4) dX12_status_4 rfl h
