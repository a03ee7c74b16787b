/-! EndlessRows$Weaver: decode rows and verification conditions, by program -/
theorem dX10_init_0 : decode cX10_init 0 = .ok (.aload_n 0, 1) := by decide +kernel
theorem dX10_init_1 : decode cX10_init 1 = .ok (.invokespecial 3, 3) := by decide +kernel
theorem dX10_init_4 : decode cX10_init 4 = .ok (.aload_n 0, 1) := by decide +kernel
theorem dX10_init_5 : decode cX10_init 5 = .ok (.new 9, 3) := by decide +kernel
theorem dX10_init_8 : decode cX10_init 8 = .ok (.dup, 1) := by decide +kernel
theorem dX10_init_9 : decode cX10_init 9 = .ok (.invokespecial 11, 3) := by decide +kernel
theorem dX10_init_12 : decode cX10_init 12 = .ok (.putfield 12, 3) := by decide +kernel
theorem dX10_init_15 : decode cX10_init 15 = .ok (.aload_n 0, 1) := by decide +kernel
theorem dX10_init_16 : decode cX10_init 16 = .ok (.new 18, 3) := by decide +kernel
theorem dX10_init_19 : decode cX10_init 19 = .ok (.dup, 1) := by decide +kernel
theorem dX10_init_20 : decode cX10_init 20 = .ok (.bipush 40, 2) := by decide +kernel
theorem dX10_init_22 : decode cX10_init 22 = .ok (.bipush 9, 2) := by decide +kernel
theorem dX10_init_24 : decode cX10_init 24 = .ok (.invokespecial 20, 3) := by decide +kernel
theorem dX10_init_27 : decode cX10_init 27 = .ok (.putfield 23, 3) := by decide +kernel
theorem dX10_init_30 : decode cX10_init 30 = .ok (.aload_n 0, 1) := by decide +kernel
theorem dX10_init_31 : decode cX10_init 31 = .ok (.new 18, 3) := by decide +kernel
theorem dX10_init_34 : decode cX10_init 34 = .ok (.dup, 1) := by decide +kernel
theorem dX10_init_35 : decode cX10_init 35 = .ok (.bipush 40, 2) := by decide +kernel
theorem dX10_init_37 : decode cX10_init 37 = .ok (.bipush 9, 2) := by decide +kernel
theorem dX10_init_39 : decode cX10_init 39 = .ok (.invokespecial 20, 3) := by decide +kernel
theorem dX10_init_42 : decode cX10_init 42 = .ok (.putfield 27, 3) := by decide +kernel
theorem dX10_init_45 : decode cX10_init 45 = .ok (.aload_n 0, 1) := by decide +kernel
theorem dX10_init_46 : decode cX10_init 46 = .ok (.bipush 27, 2) := by decide +kernel
theorem dX10_init_48 : decode cX10_init 48 = .ok (.newarray .int, 2) := by decide +kernel
theorem dX10_init_50 : decode cX10_init 50 = .ok (.putfield 30, 3) := by decide +kernel
theorem dX10_init_53 : decode cX10_init 53 = .ok (.aload_n 0, 1) := by decide +kernel
theorem dX10_init_54 : decode cX10_init 54 = .ok (.bipush 27, 2) := by decide +kernel
theorem dX10_init_56 : decode cX10_init 56 = .ok (.newarray .int, 2) := by decide +kernel
theorem dX10_init_58 : decode cX10_init 58 = .ok (.putfield 34, 3) := by decide +kernel
theorem dX10_init_61 : decode cX10_init 61 = .ok (.aload_n 0, 1) := by decide +kernel
theorem dX10_init_62 : decode cX10_init 62 = .ok (.bipush 8, 2) := by decide +kernel
theorem dX10_init_64 : decode cX10_init 64 = .ok (.newarray .int, 2) := by decide +kernel
theorem dX10_init_66 : decode cX10_init 66 = .ok (.putfield 37, 3) := by decide +kernel
theorem dX10_init_69 : decode cX10_init 69 = .ok (.aload_n 0, 1) := by decide +kernel
theorem dX10_init_70 : decode cX10_init 70 = .ok (.iconst 4, 1) := by decide +kernel
theorem dX10_init_71 : decode cX10_init 71 = .ok (.newarray .int, 2) := by decide +kernel
theorem dX10_init_73 : decode cX10_init 73 = .ok (.putfield 40, 3) := by decide +kernel
theorem dX10_init_76 : decode cX10_init 76 = .ok (.aload_n 0, 1) := by decide +kernel
theorem dX10_init_77 : decode cX10_init 77 = .ok (.sipush 300, 3) := by decide +kernel
theorem dX10_init_80 : decode cX10_init 80 = .ok (.newarray .long, 2) := by decide +kernel
theorem dX10_init_82 : decode cX10_init 82 = .ok (.putfield 43, 3) := by decide +kernel
theorem dX10_init_85 : decode cX10_init 85 = .ok (.aload_n 0, 1) := by decide +kernel
theorem dX10_init_86 : decode cX10_init 86 = .ok (.sipush 1024, 3) := by decide +kernel
theorem dX10_init_89 : decode cX10_init 89 = .ok (.newarray .int, 2) := by decide +kernel
theorem dX10_init_91 : decode cX10_init 91 = .ok (.putfield 47, 3) := by decide +kernel
theorem dX10_init_94 : decode cX10_init 94 = .ok (.aload_n 0, 1) := by decide +kernel
theorem dX10_init_95 : decode cX10_init 95 = .ok (.bipush 27, 2) := by decide +kernel
theorem dX10_init_97 : decode cX10_init 97 = .ok (.newarray .long, 2) := by decide +kernel
theorem dX10_init_99 : decode cX10_init 99 = .ok (.putfield 50, 3) := by decide +kernel
theorem dX10_init_102 : decode cX10_init 102 = .ok (.aload_n 0, 1) := by decide +kernel
theorem dX10_init_103 : decode cX10_init 103 = .ok (.iconst 0, 1) := by decide +kernel
theorem dX10_init_104 : decode cX10_init 104 = .ok (.putfield 53, 3) := by decide +kernel
theorem dX10_init_107 : decode cX10_init 107 = .ok (.aload_n 0, 1) := by decide +kernel
theorem dX10_init_108 : decode cX10_init 108 = .ok (.iconst 2, 1) := by decide +kernel
theorem dX10_init_109 : decode cX10_init 109 = .ok (.putfield 57, 3) := by decide +kernel
theorem dX10_init_112 : decode cX10_init 112 = .ok (.return_, 1) := by decide +kernel
theorem dX10_weaveMachine_0 : decode cX10_weaveMachine 0 = .ok (.aload_n 0, 1) := by decide +kernel
theorem dX10_weaveMachine_1 : decode cX10_weaveMachine 1 = .ok (.getfield 12, 3) := by decide +kernel
theorem dX10_weaveMachine_4 : decode cX10_weaveMachine 4 = .ok (.iload_n 3, 1) := by decide +kernel
theorem dX10_weaveMachine_5 : decode cX10_weaveMachine 5 = .ok (.iconst 1, 1) := by decide +kernel
theorem dX10_weaveMachine_6 : decode cX10_weaveMachine 6 = .ok (.iadd, 1) := by decide +kernel
theorem dX10_weaveMachine_7 : decode cX10_weaveMachine 7 = .ok (.iload 4, 2) := by decide +kernel
theorem dX10_weaveMachine_9 : decode cX10_weaveMachine 9 = .ok (.invokevirtual 60, 3) := by decide +kernel
theorem dX10_weaveMachine_12 : decode cX10_weaveMachine 12 = .ok (.aload_n 0, 1) := by decide +kernel
theorem dX10_weaveMachine_13 : decode cX10_weaveMachine 13 = .ok (.getfield 12, 3) := by decide +kernel
theorem dX10_weaveMachine_16 : decode cX10_weaveMachine 16 = .ok (.iload_n 3, 1) := by decide +kernel
theorem dX10_weaveMachine_17 : decode cX10_weaveMachine 17 = .ok (.invokevirtual 63, 3) := by decide +kernel
theorem dX10_weaveMachine_20 : decode cX10_weaveMachine 20 = .ok (.pop, 1) := by decide +kernel
theorem dX10_weaveMachine_21 : decode cX10_weaveMachine 21 = .ok (.iconst 0, 1) := by decide +kernel
theorem dX10_weaveMachine_22 : decode cX10_weaveMachine 22 = .ok (.istore 6, 2) := by decide +kernel
theorem dX10_weaveMachine_24 : decode cX10_weaveMachine 24 = .ok (.iload 6, 2) := by decide +kernel
theorem dX10_weaveMachine_26 : decode cX10_weaveMachine 26 = .ok (.aload_n 0, 1) := by decide +kernel
theorem dX10_weaveMachine_27 : decode cX10_weaveMachine 27 = .ok (.getfield 12, 3) := by decide +kernel
theorem dX10_weaveMachine_30 : decode cX10_weaveMachine 30 = .ok (.getfield 67, 3) := by decide +kernel
theorem dX10_weaveMachine_33 : decode cX10_weaveMachine 33 = .ok (.if_icmp .ge 128, 3) := by decide +kernel
theorem dX10_weaveMachine_36 : decode cX10_weaveMachine 36 = .ok (.iload 6, 2) := by decide +kernel
theorem dX10_weaveMachine_38 : decode cX10_weaveMachine 38 = .ok (.iload_n 3, 1) := by decide +kernel
theorem dX10_weaveMachine_39 : decode cX10_weaveMachine 39 = .ok (.if_icmp .gt 122, 3) := by decide +kernel
theorem dX10_weaveMachine_42 : decode cX10_weaveMachine 42 = .ok (.aload_n 0, 1) := by decide +kernel
theorem dX10_weaveMachine_43 : decode cX10_weaveMachine 43 = .ok (.getfield 12, 3) := by decide +kernel
theorem dX10_weaveMachine_46 : decode cX10_weaveMachine 46 = .ok (.iload 6, 2) := by decide +kernel
theorem dX10_weaveMachine_48 : decode cX10_weaveMachine 48 = .ok (.invokevirtual 70, 3) := by decide +kernel
theorem dX10_weaveMachine_51 : decode cX10_weaveMachine 51 = .ok (.istore 7, 2) := by decide +kernel
theorem dX10_weaveMachine_53 : decode cX10_weaveMachine 53 = .ok (.iload 7, 2) := by decide +kernel
theorem dX10_weaveMachine_55 : decode cX10_weaveMachine 55 = .ok (.iload_n 3, 1) := by decide +kernel
theorem dX10_weaveMachine_56 : decode cX10_weaveMachine 56 = .ok (.if_icmp .ne 7, 3) := by decide +kernel
theorem dX10_weaveMachine_59 : decode cX10_weaveMachine 59 = .ok (.iconst 0, 1) := by decide +kernel
theorem dX10_weaveMachine_60 : decode cX10_weaveMachine 60 = .ok (.goto 5, 3) := by decide +kernel
theorem dX10_weaveMachine_63 : decode cX10_weaveMachine 63 = .ok (.iload 7, 2) := by decide +kernel
theorem dX10_weaveMachine_65 : decode cX10_weaveMachine 65 = .ok (.istore 8, 2) := by decide +kernel
theorem dX10_weaveMachine_67 : decode cX10_weaveMachine 67 = .ok (.aload_n 0, 1) := by decide +kernel
theorem dX10_weaveMachine_68 : decode cX10_weaveMachine 68 = .ok (.getfield 12, 3) := by decide +kernel
theorem dX10_weaveMachine_71 : decode cX10_weaveMachine 71 = .ok (.iload 6, 2) := by decide +kernel
theorem dX10_weaveMachine_73 : decode cX10_weaveMachine 73 = .ok (.aload_n 2, 1) := by decide +kernel
theorem dX10_weaveMachine_74 : decode cX10_weaveMachine 74 = .ok (.iload 8, 2) := by decide +kernel
theorem dX10_weaveMachine_76 : decode cX10_weaveMachine 76 = .ok (.invokestatic 73, 3) := by decide +kernel
theorem dX10_weaveMachine_79 : decode cX10_weaveMachine 79 = .ok (.invokevirtual 77, 3) := by decide +kernel
theorem dX10_weaveMachine_82 : decode cX10_weaveMachine 82 = .ok (.iconst 0, 1) := by decide +kernel
theorem dX10_weaveMachine_83 : decode cX10_weaveMachine 83 = .ok (.istore 9, 2) := by decide +kernel
theorem dX10_weaveMachine_85 : decode cX10_weaveMachine 85 = .ok (.iload 9, 2) := by decide +kernel
theorem dX10_weaveMachine_87 : decode cX10_weaveMachine 87 = .ok (.iload 4, 2) := by decide +kernel
theorem dX10_weaveMachine_89 : decode cX10_weaveMachine 89 = .ok (.if_icmp .ge 66, 3) := by decide +kernel
theorem dX10_weaveMachine_92 : decode cX10_weaveMachine 92 = .ok (.iload 7, 2) := by decide +kernel
theorem dX10_weaveMachine_94 : decode cX10_weaveMachine 94 = .ok (.iload_n 3, 1) := by decide +kernel
theorem dX10_weaveMachine_95 : decode cX10_weaveMachine 95 = .ok (.if_icmp .ne 12, 3) := by decide +kernel
theorem dX10_weaveMachine_98 : decode cX10_weaveMachine 98 = .ok (.iload 9, 2) := by decide +kernel
theorem dX10_weaveMachine_100 : decode cX10_weaveMachine 100 = .ok (.ifCond .ne 7, 3) := by decide +kernel
theorem dX10_weaveMachine_103 : decode cX10_weaveMachine 103 = .ok (.iconst 1, 1) := by decide +kernel
theorem dX10_weaveMachine_104 : decode cX10_weaveMachine 104 = .ok (.goto 4, 3) := by decide +kernel
theorem dX10_weaveMachine_107 : decode cX10_weaveMachine 107 = .ok (.iconst 0, 1) := by decide +kernel
theorem dX10_weaveMachine_108 : decode cX10_weaveMachine 108 = .ok (.istore 10, 2) := by decide +kernel
theorem dX10_weaveMachine_110 : decode cX10_weaveMachine 110 = .ok (.aload_n 0, 1) := by decide +kernel
theorem dX10_weaveMachine_111 : decode cX10_weaveMachine 111 = .ok (.getfield 12, 3) := by decide +kernel
theorem dX10_weaveMachine_114 : decode cX10_weaveMachine 114 = .ok (.iload 6, 2) := by decide +kernel
theorem dX10_weaveMachine_116 : decode cX10_weaveMachine 116 = .ok (.iload 9, 2) := by decide +kernel
theorem dX10_weaveMachine_118 : decode cX10_weaveMachine 118 = .ok (.aload_n 0, 1) := by decide +kernel
theorem dX10_weaveMachine_119 : decode cX10_weaveMachine 119 = .ok (.getfield 12, 3) := by decide +kernel
theorem dX10_weaveMachine_122 : decode cX10_weaveMachine 122 = .ok (.iload 10, 2) := by decide +kernel
theorem dX10_weaveMachine_124 : decode cX10_weaveMachine 124 = .ok (.ifCond .eq 7, 3) := by decide +kernel
theorem dX10_weaveMachine_127 : decode cX10_weaveMachine 127 = .ok (.iload_n 3, 1) := by decide +kernel
theorem dX10_weaveMachine_128 : decode cX10_weaveMachine 128 = .ok (.goto 15, 3) := by decide +kernel
theorem dX10_weaveMachine_131 : decode cX10_weaveMachine 131 = .ok (.aload_n 1, 1) := by decide +kernel
theorem dX10_weaveMachine_132 : decode cX10_weaveMachine 132 = .ok (.iload 8, 2) := by decide +kernel
theorem dX10_weaveMachine_134 : decode cX10_weaveMachine 134 = .ok (.iload 4, 2) := by decide +kernel
theorem dX10_weaveMachine_136 : decode cX10_weaveMachine 136 = .ok (.imul, 1) := by decide +kernel
theorem dX10_weaveMachine_137 : decode cX10_weaveMachine 137 = .ok (.iload 9, 2) := by decide +kernel
theorem dX10_weaveMachine_139 : decode cX10_weaveMachine 139 = .ok (.iadd, 1) := by decide +kernel
theorem dX10_weaveMachine_140 : decode cX10_weaveMachine 140 = .ok (.invokestatic 73, 3) := by decide +kernel
theorem dX10_weaveMachine_143 : decode cX10_weaveMachine 143 = .ok (.invokevirtual 63, 3) := by decide +kernel
theorem dX10_weaveMachine_146 : decode cX10_weaveMachine 146 = .ok (.invokevirtual 80, 3) := by decide +kernel
theorem dX10_weaveMachine_149 : decode cX10_weaveMachine 149 = .ok (.iinc 9 1, 3) := by decide +kernel
theorem dX10_weaveMachine_152 : decode cX10_weaveMachine 152 = .ok (.goto (-67), 3) := by decide +kernel
theorem dX10_weaveMachine_155 : decode cX10_weaveMachine 155 = .ok (.iinc 6 1, 3) := by decide +kernel
theorem dX10_weaveMachine_158 : decode cX10_weaveMachine 158 = .ok (.goto (-134), 3) := by decide +kernel
theorem dX10_weaveMachine_161 : decode cX10_weaveMachine 161 = .ok (.aload_n 0, 1) := by decide +kernel
theorem dX10_weaveMachine_162 : decode cX10_weaveMachine 162 = .ok (.getfield 12, 3) := by decide +kernel
theorem dX10_weaveMachine_165 : decode cX10_weaveMachine 165 = .ok (.aload 5, 2) := by decide +kernel
theorem dX10_weaveMachine_167 : decode cX10_weaveMachine 167 = .ok (.bipush 60, 2) := by decide +kernel
theorem dX10_weaveMachine_169 : decode cX10_weaveMachine 169 = .ok (.invokevirtual 84, 3) := by decide +kernel
theorem dX10_weaveMachine_172 : decode cX10_weaveMachine 172 = .ok (.pop, 1) := by decide +kernel
theorem dX10_weaveMachine_173 : decode cX10_weaveMachine 173 = .ok (.return_, 1) := by decide +kernel
theorem dX10_weaveGrown_0 : decode cX10_weaveGrown 0 = .ok (.aload_n 0, 1) := by decide +kernel
theorem dX10_weaveGrown_1 : decode cX10_weaveGrown 1 = .ok (.getfield 12, 3) := by decide +kernel
theorem dX10_weaveGrown_4 : decode cX10_weaveGrown 4 = .ok (.iload_n 2, 1) := by decide +kernel
theorem dX10_weaveGrown_5 : decode cX10_weaveGrown 5 = .ok (.iload_n 3, 1) := by decide +kernel
theorem dX10_weaveGrown_6 : decode cX10_weaveGrown 6 = .ok (.invokevirtual 60, 3) := by decide +kernel
theorem dX10_weaveGrown_9 : decode cX10_weaveGrown 9 = .ok (.aload_n 0, 1) := by decide +kernel
theorem dX10_weaveGrown_10 : decode cX10_weaveGrown 10 = .ok (.getfield 12, 3) := by decide +kernel
theorem dX10_weaveGrown_13 : decode cX10_weaveGrown 13 = .ok (.iconst 0, 1) := by decide +kernel
theorem dX10_weaveGrown_14 : decode cX10_weaveGrown 14 = .ok (.invokevirtual 63, 3) := by decide +kernel
theorem dX10_weaveGrown_17 : decode cX10_weaveGrown 17 = .ok (.pop, 1) := by decide +kernel
theorem dX10_weaveGrown_18 : decode cX10_weaveGrown 18 = .ok (.iconst 0, 1) := by decide +kernel
theorem dX10_weaveGrown_19 : decode cX10_weaveGrown 19 = .ok (.istore 5, 2) := by decide +kernel
theorem dX10_weaveGrown_21 : decode cX10_weaveGrown 21 = .ok (.iload 5, 2) := by decide +kernel
theorem dX10_weaveGrown_23 : decode cX10_weaveGrown 23 = .ok (.aload_n 0, 1) := by decide +kernel
theorem dX10_weaveGrown_24 : decode cX10_weaveGrown 24 = .ok (.getfield 12, 3) := by decide +kernel
theorem dX10_weaveGrown_27 : decode cX10_weaveGrown 27 = .ok (.getfield 67, 3) := by decide +kernel
theorem dX10_weaveGrown_30 : decode cX10_weaveGrown 30 = .ok (.if_icmp .ge 81, 3) := by decide +kernel
theorem dX10_weaveGrown_33 : decode cX10_weaveGrown 33 = .ok (.iload 5, 2) := by decide +kernel
theorem dX10_weaveGrown_35 : decode cX10_weaveGrown 35 = .ok (.iload_n 2, 1) := by decide +kernel
theorem dX10_weaveGrown_36 : decode cX10_weaveGrown 36 = .ok (.if_icmp .ge 75, 3) := by decide +kernel
theorem dX10_weaveGrown_39 : decode cX10_weaveGrown 39 = .ok (.aload_n 0, 1) := by decide +kernel
theorem dX10_weaveGrown_40 : decode cX10_weaveGrown 40 = .ok (.getfield 12, 3) := by decide +kernel
theorem dX10_weaveGrown_43 : decode cX10_weaveGrown 43 = .ok (.iload 5, 2) := by decide +kernel
theorem dX10_weaveGrown_45 : decode cX10_weaveGrown 45 = .ok (.invokevirtual 70, 3) := by decide +kernel
theorem dX10_weaveGrown_48 : decode cX10_weaveGrown 48 = .ok (.istore 6, 2) := by decide +kernel
theorem dX10_weaveGrown_50 : decode cX10_weaveGrown 50 = .ok (.aload_n 0, 1) := by decide +kernel
theorem dX10_weaveGrown_51 : decode cX10_weaveGrown 51 = .ok (.getfield 12, 3) := by decide +kernel
theorem dX10_weaveGrown_54 : decode cX10_weaveGrown 54 = .ok (.iload 5, 2) := by decide +kernel
theorem dX10_weaveGrown_56 : decode cX10_weaveGrown 56 = .ok (.iload 6, 2) := by decide +kernel
theorem dX10_weaveGrown_58 : decode cX10_weaveGrown 58 = .ok (.invokevirtual 77, 3) := by decide +kernel
theorem dX10_weaveGrown_61 : decode cX10_weaveGrown 61 = .ok (.iconst 0, 1) := by decide +kernel
theorem dX10_weaveGrown_62 : decode cX10_weaveGrown 62 = .ok (.istore 7, 2) := by decide +kernel
theorem dX10_weaveGrown_64 : decode cX10_weaveGrown 64 = .ok (.iload 7, 2) := by decide +kernel
theorem dX10_weaveGrown_66 : decode cX10_weaveGrown 66 = .ok (.iload_n 3, 1) := by decide +kernel
theorem dX10_weaveGrown_67 : decode cX10_weaveGrown 67 = .ok (.if_icmp .ge 38, 3) := by decide +kernel
theorem dX10_weaveGrown_70 : decode cX10_weaveGrown 70 = .ok (.aload_n 0, 1) := by decide +kernel
theorem dX10_weaveGrown_71 : decode cX10_weaveGrown 71 = .ok (.getfield 12, 3) := by decide +kernel
theorem dX10_weaveGrown_74 : decode cX10_weaveGrown 74 = .ok (.iload 5, 2) := by decide +kernel
theorem dX10_weaveGrown_76 : decode cX10_weaveGrown 76 = .ok (.iload 7, 2) := by decide +kernel
theorem dX10_weaveGrown_78 : decode cX10_weaveGrown 78 = .ok (.aload_n 0, 1) := by decide +kernel
theorem dX10_weaveGrown_79 : decode cX10_weaveGrown 79 = .ok (.getfield 12, 3) := by decide +kernel
theorem dX10_weaveGrown_82 : decode cX10_weaveGrown 82 = .ok (.aload_n 1, 1) := by decide +kernel
theorem dX10_weaveGrown_83 : decode cX10_weaveGrown 83 = .ok (.iload 6, 2) := by decide +kernel
theorem dX10_weaveGrown_85 : decode cX10_weaveGrown 85 = .ok (.iload_n 3, 1) := by decide +kernel
theorem dX10_weaveGrown_86 : decode cX10_weaveGrown 86 = .ok (.imul, 1) := by decide +kernel
theorem dX10_weaveGrown_87 : decode cX10_weaveGrown 87 = .ok (.iload 7, 2) := by decide +kernel
theorem dX10_weaveGrown_89 : decode cX10_weaveGrown 89 = .ok (.iadd, 1) := by decide +kernel
theorem dX10_weaveGrown_90 : decode cX10_weaveGrown 90 = .ok (.invokestatic 73, 3) := by decide +kernel
theorem dX10_weaveGrown_93 : decode cX10_weaveGrown 93 = .ok (.invokevirtual 63, 3) := by decide +kernel
theorem dX10_weaveGrown_96 : decode cX10_weaveGrown 96 = .ok (.invokevirtual 80, 3) := by decide +kernel
theorem dX10_weaveGrown_99 : decode cX10_weaveGrown 99 = .ok (.iinc 7 1, 3) := by decide +kernel
theorem dX10_weaveGrown_102 : decode cX10_weaveGrown 102 = .ok (.goto (-38), 3) := by decide +kernel
theorem dX10_weaveGrown_105 : decode cX10_weaveGrown 105 = .ok (.iinc 5 1, 3) := by decide +kernel
theorem dX10_weaveGrown_108 : decode cX10_weaveGrown 108 = .ok (.goto (-87), 3) := by decide +kernel
theorem dX10_weaveGrown_111 : decode cX10_weaveGrown 111 = .ok (.aload_n 0, 1) := by decide +kernel
theorem dX10_weaveGrown_112 : decode cX10_weaveGrown 112 = .ok (.getfield 12, 3) := by decide +kernel
theorem dX10_weaveGrown_115 : decode cX10_weaveGrown 115 = .ok (.aload 4, 2) := by decide +kernel
theorem dX10_weaveGrown_117 : decode cX10_weaveGrown 117 = .ok (.bipush 60, 2) := by decide +kernel
theorem dX10_weaveGrown_119 : decode cX10_weaveGrown 119 = .ok (.invokevirtual 84, 3) := by decide +kernel
theorem dX10_weaveGrown_122 : decode cX10_weaveGrown 122 = .ok (.pop, 1) := by decide +kernel
theorem dX10_weaveGrown_123 : decode cX10_weaveGrown 123 = .ok (.return_, 1) := by decide +kernel
theorem dX10_weaveRing_0 : decode cX10_weaveRing 0 = .ok (.iload_n 2, 1) := by decide +kernel
theorem dX10_weaveRing_1 : decode cX10_weaveRing 1 = .ok (.iload_n 3, 1) := by decide +kernel
theorem dX10_weaveRing_2 : decode cX10_weaveRing 2 = .ok (.iadd, 1) := by decide +kernel
theorem dX10_weaveRing_3 : decode cX10_weaveRing 3 = .ok (.istore 6, 2) := by decide +kernel
theorem dX10_weaveRing_5 : decode cX10_weaveRing 5 = .ok (.aload_n 0, 1) := by decide +kernel
theorem dX10_weaveRing_6 : decode cX10_weaveRing 6 = .ok (.getfield 12, 3) := by decide +kernel
theorem dX10_weaveRing_9 : decode cX10_weaveRing 9 = .ok (.iload 6, 2) := by decide +kernel
theorem dX10_weaveRing_11 : decode cX10_weaveRing 11 = .ok (.iload 4, 2) := by decide +kernel
theorem dX10_weaveRing_13 : decode cX10_weaveRing 13 = .ok (.invokevirtual 60, 3) := by decide +kernel
theorem dX10_weaveRing_16 : decode cX10_weaveRing 16 = .ok (.aload_n 0, 1) := by decide +kernel
theorem dX10_weaveRing_17 : decode cX10_weaveRing 17 = .ok (.getfield 12, 3) := by decide +kernel
theorem dX10_weaveRing_20 : decode cX10_weaveRing 20 = .ok (.iconst 0, 1) := by decide +kernel
theorem dX10_weaveRing_21 : decode cX10_weaveRing 21 = .ok (.invokevirtual 63, 3) := by decide +kernel
theorem dX10_weaveRing_24 : decode cX10_weaveRing 24 = .ok (.pop, 1) := by decide +kernel
theorem dX10_weaveRing_25 : decode cX10_weaveRing 25 = .ok (.iconst 0, 1) := by decide +kernel
theorem dX10_weaveRing_26 : decode cX10_weaveRing 26 = .ok (.istore 7, 2) := by decide +kernel
theorem dX10_weaveRing_28 : decode cX10_weaveRing 28 = .ok (.iload 7, 2) := by decide +kernel
theorem dX10_weaveRing_30 : decode cX10_weaveRing 30 = .ok (.aload_n 0, 1) := by decide +kernel
theorem dX10_weaveRing_31 : decode cX10_weaveRing 31 = .ok (.getfield 12, 3) := by decide +kernel
theorem dX10_weaveRing_34 : decode cX10_weaveRing 34 = .ok (.getfield 67, 3) := by decide +kernel
theorem dX10_weaveRing_37 : decode cX10_weaveRing 37 = .ok (.if_icmp .ge 122, 3) := by decide +kernel
theorem dX10_weaveRing_40 : decode cX10_weaveRing 40 = .ok (.iload 7, 2) := by decide +kernel
theorem dX10_weaveRing_42 : decode cX10_weaveRing 42 = .ok (.iload 6, 2) := by decide +kernel
theorem dX10_weaveRing_44 : decode cX10_weaveRing 44 = .ok (.if_icmp .ge 115, 3) := by decide +kernel
theorem dX10_weaveRing_47 : decode cX10_weaveRing 47 = .ok (.aload_n 0, 1) := by decide +kernel
theorem dX10_weaveRing_48 : decode cX10_weaveRing 48 = .ok (.getfield 12, 3) := by decide +kernel
theorem dX10_weaveRing_51 : decode cX10_weaveRing 51 = .ok (.iload 7, 2) := by decide +kernel
theorem dX10_weaveRing_53 : decode cX10_weaveRing 53 = .ok (.invokevirtual 70, 3) := by decide +kernel
theorem dX10_weaveRing_56 : decode cX10_weaveRing 56 = .ok (.istore 8, 2) := by decide +kernel
theorem dX10_weaveRing_58 : decode cX10_weaveRing 58 = .ok (.aload_n 0, 1) := by decide +kernel
theorem dX10_weaveRing_59 : decode cX10_weaveRing 59 = .ok (.getfield 12, 3) := by decide +kernel
theorem dX10_weaveRing_62 : decode cX10_weaveRing 62 = .ok (.iload 7, 2) := by decide +kernel
theorem dX10_weaveRing_64 : decode cX10_weaveRing 64 = .ok (.aload_n 1, 1) := by decide +kernel
theorem dX10_weaveRing_65 : decode cX10_weaveRing 65 = .ok (.iload 8, 2) := by decide +kernel
theorem dX10_weaveRing_67 : decode cX10_weaveRing 67 = .ok (.invokestatic 73, 3) := by decide +kernel
theorem dX10_weaveRing_70 : decode cX10_weaveRing 70 = .ok (.invokevirtual 77, 3) := by decide +kernel
theorem dX10_weaveRing_73 : decode cX10_weaveRing 73 = .ok (.iconst 0, 1) := by decide +kernel
theorem dX10_weaveRing_74 : decode cX10_weaveRing 74 = .ok (.istore 9, 2) := by decide +kernel
theorem dX10_weaveRing_76 : decode cX10_weaveRing 76 = .ok (.iload 9, 2) := by decide +kernel
theorem dX10_weaveRing_78 : decode cX10_weaveRing 78 = .ok (.iload 4, 2) := by decide +kernel
theorem dX10_weaveRing_80 : decode cX10_weaveRing 80 = .ok (.if_icmp .ge 73, 3) := by decide +kernel
theorem dX10_weaveRing_83 : decode cX10_weaveRing 83 = .ok (.iload 8, 2) := by decide +kernel
theorem dX10_weaveRing_85 : decode cX10_weaveRing 85 = .ok (.iload 4, 2) := by decide +kernel
theorem dX10_weaveRing_87 : decode cX10_weaveRing 87 = .ok (.imul, 1) := by decide +kernel
theorem dX10_weaveRing_88 : decode cX10_weaveRing 88 = .ok (.iload 9, 2) := by decide +kernel
theorem dX10_weaveRing_90 : decode cX10_weaveRing 90 = .ok (.iadd, 1) := by decide +kernel
theorem dX10_weaveRing_91 : decode cX10_weaveRing 91 = .ok (.istore 10, 2) := by decide +kernel
theorem dX10_weaveRing_93 : decode cX10_weaveRing 93 = .ok (.iload 10, 2) := by decide +kernel
theorem dX10_weaveRing_95 : decode cX10_weaveRing 95 = .ok (.iload 6, 2) := by decide +kernel
theorem dX10_weaveRing_97 : decode cX10_weaveRing 97 = .ok (.if_icmp .lt 11, 3) := by decide +kernel
theorem dX10_weaveRing_100 : decode cX10_weaveRing 100 = .ok (.iload_n 3, 1) := by decide +kernel
theorem dX10_weaveRing_101 : decode cX10_weaveRing 101 = .ok (.ifCond .le 7, 3) := by decide +kernel
theorem dX10_weaveRing_104 : decode cX10_weaveRing 104 = .ok (.iconst 1, 1) := by decide +kernel
theorem dX10_weaveRing_105 : decode cX10_weaveRing 105 = .ok (.goto 4, 3) := by decide +kernel
theorem dX10_weaveRing_108 : decode cX10_weaveRing 108 = .ok (.iconst 0, 1) := by decide +kernel
theorem dX10_weaveRing_109 : decode cX10_weaveRing 109 = .ok (.istore 11, 2) := by decide +kernel
theorem dX10_weaveRing_111 : decode cX10_weaveRing 111 = .ok (.aload_n 0, 1) := by decide +kernel
theorem dX10_weaveRing_112 : decode cX10_weaveRing 112 = .ok (.getfield 12, 3) := by decide +kernel
theorem dX10_weaveRing_115 : decode cX10_weaveRing 115 = .ok (.iload 7, 2) := by decide +kernel
theorem dX10_weaveRing_117 : decode cX10_weaveRing 117 = .ok (.iload 9, 2) := by decide +kernel
theorem dX10_weaveRing_119 : decode cX10_weaveRing 119 = .ok (.aload_n 0, 1) := by decide +kernel
theorem dX10_weaveRing_120 : decode cX10_weaveRing 120 = .ok (.getfield 12, 3) := by decide +kernel
theorem dX10_weaveRing_123 : decode cX10_weaveRing 123 = .ok (.iload 11, 2) := by decide +kernel
theorem dX10_weaveRing_125 : decode cX10_weaveRing 125 = .ok (.ifCond .eq 14, 3) := by decide +kernel
theorem dX10_weaveRing_128 : decode cX10_weaveRing 128 = .ok (.iload_n 2, 1) := by decide +kernel
theorem dX10_weaveRing_129 : decode cX10_weaveRing 129 = .ok (.iload 10, 2) := by decide +kernel
theorem dX10_weaveRing_131 : decode cX10_weaveRing 131 = .ok (.iload_n 2, 1) := by decide +kernel
theorem dX10_weaveRing_132 : decode cX10_weaveRing 132 = .ok (.isub, 1) := by decide +kernel
theorem dX10_weaveRing_133 : decode cX10_weaveRing 133 = .ok (.iload_n 3, 1) := by decide +kernel
theorem dX10_weaveRing_134 : decode cX10_weaveRing 134 = .ok (.irem, 1) := by decide +kernel
theorem dX10_weaveRing_135 : decode cX10_weaveRing 135 = .ok (.iadd, 1) := by decide +kernel
theorem dX10_weaveRing_136 : decode cX10_weaveRing 136 = .ok (.goto 5, 3) := by decide +kernel
theorem dX10_weaveRing_139 : decode cX10_weaveRing 139 = .ok (.iload 10, 2) := by decide +kernel
theorem dX10_weaveRing_141 : decode cX10_weaveRing 141 = .ok (.invokevirtual 63, 3) := by decide +kernel
theorem dX10_weaveRing_144 : decode cX10_weaveRing 144 = .ok (.invokevirtual 80, 3) := by decide +kernel
theorem dX10_weaveRing_147 : decode cX10_weaveRing 147 = .ok (.iinc 9 1, 3) := by decide +kernel
theorem dX10_weaveRing_150 : decode cX10_weaveRing 150 = .ok (.goto (-74), 3) := by decide +kernel
theorem dX10_weaveRing_153 : decode cX10_weaveRing 153 = .ok (.iinc 7 1, 3) := by decide +kernel
theorem dX10_weaveRing_156 : decode cX10_weaveRing 156 = .ok (.goto (-128), 3) := by decide +kernel
theorem dX10_weaveRing_159 : decode cX10_weaveRing 159 = .ok (.aload_n 0, 1) := by decide +kernel
theorem dX10_weaveRing_160 : decode cX10_weaveRing 160 = .ok (.getfield 12, 3) := by decide +kernel
theorem dX10_weaveRing_163 : decode cX10_weaveRing 163 = .ok (.aload 5, 2) := by decide +kernel
theorem dX10_weaveRing_165 : decode cX10_weaveRing 165 = .ok (.bipush 60, 2) := by decide +kernel
theorem dX10_weaveRing_167 : decode cX10_weaveRing 167 = .ok (.invokevirtual 84, 3) := by decide +kernel
theorem dX10_weaveRing_170 : decode cX10_weaveRing 170 = .ok (.pop, 1) := by decide +kernel
theorem dX10_weaveRing_171 : decode cX10_weaveRing 171 = .ok (.return_, 1) := by decide +kernel
theorem dX10_weavePair_0 : decode cX10_weavePair 0 = .ok (.aload_n 0, 1) := by decide +kernel
theorem dX10_weavePair_1 : decode cX10_weavePair 1 = .ok (.iload 4, 2) := by decide +kernel
theorem dX10_weavePair_3 : decode cX10_weavePair 3 = .ok (.putfield 57, 3) := by decide +kernel
theorem dX10_weavePair_6 : decode cX10_weavePair 6 = .ok (.aload_n 0, 1) := by decide +kernel
theorem dX10_weavePair_7 : decode cX10_weavePair 7 = .ok (.aload_n 1, 1) := by decide +kernel
theorem dX10_weavePair_8 : decode cX10_weavePair 8 = .ok (.iconst 1, 1) := by decide +kernel
theorem dX10_weavePair_9 : decode cX10_weavePair 9 = .ok (.aload_n 2, 1) := by decide +kernel
theorem dX10_weavePair_10 : decode cX10_weavePair 10 = .ok (.iconst 1, 1) := by decide +kernel
theorem dX10_weavePair_11 : decode cX10_weavePair 11 = .ok (.iload_n 3, 1) := by decide +kernel
theorem dX10_weavePair_12 : decode cX10_weavePair 12 = .ok (.aload 5, 2) := by decide +kernel
theorem dX10_weavePair_14 : decode cX10_weavePair 14 = .ok (.bipush 60, 2) := by decide +kernel
theorem dX10_weavePair_16 : decode cX10_weavePair 16 = .ok (.invokevirtual 88, 3) := by decide +kernel
theorem dX10_weavePair_19 : decode cX10_weavePair 19 = .ok (.ireturn, 1) := by decide +kernel
theorem dX10_decide_0 : decode cX10_decide 0 = .ok (.aload_n 0, 1) := by decide +kernel
theorem dX10_decide_1 : decode cX10_decide 1 = .ok (.iload 5, 2) := by decide +kernel
theorem dX10_decide_3 : decode cX10_decide 3 = .ok (.putfield 57, 3) := by decide +kernel
theorem dX10_decide_6 : decode cX10_decide 6 = .ok (.iconst 0, 1) := by decide +kernel
theorem dX10_decide_7 : decode cX10_decide 7 = .ok (.istore 6, 2) := by decide +kernel
theorem dX10_decide_9 : decode cX10_decide 9 = .ok (.iload 6, 2) := by decide +kernel
theorem dX10_decide_11 : decode cX10_decide 11 = .ok (.aload_n 2, 1) := by decide +kernel
theorem dX10_decide_12 : decode cX10_decide 12 = .ok (.getfield 92, 3) := by decide +kernel
theorem dX10_decide_15 : decode cX10_decide 15 = .ok (.if_icmp .ge 78, 3) := by decide +kernel
theorem dX10_decide_18 : decode cX10_decide 18 = .ok (.iload 6, 2) := by decide +kernel
theorem dX10_decide_20 : decode cX10_decide 20 = .ok (.aload_n 1, 1) := by decide +kernel
theorem dX10_decide_21 : decode cX10_decide 21 = .ok (.arraylength, 1) := by decide +kernel
theorem dX10_decide_22 : decode cX10_decide 22 = .ok (.if_icmp .ge 71, 3) := by decide +kernel
theorem dX10_decide_25 : decode cX10_decide 25 = .ok (.aload_n 1, 1) := by decide +kernel
theorem dX10_decide_26 : decode cX10_decide 26 = .ok (.iload 6, 2) := by decide +kernel
theorem dX10_decide_28 : decode cX10_decide 28 = .ok (.aaload, 1) := by decide +kernel
theorem dX10_decide_29 : decode cX10_decide 29 = .ok (.astore 7, 2) := by decide +kernel
theorem dX10_decide_31 : decode cX10_decide 31 = .ok (.aload 7, 2) := by decide +kernel
theorem dX10_decide_33 : decode cX10_decide 33 = .ok (.getfield 97, 3) := by decide +kernel
theorem dX10_decide_36 : decode cX10_decide 36 = .ok (.iconst 1, 1) := by decide +kernel
theorem dX10_decide_37 : decode cX10_decide 37 = .ok (.if_icmp .ne 7, 3) := by decide +kernel
theorem dX10_decide_40 : decode cX10_decide 40 = .ok (.iconst 1, 1) := by decide +kernel
theorem dX10_decide_41 : decode cX10_decide 41 = .ok (.goto 4, 3) := by decide +kernel
theorem dX10_decide_44 : decode cX10_decide 44 = .ok (.iconst 0, 1) := by decide +kernel
theorem dX10_decide_45 : decode cX10_decide 45 = .ok (.istore 8, 2) := by decide +kernel
theorem dX10_decide_47 : decode cX10_decide 47 = .ok (.iload 8, 2) := by decide +kernel
theorem dX10_decide_49 : decode cX10_decide 49 = .ok (.ifCond .eq 18, 3) := by decide +kernel
theorem dX10_decide_52 : decode cX10_decide 52 = .ok (.aload_n 0, 1) := by decide +kernel
theorem dX10_decide_53 : decode cX10_decide 53 = .ok (.aload 7, 2) := by decide +kernel
theorem dX10_decide_55 : decode cX10_decide 55 = .ok (.aload_n 3, 1) := by decide +kernel
theorem dX10_decide_56 : decode cX10_decide 56 = .ok (.iload 4, 2) := by decide +kernel
theorem dX10_decide_58 : decode cX10_decide 58 = .ok (.invokevirtual 102, 3) := by decide +kernel
theorem dX10_decide_61 : decode cX10_decide 61 = .ok (.ifCond .eq 16, 3) := by decide +kernel
theorem dX10_decide_64 : decode cX10_decide 64 = .ok (.goto 23, 3) := by decide +kernel
theorem dX10_decide_67 : decode cX10_decide 67 = .ok (.aload_n 0, 1) := by decide +kernel
theorem dX10_decide_68 : decode cX10_decide 68 = .ok (.aload 7, 2) := by decide +kernel
theorem dX10_decide_70 : decode cX10_decide 70 = .ok (.aload_n 1, 1) := by decide +kernel
theorem dX10_decide_71 : decode cX10_decide 71 = .ok (.invokevirtual 106, 3) := by decide +kernel
theorem dX10_decide_74 : decode cX10_decide 74 = .ok (.ifCond .ne 13, 3) := by decide +kernel
theorem dX10_decide_77 : decode cX10_decide 77 = .ok (.aload_n 2, 1) := by decide +kernel
theorem dX10_decide_78 : decode cX10_decide 78 = .ok (.aload 7, 2) := by decide +kernel
theorem dX10_decide_80 : decode cX10_decide 80 = .ok (.getfield 110, 3) := by decide +kernel
theorem dX10_decide_83 : decode cX10_decide 83 = .ok (.putfield 113, 3) := by decide +kernel
theorem dX10_decide_86 : decode cX10_decide 86 = .ok (.return_, 1) := by decide +kernel
theorem dX10_decide_87 : decode cX10_decide 87 = .ok (.iinc 6 1, 3) := by decide +kernel
theorem dX10_decide_90 : decode cX10_decide 90 = .ok (.goto (-81), 3) := by decide +kernel
theorem dX10_decide_93 : decode cX10_decide 93 = .ok (.aload_n 2, 1) := by decide +kernel
theorem dX10_decide_94 : decode cX10_decide 94 = .ok (.getfield 92, 3) := by decide +kernel
theorem dX10_decide_97 : decode cX10_decide 97 = .ok (.iconst 1, 1) := by decide +kernel
theorem dX10_decide_98 : decode cX10_decide 98 = .ok (.isub, 1) := by decide +kernel
theorem dX10_decide_99 : decode cX10_decide 99 = .ok (.aload_n 1, 1) := by decide +kernel
theorem dX10_decide_100 : decode cX10_decide 100 = .ok (.arraylength, 1) := by decide +kernel
theorem dX10_decide_101 : decode cX10_decide 101 = .ok (.invokestatic 116, 3) := by decide +kernel
theorem dX10_decide_104 : decode cX10_decide 104 = .ok (.ifCond .eq 21, 3) := by decide +kernel
theorem dX10_decide_107 : decode cX10_decide 107 = .ok (.aload_n 2, 1) := by decide +kernel
theorem dX10_decide_108 : decode cX10_decide 108 = .ok (.getfield 120, 3) := by decide +kernel
theorem dX10_decide_111 : decode cX10_decide 111 = .ok (.aload_n 1, 1) := by decide +kernel
theorem dX10_decide_112 : decode cX10_decide 112 = .ok (.aload_n 2, 1) := by decide +kernel
theorem dX10_decide_113 : decode cX10_decide 113 = .ok (.getfield 92, 3) := by decide +kernel
theorem dX10_decide_116 : decode cX10_decide 116 = .ok (.iconst 1, 1) := by decide +kernel
theorem dX10_decide_117 : decode cX10_decide 117 = .ok (.isub, 1) := by decide +kernel
theorem dX10_decide_118 : decode cX10_decide 118 = .ok (.aaload, 1) := by decide +kernel
theorem dX10_decide_119 : decode cX10_decide 119 = .ok (.getfield 123, 3) := by decide +kernel
theorem dX10_decide_122 : decode cX10_decide 122 = .ok (.invokevirtual 124, 3) := by decide +kernel
theorem dX10_decide_125 : decode cX10_decide 125 = .ok (.return_, 1) := by decide +kernel
theorem dX10_weavePart_0 : decode cX10_weavePart 0 = .ok (.aload_n 1, 1) := by decide +kernel
theorem dX10_weavePart_1 : decode cX10_weavePart 1 = .ok (.getfield 97, 3) := by decide +kernel
theorem dX10_weavePart_4 : decode cX10_weavePart 4 = .ok (.ifCond .ne 9, 3) := by decide +kernel
theorem dX10_weavePart_7 : decode cX10_weavePart 7 = .ok (.aload_n 0, 1) := by decide +kernel
theorem dX10_weavePart_8 : decode cX10_weavePart 8 = .ok (.aload_n 1, 1) := by decide +kernel
theorem dX10_weavePart_9 : decode cX10_weavePart 9 = .ok (.invokevirtual 128, 3) := by decide +kernel
theorem dX10_weavePart_12 : decode cX10_weavePart 12 = .ok (.ireturn, 1) := by decide +kernel
theorem dX10_weavePart_13 : decode cX10_weavePart 13 = .ok (.aload_n 1, 1) := by decide +kernel
theorem dX10_weavePart_14 : decode cX10_weavePart 14 = .ok (.getfield 132, 3) := by decide +kernel
theorem dX10_weavePart_17 : decode cX10_weavePart 17 = .ok (.aload_n 2, 1) := by decide +kernel
theorem dX10_weavePart_18 : decode cX10_weavePart 18 = .ok (.arraylength, 1) := by decide +kernel
theorem dX10_weavePart_19 : decode cX10_weavePart 19 = .ok (.invokestatic 116, 3) := by decide +kernel
theorem dX10_weavePart_22 : decode cX10_weavePart 22 = .ok (.ifCond .ne 5, 3) := by decide +kernel
theorem dX10_weavePart_25 : decode cX10_weavePart 25 = .ok (.iconst 0, 1) := by decide +kernel
theorem dX10_weavePart_26 : decode cX10_weavePart 26 = .ok (.ireturn, 1) := by decide +kernel
theorem dX10_weavePart_27 : decode cX10_weavePart 27 = .ok (.aload_n 2, 1) := by decide +kernel
theorem dX10_weavePart_28 : decode cX10_weavePart 28 = .ok (.aload_n 1, 1) := by decide +kernel
theorem dX10_weavePart_29 : decode cX10_weavePart 29 = .ok (.getfield 132, 3) := by decide +kernel
theorem dX10_weavePart_32 : decode cX10_weavePart 32 = .ok (.aaload, 1) := by decide +kernel
theorem dX10_weavePart_33 : decode cX10_weavePart 33 = .ok (.astore_n 3, 1) := by decide +kernel
theorem dX10_weavePart_34 : decode cX10_weavePart 34 = .ok (.aload_n 1, 1) := by decide +kernel
theorem dX10_weavePart_35 : decode cX10_weavePart 35 = .ok (.getfield 97, 3) := by decide +kernel
theorem dX10_weavePart_38 : decode cX10_weavePart 38 = .ok (.iconst 2, 1) := by decide +kernel
theorem dX10_weavePart_39 : decode cX10_weavePart 39 = .ok (.if_icmp .ne 16, 3) := by decide +kernel
theorem dX10_weavePart_42 : decode cX10_weavePart 42 = .ok (.aload_n 1, 1) := by decide +kernel
theorem dX10_weavePart_43 : decode cX10_weavePart 43 = .ok (.getfield 123, 3) := by decide +kernel
theorem dX10_weavePart_46 : decode cX10_weavePart 46 = .ok (.aload_n 3, 1) := by decide +kernel
theorem dX10_weavePart_47 : decode cX10_weavePart 47 = .ok (.getfield 123, 3) := by decide +kernel
theorem dX10_weavePart_50 : decode cX10_weavePart 50 = .ok (.invokevirtual 135, 3) := by decide +kernel
theorem dX10_weavePart_53 : decode cX10_weavePart 53 = .ok (.iconst 1, 1) := by decide +kernel
theorem dX10_weavePart_54 : decode cX10_weavePart 54 = .ok (.ireturn, 1) := by decide +kernel
theorem dX10_weavePart_55 : decode cX10_weavePart 55 = .ok (.aload_n 1, 1) := by decide +kernel
theorem dX10_weavePart_56 : decode cX10_weavePart 56 = .ok (.getfield 97, 3) := by decide +kernel
theorem dX10_weavePart_59 : decode cX10_weavePart 59 = .ok (.bipush 6, 2) := by decide +kernel
theorem dX10_weavePart_61 : decode cX10_weavePart 61 = .ok (.if_icmp .eq 12, 3) := by decide +kernel
theorem dX10_weavePart_64 : decode cX10_weavePart 64 = .ok (.aload_n 1, 1) := by decide +kernel
theorem dX10_weavePart_65 : decode cX10_weavePart 65 = .ok (.getfield 97, 3) := by decide +kernel
theorem dX10_weavePart_68 : decode cX10_weavePart 68 = .ok (.bipush 7, 2) := by decide +kernel
theorem dX10_weavePart_70 : decode cX10_weavePart 70 = .ok (.if_icmp .ne 10, 3) := by decide +kernel
theorem dX10_weavePart_73 : decode cX10_weavePart 73 = .ok (.aload_n 0, 1) := by decide +kernel
theorem dX10_weavePart_74 : decode cX10_weavePart 74 = .ok (.aload_n 1, 1) := by decide +kernel
theorem dX10_weavePart_75 : decode cX10_weavePart 75 = .ok (.aload_n 3, 1) := by decide +kernel
theorem dX10_weavePart_76 : decode cX10_weavePart 76 = .ok (.invokevirtual 138, 3) := by decide +kernel
theorem dX10_weavePart_79 : decode cX10_weavePart 79 = .ok (.ireturn, 1) := by decide +kernel
theorem dX10_weavePart_80 : decode cX10_weavePart 80 = .ok (.aload_n 1, 1) := by decide +kernel
theorem dX10_weavePart_81 : decode cX10_weavePart 81 = .ok (.getfield 142, 3) := by decide +kernel
theorem dX10_weavePart_84 : decode cX10_weavePart 84 = .ok (.aload_n 2, 1) := by decide +kernel
theorem dX10_weavePart_85 : decode cX10_weavePart 85 = .ok (.arraylength, 1) := by decide +kernel
theorem dX10_weavePart_86 : decode cX10_weavePart 86 = .ok (.invokestatic 116, 3) := by decide +kernel
theorem dX10_weavePart_89 : decode cX10_weavePart 89 = .ok (.ifCond .ne 5, 3) := by decide +kernel
theorem dX10_weavePart_92 : decode cX10_weavePart 92 = .ok (.iconst 0, 1) := by decide +kernel
theorem dX10_weavePart_93 : decode cX10_weavePart 93 = .ok (.ireturn, 1) := by decide +kernel
theorem dX10_weavePart_94 : decode cX10_weavePart 94 = .ok (.aload_n 2, 1) := by decide +kernel
theorem dX10_weavePart_95 : decode cX10_weavePart 95 = .ok (.aload_n 1, 1) := by decide +kernel
theorem dX10_weavePart_96 : decode cX10_weavePart 96 = .ok (.getfield 142, 3) := by decide +kernel
theorem dX10_weavePart_99 : decode cX10_weavePart 99 = .ok (.aaload, 1) := by decide +kernel
theorem dX10_weavePart_100 : decode cX10_weavePart 100 = .ok (.astore 4, 2) := by decide +kernel
theorem dX10_weavePart_102 : decode cX10_weavePart 102 = .ok (.aload_n 0, 1) := by decide +kernel
theorem dX10_weavePart_103 : decode cX10_weavePart 103 = .ok (.aload_n 3, 1) := by decide +kernel
theorem dX10_weavePart_104 : decode cX10_weavePart 104 = .ok (.getfield 123, 3) := by decide +kernel
theorem dX10_weavePart_107 : decode cX10_weavePart 107 = .ok (.aload_n 3, 1) := by decide +kernel
theorem dX10_weavePart_108 : decode cX10_weavePart 108 = .ok (.getfield 145, 3) := by decide +kernel
theorem dX10_weavePart_111 : decode cX10_weavePart 111 = .ok (.aload 4, 2) := by decide +kernel
theorem dX10_weavePart_113 : decode cX10_weavePart 113 = .ok (.getfield 123, 3) := by decide +kernel
theorem dX10_weavePart_116 : decode cX10_weavePart 116 = .ok (.aload 4, 2) := by decide +kernel
theorem dX10_weavePart_118 : decode cX10_weavePart 118 = .ok (.getfield 145, 3) := by decide +kernel
theorem dX10_weavePart_121 : decode cX10_weavePart 121 = .ok (.aload_n 1, 1) := by decide +kernel
theorem dX10_weavePart_122 : decode cX10_weavePart 122 = .ok (.getfield 97, 3) := by decide +kernel
theorem dX10_weavePart_125 : decode cX10_weavePart 125 = .ok (.aload_n 1, 1) := by decide +kernel
theorem dX10_weavePart_126 : decode cX10_weavePart 126 = .ok (.getfield 123, 3) := by decide +kernel
theorem dX10_weavePart_129 : decode cX10_weavePart 129 = .ok (.bipush 40, 2) := by decide +kernel
theorem dX10_weavePart_131 : decode cX10_weavePart 131 = .ok (.invokevirtual 88, 3) := by decide +kernel
theorem dX10_weavePart_134 : decode cX10_weavePart 134 = .ok (.ireturn, 1) := by decide +kernel
theorem dX10_at_0 : decode cX10_at 0 = .ok (.iload_n 1, 1) := by decide +kernel
theorem dX10_at_1 : decode cX10_at 1 = .ok (.aload_n 0, 1) := by decide +kernel
theorem dX10_at_2 : decode cX10_at 2 = .ok (.arraylength, 1) := by decide +kernel
theorem dX10_at_3 : decode cX10_at 3 = .ok (.invokestatic 116, 3) := by decide +kernel
theorem dX10_at_6 : decode cX10_at 6 = .ok (.ifCond .eq 9, 3) := by decide +kernel
theorem dX10_at_9 : decode cX10_at 9 = .ok (.aload_n 0, 1) := by decide +kernel
theorem dX10_at_10 : decode cX10_at 10 = .ok (.iload_n 1, 1) := by decide +kernel
theorem dX10_at_11 : decode cX10_at 11 = .ok (.iaload, 1) := by decide +kernel
theorem dX10_at_12 : decode cX10_at 12 = .ok (.goto 4, 3) := by decide +kernel
theorem dX10_at_15 : decode cX10_at 15 = .ok (.iconst 0, 1) := by decide +kernel
theorem dX10_at_16 : decode cX10_at 16 = .ok (.ireturn, 1) := by decide +kernel
theorem dX10_power_0 : decode cX10_power 0 = .ok (.iconst 1, 1) := by decide +kernel
theorem dX10_power_1 : decode cX10_power 1 = .ok (.istore_n 2, 1) := by decide +kernel
theorem dX10_power_2 : decode cX10_power 2 = .ok (.iconst 0, 1) := by decide +kernel
theorem dX10_power_3 : decode cX10_power 3 = .ok (.istore_n 3, 1) := by decide +kernel
theorem dX10_power_4 : decode cX10_power 4 = .ok (.iload_n 3, 1) := by decide +kernel
theorem dX10_power_5 : decode cX10_power 5 = .ok (.iload_n 1, 1) := by decide +kernel
theorem dX10_power_6 : decode cX10_power 6 = .ok (.if_icmp .ge 19, 3) := by decide +kernel
theorem dX10_power_9 : decode cX10_power 9 = .ok (.iload_n 3, 1) := by decide +kernel
theorem dX10_power_10 : decode cX10_power 10 = .ok (.bipush 8, 2) := by decide +kernel
theorem dX10_power_12 : decode cX10_power 12 = .ok (.if_icmp .ge 13, 3) := by decide +kernel
theorem dX10_power_15 : decode cX10_power 15 = .ok (.iload_n 2, 1) := by decide +kernel
theorem dX10_power_16 : decode cX10_power 16 = .ok (.iload_n 0, 1) := by decide +kernel
theorem dX10_power_17 : decode cX10_power 17 = .ok (.imul, 1) := by decide +kernel
theorem dX10_power_18 : decode cX10_power 18 = .ok (.istore_n 2, 1) := by decide +kernel
theorem dX10_power_19 : decode cX10_power 19 = .ok (.iinc 3 1, 3) := by decide +kernel
theorem dX10_power_22 : decode cX10_power 22 = .ok (.goto (-18), 3) := by decide +kernel
theorem dX10_power_25 : decode cX10_power 25 = .ok (.iload_n 2, 1) := by decide +kernel
theorem dX10_power_26 : decode cX10_power 26 = .ok (.ireturn, 1) := by decide +kernel
theorem dX10_fan_0 : decode cX10_fan 0 = .ok (.aload_n 0, 1) := by decide +kernel
theorem dX10_fan_1 : decode cX10_fan 1 = .ok (.getfield 57, 3) := by decide +kernel
theorem dX10_fan_4 : decode cX10_fan 4 = .ok (.iload_n 1, 1) := by decide +kernel
theorem dX10_fan_5 : decode cX10_fan 5 = .ok (.invokestatic 148, 3) := by decide +kernel
theorem dX10_fan_8 : decode cX10_fan 8 = .ok (.invokestatic 153, 3) := by decide +kernel
theorem dX10_fan_11 : decode cX10_fan 11 = .ok (.ireturn, 1) := by decide +kernel
theorem dX10_view_0 : decode cX10_view 0 = .ok (.iconst 0, 1) := by decide +kernel
theorem dX10_view_1 : decode cX10_view 1 = .ok (.istore 4, 2) := by decide +kernel
theorem dX10_view_3 : decode cX10_view 3 = .ok (.iconst 1, 1) := by decide +kernel
theorem dX10_view_4 : decode cX10_view 4 = .ok (.istore 5, 2) := by decide +kernel
theorem dX10_view_6 : decode cX10_view 6 = .ok (.iload_n 1, 1) := by decide +kernel
theorem dX10_view_7 : decode cX10_view 7 = .ok (.istore 6, 2) := by decide +kernel
theorem dX10_view_9 : decode cX10_view 9 = .ok (.bipush 7, 2) := by decide +kernel
theorem dX10_view_11 : decode cX10_view 11 = .ok (.istore 7, 2) := by decide +kernel
theorem dX10_view_13 : decode cX10_view 13 = .ok (.iload 7, 2) := by decide +kernel
theorem dX10_view_15 : decode cX10_view 15 = .ok (.ifCond .lt 68, 3) := by decide +kernel
theorem dX10_view_18 : decode cX10_view 18 = .ok (.aload_n 0, 1) := by decide +kernel
theorem dX10_view_19 : decode cX10_view 19 = .ok (.getfield 57, 3) := by decide +kernel
theorem dX10_view_22 : decode cX10_view 22 = .ok (.iconst 1, 1) := by decide +kernel
theorem dX10_view_23 : decode cX10_view 23 = .ok (.if_icmp .le 60, 3) := by decide +kernel
theorem dX10_view_26 : decode cX10_view 26 = .ok (.iload_n 2, 1) := by decide +kernel
theorem dX10_view_27 : decode cX10_view 27 = .ok (.iload 7, 2) := by decide +kernel
theorem dX10_view_29 : decode cX10_view 29 = .ok (.ishr, 1) := by decide +kernel
theorem dX10_view_30 : decode cX10_view 30 = .ok (.iconst 1, 1) := by decide +kernel
theorem dX10_view_31 : decode cX10_view 31 = .ok (.iand, 1) := by decide +kernel
theorem dX10_view_32 : decode cX10_view 32 = .ok (.ifCond .eq 45, 3) := by decide +kernel
theorem dX10_view_35 : decode cX10_view 35 = .ok (.iload_n 3, 1) := by decide +kernel
theorem dX10_view_36 : decode cX10_view 36 = .ok (.iload 7, 2) := by decide +kernel
theorem dX10_view_38 : decode cX10_view 38 = .ok (.ishr, 1) := by decide +kernel
theorem dX10_view_39 : decode cX10_view 39 = .ok (.iconst 1, 1) := by decide +kernel
theorem dX10_view_40 : decode cX10_view 40 = .ok (.iand, 1) := by decide +kernel
theorem dX10_view_41 : decode cX10_view 41 = .ok (.ifCond .eq 27, 3) := by decide +kernel
theorem dX10_view_44 : decode cX10_view 44 = .ok (.iload 4, 2) := by decide +kernel
theorem dX10_view_46 : decode cX10_view 46 = .ok (.iload 6, 2) := by decide +kernel
theorem dX10_view_48 : decode cX10_view 48 = .ok (.aload_n 0, 1) := by decide +kernel
theorem dX10_view_49 : decode cX10_view 49 = .ok (.getfield 57, 3) := by decide +kernel
theorem dX10_view_52 : decode cX10_view 52 = .ok (.irem, 1) := by decide +kernel
theorem dX10_view_53 : decode cX10_view 53 = .ok (.iload 5, 2) := by decide +kernel
theorem dX10_view_55 : decode cX10_view 55 = .ok (.imul, 1) := by decide +kernel
theorem dX10_view_56 : decode cX10_view 56 = .ok (.iadd, 1) := by decide +kernel
theorem dX10_view_57 : decode cX10_view 57 = .ok (.istore 4, 2) := by decide +kernel
theorem dX10_view_59 : decode cX10_view 59 = .ok (.iload 5, 2) := by decide +kernel
theorem dX10_view_61 : decode cX10_view 61 = .ok (.aload_n 0, 1) := by decide +kernel
theorem dX10_view_62 : decode cX10_view 62 = .ok (.getfield 57, 3) := by decide +kernel
theorem dX10_view_65 : decode cX10_view 65 = .ok (.imul, 1) := by decide +kernel
theorem dX10_view_66 : decode cX10_view 66 = .ok (.istore 5, 2) := by decide +kernel
theorem dX10_view_68 : decode cX10_view 68 = .ok (.iload 6, 2) := by decide +kernel
theorem dX10_view_70 : decode cX10_view 70 = .ok (.aload_n 0, 1) := by decide +kernel
theorem dX10_view_71 : decode cX10_view 71 = .ok (.getfield 57, 3) := by decide +kernel
theorem dX10_view_74 : decode cX10_view 74 = .ok (.idiv, 1) := by decide +kernel
theorem dX10_view_75 : decode cX10_view 75 = .ok (.istore 6, 2) := by decide +kernel
theorem dX10_view_77 : decode cX10_view 77 = .ok (.iinc 7 (-1), 3) := by decide +kernel
theorem dX10_view_80 : decode cX10_view 80 = .ok (.goto (-67), 3) := by decide +kernel
theorem dX10_view_83 : decode cX10_view 83 = .ok (.iload 4, 2) := by decide +kernel
theorem dX10_view_85 : decode cX10_view 85 = .ok (.ireturn, 1) := by decide +kernel
theorem dX10_fillViews_0 : decode cX10_fillViews 0 = .ok (.aload_n 0, 1) := by decide +kernel
theorem dX10_fillViews_1 : decode cX10_fillViews 1 = .ok (.iload_n 2, 1) := by decide +kernel
theorem dX10_fillViews_2 : decode cX10_fillViews 2 = .ok (.invokevirtual 157, 3) := by decide +kernel
theorem dX10_fillViews_5 : decode cX10_fillViews 5 = .ok (.istore 4, 2) := by decide +kernel
theorem dX10_fillViews_7 : decode cX10_fillViews 7 = .ok (.iconst 0, 1) := by decide +kernel
theorem dX10_fillViews_8 : decode cX10_fillViews 8 = .ok (.istore 5, 2) := by decide +kernel
theorem dX10_fillViews_10 : decode cX10_fillViews 10 = .ok (.iload 5, 2) := by decide +kernel
theorem dX10_fillViews_12 : decode cX10_fillViews 12 = .ok (.iload 4, 2) := by decide +kernel
theorem dX10_fillViews_14 : decode cX10_fillViews 14 = .ok (.if_icmp .ge 28, 3) := by decide +kernel
theorem dX10_fillViews_17 : decode cX10_fillViews 17 = .ok (.iload 5, 2) := by decide +kernel
theorem dX10_fillViews_19 : decode cX10_fillViews 19 = .ok (.aload_n 1, 1) := by decide +kernel
theorem dX10_fillViews_20 : decode cX10_fillViews 20 = .ok (.arraylength, 1) := by decide +kernel
theorem dX10_fillViews_21 : decode cX10_fillViews 21 = .ok (.if_icmp .ge 21, 3) := by decide +kernel
theorem dX10_fillViews_24 : decode cX10_fillViews 24 = .ok (.aload_n 1, 1) := by decide +kernel
theorem dX10_fillViews_25 : decode cX10_fillViews 25 = .ok (.iload 5, 2) := by decide +kernel
theorem dX10_fillViews_27 : decode cX10_fillViews 27 = .ok (.aload_n 0, 1) := by decide +kernel
theorem dX10_fillViews_28 : decode cX10_fillViews 28 = .ok (.iload 5, 2) := by decide +kernel
theorem dX10_fillViews_30 : decode cX10_fillViews 30 = .ok (.iload_n 2, 1) := by decide +kernel
theorem dX10_fillViews_31 : decode cX10_fillViews 31 = .ok (.iload_n 3, 1) := by decide +kernel
theorem dX10_fillViews_32 : decode cX10_fillViews 32 = .ok (.invokevirtual 160, 3) := by decide +kernel
theorem dX10_fillViews_35 : decode cX10_fillViews 35 = .ok (.iastore, 1) := by decide +kernel
theorem dX10_fillViews_36 : decode cX10_fillViews 36 = .ok (.iinc 5 1, 3) := by decide +kernel
theorem dX10_fillViews_39 : decode cX10_fillViews 39 = .ok (.goto (-29), 3) := by decide +kernel
theorem dX10_fillViews_42 : decode cX10_fillViews 42 = .ok (.return_, 1) := by decide +kernel
theorem dX10_load_0 : decode cX10_load 0 = .ok (.iconst 0, 1) := by decide +kernel
theorem dX10_load_1 : decode cX10_load 1 = .ok (.istore 4, 2) := by decide +kernel
theorem dX10_load_3 : decode cX10_load 3 = .ok (.iload_n 1, 1) := by decide +kernel
theorem dX10_load_4 : decode cX10_load 4 = .ok (.istore 5, 2) := by decide +kernel
theorem dX10_load_6 : decode cX10_load 6 = .ok (.bipush 7, 2) := by decide +kernel
theorem dX10_load_8 : decode cX10_load 8 = .ok (.istore 6, 2) := by decide +kernel
theorem dX10_load_10 : decode cX10_load 10 = .ok (.iload 6, 2) := by decide +kernel
theorem dX10_load_12 : decode cX10_load 12 = .ok (.ifCond .lt 54, 3) := by decide +kernel
theorem dX10_load_15 : decode cX10_load 15 = .ok (.aload_n 0, 1) := by decide +kernel
theorem dX10_load_16 : decode cX10_load 16 = .ok (.getfield 57, 3) := by decide +kernel
theorem dX10_load_19 : decode cX10_load 19 = .ok (.iconst 1, 1) := by decide +kernel
theorem dX10_load_20 : decode cX10_load 20 = .ok (.if_icmp .le 46, 3) := by decide +kernel
theorem dX10_load_23 : decode cX10_load 23 = .ok (.iload_n 2, 1) := by decide +kernel
theorem dX10_load_24 : decode cX10_load 24 = .ok (.iload 6, 2) := by decide +kernel
theorem dX10_load_26 : decode cX10_load 26 = .ok (.ishr, 1) := by decide +kernel
theorem dX10_load_27 : decode cX10_load 27 = .ok (.iconst 1, 1) := by decide +kernel
theorem dX10_load_28 : decode cX10_load 28 = .ok (.iand, 1) := by decide +kernel
theorem dX10_load_29 : decode cX10_load 29 = .ok (.ifCond .eq 31, 3) := by decide +kernel
theorem dX10_load_32 : decode cX10_load 32 = .ok (.iload 4, 2) := by decide +kernel
theorem dX10_load_34 : decode cX10_load 34 = .ok (.aload_n 3, 1) := by decide +kernel
theorem dX10_load_35 : decode cX10_load 35 = .ok (.iload 6, 2) := by decide +kernel
theorem dX10_load_37 : decode cX10_load 37 = .ok (.invokestatic 73, 3) := by decide +kernel
theorem dX10_load_40 : decode cX10_load 40 = .ok (.iload 5, 2) := by decide +kernel
theorem dX10_load_42 : decode cX10_load 42 = .ok (.aload_n 0, 1) := by decide +kernel
theorem dX10_load_43 : decode cX10_load 43 = .ok (.getfield 57, 3) := by decide +kernel
theorem dX10_load_46 : decode cX10_load 46 = .ok (.irem, 1) := by decide +kernel
theorem dX10_load_47 : decode cX10_load 47 = .ok (.imul, 1) := by decide +kernel
theorem dX10_load_48 : decode cX10_load 48 = .ok (.iadd, 1) := by decide +kernel
theorem dX10_load_49 : decode cX10_load 49 = .ok (.istore 4, 2) := by decide +kernel
theorem dX10_load_51 : decode cX10_load 51 = .ok (.iload 5, 2) := by decide +kernel
theorem dX10_load_53 : decode cX10_load 53 = .ok (.aload_n 0, 1) := by decide +kernel
theorem dX10_load_54 : decode cX10_load 54 = .ok (.getfield 57, 3) := by decide +kernel
theorem dX10_load_57 : decode cX10_load 57 = .ok (.idiv, 1) := by decide +kernel
theorem dX10_load_58 : decode cX10_load 58 = .ok (.istore 5, 2) := by decide +kernel
theorem dX10_load_60 : decode cX10_load 60 = .ok (.iinc 6 (-1), 3) := by decide +kernel
theorem dX10_load_63 : decode cX10_load 63 = .ok (.goto (-53), 3) := by decide +kernel
theorem dX10_load_66 : decode cX10_load 66 = .ok (.iload 4, 2) := by decide +kernel
theorem dX10_load_68 : decode cX10_load 68 = .ok (.ireturn, 1) := by decide +kernel
theorem dX10_product_0 : decode cX10_product 0 = .ok (.iload_n 2, 1) := by decide +kernel
theorem dX10_product_1 : decode cX10_product 1 = .ok (.iload 4, 2) := by decide +kernel
theorem dX10_product_3 : decode cX10_product 3 = .ok (.ior, 1) := by decide +kernel
theorem dX10_product_4 : decode cX10_product 4 = .ok (.istore 8, 2) := by decide +kernel
theorem dX10_product_6 : decode cX10_product 6 = .ok (.aload_n 0, 1) := by decide +kernel
theorem dX10_product_7 : decode cX10_product 7 = .ok (.iload 8, 2) := by decide +kernel
theorem dX10_product_9 : decode cX10_product 9 = .ok (.invokevirtual 157, 3) := by decide +kernel
theorem dX10_product_12 : decode cX10_product 12 = .ok (.bipush 27, 2) := by decide +kernel
theorem dX10_product_14 : decode cX10_product 14 = .ok (.invokestatic 164, 3) := by decide +kernel
theorem dX10_product_17 : decode cX10_product 17 = .ok (.istore 9, 2) := by decide +kernel
theorem dX10_product_19 : decode cX10_product 19 = .ok (.aload_n 0, 1) := by decide +kernel
theorem dX10_product_20 : decode cX10_product 20 = .ok (.aload_n 0, 1) := by decide +kernel
theorem dX10_product_21 : decode cX10_product 21 = .ok (.getfield 30, 3) := by decide +kernel
theorem dX10_product_24 : decode cX10_product 24 = .ok (.iload 8, 2) := by decide +kernel
theorem dX10_product_26 : decode cX10_product 26 = .ok (.iload_n 2, 1) := by decide +kernel
theorem dX10_product_27 : decode cX10_product 27 = .ok (.invokevirtual 169, 3) := by decide +kernel
theorem dX10_product_30 : decode cX10_product 30 = .ok (.aload_n 0, 1) := by decide +kernel
theorem dX10_product_31 : decode cX10_product 31 = .ok (.aload_n 0, 1) := by decide +kernel
theorem dX10_product_32 : decode cX10_product 32 = .ok (.getfield 34, 3) := by decide +kernel
theorem dX10_product_35 : decode cX10_product 35 = .ok (.iload 8, 2) := by decide +kernel
theorem dX10_product_37 : decode cX10_product 37 = .ok (.iload 4, 2) := by decide +kernel
theorem dX10_product_39 : decode cX10_product 39 = .ok (.invokevirtual 169, 3) := by decide +kernel
theorem dX10_product_42 : decode cX10_product 42 = .ok (.aload_n 3, 1) := by decide +kernel
theorem dX10_product_43 : decode cX10_product 43 = .ok (.getfield 173, 3) := by decide +kernel
theorem dX10_product_46 : decode cX10_product 46 = .ok (.istore 10, 2) := by decide +kernel
theorem dX10_product_48 : decode cX10_product 48 = .ok (.aload_n 0, 1) := by decide +kernel
theorem dX10_product_49 : decode cX10_product 49 = .ok (.getfield 12, 3) := by decide +kernel
theorem dX10_product_52 : decode cX10_product 52 = .ok (.aload_n 1, 1) := by decide +kernel
theorem dX10_product_53 : decode cX10_product 53 = .ok (.getfield 173, 3) := by decide +kernel
theorem dX10_product_56 : decode cX10_product 56 = .ok (.iload 10, 2) := by decide +kernel
theorem dX10_product_58 : decode cX10_product 58 = .ok (.imul, 1) := by decide +kernel
theorem dX10_product_59 : decode cX10_product 59 = .ok (.iload 9, 2) := by decide +kernel
theorem dX10_product_61 : decode cX10_product 61 = .ok (.invokevirtual 60, 3) := by decide +kernel
theorem dX10_product_64 : decode cX10_product 64 = .ok (.aload_n 0, 1) := by decide +kernel
theorem dX10_product_65 : decode cX10_product 65 = .ok (.getfield 12, 3) := by decide +kernel
theorem dX10_product_68 : decode cX10_product 68 = .ok (.iconst 0, 1) := by decide +kernel
theorem dX10_product_69 : decode cX10_product 69 = .ok (.invokevirtual 63, 3) := by decide +kernel
theorem dX10_product_72 : decode cX10_product 72 = .ok (.pop, 1) := by decide +kernel
theorem dX10_product_73 : decode cX10_product 73 = .ok (.iconst 0, 1) := by decide +kernel
theorem dX10_product_74 : decode cX10_product 74 = .ok (.istore 11, 2) := by decide +kernel
theorem dX10_product_76 : decode cX10_product 76 = .ok (.iload 11, 2) := by decide +kernel
theorem dX10_product_78 : decode cX10_product 78 = .ok (.aload_n 0, 1) := by decide +kernel
theorem dX10_product_79 : decode cX10_product 79 = .ok (.getfield 12, 3) := by decide +kernel
theorem dX10_product_82 : decode cX10_product 82 = .ok (.getfield 67, 3) := by decide +kernel
theorem dX10_product_85 : decode cX10_product 85 = .ok (.if_icmp .ge 144, 3) := by decide +kernel
theorem dX10_product_88 : decode cX10_product 88 = .ok (.iload 11, 2) := by decide +kernel
theorem dX10_product_90 : decode cX10_product 90 = .ok (.sipush 3600, 3) := by decide +kernel
theorem dX10_product_93 : decode cX10_product 93 = .ok (.if_icmp .ge 136, 3) := by decide +kernel
theorem dX10_product_96 : decode cX10_product 96 = .ok (.iload 10, 2) := by decide +kernel
theorem dX10_product_98 : decode cX10_product 98 = .ok (.ifCond .le 131, 3) := by decide +kernel
theorem dX10_product_101 : decode cX10_product 101 = .ok (.aload_n 0, 1) := by decide +kernel
theorem dX10_product_102 : decode cX10_product 102 = .ok (.getfield 12, 3) := by decide +kernel
theorem dX10_product_105 : decode cX10_product 105 = .ok (.iload 11, 2) := by decide +kernel
theorem dX10_product_107 : decode cX10_product 107 = .ok (.invokevirtual 70, 3) := by decide +kernel
theorem dX10_product_110 : decode cX10_product 110 = .ok (.iload 10, 2) := by decide +kernel
theorem dX10_product_112 : decode cX10_product 112 = .ok (.idiv, 1) := by decide +kernel
theorem dX10_product_113 : decode cX10_product 113 = .ok (.istore 12, 2) := by decide +kernel
theorem dX10_product_115 : decode cX10_product 115 = .ok (.aload_n 0, 1) := by decide +kernel
theorem dX10_product_116 : decode cX10_product 116 = .ok (.getfield 12, 3) := by decide +kernel
theorem dX10_product_119 : decode cX10_product 119 = .ok (.iload 11, 2) := by decide +kernel
theorem dX10_product_121 : decode cX10_product 121 = .ok (.invokevirtual 70, 3) := by decide +kernel
theorem dX10_product_124 : decode cX10_product 124 = .ok (.iload 10, 2) := by decide +kernel
theorem dX10_product_126 : decode cX10_product 126 = .ok (.irem, 1) := by decide +kernel
theorem dX10_product_127 : decode cX10_product 127 = .ok (.istore 13, 2) := by decide +kernel
theorem dX10_product_129 : decode cX10_product 129 = .ok (.aload_n 0, 1) := by decide +kernel
theorem dX10_product_130 : decode cX10_product 130 = .ok (.getfield 12, 3) := by decide +kernel
theorem dX10_product_133 : decode cX10_product 133 = .ok (.iload 11, 2) := by decide +kernel
theorem dX10_product_135 : decode cX10_product 135 = .ok (.iload 5, 2) := by decide +kernel
theorem dX10_product_137 : decode cX10_product 137 = .ok (.aload_n 1, 1) := by decide +kernel
theorem dX10_product_138 : decode cX10_product 138 = .ok (.iload 12, 2) := by decide +kernel
theorem dX10_product_140 : decode cX10_product 140 = .ok (.invokevirtual 176, 3) := by decide +kernel
theorem dX10_product_143 : decode cX10_product 143 = .ok (.aload_n 3, 1) := by decide +kernel
theorem dX10_product_144 : decode cX10_product 144 = .ok (.iload 13, 2) := by decide +kernel
theorem dX10_product_146 : decode cX10_product 146 = .ok (.invokevirtual 176, 3) := by decide +kernel
theorem dX10_product_149 : decode cX10_product 149 = .ok (.invokestatic 179, 3) := by decide +kernel
theorem dX10_product_152 : decode cX10_product 152 = .ok (.invokevirtual 77, 3) := by decide +kernel
theorem dX10_product_155 : decode cX10_product 155 = .ok (.iconst 0, 1) := by decide +kernel
theorem dX10_product_156 : decode cX10_product 156 = .ok (.istore 14, 2) := by decide +kernel
theorem dX10_product_158 : decode cX10_product 158 = .ok (.iload 14, 2) := by decide +kernel
theorem dX10_product_160 : decode cX10_product 160 = .ok (.iload 9, 2) := by decide +kernel
theorem dX10_product_162 : decode cX10_product 162 = .ok (.if_icmp .ge 61, 3) := by decide +kernel
theorem dX10_product_165 : decode cX10_product 165 = .ok (.aload_n 1, 1) := by decide +kernel
theorem dX10_product_166 : decode cX10_product 166 = .ok (.iload 12, 2) := by decide +kernel
theorem dX10_product_168 : decode cX10_product 168 = .ok (.aload_n 0, 1) := by decide +kernel
theorem dX10_product_169 : decode cX10_product 169 = .ok (.getfield 30, 3) := by decide +kernel
theorem dX10_product_172 : decode cX10_product 172 = .ok (.iload 14, 2) := by decide +kernel
theorem dX10_product_174 : decode cX10_product 174 = .ok (.iaload, 1) := by decide +kernel
theorem dX10_product_175 : decode cX10_product 175 = .ok (.invokevirtual 182, 3) := by decide +kernel
theorem dX10_product_178 : decode cX10_product 178 = .ok (.iload 10, 2) := by decide +kernel
theorem dX10_product_180 : decode cX10_product 180 = .ok (.imul, 1) := by decide +kernel
theorem dX10_product_181 : decode cX10_product 181 = .ok (.aload_n 3, 1) := by decide +kernel
theorem dX10_product_182 : decode cX10_product 182 = .ok (.iload 13, 2) := by decide +kernel
theorem dX10_product_184 : decode cX10_product 184 = .ok (.aload_n 0, 1) := by decide +kernel
theorem dX10_product_185 : decode cX10_product 185 = .ok (.getfield 34, 3) := by decide +kernel
theorem dX10_product_188 : decode cX10_product 188 = .ok (.iload 14, 2) := by decide +kernel
theorem dX10_product_190 : decode cX10_product 190 = .ok (.iaload, 1) := by decide +kernel
theorem dX10_product_191 : decode cX10_product 191 = .ok (.invokevirtual 182, 3) := by decide +kernel
theorem dX10_product_194 : decode cX10_product 194 = .ok (.iadd, 1) := by decide +kernel
theorem dX10_product_195 : decode cX10_product 195 = .ok (.istore 15, 2) := by decide +kernel
theorem dX10_product_197 : decode cX10_product 197 = .ok (.aload_n 0, 1) := by decide +kernel
theorem dX10_product_198 : decode cX10_product 198 = .ok (.getfield 12, 3) := by decide +kernel
theorem dX10_product_201 : decode cX10_product 201 = .ok (.iload 11, 2) := by decide +kernel
theorem dX10_product_203 : decode cX10_product 203 = .ok (.iload 14, 2) := by decide +kernel
theorem dX10_product_205 : decode cX10_product 205 = .ok (.aload_n 0, 1) := by decide +kernel
theorem dX10_product_206 : decode cX10_product 206 = .ok (.getfield 12, 3) := by decide +kernel
theorem dX10_product_209 : decode cX10_product 209 = .ok (.iload 15, 2) := by decide +kernel
theorem dX10_product_211 : decode cX10_product 211 = .ok (.invokevirtual 63, 3) := by decide +kernel
theorem dX10_product_214 : decode cX10_product 214 = .ok (.invokevirtual 80, 3) := by decide +kernel
theorem dX10_product_217 : decode cX10_product 217 = .ok (.iinc 14 1, 3) := by decide +kernel
theorem dX10_product_220 : decode cX10_product 220 = .ok (.goto (-62), 3) := by decide +kernel
theorem dX10_product_223 : decode cX10_product 223 = .ok (.iinc 11 1, 3) := by decide +kernel
theorem dX10_product_226 : decode cX10_product 226 = .ok (.goto (-150), 3) := by decide +kernel
theorem dX10_product_229 : decode cX10_product 229 = .ok (.aload_n 0, 1) := by decide +kernel
theorem dX10_product_230 : decode cX10_product 230 = .ok (.getfield 12, 3) := by decide +kernel
theorem dX10_product_233 : decode cX10_product 233 = .ok (.aload 6, 2) := by decide +kernel
theorem dX10_product_235 : decode cX10_product 235 = .ok (.iload 7, 2) := by decide +kernel
theorem dX10_product_237 : decode cX10_product 237 = .ok (.invokevirtual 84, 3) := by decide +kernel
theorem dX10_product_240 : decode cX10_product 240 = .ok (.ireturn, 1) := by decide +kernel
theorem dX10_joined_0 : decode cX10_joined 0 = .ok (.iload_n 0, 1) := by decide +kernel
theorem dX10_joined_1 : decode cX10_joined 1 = .ok (.tableswitch 67 0 4 #[35, 46, 53, 59, 63], 35) := by decide +kernel
theorem dX10_joined_36 : decode cX10_joined 36 = .ok (.iload_n 1, 1) := by decide +kernel
theorem dX10_joined_37 : decode cX10_joined 37 = .ok (.iload_n 2, 1) := by decide +kernel
theorem dX10_joined_38 : decode cX10_joined 38 = .ok (.if_icmp .ne 7, 3) := by decide +kernel
theorem dX10_joined_41 : decode cX10_joined 41 = .ok (.iconst 1, 1) := by decide +kernel
theorem dX10_joined_42 : decode cX10_joined 42 = .ok (.goto 4, 3) := by decide +kernel
theorem dX10_joined_45 : decode cX10_joined 45 = .ok (.iconst 0, 1) := by decide +kernel
theorem dX10_joined_46 : decode cX10_joined 46 = .ok (.ireturn, 1) := by decide +kernel
theorem dX10_joined_47 : decode cX10_joined 47 = .ok (.iload_n 1, 1) := by decide +kernel
theorem dX10_joined_48 : decode cX10_joined 48 = .ok (.iload_n 2, 1) := by decide +kernel
theorem dX10_joined_49 : decode cX10_joined 49 = .ok (.iadd, 1) := by decide +kernel
theorem dX10_joined_50 : decode cX10_joined 50 = .ok (.bipush 7, 2) := by decide +kernel
theorem dX10_joined_52 : decode cX10_joined 52 = .ok (.iand, 1) := by decide +kernel
theorem dX10_joined_53 : decode cX10_joined 53 = .ok (.ireturn, 1) := by decide +kernel
theorem dX10_joined_54 : decode cX10_joined 54 = .ok (.iload_n 1, 1) := by decide +kernel
theorem dX10_joined_55 : decode cX10_joined 55 = .ok (.iload_n 2, 1) := by decide +kernel
theorem dX10_joined_56 : decode cX10_joined 56 = .ok (.invokestatic 185, 3) := by decide +kernel
theorem dX10_joined_59 : decode cX10_joined 59 = .ok (.ireturn, 1) := by decide +kernel
theorem dX10_joined_60 : decode cX10_joined 60 = .ok (.iload_n 1, 1) := by decide +kernel
theorem dX10_joined_61 : decode cX10_joined 61 = .ok (.iload_n 2, 1) := by decide +kernel
theorem dX10_joined_62 : decode cX10_joined 62 = .ok (.iand, 1) := by decide +kernel
theorem dX10_joined_63 : decode cX10_joined 63 = .ok (.ireturn, 1) := by decide +kernel
theorem dX10_joined_64 : decode cX10_joined 64 = .ok (.iload_n 1, 1) := by decide +kernel
theorem dX10_joined_65 : decode cX10_joined 65 = .ok (.iload_n 2, 1) := by decide +kernel
theorem dX10_joined_66 : decode cX10_joined 66 = .ok (.ior, 1) := by decide +kernel
theorem dX10_joined_67 : decode cX10_joined 67 = .ok (.ireturn, 1) := by decide +kernel
theorem dX10_joined_68 : decode cX10_joined 68 = .ok (.iconst 1, 1) := by decide +kernel
theorem dX10_joined_69 : decode cX10_joined 69 = .ok (.iload_n 1, 1) := by decide +kernel
theorem dX10_joined_70 : decode cX10_joined 70 = .ok (.isub, 1) := by decide +kernel
theorem dX10_joined_71 : decode cX10_joined 71 = .ok (.iload_n 2, 1) := by decide +kernel
theorem dX10_joined_72 : decode cX10_joined 72 = .ok (.ior, 1) := by decide +kernel
theorem dX10_joined_73 : decode cX10_joined 73 = .ok (.ireturn, 1) := by decide +kernel
theorem dX10_weaveRows_0 : decode cX10_weaveRows 0 = .ok (.aload_n 1, 1) := by decide +kernel
theorem dX10_weaveRows_1 : decode cX10_weaveRows 1 = .ok (.getfield 188, 3) := by decide +kernel
theorem dX10_weaveRows_4 : decode cX10_weaveRows 4 = .ok (.astore 4, 2) := by decide +kernel
theorem dX10_weaveRows_6 : decode cX10_weaveRows 6 = .ok (.aload_n 1, 1) := by decide +kernel
theorem dX10_weaveRows_7 : decode cX10_weaveRows 7 = .ok (.getfield 192, 3) := by decide +kernel
theorem dX10_weaveRows_10 : decode cX10_weaveRows 10 = .ok (.astore 5, 2) := by decide +kernel
theorem dX10_weaveRows_12 : decode cX10_weaveRows 12 = .ok (.aload 4, 2) := by decide +kernel
theorem dX10_weaveRows_14 : decode cX10_weaveRows 14 = .ok (.getfield 195, 3) := by decide +kernel
theorem dX10_weaveRows_17 : decode cX10_weaveRows 17 = .ok (.iload_n 3, 1) := by decide +kernel
theorem dX10_weaveRows_18 : decode cX10_weaveRows 18 = .ok (.invokestatic 116, 3) := by decide +kernel
theorem dX10_weaveRows_21 : decode cX10_weaveRows 21 = .ok (.ifCond .eq 26, 3) := by decide +kernel
theorem dX10_weaveRows_24 : decode cX10_weaveRows 24 = .ok (.aload_n 0, 1) := by decide +kernel
theorem dX10_weaveRows_25 : decode cX10_weaveRows 25 = .ok (.aload 4, 2) := by decide +kernel
theorem dX10_weaveRows_27 : decode cX10_weaveRows 27 = .ok (.aload_n 2, 1) := by decide +kernel
theorem dX10_weaveRows_28 : decode cX10_weaveRows 28 = .ok (.aload 4, 2) := by decide +kernel
theorem dX10_weaveRows_30 : decode cX10_weaveRows 30 = .ok (.getfield 195, 3) := by decide +kernel
theorem dX10_weaveRows_33 : decode cX10_weaveRows 33 = .ok (.aaload, 1) := by decide +kernel
theorem dX10_weaveRows_34 : decode cX10_weaveRows 34 = .ok (.getfield 200, 3) := by decide +kernel
theorem dX10_weaveRows_37 : decode cX10_weaveRows 37 = .ok (.aload_n 0, 1) := by decide +kernel
theorem dX10_weaveRows_38 : decode cX10_weaveRows 38 = .ok (.getfield 23, 3) := by decide +kernel
theorem dX10_weaveRows_41 : decode cX10_weaveRows 41 = .ok (.invokevirtual 203, 3) := by decide +kernel
theorem dX10_weaveRows_44 : decode cX10_weaveRows 44 = .ok (.ifCond .ne 5, 3) := by decide +kernel
theorem dX10_weaveRows_47 : decode cX10_weaveRows 47 = .ok (.iconst 0, 1) := by decide +kernel
theorem dX10_weaveRows_48 : decode cX10_weaveRows 48 = .ok (.ireturn, 1) := by decide +kernel
theorem dX10_weaveRows_49 : decode cX10_weaveRows 49 = .ok (.aload 5, 2) := by decide +kernel
theorem dX10_weaveRows_51 : decode cX10_weaveRows 51 = .ok (.getfield 195, 3) := by decide +kernel
theorem dX10_weaveRows_54 : decode cX10_weaveRows 54 = .ok (.iload_n 3, 1) := by decide +kernel
theorem dX10_weaveRows_55 : decode cX10_weaveRows 55 = .ok (.invokestatic 116, 3) := by decide +kernel
theorem dX10_weaveRows_58 : decode cX10_weaveRows 58 = .ok (.ifCond .ne 18, 3) := by decide +kernel
theorem dX10_weaveRows_61 : decode cX10_weaveRows 61 = .ok (.aload_n 0, 1) := by decide +kernel
theorem dX10_weaveRows_62 : decode cX10_weaveRows 62 = .ok (.getfield 27, 3) := by decide +kernel
theorem dX10_weaveRows_65 : decode cX10_weaveRows 65 = .ok (.aload 5, 2) := by decide +kernel
theorem dX10_weaveRows_67 : decode cX10_weaveRows 67 = .ok (.getfield 207, 3) := by decide +kernel
theorem dX10_weaveRows_70 : decode cX10_weaveRows 70 = .ok (.invokevirtual 210, 3) := by decide +kernel
theorem dX10_weaveRows_73 : decode cX10_weaveRows 73 = .ok (.goto 28, 3) := by decide +kernel
theorem dX10_weaveRows_76 : decode cX10_weaveRows 76 = .ok (.aload_n 0, 1) := by decide +kernel
theorem dX10_weaveRows_77 : decode cX10_weaveRows 77 = .ok (.aload 5, 2) := by decide +kernel
theorem dX10_weaveRows_79 : decode cX10_weaveRows 79 = .ok (.aload_n 2, 1) := by decide +kernel
theorem dX10_weaveRows_80 : decode cX10_weaveRows 80 = .ok (.aload 5, 2) := by decide +kernel
theorem dX10_weaveRows_82 : decode cX10_weaveRows 82 = .ok (.getfield 195, 3) := by decide +kernel
theorem dX10_weaveRows_85 : decode cX10_weaveRows 85 = .ok (.aaload, 1) := by decide +kernel
theorem dX10_weaveRows_86 : decode cX10_weaveRows 86 = .ok (.getfield 200, 3) := by decide +kernel
theorem dX10_weaveRows_89 : decode cX10_weaveRows 89 = .ok (.aload_n 0, 1) := by decide +kernel
theorem dX10_weaveRows_90 : decode cX10_weaveRows 90 = .ok (.getfield 27, 3) := by decide +kernel
theorem dX10_weaveRows_93 : decode cX10_weaveRows 93 = .ok (.invokevirtual 203, 3) := by decide +kernel
theorem dX10_weaveRows_96 : decode cX10_weaveRows 96 = .ok (.ifCond .ne 5, 3) := by decide +kernel
theorem dX10_weaveRows_99 : decode cX10_weaveRows 99 = .ok (.iconst 0, 1) := by decide +kernel
theorem dX10_weaveRows_100 : decode cX10_weaveRows 100 = .ok (.ireturn, 1) := by decide +kernel
theorem dX10_weaveRows_101 : decode cX10_weaveRows 101 = .ok (.aload_n 0, 1) := by decide +kernel
theorem dX10_weaveRows_102 : decode cX10_weaveRows 102 = .ok (.aload_n 0, 1) := by decide +kernel
theorem dX10_weaveRows_103 : decode cX10_weaveRows 103 = .ok (.getfield 23, 3) := by decide +kernel
theorem dX10_weaveRows_106 : decode cX10_weaveRows 106 = .ok (.aload 4, 2) := by decide +kernel
theorem dX10_weaveRows_108 : decode cX10_weaveRows 108 = .ok (.getfield 214, 3) := by decide +kernel
theorem dX10_weaveRows_111 : decode cX10_weaveRows 111 = .ok (.aload_n 0, 1) := by decide +kernel
theorem dX10_weaveRows_112 : decode cX10_weaveRows 112 = .ok (.getfield 27, 3) := by decide +kernel
theorem dX10_weaveRows_115 : decode cX10_weaveRows 115 = .ok (.aload 5, 2) := by decide +kernel
theorem dX10_weaveRows_117 : decode cX10_weaveRows 117 = .ok (.getfield 214, 3) := by decide +kernel
theorem dX10_weaveRows_120 : decode cX10_weaveRows 120 = .ok (.iconst 0, 1) := by decide +kernel
theorem dX10_weaveRows_121 : decode cX10_weaveRows 121 = .ok (.aload_n 1, 1) := by decide +kernel
theorem dX10_weaveRows_122 : decode cX10_weaveRows 122 = .ok (.getfield 123, 3) := by decide +kernel
theorem dX10_weaveRows_125 : decode cX10_weaveRows 125 = .ok (.bipush 40, 2) := by decide +kernel
theorem dX10_weaveRows_127 : decode cX10_weaveRows 127 = .ok (.invokevirtual 88, 3) := by decide +kernel
theorem dX10_weaveRows_130 : decode cX10_weaveRows 130 = .ok (.ireturn, 1) := by decide +kernel
theorem dX10_weaveLetters_0 : decode cX10_weaveLetters 0 = .ok (.iconst 0, 1) := by decide +kernel
theorem dX10_weaveLetters_1 : decode cX10_weaveLetters 1 = .ok (.istore 4, 2) := by decide +kernel
theorem dX10_weaveLetters_3 : decode cX10_weaveLetters 3 = .ok (.iconst 0, 1) := by decide +kernel
theorem dX10_weaveLetters_4 : decode cX10_weaveLetters 4 = .ok (.istore 5, 2) := by decide +kernel
theorem dX10_weaveLetters_6 : decode cX10_weaveLetters 6 = .ok (.iload 5, 2) := by decide +kernel
theorem dX10_weaveLetters_8 : decode cX10_weaveLetters 8 = .ok (.bipush 8, 2) := by decide +kernel
theorem dX10_weaveLetters_10 : decode cX10_weaveLetters 10 = .ok (.if_icmp .ge 21, 3) := by decide +kernel
theorem dX10_weaveLetters_13 : decode cX10_weaveLetters 13 = .ok (.iload 4, 2) := by decide +kernel
theorem dX10_weaveLetters_15 : decode cX10_weaveLetters 15 = .ok (.aload_n 1, 1) := by decide +kernel
theorem dX10_weaveLetters_16 : decode cX10_weaveLetters 16 = .ok (.getfield 215, 3) := by decide +kernel
theorem dX10_weaveLetters_19 : decode cX10_weaveLetters 19 = .ok (.iload 5, 2) := by decide +kernel
theorem dX10_weaveLetters_21 : decode cX10_weaveLetters 21 = .ok (.iaload, 1) := by decide +kernel
theorem dX10_weaveLetters_22 : decode cX10_weaveLetters 22 = .ok (.iadd, 1) := by decide +kernel
theorem dX10_weaveLetters_23 : decode cX10_weaveLetters 23 = .ok (.istore 4, 2) := by decide +kernel
theorem dX10_weaveLetters_25 : decode cX10_weaveLetters 25 = .ok (.iinc 5 1, 3) := by decide +kernel
theorem dX10_weaveLetters_28 : decode cX10_weaveLetters 28 = .ok (.goto (-22), 3) := by decide +kernel
theorem dX10_weaveLetters_31 : decode cX10_weaveLetters 31 = .ok (.iload 4, 2) := by decide +kernel
theorem dX10_weaveLetters_33 : decode cX10_weaveLetters 33 = .ok (.iconst 1, 1) := by decide +kernel
theorem dX10_weaveLetters_34 : decode cX10_weaveLetters 34 = .ok (.isub, 1) := by decide +kernel
theorem dX10_weaveLetters_35 : decode cX10_weaveLetters 35 = .ok (.aload_n 1, 1) := by decide +kernel
theorem dX10_weaveLetters_36 : decode cX10_weaveLetters 36 = .ok (.getfield 207, 3) := by decide +kernel
theorem dX10_weaveLetters_39 : decode cX10_weaveLetters 39 = .ok (.invokestatic 185, 3) := by decide +kernel
theorem dX10_weaveLetters_42 : decode cX10_weaveLetters 42 = .ok (.aload_n 0, 1) := by decide +kernel
theorem dX10_weaveLetters_43 : decode cX10_weaveLetters 43 = .ok (.getfield 40, 3) := by decide +kernel
theorem dX10_weaveLetters_46 : decode cX10_weaveLetters 46 = .ok (.arraylength, 1) := by decide +kernel
theorem dX10_weaveLetters_47 : decode cX10_weaveLetters 47 = .ok (.iconst 1, 1) := by decide +kernel
theorem dX10_weaveLetters_48 : decode cX10_weaveLetters 48 = .ok (.isub, 1) := by decide +kernel
theorem dX10_weaveLetters_49 : decode cX10_weaveLetters 49 = .ok (.invokestatic 164, 3) := by decide +kernel
theorem dX10_weaveLetters_52 : decode cX10_weaveLetters 52 = .ok (.istore 5, 2) := by decide +kernel
theorem dX10_weaveLetters_54 : decode cX10_weaveLetters 54 = .ok (.aload_n 0, 1) := by decide +kernel
theorem dX10_weaveLetters_55 : decode cX10_weaveLetters 55 = .ok (.aload_n 1, 1) := by decide +kernel
theorem dX10_weaveLetters_56 : decode cX10_weaveLetters 56 = .ok (.getfield 214, 3) := by decide +kernel
theorem dX10_weaveLetters_59 : decode cX10_weaveLetters 59 = .ok (.invokevirtual 157, 3) := by decide +kernel
theorem dX10_weaveLetters_62 : decode cX10_weaveLetters 62 = .ok (.istore 6, 2) := by decide +kernel
theorem dX10_weaveLetters_64 : decode cX10_weaveLetters 64 = .ok (.aload_n 0, 1) := by decide +kernel
theorem dX10_weaveLetters_65 : decode cX10_weaveLetters 65 = .ok (.getfield 12, 3) := by decide +kernel
theorem dX10_weaveLetters_68 : decode cX10_weaveLetters 68 = .ok (.aload_n 2, 1) := by decide +kernel
theorem dX10_weaveLetters_69 : decode cX10_weaveLetters 69 = .ok (.getfield 173, 3) := by decide +kernel
theorem dX10_weaveLetters_72 : decode cX10_weaveLetters 72 = .ok (.iload 5, 2) := by decide +kernel
theorem dX10_weaveLetters_74 : decode cX10_weaveLetters 74 = .ok (.iconst 1, 1) := by decide +kernel
theorem dX10_weaveLetters_75 : decode cX10_weaveLetters 75 = .ok (.iadd, 1) := by decide +kernel
theorem dX10_weaveLetters_76 : decode cX10_weaveLetters 76 = .ok (.invokestatic 153, 3) := by decide +kernel
theorem dX10_weaveLetters_79 : decode cX10_weaveLetters 79 = .ok (.iload 6, 2) := by decide +kernel
theorem dX10_weaveLetters_81 : decode cX10_weaveLetters 81 = .ok (.invokevirtual 60, 3) := by decide +kernel
theorem dX10_weaveLetters_84 : decode cX10_weaveLetters 84 = .ok (.iconst 0, 1) := by decide +kernel
theorem dX10_weaveLetters_85 : decode cX10_weaveLetters 85 = .ok (.istore 7, 2) := by decide +kernel
theorem dX10_weaveLetters_87 : decode cX10_weaveLetters 87 = .ok (.iload 7, 2) := by decide +kernel
theorem dX10_weaveLetters_89 : decode cX10_weaveLetters 89 = .ok (.iload 5, 2) := by decide +kernel
theorem dX10_weaveLetters_91 : decode cX10_weaveLetters 91 = .ok (.if_icmp .gt 30, 3) := by decide +kernel
theorem dX10_weaveLetters_94 : decode cX10_weaveLetters 94 = .ok (.aload_n 0, 1) := by decide +kernel
theorem dX10_weaveLetters_95 : decode cX10_weaveLetters 95 = .ok (.getfield 40, 3) := by decide +kernel
theorem dX10_weaveLetters_98 : decode cX10_weaveLetters 98 = .ok (.iload 7, 2) := by decide +kernel
theorem dX10_weaveLetters_100 : decode cX10_weaveLetters 100 = .ok (.aload_n 2, 1) := by decide +kernel
theorem dX10_weaveLetters_101 : decode cX10_weaveLetters 101 = .ok (.iconst 1, 1) := by decide +kernel
theorem dX10_weaveLetters_102 : decode cX10_weaveLetters 102 = .ok (.iload 7, 2) := by decide +kernel
theorem dX10_weaveLetters_104 : decode cX10_weaveLetters 104 = .ok (.i2l, 1) := by decide +kernel
theorem dX10_weaveLetters_105 : decode cX10_weaveLetters 105 = .ok (.lconst 0, 1) := by decide +kernel
theorem dX10_weaveLetters_106 : decode cX10_weaveLetters 106 = .ok (.lconst 0, 1) := by decide +kernel
theorem dX10_weaveLetters_107 : decode cX10_weaveLetters 107 = .ok (.aload_n 0, 1) := by decide +kernel
theorem dX10_weaveLetters_108 : decode cX10_weaveLetters 108 = .ok (.getfield 57, 3) := by decide +kernel
theorem dX10_weaveLetters_111 : decode cX10_weaveLetters 111 = .ok (.invokevirtual 218, 3) := by decide +kernel
theorem dX10_weaveLetters_114 : decode cX10_weaveLetters 114 = .ok (.iastore, 1) := by decide +kernel
theorem dX10_weaveLetters_115 : decode cX10_weaveLetters 115 = .ok (.iinc 7 1, 3) := by decide +kernel
theorem dX10_weaveLetters_118 : decode cX10_weaveLetters 118 = .ok (.goto (-31), 3) := by decide +kernel
theorem dX10_weaveLetters_121 : decode cX10_weaveLetters 121 = .ok (.aload_n 0, 1) := by decide +kernel
theorem dX10_weaveLetters_122 : decode cX10_weaveLetters 122 = .ok (.getfield 12, 3) := by decide +kernel
theorem dX10_weaveLetters_125 : decode cX10_weaveLetters 125 = .ok (.aload_n 0, 1) := by decide +kernel
theorem dX10_weaveLetters_126 : decode cX10_weaveLetters 126 = .ok (.aload_n 2, 1) := by decide +kernel
theorem dX10_weaveLetters_127 : decode cX10_weaveLetters 127 = .ok (.getfield 173, 3) := by decide +kernel
theorem dX10_weaveLetters_130 : decode cX10_weaveLetters 130 = .ok (.iload 5, 2) := by decide +kernel
theorem dX10_weaveLetters_132 : decode cX10_weaveLetters 132 = .ok (.invokevirtual 222, 3) := by decide +kernel
theorem dX10_weaveLetters_135 : decode cX10_weaveLetters 135 = .ok (.invokevirtual 63, 3) := by decide +kernel
theorem dX10_weaveLetters_138 : decode cX10_weaveLetters 138 = .ok (.pop, 1) := by decide +kernel
theorem dX10_weaveLetters_139 : decode cX10_weaveLetters 139 = .ok (.iconst 0, 1) := by decide +kernel
theorem dX10_weaveLetters_140 : decode cX10_weaveLetters 140 = .ok (.istore 7, 2) := by decide +kernel
theorem dX10_weaveLetters_142 : decode cX10_weaveLetters 142 = .ok (.iload 7, 2) := by decide +kernel
theorem dX10_weaveLetters_144 : decode cX10_weaveLetters 144 = .ok (.aload_n 0, 1) := by decide +kernel
theorem dX10_weaveLetters_145 : decode cX10_weaveLetters 145 = .ok (.getfield 12, 3) := by decide +kernel
theorem dX10_weaveLetters_148 : decode cX10_weaveLetters 148 = .ok (.getfield 67, 3) := by decide +kernel
theorem dX10_weaveLetters_151 : decode cX10_weaveLetters 151 = .ok (.if_icmp .ge 182, 3) := by decide +kernel
theorem dX10_weaveLetters_154 : decode cX10_weaveLetters 154 = .ok (.iload 7, 2) := by decide +kernel
theorem dX10_weaveLetters_156 : decode cX10_weaveLetters 156 = .ok (.sipush 3600, 3) := by decide +kernel
theorem dX10_weaveLetters_159 : decode cX10_weaveLetters 159 = .ok (.if_icmp .ge 174, 3) := by decide +kernel
theorem dX10_weaveLetters_162 : decode cX10_weaveLetters 162 = .ok (.aload_n 0, 1) := by decide +kernel
theorem dX10_weaveLetters_163 : decode cX10_weaveLetters 163 = .ok (.getfield 12, 3) := by decide +kernel
theorem dX10_weaveLetters_166 : decode cX10_weaveLetters 166 = .ok (.iload 7, 2) := by decide +kernel
theorem dX10_weaveLetters_168 : decode cX10_weaveLetters 168 = .ok (.invokevirtual 70, 3) := by decide +kernel
theorem dX10_weaveLetters_171 : decode cX10_weaveLetters 171 = .ok (.istore 8, 2) := by decide +kernel
theorem dX10_weaveLetters_173 : decode cX10_weaveLetters 173 = .ok (.aload_n 0, 1) := by decide +kernel
theorem dX10_weaveLetters_174 : decode cX10_weaveLetters 174 = .ok (.getfield 12, 3) := by decide +kernel
theorem dX10_weaveLetters_177 : decode cX10_weaveLetters 177 = .ok (.iload 7, 2) := by decide +kernel
theorem dX10_weaveLetters_179 : decode cX10_weaveLetters 179 = .ok (.aload_n 2, 1) := by decide +kernel
theorem dX10_weaveLetters_180 : decode cX10_weaveLetters 180 = .ok (.iload 8, 2) := by decide +kernel
theorem dX10_weaveLetters_182 : decode cX10_weaveLetters 182 = .ok (.aload_n 2, 1) := by decide +kernel
theorem dX10_weaveLetters_183 : decode cX10_weaveLetters 183 = .ok (.getfield 173, 3) := by decide +kernel
theorem dX10_weaveLetters_186 : decode cX10_weaveLetters 186 = .ok (.aload_n 1, 1) := by decide +kernel
theorem dX10_weaveLetters_187 : decode cX10_weaveLetters 187 = .ok (.getfield 207, 3) := by decide +kernel
theorem dX10_weaveLetters_190 : decode cX10_weaveLetters 190 = .ok (.invokestatic 225, 3) := by decide +kernel
theorem dX10_weaveLetters_193 : decode cX10_weaveLetters 193 = .ok (.invokevirtual 176, 3) := by decide +kernel
theorem dX10_weaveLetters_196 : decode cX10_weaveLetters 196 = .ok (.invokevirtual 77, 3) := by decide +kernel
theorem dX10_weaveLetters_199 : decode cX10_weaveLetters 199 = .ok (.iconst 0, 1) := by decide +kernel
theorem dX10_weaveLetters_200 : decode cX10_weaveLetters 200 = .ok (.istore 9, 2) := by decide +kernel
theorem dX10_weaveLetters_202 : decode cX10_weaveLetters 202 = .ok (.iload 9, 2) := by decide +kernel
theorem dX10_weaveLetters_204 : decode cX10_weaveLetters 204 = .ok (.iload 6, 2) := by decide +kernel
theorem dX10_weaveLetters_206 : decode cX10_weaveLetters 206 = .ok (.if_icmp .ge 121, 3) := by decide +kernel
theorem dX10_weaveLetters_209 : decode cX10_weaveLetters 209 = .ok (.aload_n 0, 1) := by decide +kernel
theorem dX10_weaveLetters_210 : decode cX10_weaveLetters 210 = .ok (.iload 9, 2) := by decide +kernel
theorem dX10_weaveLetters_212 : decode cX10_weaveLetters 212 = .ok (.aload_n 1, 1) := by decide +kernel
theorem dX10_weaveLetters_213 : decode cX10_weaveLetters 213 = .ok (.getfield 214, 3) := by decide +kernel
theorem dX10_weaveLetters_216 : decode cX10_weaveLetters 216 = .ok (.aload_n 1, 1) := by decide +kernel
theorem dX10_weaveLetters_217 : decode cX10_weaveLetters 217 = .ok (.getfield 215, 3) := by decide +kernel
theorem dX10_weaveLetters_220 : decode cX10_weaveLetters 220 = .ok (.invokevirtual 228, 3) := by decide +kernel
theorem dX10_weaveLetters_223 : decode cX10_weaveLetters 223 = .ok (.istore 10, 2) := by decide +kernel
theorem dX10_weaveLetters_225 : decode cX10_weaveLetters 225 = .ok (.iconst 0, 1) := by decide +kernel
theorem dX10_weaveLetters_226 : decode cX10_weaveLetters 226 = .ok (.istore 11, 2) := by decide +kernel
theorem dX10_weaveLetters_228 : decode cX10_weaveLetters 228 = .ok (.iload 11, 2) := by decide +kernel
theorem dX10_weaveLetters_230 : decode cX10_weaveLetters 230 = .ok (.iload 5, 2) := by decide +kernel
theorem dX10_weaveLetters_232 : decode cX10_weaveLetters 232 = .ok (.if_icmp .gt 61, 3) := by decide +kernel
theorem dX10_weaveLetters_235 : decode cX10_weaveLetters 235 = .ok (.aload_n 0, 1) := by decide +kernel
theorem dX10_weaveLetters_236 : decode cX10_weaveLetters 236 = .ok (.getfield 57, 3) := by decide +kernel
theorem dX10_weaveLetters_239 : decode cX10_weaveLetters 239 = .ok (.iconst 1, 1) := by decide +kernel
theorem dX10_weaveLetters_240 : decode cX10_weaveLetters 240 = .ok (.if_icmp .le 53, 3) := by decide +kernel
theorem dX10_weaveLetters_243 : decode cX10_weaveLetters 243 = .ok (.iload 8, 2) := by decide +kernel
theorem dX10_weaveLetters_245 : decode cX10_weaveLetters 245 = .ok (.aload_n 2, 1) := by decide +kernel
theorem dX10_weaveLetters_246 : decode cX10_weaveLetters 246 = .ok (.getfield 173, 3) := by decide +kernel
theorem dX10_weaveLetters_249 : decode cX10_weaveLetters 249 = .ok (.iload 10, 2) := by decide +kernel
theorem dX10_weaveLetters_251 : decode cX10_weaveLetters 251 = .ok (.iload 11, 2) := by decide +kernel
theorem dX10_weaveLetters_253 : decode cX10_weaveLetters 253 = .ok (.iadd, 1) := by decide +kernel
theorem dX10_weaveLetters_254 : decode cX10_weaveLetters 254 = .ok (.aload_n 0, 1) := by decide +kernel
theorem dX10_weaveLetters_255 : decode cX10_weaveLetters 255 = .ok (.getfield 57, 3) := by decide +kernel
theorem dX10_weaveLetters_258 : decode cX10_weaveLetters 258 = .ok (.idiv, 1) := by decide +kernel
theorem dX10_weaveLetters_259 : decode cX10_weaveLetters 259 = .ok (.invokestatic 225, 3) := by decide +kernel
theorem dX10_weaveLetters_262 : decode cX10_weaveLetters 262 = .ok (.istore 12, 2) := by decide +kernel
theorem dX10_weaveLetters_264 : decode cX10_weaveLetters 264 = .ok (.aload_n 0, 1) := by decide +kernel
theorem dX10_weaveLetters_265 : decode cX10_weaveLetters 265 = .ok (.getfield 40, 3) := by decide +kernel
theorem dX10_weaveLetters_268 : decode cX10_weaveLetters 268 = .ok (.iload 11, 2) := by decide +kernel
theorem dX10_weaveLetters_270 : decode cX10_weaveLetters 270 = .ok (.aload_n 2, 1) := by decide +kernel
theorem dX10_weaveLetters_271 : decode cX10_weaveLetters 271 = .ok (.iload 12, 2) := by decide +kernel
theorem dX10_weaveLetters_273 : decode cX10_weaveLetters 273 = .ok (.iload 10, 2) := by decide +kernel
theorem dX10_weaveLetters_275 : decode cX10_weaveLetters 275 = .ok (.iload 11, 2) := by decide +kernel
theorem dX10_weaveLetters_277 : decode cX10_weaveLetters 277 = .ok (.iadd, 1) := by decide +kernel
theorem dX10_weaveLetters_278 : decode cX10_weaveLetters 278 = .ok (.aload_n 0, 1) := by decide +kernel
theorem dX10_weaveLetters_279 : decode cX10_weaveLetters 279 = .ok (.getfield 57, 3) := by decide +kernel
theorem dX10_weaveLetters_282 : decode cX10_weaveLetters 282 = .ok (.irem, 1) := by decide +kernel
theorem dX10_weaveLetters_283 : decode cX10_weaveLetters 283 = .ok (.invokevirtual 182, 3) := by decide +kernel
theorem dX10_weaveLetters_286 : decode cX10_weaveLetters 286 = .ok (.iastore, 1) := by decide +kernel
theorem dX10_weaveLetters_287 : decode cX10_weaveLetters 287 = .ok (.iinc 11 1, 3) := by decide +kernel
theorem dX10_weaveLetters_290 : decode cX10_weaveLetters 290 = .ok (.goto (-62), 3) := by decide +kernel
theorem dX10_weaveLetters_293 : decode cX10_weaveLetters 293 = .ok (.aload_n 0, 1) := by decide +kernel
theorem dX10_weaveLetters_294 : decode cX10_weaveLetters 294 = .ok (.getfield 12, 3) := by decide +kernel
theorem dX10_weaveLetters_297 : decode cX10_weaveLetters 297 = .ok (.iload 7, 2) := by decide +kernel
theorem dX10_weaveLetters_299 : decode cX10_weaveLetters 299 = .ok (.iload 9, 2) := by decide +kernel
theorem dX10_weaveLetters_301 : decode cX10_weaveLetters 301 = .ok (.aload_n 0, 1) := by decide +kernel
theorem dX10_weaveLetters_302 : decode cX10_weaveLetters 302 = .ok (.getfield 12, 3) := by decide +kernel
theorem dX10_weaveLetters_305 : decode cX10_weaveLetters 305 = .ok (.aload_n 0, 1) := by decide +kernel
theorem dX10_weaveLetters_306 : decode cX10_weaveLetters 306 = .ok (.aload_n 2, 1) := by decide +kernel
theorem dX10_weaveLetters_307 : decode cX10_weaveLetters 307 = .ok (.getfield 173, 3) := by decide +kernel
theorem dX10_weaveLetters_310 : decode cX10_weaveLetters 310 = .ok (.iload 5, 2) := by decide +kernel
theorem dX10_weaveLetters_312 : decode cX10_weaveLetters 312 = .ok (.invokevirtual 222, 3) := by decide +kernel
theorem dX10_weaveLetters_315 : decode cX10_weaveLetters 315 = .ok (.invokevirtual 63, 3) := by decide +kernel
theorem dX10_weaveLetters_318 : decode cX10_weaveLetters 318 = .ok (.invokevirtual 80, 3) := by decide +kernel
theorem dX10_weaveLetters_321 : decode cX10_weaveLetters 321 = .ok (.iinc 9 1, 3) := by decide +kernel
theorem dX10_weaveLetters_324 : decode cX10_weaveLetters 324 = .ok (.goto (-122), 3) := by decide +kernel
theorem dX10_weaveLetters_327 : decode cX10_weaveLetters 327 = .ok (.iinc 7 1, 3) := by decide +kernel
theorem dX10_weaveLetters_330 : decode cX10_weaveLetters 330 = .ok (.goto (-188), 3) := by decide +kernel
theorem dX10_weaveLetters_333 : decode cX10_weaveLetters 333 = .ok (.aload_n 0, 1) := by decide +kernel
theorem dX10_weaveLetters_334 : decode cX10_weaveLetters 334 = .ok (.getfield 12, 3) := by decide +kernel
theorem dX10_weaveLetters_337 : decode cX10_weaveLetters 337 = .ok (.aload_n 3, 1) := by decide +kernel
theorem dX10_weaveLetters_338 : decode cX10_weaveLetters 338 = .ok (.bipush 40, 2) := by decide +kernel
theorem dX10_weaveLetters_340 : decode cX10_weaveLetters 340 = .ok (.invokevirtual 84, 3) := by decide +kernel
theorem dX10_weaveLetters_343 : decode cX10_weaveLetters 343 = .ok (.ireturn, 1) := by decide +kernel
theorem dX10_keyOfPlaces_0 : decode cX10_keyOfPlaces 0 = .ok (.iconst 0, 1) := by decide +kernel
theorem dX10_keyOfPlaces_1 : decode cX10_keyOfPlaces 1 = .ok (.istore_n 3, 1) := by decide +kernel
theorem dX10_keyOfPlaces_2 : decode cX10_keyOfPlaces 2 = .ok (.iload_n 2, 1) := by decide +kernel
theorem dX10_keyOfPlaces_3 : decode cX10_keyOfPlaces 3 = .ok (.aload_n 0, 1) := by decide +kernel
theorem dX10_keyOfPlaces_4 : decode cX10_keyOfPlaces 4 = .ok (.getfield 40, 3) := by decide +kernel
theorem dX10_keyOfPlaces_7 : decode cX10_keyOfPlaces 7 = .ok (.arraylength, 1) := by decide +kernel
theorem dX10_keyOfPlaces_8 : decode cX10_keyOfPlaces 8 = .ok (.iconst 1, 1) := by decide +kernel
theorem dX10_keyOfPlaces_9 : decode cX10_keyOfPlaces 9 = .ok (.isub, 1) := by decide +kernel
theorem dX10_keyOfPlaces_10 : decode cX10_keyOfPlaces 10 = .ok (.invokestatic 164, 3) := by decide +kernel
theorem dX10_keyOfPlaces_13 : decode cX10_keyOfPlaces 13 = .ok (.istore 4, 2) := by decide +kernel
theorem dX10_keyOfPlaces_15 : decode cX10_keyOfPlaces 15 = .ok (.iload 4, 2) := by decide +kernel
theorem dX10_keyOfPlaces_17 : decode cX10_keyOfPlaces 17 = .ok (.ifCond .lt 21, 3) := by decide +kernel
theorem dX10_keyOfPlaces_20 : decode cX10_keyOfPlaces 20 = .ok (.iload_n 3, 1) := by decide +kernel
theorem dX10_keyOfPlaces_21 : decode cX10_keyOfPlaces 21 = .ok (.iload_n 1, 1) := by decide +kernel
theorem dX10_keyOfPlaces_22 : decode cX10_keyOfPlaces 22 = .ok (.imul, 1) := by decide +kernel
theorem dX10_keyOfPlaces_23 : decode cX10_keyOfPlaces 23 = .ok (.aload_n 0, 1) := by decide +kernel
theorem dX10_keyOfPlaces_24 : decode cX10_keyOfPlaces 24 = .ok (.getfield 40, 3) := by decide +kernel
theorem dX10_keyOfPlaces_27 : decode cX10_keyOfPlaces 27 = .ok (.iload 4, 2) := by decide +kernel
theorem dX10_keyOfPlaces_29 : decode cX10_keyOfPlaces 29 = .ok (.iaload, 1) := by decide +kernel
theorem dX10_keyOfPlaces_30 : decode cX10_keyOfPlaces 30 = .ok (.iadd, 1) := by decide +kernel
theorem dX10_keyOfPlaces_31 : decode cX10_keyOfPlaces 31 = .ok (.istore_n 3, 1) := by decide +kernel
theorem dX10_keyOfPlaces_32 : decode cX10_keyOfPlaces 32 = .ok (.iinc 4 (-1), 3) := by decide +kernel
theorem dX10_keyOfPlaces_35 : decode cX10_keyOfPlaces 35 = .ok (.goto (-20), 3) := by decide +kernel
theorem dX10_keyOfPlaces_38 : decode cX10_keyOfPlaces 38 = .ok (.iload_n 3, 1) := by decide +kernel
theorem dX10_keyOfPlaces_39 : decode cX10_keyOfPlaces 39 = .ok (.ireturn, 1) := by decide +kernel
theorem dX10_placeIn_0 : decode cX10_placeIn 0 = .ok (.iload_n 0, 1) := by decide +kernel
theorem dX10_placeIn_1 : decode cX10_placeIn 1 = .ok (.istore_n 3, 1) := by decide +kernel
theorem dX10_placeIn_2 : decode cX10_placeIn 2 = .ok (.iconst 0, 1) := by decide +kernel
theorem dX10_placeIn_3 : decode cX10_placeIn 3 = .ok (.istore 4, 2) := by decide +kernel
theorem dX10_placeIn_5 : decode cX10_placeIn 5 = .ok (.iload 4, 2) := by decide +kernel
theorem dX10_placeIn_7 : decode cX10_placeIn 7 = .ok (.iload_n 2, 1) := by decide +kernel
theorem dX10_placeIn_8 : decode cX10_placeIn 8 = .ok (.if_icmp .ge 24, 3) := by decide +kernel
theorem dX10_placeIn_11 : decode cX10_placeIn 11 = .ok (.iload 4, 2) := by decide +kernel
theorem dX10_placeIn_13 : decode cX10_placeIn 13 = .ok (.bipush 8, 2) := by decide +kernel
theorem dX10_placeIn_15 : decode cX10_placeIn 15 = .ok (.if_icmp .ge 17, 3) := by decide +kernel
theorem dX10_placeIn_18 : decode cX10_placeIn 18 = .ok (.iload_n 1, 1) := by decide +kernel
theorem dX10_placeIn_19 : decode cX10_placeIn 19 = .ok (.ifCond .le 13, 3) := by decide +kernel
theorem dX10_placeIn_22 : decode cX10_placeIn 22 = .ok (.iload_n 3, 1) := by decide +kernel
theorem dX10_placeIn_23 : decode cX10_placeIn 23 = .ok (.iload_n 1, 1) := by decide +kernel
theorem dX10_placeIn_24 : decode cX10_placeIn 24 = .ok (.idiv, 1) := by decide +kernel
theorem dX10_placeIn_25 : decode cX10_placeIn 25 = .ok (.istore_n 3, 1) := by decide +kernel
theorem dX10_placeIn_26 : decode cX10_placeIn 26 = .ok (.iinc 4 1, 3) := by decide +kernel
theorem dX10_placeIn_29 : decode cX10_placeIn 29 = .ok (.goto (-24), 3) := by decide +kernel
theorem dX10_placeIn_32 : decode cX10_placeIn 32 = .ok (.iload_n 1, 1) := by decide +kernel
theorem dX10_placeIn_33 : decode cX10_placeIn 33 = .ok (.ifCond .le 9, 3) := by decide +kernel
theorem dX10_placeIn_36 : decode cX10_placeIn 36 = .ok (.iload_n 3, 1) := by decide +kernel
theorem dX10_placeIn_37 : decode cX10_placeIn 37 = .ok (.iload_n 1, 1) := by decide +kernel
theorem dX10_placeIn_38 : decode cX10_placeIn 38 = .ok (.irem, 1) := by decide +kernel
theorem dX10_placeIn_39 : decode cX10_placeIn 39 = .ok (.goto 4, 3) := by decide +kernel
theorem dX10_placeIn_42 : decode cX10_placeIn 42 = .ok (.iconst 0, 1) := by decide +kernel
theorem dX10_placeIn_43 : decode cX10_placeIn 43 = .ok (.ireturn, 1) := by decide +kernel
theorem dX10_weaveSums_0 : decode cX10_weaveSums 0 = .ok (.aload_n 1, 1) := by decide +kernel
theorem dX10_weaveSums_1 : decode cX10_weaveSums 1 = .ok (.getfield 188, 3) := by decide +kernel
theorem dX10_weaveSums_4 : decode cX10_weaveSums 4 = .ok (.getfield 207, 3) := by decide +kernel
theorem dX10_weaveSums_7 : decode cX10_weaveSums 7 = .ok (.aload_n 1, 1) := by decide +kernel
theorem dX10_weaveSums_8 : decode cX10_weaveSums 8 = .ok (.getfield 192, 3) := by decide +kernel
theorem dX10_weaveSums_11 : decode cX10_weaveSums 11 = .ok (.getfield 207, 3) := by decide +kernel
theorem dX10_weaveSums_14 : decode cX10_weaveSums 14 = .ok (.isub, 1) := by decide +kernel
theorem dX10_weaveSums_15 : decode cX10_weaveSums 15 = .ok (.istore_n 2, 1) := by decide +kernel
theorem dX10_weaveSums_16 : decode cX10_weaveSums 16 = .ok (.iconst 0, 1) := by decide +kernel
theorem dX10_weaveSums_17 : decode cX10_weaveSums 17 = .ok (.istore_n 3, 1) := by decide +kernel
theorem dX10_weaveSums_18 : decode cX10_weaveSums 18 = .ok (.iconst 0, 1) := by decide +kernel
theorem dX10_weaveSums_19 : decode cX10_weaveSums 19 = .ok (.istore 4, 2) := by decide +kernel
theorem dX10_weaveSums_21 : decode cX10_weaveSums 21 = .ok (.iconst 0, 1) := by decide +kernel
theorem dX10_weaveSums_22 : decode cX10_weaveSums 22 = .ok (.istore 5, 2) := by decide +kernel
theorem dX10_weaveSums_24 : decode cX10_weaveSums 24 = .ok (.iload 5, 2) := by decide +kernel
theorem dX10_weaveSums_26 : decode cX10_weaveSums 26 = .ok (.bipush 8, 2) := by decide +kernel
theorem dX10_weaveSums_28 : decode cX10_weaveSums 28 = .ok (.if_icmp .ge 67, 3) := by decide +kernel
theorem dX10_weaveSums_31 : decode cX10_weaveSums 31 = .ok (.aload_n 0, 1) := by decide +kernel
theorem dX10_weaveSums_32 : decode cX10_weaveSums 32 = .ok (.getfield 37, 3) := by decide +kernel
theorem dX10_weaveSums_35 : decode cX10_weaveSums 35 = .ok (.iload 5, 2) := by decide +kernel
theorem dX10_weaveSums_37 : decode cX10_weaveSums 37 = .ok (.aload_n 1, 1) := by decide +kernel
theorem dX10_weaveSums_38 : decode cX10_weaveSums 38 = .ok (.getfield 188, 3) := by decide +kernel
theorem dX10_weaveSums_41 : decode cX10_weaveSums 41 = .ok (.getfield 215, 3) := by decide +kernel
theorem dX10_weaveSums_44 : decode cX10_weaveSums 44 = .ok (.iload 5, 2) := by decide +kernel
theorem dX10_weaveSums_46 : decode cX10_weaveSums 46 = .ok (.iaload, 1) := by decide +kernel
theorem dX10_weaveSums_47 : decode cX10_weaveSums 47 = .ok (.aload_n 1, 1) := by decide +kernel
theorem dX10_weaveSums_48 : decode cX10_weaveSums 48 = .ok (.getfield 192, 3) := by decide +kernel
theorem dX10_weaveSums_51 : decode cX10_weaveSums 51 = .ok (.getfield 215, 3) := by decide +kernel
theorem dX10_weaveSums_54 : decode cX10_weaveSums 54 = .ok (.iload 5, 2) := by decide +kernel
theorem dX10_weaveSums_56 : decode cX10_weaveSums 56 = .ok (.iaload, 1) := by decide +kernel
theorem dX10_weaveSums_57 : decode cX10_weaveSums 57 = .ok (.isub, 1) := by decide +kernel
theorem dX10_weaveSums_58 : decode cX10_weaveSums 58 = .ok (.iastore, 1) := by decide +kernel
theorem dX10_weaveSums_59 : decode cX10_weaveSums 59 = .ok (.iload_n 3, 1) := by decide +kernel
theorem dX10_weaveSums_60 : decode cX10_weaveSums 60 = .ok (.aload_n 0, 1) := by decide +kernel
theorem dX10_weaveSums_61 : decode cX10_weaveSums 61 = .ok (.getfield 37, 3) := by decide +kernel
theorem dX10_weaveSums_64 : decode cX10_weaveSums 64 = .ok (.iload 5, 2) := by decide +kernel
theorem dX10_weaveSums_66 : decode cX10_weaveSums 66 = .ok (.iaload, 1) := by decide +kernel
theorem dX10_weaveSums_67 : decode cX10_weaveSums 67 = .ok (.iconst 0, 1) := by decide +kernel
theorem dX10_weaveSums_68 : decode cX10_weaveSums 68 = .ok (.invokestatic 185, 3) := by decide +kernel
theorem dX10_weaveSums_71 : decode cX10_weaveSums 71 = .ok (.isub, 1) := by decide +kernel
theorem dX10_weaveSums_72 : decode cX10_weaveSums 72 = .ok (.istore_n 3, 1) := by decide +kernel
theorem dX10_weaveSums_73 : decode cX10_weaveSums 73 = .ok (.iload 4, 2) := by decide +kernel
theorem dX10_weaveSums_75 : decode cX10_weaveSums 75 = .ok (.aload_n 0, 1) := by decide +kernel
theorem dX10_weaveSums_76 : decode cX10_weaveSums 76 = .ok (.getfield 37, 3) := by decide +kernel
theorem dX10_weaveSums_79 : decode cX10_weaveSums 79 = .ok (.iload 5, 2) := by decide +kernel
theorem dX10_weaveSums_81 : decode cX10_weaveSums 81 = .ok (.iaload, 1) := by decide +kernel
theorem dX10_weaveSums_82 : decode cX10_weaveSums 82 = .ok (.iconst 0, 1) := by decide +kernel
theorem dX10_weaveSums_83 : decode cX10_weaveSums 83 = .ok (.invokestatic 164, 3) := by decide +kernel
theorem dX10_weaveSums_86 : decode cX10_weaveSums 86 = .ok (.isub, 1) := by decide +kernel
theorem dX10_weaveSums_87 : decode cX10_weaveSums 87 = .ok (.istore 4, 2) := by decide +kernel
theorem dX10_weaveSums_89 : decode cX10_weaveSums 89 = .ok (.iinc 5 1, 3) := by decide +kernel
theorem dX10_weaveSums_92 : decode cX10_weaveSums 92 = .ok (.goto (-68), 3) := by decide +kernel
theorem dX10_weaveSums_95 : decode cX10_weaveSums 95 = .ok (.iload_n 3, 1) := by decide +kernel
theorem dX10_weaveSums_96 : decode cX10_weaveSums 96 = .ok (.iconst (-1), 1) := by decide +kernel
theorem dX10_weaveSums_97 : decode cX10_weaveSums 97 = .ok (.iload_n 2, 1) := by decide +kernel
theorem dX10_weaveSums_98 : decode cX10_weaveSums 98 = .ok (.isub, 1) := by decide +kernel
theorem dX10_weaveSums_99 : decode cX10_weaveSums 99 = .ok (.invokestatic 164, 3) := by decide +kernel
theorem dX10_weaveSums_102 : decode cX10_weaveSums 102 = .ok (.istore_n 3, 1) := by decide +kernel
theorem dX10_weaveSums_103 : decode cX10_weaveSums 103 = .ok (.iload 4, 2) := by decide +kernel
theorem dX10_weaveSums_105 : decode cX10_weaveSums 105 = .ok (.iconst 1, 1) := by decide +kernel
theorem dX10_weaveSums_106 : decode cX10_weaveSums 106 = .ok (.iload_n 2, 1) := by decide +kernel
theorem dX10_weaveSums_107 : decode cX10_weaveSums 107 = .ok (.isub, 1) := by decide +kernel
theorem dX10_weaveSums_108 : decode cX10_weaveSums 108 = .ok (.invokestatic 185, 3) := by decide +kernel
theorem dX10_weaveSums_111 : decode cX10_weaveSums 111 = .ok (.istore 4, 2) := by decide +kernel
theorem dX10_weaveSums_113 : decode cX10_weaveSums 113 = .ok (.aload_n 0, 1) := by decide +kernel
theorem dX10_weaveSums_114 : decode cX10_weaveSums 114 = .ok (.aload_n 1, 1) := by decide +kernel
theorem dX10_weaveSums_115 : decode cX10_weaveSums 115 = .ok (.getfield 145, 3) := by decide +kernel
theorem dX10_weaveSums_118 : decode cX10_weaveSums 118 = .ok (.invokevirtual 157, 3) := by decide +kernel
theorem dX10_weaveSums_121 : decode cX10_weaveSums 121 = .ok (.bipush 27, 2) := by decide +kernel
theorem dX10_weaveSums_123 : decode cX10_weaveSums 123 = .ok (.invokestatic 164, 3) := by decide +kernel
theorem dX10_weaveSums_126 : decode cX10_weaveSums 126 = .ok (.istore 5, 2) := by decide +kernel
theorem dX10_weaveSums_128 : decode cX10_weaveSums 128 = .ok (.aload_n 0, 1) := by decide +kernel
theorem dX10_weaveSums_129 : decode cX10_weaveSums 129 = .ok (.getfield 12, 3) := by decide +kernel
theorem dX10_weaveSums_132 : decode cX10_weaveSums 132 = .ok (.iload 4, 2) := by decide +kernel
theorem dX10_weaveSums_134 : decode cX10_weaveSums 134 = .ok (.iload_n 3, 1) := by decide +kernel
theorem dX10_weaveSums_135 : decode cX10_weaveSums 135 = .ok (.isub, 1) := by decide +kernel
theorem dX10_weaveSums_136 : decode cX10_weaveSums 136 = .ok (.iconst 1, 1) := by decide +kernel
theorem dX10_weaveSums_137 : decode cX10_weaveSums 137 = .ok (.iadd, 1) := by decide +kernel
theorem dX10_weaveSums_138 : decode cX10_weaveSums 138 = .ok (.iload 5, 2) := by decide +kernel
theorem dX10_weaveSums_140 : decode cX10_weaveSums 140 = .ok (.invokevirtual 60, 3) := by decide +kernel
theorem dX10_weaveSums_143 : decode cX10_weaveSums 143 = .ok (.aload_n 0, 1) := by decide +kernel
theorem dX10_weaveSums_144 : decode cX10_weaveSums 144 = .ok (.getfield 12, 3) := by decide +kernel
theorem dX10_weaveSums_147 : decode cX10_weaveSums 147 = .ok (.iload_n 3, 1) := by decide +kernel
theorem dX10_weaveSums_148 : decode cX10_weaveSums 148 = .ok (.ineg, 1) := by decide +kernel
theorem dX10_weaveSums_149 : decode cX10_weaveSums 149 = .ok (.invokevirtual 63, 3) := by decide +kernel
theorem dX10_weaveSums_152 : decode cX10_weaveSums 152 = .ok (.pop, 1) := by decide +kernel
theorem dX10_weaveSums_153 : decode cX10_weaveSums 153 = .ok (.iconst 0, 1) := by decide +kernel
theorem dX10_weaveSums_154 : decode cX10_weaveSums 154 = .ok (.istore 6, 2) := by decide +kernel
theorem dX10_weaveSums_156 : decode cX10_weaveSums 156 = .ok (.iload 6, 2) := by decide +kernel
theorem dX10_weaveSums_158 : decode cX10_weaveSums 158 = .ok (.aload_n 0, 1) := by decide +kernel
theorem dX10_weaveSums_159 : decode cX10_weaveSums 159 = .ok (.getfield 12, 3) := by decide +kernel
theorem dX10_weaveSums_162 : decode cX10_weaveSums 162 = .ok (.getfield 67, 3) := by decide +kernel
theorem dX10_weaveSums_165 : decode cX10_weaveSums 165 = .ok (.if_icmp .ge 121, 3) := by decide +kernel
theorem dX10_weaveSums_168 : decode cX10_weaveSums 168 = .ok (.iload 6, 2) := by decide +kernel
theorem dX10_weaveSums_170 : decode cX10_weaveSums 170 = .ok (.sipush 3600, 3) := by decide +kernel
theorem dX10_weaveSums_173 : decode cX10_weaveSums 173 = .ok (.if_icmp .ge 113, 3) := by decide +kernel
theorem dX10_weaveSums_176 : decode cX10_weaveSums 176 = .ok (.aload_n 0, 1) := by decide +kernel
theorem dX10_weaveSums_177 : decode cX10_weaveSums 177 = .ok (.getfield 12, 3) := by decide +kernel
theorem dX10_weaveSums_180 : decode cX10_weaveSums 180 = .ok (.iload 6, 2) := by decide +kernel
theorem dX10_weaveSums_182 : decode cX10_weaveSums 182 = .ok (.invokevirtual 70, 3) := by decide +kernel
theorem dX10_weaveSums_185 : decode cX10_weaveSums 185 = .ok (.iload_n 3, 1) := by decide +kernel
theorem dX10_weaveSums_186 : decode cX10_weaveSums 186 = .ok (.iadd, 1) := by decide +kernel
theorem dX10_weaveSums_187 : decode cX10_weaveSums 187 = .ok (.istore 7, 2) := by decide +kernel
theorem dX10_weaveSums_189 : decode cX10_weaveSums 189 = .ok (.aload_n 0, 1) := by decide +kernel
theorem dX10_weaveSums_190 : decode cX10_weaveSums 190 = .ok (.getfield 12, 3) := by decide +kernel
theorem dX10_weaveSums_193 : decode cX10_weaveSums 193 = .ok (.iload 6, 2) := by decide +kernel
theorem dX10_weaveSums_195 : decode cX10_weaveSums 195 = .ok (.aload_n 1, 1) := by decide +kernel
theorem dX10_weaveSums_196 : decode cX10_weaveSums 196 = .ok (.getfield 232, 3) := by decide +kernel
theorem dX10_weaveSums_199 : decode cX10_weaveSums 199 = .ok (.iload 7, 2) := by decide +kernel
theorem dX10_weaveSums_201 : decode cX10_weaveSums 201 = .ok (.iload_n 2, 1) := by decide +kernel
theorem dX10_weaveSums_202 : decode cX10_weaveSums 202 = .ok (.iadd, 1) := by decide +kernel
theorem dX10_weaveSums_203 : decode cX10_weaveSums 203 = .ok (.invokestatic 235, 3) := by decide +kernel
theorem dX10_weaveSums_206 : decode cX10_weaveSums 206 = .ok (.invokevirtual 77, 3) := by decide +kernel
theorem dX10_weaveSums_209 : decode cX10_weaveSums 209 = .ok (.iconst 0, 1) := by decide +kernel
theorem dX10_weaveSums_210 : decode cX10_weaveSums 210 = .ok (.istore 8, 2) := by decide +kernel
theorem dX10_weaveSums_212 : decode cX10_weaveSums 212 = .ok (.iload 8, 2) := by decide +kernel
theorem dX10_weaveSums_214 : decode cX10_weaveSums 214 = .ok (.iload 5, 2) := by decide +kernel
theorem dX10_weaveSums_216 : decode cX10_weaveSums 216 = .ok (.if_icmp .ge 64, 3) := by decide +kernel
theorem dX10_weaveSums_219 : decode cX10_weaveSums 219 = .ok (.aload_n 0, 1) := by decide +kernel
theorem dX10_weaveSums_220 : decode cX10_weaveSums 220 = .ok (.getfield 57, 3) := by decide +kernel
theorem dX10_weaveSums_223 : decode cX10_weaveSums 223 = .ok (.iload 7, 2) := by decide +kernel
theorem dX10_weaveSums_225 : decode cX10_weaveSums 225 = .ok (.imul, 1) := by decide +kernel
theorem dX10_weaveSums_226 : decode cX10_weaveSums 226 = .ok (.aload_n 0, 1) := by decide +kernel
theorem dX10_weaveSums_227 : decode cX10_weaveSums 227 = .ok (.iload 8, 2) := by decide +kernel
theorem dX10_weaveSums_229 : decode cX10_weaveSums 229 = .ok (.aload_n 1, 1) := by decide +kernel
theorem dX10_weaveSums_230 : decode cX10_weaveSums 230 = .ok (.getfield 145, 3) := by decide +kernel
theorem dX10_weaveSums_233 : decode cX10_weaveSums 233 = .ok (.aload_n 0, 1) := by decide +kernel
theorem dX10_weaveSums_234 : decode cX10_weaveSums 234 = .ok (.getfield 37, 3) := by decide +kernel
theorem dX10_weaveSums_237 : decode cX10_weaveSums 237 = .ok (.invokevirtual 228, 3) := by decide +kernel
theorem dX10_weaveSums_240 : decode cX10_weaveSums 240 = .ok (.iadd, 1) := by decide +kernel
theorem dX10_weaveSums_241 : decode cX10_weaveSums 241 = .ok (.istore 9, 2) := by decide +kernel
theorem dX10_weaveSums_243 : decode cX10_weaveSums 243 = .ok (.aload_n 0, 1) := by decide +kernel
theorem dX10_weaveSums_244 : decode cX10_weaveSums 244 = .ok (.getfield 12, 3) := by decide +kernel
theorem dX10_weaveSums_247 : decode cX10_weaveSums 247 = .ok (.iload 6, 2) := by decide +kernel
theorem dX10_weaveSums_249 : decode cX10_weaveSums 249 = .ok (.iload 8, 2) := by decide +kernel
theorem dX10_weaveSums_251 : decode cX10_weaveSums 251 = .ok (.aload_n 0, 1) := by decide +kernel
theorem dX10_weaveSums_252 : decode cX10_weaveSums 252 = .ok (.getfield 12, 3) := by decide +kernel
theorem dX10_weaveSums_255 : decode cX10_weaveSums 255 = .ok (.iload_n 3, 1) := by decide +kernel
theorem dX10_weaveSums_256 : decode cX10_weaveSums 256 = .ok (.iload 4, 2) := by decide +kernel
theorem dX10_weaveSums_258 : decode cX10_weaveSums 258 = .ok (.iload 9, 2) := by decide +kernel
theorem dX10_weaveSums_260 : decode cX10_weaveSums 260 = .ok (.invokestatic 164, 3) := by decide +kernel
theorem dX10_weaveSums_263 : decode cX10_weaveSums 263 = .ok (.invokestatic 185, 3) := by decide +kernel
theorem dX10_weaveSums_266 : decode cX10_weaveSums 266 = .ok (.iload_n 3, 1) := by decide +kernel
theorem dX10_weaveSums_267 : decode cX10_weaveSums 267 = .ok (.isub, 1) := by decide +kernel
theorem dX10_weaveSums_268 : decode cX10_weaveSums 268 = .ok (.invokevirtual 63, 3) := by decide +kernel
theorem dX10_weaveSums_271 : decode cX10_weaveSums 271 = .ok (.invokevirtual 80, 3) := by decide +kernel
theorem dX10_weaveSums_274 : decode cX10_weaveSums 274 = .ok (.iinc 8 1, 3) := by decide +kernel
theorem dX10_weaveSums_277 : decode cX10_weaveSums 277 = .ok (.goto (-65), 3) := by decide +kernel
theorem dX10_weaveSums_280 : decode cX10_weaveSums 280 = .ok (.iinc 6 1, 3) := by decide +kernel
theorem dX10_weaveSums_283 : decode cX10_weaveSums 283 = .ok (.goto (-127), 3) := by decide +kernel
theorem dX10_weaveSums_286 : decode cX10_weaveSums 286 = .ok (.aload_n 0, 1) := by decide +kernel
theorem dX10_weaveSums_287 : decode cX10_weaveSums 287 = .ok (.getfield 12, 3) := by decide +kernel
theorem dX10_weaveSums_290 : decode cX10_weaveSums 290 = .ok (.aload_n 1, 1) := by decide +kernel
theorem dX10_weaveSums_291 : decode cX10_weaveSums 291 = .ok (.getfield 123, 3) := by decide +kernel
theorem dX10_weaveSums_294 : decode cX10_weaveSums 294 = .ok (.bipush 40, 2) := by decide +kernel
theorem dX10_weaveSums_296 : decode cX10_weaveSums 296 = .ok (.invokevirtual 84, 3) := by decide +kernel
theorem dX10_weaveSums_299 : decode cX10_weaveSums 299 = .ok (.ireturn, 1) := by decide +kernel
theorem dX10_compares_0 : decode cX10_compares 0 = .ok (.iload_n 0, 1) := by decide +kernel
theorem dX10_compares_1 : decode cX10_compares 1 = .ok (.bipush 16, 2) := by decide +kernel
theorem dX10_compares_3 : decode cX10_compares 3 = .ok (.if_icmp .ne 15, 3) := by decide +kernel
theorem dX10_compares_6 : decode cX10_compares 6 = .ok (.iload_n 1, 1) := by decide +kernel
theorem dX10_compares_7 : decode cX10_compares 7 = .ok (.ifCond .ne 7, 3) := by decide +kernel
theorem dX10_compares_10 : decode cX10_compares 10 = .ok (.iconst 1, 1) := by decide +kernel
theorem dX10_compares_11 : decode cX10_compares 11 = .ok (.goto 34, 3) := by decide +kernel
theorem dX10_compares_14 : decode cX10_compares 14 = .ok (.iconst 0, 1) := by decide +kernel
theorem dX10_compares_15 : decode cX10_compares 15 = .ok (.goto 30, 3) := by decide +kernel
theorem dX10_compares_18 : decode cX10_compares 18 = .ok (.iload_n 0, 1) := by decide +kernel
theorem dX10_compares_19 : decode cX10_compares 19 = .ok (.bipush 17, 2) := by decide +kernel
theorem dX10_compares_21 : decode cX10_compares 21 = .ok (.if_icmp .ne 15, 3) := by decide +kernel
theorem dX10_compares_24 : decode cX10_compares 24 = .ok (.iload_n 1, 1) := by decide +kernel
theorem dX10_compares_25 : decode cX10_compares 25 = .ok (.ifCond .ge 7, 3) := by decide +kernel
theorem dX10_compares_28 : decode cX10_compares 28 = .ok (.iconst 1, 1) := by decide +kernel
theorem dX10_compares_29 : decode cX10_compares 29 = .ok (.goto 16, 3) := by decide +kernel
theorem dX10_compares_32 : decode cX10_compares 32 = .ok (.iconst 0, 1) := by decide +kernel
theorem dX10_compares_33 : decode cX10_compares 33 = .ok (.goto 12, 3) := by decide +kernel
theorem dX10_compares_36 : decode cX10_compares 36 = .ok (.iload_n 1, 1) := by decide +kernel
theorem dX10_compares_37 : decode cX10_compares 37 = .ok (.ifCond .gt 7, 3) := by decide +kernel
theorem dX10_compares_40 : decode cX10_compares 40 = .ok (.iconst 1, 1) := by decide +kernel
theorem dX10_compares_41 : decode cX10_compares 41 = .ok (.goto 4, 3) := by decide +kernel
theorem dX10_compares_44 : decode cX10_compares 44 = .ok (.iconst 0, 1) := by decide +kernel
theorem dX10_compares_45 : decode cX10_compares 45 = .ok (.istore_n 2, 1) := by decide +kernel
theorem dX10_compares_46 : decode cX10_compares 46 = .ok (.iload_n 2, 1) := by decide +kernel
theorem dX10_compares_47 : decode cX10_compares 47 = .ok (.ifCond .eq 7, 3) := by decide +kernel
theorem dX10_compares_50 : decode cX10_compares 50 = .ok (.iconst 1, 1) := by decide +kernel
theorem dX10_compares_51 : decode cX10_compares 51 = .ok (.goto 4, 3) := by decide +kernel
theorem dX10_compares_54 : decode cX10_compares 54 = .ok (.iconst 0, 1) := by decide +kernel
theorem dX10_compares_55 : decode cX10_compares 55 = .ok (.ireturn, 1) := by decide +kernel
theorem dX10_weaveBound_0 : decode cX10_weaveBound 0 = .ok (.aload_n 1, 1) := by decide +kernel
theorem dX10_weaveBound_1 : decode cX10_weaveBound 1 = .ok (.getfield 145, 3) := by decide +kernel
theorem dX10_weaveBound_4 : decode cX10_weaveBound 4 = .ok (.aload_n 2, 1) := by decide +kernel
theorem dX10_weaveBound_5 : decode cX10_weaveBound 5 = .ok (.getfield 145, 3) := by decide +kernel
theorem dX10_weaveBound_8 : decode cX10_weaveBound 8 = .ok (.if_icmp .ne 16, 3) := by decide +kernel
theorem dX10_weaveBound_11 : decode cX10_weaveBound 11 = .ok (.aload_n 1, 1) := by decide +kernel
theorem dX10_weaveBound_12 : decode cX10_weaveBound 12 = .ok (.getfield 123, 3) := by decide +kernel
theorem dX10_weaveBound_15 : decode cX10_weaveBound 15 = .ok (.aload_n 2, 1) := by decide +kernel
theorem dX10_weaveBound_16 : decode cX10_weaveBound 16 = .ok (.getfield 123, 3) := by decide +kernel
theorem dX10_weaveBound_19 : decode cX10_weaveBound 19 = .ok (.invokevirtual 124, 3) := by decide +kernel
theorem dX10_weaveBound_22 : decode cX10_weaveBound 22 = .ok (.iconst 1, 1) := by decide +kernel
theorem dX10_weaveBound_23 : decode cX10_weaveBound 23 = .ok (.ireturn, 1) := by decide +kernel
theorem dX10_weaveBound_24 : decode cX10_weaveBound 24 = .ok (.aload_n 2, 1) := by decide +kernel
theorem dX10_weaveBound_25 : decode cX10_weaveBound 25 = .ok (.getfield 123, 3) := by decide +kernel
theorem dX10_weaveBound_28 : decode cX10_weaveBound 28 = .ok (.astore_n 3, 1) := by decide +kernel
theorem dX10_weaveBound_29 : decode cX10_weaveBound 29 = .ok (.aload_n 0, 1) := by decide +kernel
theorem dX10_weaveBound_30 : decode cX10_weaveBound 30 = .ok (.aload_n 0, 1) := by decide +kernel
theorem dX10_weaveBound_31 : decode cX10_weaveBound 31 = .ok (.getfield 30, 3) := by decide +kernel
theorem dX10_weaveBound_34 : decode cX10_weaveBound 34 = .ok (.aload_n 2, 1) := by decide +kernel
theorem dX10_weaveBound_35 : decode cX10_weaveBound 35 = .ok (.getfield 145, 3) := by decide +kernel
theorem dX10_weaveBound_38 : decode cX10_weaveBound 38 = .ok (.aload_n 1, 1) := by decide +kernel
theorem dX10_weaveBound_39 : decode cX10_weaveBound 39 = .ok (.getfield 145, 3) := by decide +kernel
theorem dX10_weaveBound_42 : decode cX10_weaveBound 42 = .ok (.invokevirtual 169, 3) := by decide +kernel
theorem dX10_weaveBound_45 : decode cX10_weaveBound 45 = .ok (.aload_n 0, 1) := by decide +kernel
theorem dX10_weaveBound_46 : decode cX10_weaveBound 46 = .ok (.aload_n 1, 1) := by decide +kernel
theorem dX10_weaveBound_47 : decode cX10_weaveBound 47 = .ok (.getfield 145, 3) := by decide +kernel
theorem dX10_weaveBound_50 : decode cX10_weaveBound 50 = .ok (.invokevirtual 157, 3) := by decide +kernel
theorem dX10_weaveBound_53 : decode cX10_weaveBound 53 = .ok (.bipush 27, 2) := by decide +kernel
theorem dX10_weaveBound_55 : decode cX10_weaveBound 55 = .ok (.invokestatic 164, 3) := by decide +kernel
theorem dX10_weaveBound_58 : decode cX10_weaveBound 58 = .ok (.istore 4, 2) := by decide +kernel
theorem dX10_weaveBound_60 : decode cX10_weaveBound 60 = .ok (.aload_n 3, 1) := by decide +kernel
theorem dX10_weaveBound_61 : decode cX10_weaveBound 61 = .ok (.invokestatic 238, 3) := by decide +kernel
theorem dX10_weaveBound_64 : decode cX10_weaveBound 64 = .ok (.lstore 5, 2) := by decide +kernel
theorem dX10_weaveBound_66 : decode cX10_weaveBound 66 = .ok (.aload_n 0, 1) := by decide +kernel
theorem dX10_weaveBound_67 : decode cX10_weaveBound 67 = .ok (.getfield 12, 3) := by decide +kernel
theorem dX10_weaveBound_70 : decode cX10_weaveBound 70 = .ok (.sipush 300, 3) := by decide +kernel
theorem dX10_weaveBound_73 : decode cX10_weaveBound 73 = .ok (.iload 4, 2) := by decide +kernel
theorem dX10_weaveBound_75 : decode cX10_weaveBound 75 = .ok (.invokevirtual 60, 3) := by decide +kernel
theorem dX10_weaveBound_78 : decode cX10_weaveBound 78 = .ok (.aload_n 0, 1) := by decide +kernel
theorem dX10_weaveBound_79 : decode cX10_weaveBound 79 = .ok (.iconst 0, 1) := by decide +kernel
theorem dX10_weaveBound_80 : decode cX10_weaveBound 80 = .ok (.putfield 53, 3) := by decide +kernel
theorem dX10_weaveBound_83 : decode cX10_weaveBound 83 = .ok (.aload_n 0, 1) := by decide +kernel
theorem dX10_weaveBound_84 : decode cX10_weaveBound 84 = .ok (.getfield 47, 3) := by decide +kernel
theorem dX10_weaveBound_87 : decode cX10_weaveBound 87 = .ok (.iconst (-1), 1) := by decide +kernel
theorem dX10_weaveBound_88 : decode cX10_weaveBound 88 = .ok (.invokestatic 242, 3) := by decide +kernel
theorem dX10_weaveBound_91 : decode cX10_weaveBound 91 = .ok (.aload_n 0, 1) := by decide +kernel
theorem dX10_weaveBound_92 : decode cX10_weaveBound 92 = .ok (.getfield 12, 3) := by decide +kernel
theorem dX10_weaveBound_95 : decode cX10_weaveBound 95 = .ok (.aload_n 0, 1) := by decide +kernel
theorem dX10_weaveBound_96 : decode cX10_weaveBound 96 = .ok (.aload_n 0, 1) := by decide +kernel
theorem dX10_weaveBound_97 : decode cX10_weaveBound 97 = .ok (.aload_n 3, 1) := by decide +kernel
theorem dX10_weaveBound_98 : decode cX10_weaveBound 98 = .ok (.invokevirtual 248, 3) := by decide +kernel
theorem dX10_weaveBound_101 : decode cX10_weaveBound 101 = .ok (.invokevirtual 251, 3) := by decide +kernel
theorem dX10_weaveBound_104 : decode cX10_weaveBound 104 = .ok (.invokevirtual 63, 3) := by decide +kernel
theorem dX10_weaveBound_107 : decode cX10_weaveBound 107 = .ok (.pop, 1) := by decide +kernel
theorem dX10_weaveBound_108 : decode cX10_weaveBound 108 = .ok (.iconst 0, 1) := by decide +kernel
theorem dX10_weaveBound_109 : decode cX10_weaveBound 109 = .ok (.istore 7, 2) := by decide +kernel
theorem dX10_weaveBound_111 : decode cX10_weaveBound 111 = .ok (.iload 7, 2) := by decide +kernel
theorem dX10_weaveBound_113 : decode cX10_weaveBound 113 = .ok (.aload_n 0, 1) := by decide +kernel
theorem dX10_weaveBound_114 : decode cX10_weaveBound 114 = .ok (.getfield 53, 3) := by decide +kernel
theorem dX10_weaveBound_117 : decode cX10_weaveBound 117 = .ok (.if_icmp .ge 163, 3) := by decide +kernel
theorem dX10_weaveBound_120 : decode cX10_weaveBound 120 = .ok (.iload 7, 2) := by decide +kernel
theorem dX10_weaveBound_122 : decode cX10_weaveBound 122 = .ok (.sipush 300, 3) := by decide +kernel
theorem dX10_weaveBound_125 : decode cX10_weaveBound 125 = .ok (.if_icmp .ge 155, 3) := by decide +kernel
theorem dX10_weaveBound_128 : decode cX10_weaveBound 128 = .ok (.aload_n 1, 1) := by decide +kernel
theorem dX10_weaveBound_129 : decode cX10_weaveBound 129 = .ok (.getfield 97, 3) := by decide +kernel
theorem dX10_weaveBound_132 : decode cX10_weaveBound 132 = .ok (.bipush 7, 2) := by decide +kernel
theorem dX10_weaveBound_134 : decode cX10_weaveBound 134 = .ok (.if_icmp .ne 26, 3) := by decide +kernel
theorem dX10_weaveBound_137 : decode cX10_weaveBound 137 = .ok (.aload_n 0, 1) := by decide +kernel
theorem dX10_weaveBound_138 : decode cX10_weaveBound 138 = .ok (.getfield 43, 3) := by decide +kernel
theorem dX10_weaveBound_141 : decode cX10_weaveBound 141 = .ok (.iload 7, 2) := by decide +kernel
theorem dX10_weaveBound_143 : decode cX10_weaveBound 143 = .ok (.laload, 1) := by decide +kernel
theorem dX10_weaveBound_144 : decode cX10_weaveBound 144 = .ok (.lload 5, 2) := by decide +kernel
theorem dX10_weaveBound_146 : decode cX10_weaveBound 146 = .ok (.land, 1) := by decide +kernel
theorem dX10_weaveBound_147 : decode cX10_weaveBound 147 = .ok (.lconst 0, 1) := by decide +kernel
theorem dX10_weaveBound_148 : decode cX10_weaveBound 148 = .ok (.lcmp, 1) := by decide +kernel
theorem dX10_weaveBound_149 : decode cX10_weaveBound 149 = .ok (.ifCond .eq 7, 3) := by decide +kernel
theorem dX10_weaveBound_152 : decode cX10_weaveBound 152 = .ok (.iconst 1, 1) := by decide +kernel
theorem dX10_weaveBound_153 : decode cX10_weaveBound 153 = .ok (.goto 31, 3) := by decide +kernel
theorem dX10_weaveBound_156 : decode cX10_weaveBound 156 = .ok (.iconst 0, 1) := by decide +kernel
theorem dX10_weaveBound_157 : decode cX10_weaveBound 157 = .ok (.goto 27, 3) := by decide +kernel
theorem dX10_weaveBound_160 : decode cX10_weaveBound 160 = .ok (.aload_n 0, 1) := by decide +kernel
theorem dX10_weaveBound_161 : decode cX10_weaveBound 161 = .ok (.getfield 43, 3) := by decide +kernel
theorem dX10_weaveBound_164 : decode cX10_weaveBound 164 = .ok (.iload 7, 2) := by decide +kernel
theorem dX10_weaveBound_166 : decode cX10_weaveBound 166 = .ok (.laload, 1) := by decide +kernel
theorem dX10_weaveBound_167 : decode cX10_weaveBound 167 = .ok (.lload 5, 2) := by decide +kernel
theorem dX10_weaveBound_169 : decode cX10_weaveBound 169 = .ok (.ldc2_w 255, 3) := by decide +kernel
theorem dX10_weaveBound_172 : decode cX10_weaveBound 172 = .ok (.lxor, 1) := by decide +kernel
theorem dX10_weaveBound_173 : decode cX10_weaveBound 173 = .ok (.land, 1) := by decide +kernel
theorem dX10_weaveBound_174 : decode cX10_weaveBound 174 = .ok (.lconst 0, 1) := by decide +kernel
theorem dX10_weaveBound_175 : decode cX10_weaveBound 175 = .ok (.lcmp, 1) := by decide +kernel
theorem dX10_weaveBound_176 : decode cX10_weaveBound 176 = .ok (.ifCond .ne 7, 3) := by decide +kernel
theorem dX10_weaveBound_179 : decode cX10_weaveBound 179 = .ok (.iconst 1, 1) := by decide +kernel
theorem dX10_weaveBound_180 : decode cX10_weaveBound 180 = .ok (.goto 4, 3) := by decide +kernel
theorem dX10_weaveBound_183 : decode cX10_weaveBound 183 = .ok (.iconst 0, 1) := by decide +kernel
theorem dX10_weaveBound_184 : decode cX10_weaveBound 184 = .ok (.istore 8, 2) := by decide +kernel
theorem dX10_weaveBound_186 : decode cX10_weaveBound 186 = .ok (.aload_n 0, 1) := by decide +kernel
theorem dX10_weaveBound_187 : decode cX10_weaveBound 187 = .ok (.getfield 12, 3) := by decide +kernel
theorem dX10_weaveBound_190 : decode cX10_weaveBound 190 = .ok (.iload 7, 2) := by decide +kernel
theorem dX10_weaveBound_192 : decode cX10_weaveBound 192 = .ok (.iload 8, 2) := by decide +kernel
theorem dX10_weaveBound_194 : decode cX10_weaveBound 194 = .ok (.ifCond .eq 7, 3) := by decide +kernel
theorem dX10_weaveBound_197 : decode cX10_weaveBound 197 = .ok (.iconst 1, 1) := by decide +kernel
theorem dX10_weaveBound_198 : decode cX10_weaveBound 198 = .ok (.goto 4, 3) := by decide +kernel
theorem dX10_weaveBound_201 : decode cX10_weaveBound 201 = .ok (.iconst 0, 1) := by decide +kernel
theorem dX10_weaveBound_202 : decode cX10_weaveBound 202 = .ok (.invokevirtual 77, 3) := by decide +kernel
theorem dX10_weaveBound_205 : decode cX10_weaveBound 205 = .ok (.aload_n 0, 1) := by decide +kernel
theorem dX10_weaveBound_206 : decode cX10_weaveBound 206 = .ok (.aload_n 3, 1) := by decide +kernel
theorem dX10_weaveBound_207 : decode cX10_weaveBound 207 = .ok (.aload_n 0, 1) := by decide +kernel
theorem dX10_weaveBound_208 : decode cX10_weaveBound 208 = .ok (.getfield 43, 3) := by decide +kernel
theorem dX10_weaveBound_211 : decode cX10_weaveBound 211 = .ok (.iload 7, 2) := by decide +kernel
theorem dX10_weaveBound_213 : decode cX10_weaveBound 213 = .ok (.laload, 1) := by decide +kernel
theorem dX10_weaveBound_214 : decode cX10_weaveBound 214 = .ok (.invokevirtual 257, 3) := by decide +kernel
theorem dX10_weaveBound_217 : decode cX10_weaveBound 217 = .ok (.iconst 0, 1) := by decide +kernel
theorem dX10_weaveBound_218 : decode cX10_weaveBound 218 = .ok (.istore 9, 2) := by decide +kernel
theorem dX10_weaveBound_220 : decode cX10_weaveBound 220 = .ok (.iload 9, 2) := by decide +kernel
theorem dX10_weaveBound_222 : decode cX10_weaveBound 222 = .ok (.iload 4, 2) := by decide +kernel
theorem dX10_weaveBound_224 : decode cX10_weaveBound 224 = .ok (.if_icmp .ge 50, 3) := by decide +kernel
theorem dX10_weaveBound_227 : decode cX10_weaveBound 227 = .ok (.aload_n 0, 1) := by decide +kernel
theorem dX10_weaveBound_228 : decode cX10_weaveBound 228 = .ok (.aload_n 0, 1) := by decide +kernel
theorem dX10_weaveBound_229 : decode cX10_weaveBound 229 = .ok (.getfield 50, 3) := by decide +kernel
theorem dX10_weaveBound_232 : decode cX10_weaveBound 232 = .ok (.iload 9, 2) := by decide +kernel
theorem dX10_weaveBound_234 : decode cX10_weaveBound 234 = .ok (.laload, 1) := by decide +kernel
theorem dX10_weaveBound_235 : decode cX10_weaveBound 235 = .ok (.invokevirtual 251, 3) := by decide +kernel
theorem dX10_weaveBound_238 : decode cX10_weaveBound 238 = .ok (.istore 10, 2) := by decide +kernel
theorem dX10_weaveBound_240 : decode cX10_weaveBound 240 = .ok (.iload 10, 2) := by decide +kernel
theorem dX10_weaveBound_242 : decode cX10_weaveBound 242 = .ok (.iconst (-1), 1) := by decide +kernel
theorem dX10_weaveBound_243 : decode cX10_weaveBound 243 = .ok (.if_icmp .ne 5, 3) := by decide +kernel
theorem dX10_weaveBound_246 : decode cX10_weaveBound 246 = .ok (.iconst 0, 1) := by decide +kernel
theorem dX10_weaveBound_247 : decode cX10_weaveBound 247 = .ok (.ireturn, 1) := by decide +kernel
theorem dX10_weaveBound_248 : decode cX10_weaveBound 248 = .ok (.aload_n 0, 1) := by decide +kernel
theorem dX10_weaveBound_249 : decode cX10_weaveBound 249 = .ok (.getfield 12, 3) := by decide +kernel
theorem dX10_weaveBound_252 : decode cX10_weaveBound 252 = .ok (.iload 7, 2) := by decide +kernel
theorem dX10_weaveBound_254 : decode cX10_weaveBound 254 = .ok (.iload 9, 2) := by decide +kernel
theorem dX10_weaveBound_256 : decode cX10_weaveBound 256 = .ok (.aload_n 0, 1) := by decide +kernel
theorem dX10_weaveBound_257 : decode cX10_weaveBound 257 = .ok (.getfield 12, 3) := by decide +kernel
theorem dX10_weaveBound_260 : decode cX10_weaveBound 260 = .ok (.iload 10, 2) := by decide +kernel
theorem dX10_weaveBound_262 : decode cX10_weaveBound 262 = .ok (.invokevirtual 63, 3) := by decide +kernel
theorem dX10_weaveBound_265 : decode cX10_weaveBound 265 = .ok (.invokevirtual 80, 3) := by decide +kernel
theorem dX10_weaveBound_268 : decode cX10_weaveBound 268 = .ok (.iinc 9 1, 3) := by decide +kernel
theorem dX10_weaveBound_271 : decode cX10_weaveBound 271 = .ok (.goto (-51), 3) := by decide +kernel
theorem dX10_weaveBound_274 : decode cX10_weaveBound 274 = .ok (.iinc 7 1, 3) := by decide +kernel
theorem dX10_weaveBound_277 : decode cX10_weaveBound 277 = .ok (.goto (-166), 3) := by decide +kernel
theorem dX10_weaveBound_280 : decode cX10_weaveBound 280 = .ok (.aload_n 0, 1) := by decide +kernel
theorem dX10_weaveBound_281 : decode cX10_weaveBound 281 = .ok (.getfield 12, 3) := by decide +kernel
theorem dX10_weaveBound_284 : decode cX10_weaveBound 284 = .ok (.aload_n 1, 1) := by decide +kernel
theorem dX10_weaveBound_285 : decode cX10_weaveBound 285 = .ok (.getfield 123, 3) := by decide +kernel
theorem dX10_weaveBound_288 : decode cX10_weaveBound 288 = .ok (.bipush 40, 2) := by decide +kernel
theorem dX10_weaveBound_290 : decode cX10_weaveBound 290 = .ok (.invokevirtual 84, 3) := by decide +kernel
theorem dX10_weaveBound_293 : decode cX10_weaveBound 293 = .ok (.ireturn, 1) := by decide +kernel
theorem dX10_takers_0 : decode cX10_takers 0 = .ok (.lconst 0, 1) := by decide +kernel
theorem dX10_takers_1 : decode cX10_takers 1 = .ok (.lstore_n 1, 1) := by decide +kernel
theorem dX10_takers_2 : decode cX10_takers 2 = .ok (.iconst 0, 1) := by decide +kernel
theorem dX10_takers_3 : decode cX10_takers 3 = .ok (.istore_n 3, 1) := by decide +kernel
theorem dX10_takers_4 : decode cX10_takers 4 = .ok (.iload_n 3, 1) := by decide +kernel
theorem dX10_takers_5 : decode cX10_takers 5 = .ok (.aload_n 0, 1) := by decide +kernel
theorem dX10_takers_6 : decode cX10_takers 6 = .ok (.getfield 173, 3) := by decide +kernel
theorem dX10_takers_9 : decode cX10_takers 9 = .ok (.if_icmp .ge 24, 3) := by decide +kernel
theorem dX10_takers_12 : decode cX10_takers 12 = .ok (.aload_n 0, 1) := by decide +kernel
theorem dX10_takers_13 : decode cX10_takers 13 = .ok (.iload_n 3, 1) := by decide +kernel
theorem dX10_takers_14 : decode cX10_takers 14 = .ok (.invokevirtual 176, 3) := by decide +kernel
theorem dX10_takers_17 : decode cX10_takers 17 = .ok (.iconst 1, 1) := by decide +kernel
theorem dX10_takers_18 : decode cX10_takers 18 = .ok (.if_icmp .ne 9, 3) := by decide +kernel
theorem dX10_takers_21 : decode cX10_takers 21 = .ok (.lload_n 1, 1) := by decide +kernel
theorem dX10_takers_22 : decode cX10_takers 22 = .ok (.lconst 1, 1) := by decide +kernel
theorem dX10_takers_23 : decode cX10_takers 23 = .ok (.iload_n 3, 1) := by decide +kernel
theorem dX10_takers_24 : decode cX10_takers 24 = .ok (.lshl, 1) := by decide +kernel
theorem dX10_takers_25 : decode cX10_takers 25 = .ok (.lor, 1) := by decide +kernel
theorem dX10_takers_26 : decode cX10_takers 26 = .ok (.lstore_n 1, 1) := by decide +kernel
theorem dX10_takers_27 : decode cX10_takers 27 = .ok (.iinc 3 1, 3) := by decide +kernel
theorem dX10_takers_30 : decode cX10_takers 30 = .ok (.goto (-26), 3) := by decide +kernel
theorem dX10_takers_33 : decode cX10_takers 33 = .ok (.lload_n 1, 1) := by decide +kernel
theorem dX10_takers_34 : decode cX10_takers 34 = .ok (.lreturn, 1) := by decide +kernel
theorem dX10_firstSet_0 : decode cX10_firstSet 0 = .ok (.lconst 1, 1) := by decide +kernel
theorem dX10_firstSet_1 : decode cX10_firstSet 1 = .ok (.lstore_n 2, 1) := by decide +kernel
theorem dX10_firstSet_2 : decode cX10_firstSet 2 = .ok (.iconst 0, 1) := by decide +kernel
theorem dX10_firstSet_3 : decode cX10_firstSet 3 = .ok (.istore 4, 2) := by decide +kernel
theorem dX10_firstSet_5 : decode cX10_firstSet 5 = .ok (.iload 4, 2) := by decide +kernel
theorem dX10_firstSet_7 : decode cX10_firstSet 7 = .ok (.bipush 40, 2) := by decide +kernel
theorem dX10_firstSet_9 : decode cX10_firstSet 9 = .ok (.if_icmp .ge 37, 3) := by decide +kernel
theorem dX10_firstSet_12 : decode cX10_firstSet 12 = .ok (.aload_n 0, 1) := by decide +kernel
theorem dX10_firstSet_13 : decode cX10_firstSet 13 = .ok (.aload_n 1, 1) := by decide +kernel
theorem dX10_firstSet_14 : decode cX10_firstSet 14 = .ok (.lload_n 2, 1) := by decide +kernel
theorem dX10_firstSet_15 : decode cX10_firstSet 15 = .ok (.invokevirtual 257, 3) := by decide +kernel
theorem dX10_firstSet_18 : decode cX10_firstSet 18 = .ok (.lload_n 2, 1) := by decide +kernel
theorem dX10_firstSet_19 : decode cX10_firstSet 19 = .ok (.aload_n 0, 1) := by decide +kernel
theorem dX10_firstSet_20 : decode cX10_firstSet 20 = .ok (.getfield 50, 3) := by decide +kernel
theorem dX10_firstSet_23 : decode cX10_firstSet 23 = .ok (.iconst 0, 1) := by decide +kernel
theorem dX10_firstSet_24 : decode cX10_firstSet 24 = .ok (.laload, 1) := by decide +kernel
theorem dX10_firstSet_25 : decode cX10_firstSet 25 = .ok (.lor, 1) := by decide +kernel
theorem dX10_firstSet_26 : decode cX10_firstSet 26 = .ok (.lstore 5, 2) := by decide +kernel
theorem dX10_firstSet_28 : decode cX10_firstSet 28 = .ok (.lload 5, 2) := by decide +kernel
theorem dX10_firstSet_30 : decode cX10_firstSet 30 = .ok (.lload_n 2, 1) := by decide +kernel
theorem dX10_firstSet_31 : decode cX10_firstSet 31 = .ok (.lcmp, 1) := by decide +kernel
theorem dX10_firstSet_32 : decode cX10_firstSet 32 = .ok (.ifCond .ne 5, 3) := by decide +kernel
theorem dX10_firstSet_35 : decode cX10_firstSet 35 = .ok (.lload_n 2, 1) := by decide +kernel
theorem dX10_firstSet_36 : decode cX10_firstSet 36 = .ok (.lreturn, 1) := by decide +kernel
theorem dX10_firstSet_37 : decode cX10_firstSet 37 = .ok (.lload 5, 2) := by decide +kernel
theorem dX10_firstSet_39 : decode cX10_firstSet 39 = .ok (.lstore_n 2, 1) := by decide +kernel
theorem dX10_firstSet_40 : decode cX10_firstSet 40 = .ok (.iinc 4 1, 3) := by decide +kernel
theorem dX10_firstSet_43 : decode cX10_firstSet 43 = .ok (.goto (-38), 3) := by decide +kernel
theorem dX10_firstSet_46 : decode cX10_firstSet 46 = .ok (.lload_n 2, 1) := by decide +kernel
theorem dX10_firstSet_47 : decode cX10_firstSet 47 = .ok (.lreturn, 1) := by decide +kernel
theorem dX10_spread_0 : decode cX10_spread 0 = .ok (.aload_n 0, 1) := by decide +kernel
theorem dX10_spread_1 : decode cX10_spread 1 = .ok (.getfield 50, 3) := by decide +kernel
theorem dX10_spread_4 : decode cX10_spread 4 = .ok (.lconst 0, 1) := by decide +kernel
theorem dX10_spread_5 : decode cX10_spread 5 = .ok (.invokestatic 261, 3) := by decide +kernel
theorem dX10_spread_8 : decode cX10_spread 8 = .ok (.iconst 0, 1) := by decide +kernel
theorem dX10_spread_9 : decode cX10_spread 9 = .ok (.istore 4, 2) := by decide +kernel
theorem dX10_spread_11 : decode cX10_spread 11 = .ok (.iload 4, 2) := by decide +kernel
theorem dX10_spread_13 : decode cX10_spread 13 = .ok (.aload_n 1, 1) := by decide +kernel
theorem dX10_spread_14 : decode cX10_spread 14 = .ok (.getfield 173, 3) := by decide +kernel
theorem dX10_spread_17 : decode cX10_spread 17 = .ok (.if_icmp .ge 73, 3) := by decide +kernel
theorem dX10_spread_20 : decode cX10_spread 20 = .ok (.lload_n 2, 1) := by decide +kernel
theorem dX10_spread_21 : decode cX10_spread 21 = .ok (.iload 4, 2) := by decide +kernel
theorem dX10_spread_23 : decode cX10_spread 23 = .ok (.lshr, 1) := by decide +kernel
theorem dX10_spread_24 : decode cX10_spread 24 = .ok (.lconst 1, 1) := by decide +kernel
theorem dX10_spread_25 : decode cX10_spread 25 = .ok (.land, 1) := by decide +kernel
theorem dX10_spread_26 : decode cX10_spread 26 = .ok (.lconst 0, 1) := by decide +kernel
theorem dX10_spread_27 : decode cX10_spread 27 = .ok (.lcmp, 1) := by decide +kernel
theorem dX10_spread_28 : decode cX10_spread 28 = .ok (.ifCond .eq 56, 3) := by decide +kernel
theorem dX10_spread_31 : decode cX10_spread 31 = .ok (.iconst 0, 1) := by decide +kernel
theorem dX10_spread_32 : decode cX10_spread 32 = .ok (.istore 5, 2) := by decide +kernel
theorem dX10_spread_34 : decode cX10_spread 34 = .ok (.iload 5, 2) := by decide +kernel
theorem dX10_spread_36 : decode cX10_spread 36 = .ok (.aload_n 1, 1) := by decide +kernel
theorem dX10_spread_37 : decode cX10_spread 37 = .ok (.getfield 264, 3) := by decide +kernel
theorem dX10_spread_40 : decode cX10_spread 40 = .ok (.if_icmp .ge 44, 3) := by decide +kernel
theorem dX10_spread_43 : decode cX10_spread 43 = .ok (.iload 5, 2) := by decide +kernel
theorem dX10_spread_45 : decode cX10_spread 45 = .ok (.aload_n 0, 1) := by decide +kernel
theorem dX10_spread_46 : decode cX10_spread 46 = .ok (.getfield 30, 3) := by decide +kernel
theorem dX10_spread_49 : decode cX10_spread 49 = .ok (.arraylength, 1) := by decide +kernel
theorem dX10_spread_50 : decode cX10_spread 50 = .ok (.if_icmp .ge 34, 3) := by decide +kernel
theorem dX10_spread_53 : decode cX10_spread 53 = .ok (.aload_n 0, 1) := by decide +kernel
theorem dX10_spread_54 : decode cX10_spread 54 = .ok (.getfield 50, 3) := by decide +kernel
theorem dX10_spread_57 : decode cX10_spread 57 = .ok (.aload_n 0, 1) := by decide +kernel
theorem dX10_spread_58 : decode cX10_spread 58 = .ok (.getfield 30, 3) := by decide +kernel
theorem dX10_spread_61 : decode cX10_spread 61 = .ok (.iload 5, 2) := by decide +kernel
theorem dX10_spread_63 : decode cX10_spread 63 = .ok (.iaload, 1) := by decide +kernel
theorem dX10_spread_64 : decode cX10_spread 64 = .ok (.dup2, 1) := by decide +kernel
theorem dX10_spread_65 : decode cX10_spread 65 = .ok (.laload, 1) := by decide +kernel
theorem dX10_spread_66 : decode cX10_spread 66 = .ok (.lconst 1, 1) := by decide +kernel
theorem dX10_spread_67 : decode cX10_spread 67 = .ok (.aload_n 1, 1) := by decide +kernel
theorem dX10_spread_68 : decode cX10_spread 68 = .ok (.iload 4, 2) := by decide +kernel
theorem dX10_spread_70 : decode cX10_spread 70 = .ok (.iload 5, 2) := by decide +kernel
theorem dX10_spread_72 : decode cX10_spread 72 = .ok (.invokevirtual 182, 3) := by decide +kernel
theorem dX10_spread_75 : decode cX10_spread 75 = .ok (.lshl, 1) := by decide +kernel
theorem dX10_spread_76 : decode cX10_spread 76 = .ok (.lor, 1) := by decide +kernel
theorem dX10_spread_77 : decode cX10_spread 77 = .ok (.lastore, 1) := by decide +kernel
theorem dX10_spread_78 : decode cX10_spread 78 = .ok (.iinc 5 1, 3) := by decide +kernel
theorem dX10_spread_81 : decode cX10_spread 81 = .ok (.goto (-47), 3) := by decide +kernel
theorem dX10_spread_84 : decode cX10_spread 84 = .ok (.iinc 4 1, 3) := by decide +kernel
theorem dX10_spread_87 : decode cX10_spread 87 = .ok (.goto (-76), 3) := by decide +kernel
theorem dX10_spread_90 : decode cX10_spread 90 = .ok (.return_, 1) := by decide +kernel
theorem dX10_meetSet_0 : decode cX10_meetSet 0 = .ok (.lload_n 1, 1) := by decide +kernel
theorem dX10_meetSet_1 : decode cX10_meetSet 1 = .ok (.ldc2_w 266, 3) := by decide +kernel
theorem dX10_meetSet_4 : decode cX10_meetSet 4 = .ok (.lmul, 1) := by decide +kernel
theorem dX10_meetSet_5 : decode cX10_meetSet 5 = .ok (.bipush 54, 2) := by decide +kernel
theorem dX10_meetSet_7 : decode cX10_meetSet 7 = .ok (.lushr, 1) := by decide +kernel
theorem dX10_meetSet_8 : decode cX10_meetSet 8 = .ok (.l2i, 1) := by decide +kernel
theorem dX10_meetSet_9 : decode cX10_meetSet 9 = .ok (.istore_n 3, 1) := by decide +kernel
theorem dX10_meetSet_10 : decode cX10_meetSet 10 = .ok (.iconst 0, 1) := by decide +kernel
theorem dX10_meetSet_11 : decode cX10_meetSet 11 = .ok (.istore 4, 2) := by decide +kernel
theorem dX10_meetSet_13 : decode cX10_meetSet 13 = .ok (.iload 4, 2) := by decide +kernel
theorem dX10_meetSet_15 : decode cX10_meetSet 15 = .ok (.sipush 1024, 3) := by decide +kernel
theorem dX10_meetSet_18 : decode cX10_meetSet 18 = .ok (.if_icmp .ge 53, 3) := by decide +kernel
theorem dX10_meetSet_21 : decode cX10_meetSet 21 = .ok (.aload_n 0, 1) := by decide +kernel
theorem dX10_meetSet_22 : decode cX10_meetSet 22 = .ok (.getfield 47, 3) := by decide +kernel
theorem dX10_meetSet_25 : decode cX10_meetSet 25 = .ok (.iload_n 3, 1) := by decide +kernel
theorem dX10_meetSet_26 : decode cX10_meetSet 26 = .ok (.iaload, 1) := by decide +kernel
theorem dX10_meetSet_27 : decode cX10_meetSet 27 = .ok (.istore 5, 2) := by decide +kernel
theorem dX10_meetSet_29 : decode cX10_meetSet 29 = .ok (.iload 5, 2) := by decide +kernel
theorem dX10_meetSet_31 : decode cX10_meetSet 31 = .ok (.iconst (-1), 1) := by decide +kernel
theorem dX10_meetSet_32 : decode cX10_meetSet 32 = .ok (.if_icmp .ne 10, 3) := by decide +kernel
theorem dX10_meetSet_35 : decode cX10_meetSet 35 = .ok (.aload_n 0, 1) := by decide +kernel
theorem dX10_meetSet_36 : decode cX10_meetSet 36 = .ok (.iload_n 3, 1) := by decide +kernel
theorem dX10_meetSet_37 : decode cX10_meetSet 37 = .ok (.lload_n 1, 1) := by decide +kernel
theorem dX10_meetSet_38 : decode cX10_meetSet 38 = .ok (.invokevirtual 268, 3) := by decide +kernel
theorem dX10_meetSet_41 : decode cX10_meetSet 41 = .ok (.ireturn, 1) := by decide +kernel
theorem dX10_meetSet_42 : decode cX10_meetSet 42 = .ok (.aload_n 0, 1) := by decide +kernel
theorem dX10_meetSet_43 : decode cX10_meetSet 43 = .ok (.getfield 43, 3) := by decide +kernel
theorem dX10_meetSet_46 : decode cX10_meetSet 46 = .ok (.iload 5, 2) := by decide +kernel
theorem dX10_meetSet_48 : decode cX10_meetSet 48 = .ok (.laload, 1) := by decide +kernel
theorem dX10_meetSet_49 : decode cX10_meetSet 49 = .ok (.lload_n 1, 1) := by decide +kernel
theorem dX10_meetSet_50 : decode cX10_meetSet 50 = .ok (.lcmp, 1) := by decide +kernel
theorem dX10_meetSet_51 : decode cX10_meetSet 51 = .ok (.ifCond .ne 6, 3) := by decide +kernel
theorem dX10_meetSet_54 : decode cX10_meetSet 54 = .ok (.iload 5, 2) := by decide +kernel
theorem dX10_meetSet_56 : decode cX10_meetSet 56 = .ok (.ireturn, 1) := by decide +kernel
theorem dX10_meetSet_57 : decode cX10_meetSet 57 = .ok (.iload_n 3, 1) := by decide +kernel
theorem dX10_meetSet_58 : decode cX10_meetSet 58 = .ok (.iconst 1, 1) := by decide +kernel
theorem dX10_meetSet_59 : decode cX10_meetSet 59 = .ok (.iadd, 1) := by decide +kernel
theorem dX10_meetSet_60 : decode cX10_meetSet 60 = .ok (.sipush 1023, 3) := by decide +kernel
theorem dX10_meetSet_63 : decode cX10_meetSet 63 = .ok (.iand, 1) := by decide +kernel
theorem dX10_meetSet_64 : decode cX10_meetSet 64 = .ok (.istore_n 3, 1) := by decide +kernel
theorem dX10_meetSet_65 : decode cX10_meetSet 65 = .ok (.iinc 4 1, 3) := by decide +kernel
theorem dX10_meetSet_68 : decode cX10_meetSet 68 = .ok (.goto (-55), 3) := by decide +kernel
theorem dX10_meetSet_71 : decode cX10_meetSet 71 = .ok (.iconst (-1), 1) := by decide +kernel
theorem dX10_meetSet_72 : decode cX10_meetSet 72 = .ok (.ireturn, 1) := by decide +kernel
theorem dX10_addSet_0 : decode cX10_addSet 0 = .ok (.aload_n 0, 1) := by decide +kernel
theorem dX10_addSet_1 : decode cX10_addSet 1 = .ok (.getfield 53, 3) := by decide +kernel
theorem dX10_addSet_4 : decode cX10_addSet 4 = .ok (.sipush 300, 3) := by decide +kernel
theorem dX10_addSet_7 : decode cX10_addSet 7 = .ok (.if_icmp .lt 5, 3) := by decide +kernel
theorem dX10_addSet_10 : decode cX10_addSet 10 = .ok (.iconst (-1), 1) := by decide +kernel
theorem dX10_addSet_11 : decode cX10_addSet 11 = .ok (.ireturn, 1) := by decide +kernel
theorem dX10_addSet_12 : decode cX10_addSet 12 = .ok (.aload_n 0, 1) := by decide +kernel
theorem dX10_addSet_13 : decode cX10_addSet 13 = .ok (.getfield 43, 3) := by decide +kernel
theorem dX10_addSet_16 : decode cX10_addSet 16 = .ok (.aload_n 0, 1) := by decide +kernel
theorem dX10_addSet_17 : decode cX10_addSet 17 = .ok (.getfield 53, 3) := by decide +kernel
theorem dX10_addSet_20 : decode cX10_addSet 20 = .ok (.lload_n 2, 1) := by decide +kernel
theorem dX10_addSet_21 : decode cX10_addSet 21 = .ok (.lastore, 1) := by decide +kernel
theorem dX10_addSet_22 : decode cX10_addSet 22 = .ok (.aload_n 0, 1) := by decide +kernel
theorem dX10_addSet_23 : decode cX10_addSet 23 = .ok (.getfield 47, 3) := by decide +kernel
theorem dX10_addSet_26 : decode cX10_addSet 26 = .ok (.iload_n 1, 1) := by decide +kernel
theorem dX10_addSet_27 : decode cX10_addSet 27 = .ok (.aload_n 0, 1) := by decide +kernel
theorem dX10_addSet_28 : decode cX10_addSet 28 = .ok (.getfield 53, 3) := by decide +kernel
theorem dX10_addSet_31 : decode cX10_addSet 31 = .ok (.iastore, 1) := by decide +kernel
theorem dX10_addSet_32 : decode cX10_addSet 32 = .ok (.aload_n 0, 1) := by decide +kernel
theorem dX10_addSet_33 : decode cX10_addSet 33 = .ok (.dup, 1) := by decide +kernel
theorem dX10_addSet_34 : decode cX10_addSet 34 = .ok (.getfield 53, 3) := by decide +kernel
theorem dX10_addSet_37 : decode cX10_addSet 37 = .ok (.iconst 1, 1) := by decide +kernel
theorem dX10_addSet_38 : decode cX10_addSet 38 = .ok (.iadd, 1) := by decide +kernel
theorem dX10_addSet_39 : decode cX10_addSet 39 = .ok (.putfield 53, 3) := by decide +kernel
theorem dX10_addSet_42 : decode cX10_addSet 42 = .ok (.aload_n 0, 1) := by decide +kernel
theorem dX10_addSet_43 : decode cX10_addSet 43 = .ok (.getfield 53, 3) := by decide +kernel
theorem dX10_addSet_46 : decode cX10_addSet 46 = .ok (.iconst 1, 1) := by decide +kernel
theorem dX10_addSet_47 : decode cX10_addSet 47 = .ok (.isub, 1) := by decide +kernel
theorem dX10_addSet_48 : decode cX10_addSet 48 = .ok (.ireturn, 1) := by decide +kernel
theorem eX10_init {G : GG} {d rc rs : Nat} (o : Nat)  {M : Mem} {Q : Option Value → Mem → Prop} (h : 1 ≤ rc ∧ 10 ≤ rs ∧ (∀ n3, n3 = g_b G + x_n M → ∀ M4, M4 = x_new M n3 18 0 → 7 ≤ (rc - 1) ∧ 64800 ≤ (rs - 10) ∧ Call G d 7 64800 mX2_init [.ref n3] M4 (fun r8 M9 => r8 = none ∧ (x_h M9 o).1 = 26 ∧ (∀ M11, M11 = x_sr M9 o 0 (some n3) → 1 ≤ ((rc - 1) - 7) ∧ 4 ≤ ((rs - 10) - 64800) ∧ (∀ n14, n14 = g_b G + x_n M11 → ∀ M15, M15 = x_new M11 n14 17 0 → 2 ≤ (((rc - 1) - 7) - 1) ∧ 400 ≤ (((rs - 10) - 64800) - 4) ∧ Call G d 2 400 mX1_init [.ref n14, .int 40, .int 9] M15 (fun r19 M20 => r19 = none ∧ (x_h M20 o).1 = 26 ∧ (∀ M22, M22 = x_sr M20 o 1 (some n14) → 1 ≤ ((((rc - 1) - 7) - 1) - 2) ∧ 4 ≤ ((((rs - 10) - 64800) - 4) - 400) ∧ (∀ n25, n25 = g_b G + x_n M22 → ∀ M26, M26 = x_new M22 n25 17 0 → 2 ≤ (((((rc - 1) - 7) - 1) - 2) - 1) ∧ 400 ≤ (((((rs - 10) - 64800) - 4) - 400) - 4) ∧ Call G d 2 400 mX1_init [.ref n25, .int 40, .int 9] M26 (fun r30 M31 => r30 = none ∧ (x_h M31 o).1 = 26 ∧ (∀ M33, M33 = x_sr M31 o 2 (some n25) → 1 ≤ ((((((rc - 1) - 7) - 1) - 2) - 1) - 2) ∧ 27 ≤ ((((((rs - 10) - 64800) - 4) - 400) - 4) - 400) ∧ (∀ n34, n34 = g_b G + x_n M33 → ∀ M35, M35 = x_new M33 n34 1 27 → (x_h M35 o).1 = 26 ∧ (∀ M40, M40 = x_sr M35 o 3 (some n34) → 1 ≤ (((((((rc - 1) - 7) - 1) - 2) - 1) - 2) - 1) ∧ 27 ≤ (((((((rs - 10) - 64800) - 4) - 400) - 4) - 400) - 27) ∧ (∀ n41, n41 = g_b G + x_n M40 → ∀ M42, M42 = x_new M40 n41 1 27 → (x_h M42 o).1 = 26 ∧ (∀ M47, M47 = x_sr M42 o 4 (some n41) → 1 ≤ ((((((((rc - 1) - 7) - 1) - 2) - 1) - 2) - 1) - 1) ∧ 8 ≤ ((((((((rs - 10) - 64800) - 4) - 400) - 4) - 400) - 27) - 27) ∧ (∀ n48, n48 = g_b G + x_n M47 → ∀ M49, M49 = x_new M47 n48 1 8 → (x_h M49 o).1 = 26 ∧ (∀ M54, M54 = x_sr M49 o 5 (some n48) → 1 ≤ (((((((((rc - 1) - 7) - 1) - 2) - 1) - 2) - 1) - 1) - 1) ∧ 4 ≤ (((((((((rs - 10) - 64800) - 4) - 400) - 4) - 400) - 27) - 27) - 8) ∧ (∀ n55, n55 = g_b G + x_n M54 → ∀ M56, M56 = x_new M54 n55 1 4 → (x_h M56 o).1 = 26 ∧ (∀ M61, M61 = x_sr M56 o 6 (some n55) → 1 ≤ ((((((((((rc - 1) - 7) - 1) - 2) - 1) - 2) - 1) - 1) - 1) - 1) ∧ 300 ≤ ((((((((((rs - 10) - 64800) - 4) - 400) - 4) - 400) - 27) - 27) - 8) - 4) ∧ (∀ n62, n62 = g_b G + x_n M61 → ∀ M63, M63 = x_new M61 n62 2 300 → (x_h M63 o).1 = 26 ∧ (∀ M68, M68 = x_sr M63 o 7 (some n62) → 1 ≤ (((((((((((rc - 1) - 7) - 1) - 2) - 1) - 2) - 1) - 1) - 1) - 1) - 1) ∧ 1024 ≤ (((((((((((rs - 10) - 64800) - 4) - 400) - 4) - 400) - 27) - 27) - 8) - 4) - 300) ∧ (∀ n69, n69 = g_b G + x_n M68 → ∀ M70, M70 = x_new M68 n69 1 1024 → (x_h M70 o).1 = 26 ∧ (∀ M75, M75 = x_sr M70 o 8 (some n69) → 1 ≤ ((((((((((((rc - 1) - 7) - 1) - 2) - 1) - 2) - 1) - 1) - 1) - 1) - 1) - 1) ∧ 27 ≤ ((((((((((((rs - 10) - 64800) - 4) - 400) - 4) - 400) - 27) - 27) - 8) - 4) - 300) - 1024) ∧ (∀ n76, n76 = g_b G + x_n M75 → ∀ M77, M77 = x_new M75 n76 2 27 → (x_h M77 o).1 = 26 ∧ (∀ M82, M82 = x_sr M77 o 9 (some n76) → ∀ M83, M83 = x_si M82 o 10 0 → ∀ M84, M84 = x_si M83 o 11 2 → Q none M84)))))))))))))))))))))))) : Call G (d + 1) rc rs mX10_init [.ref o] M Q := by
  refine call_of (by decide) (Nat.le_of_ble_eq_true rfl) ?_
  show Wk G (d + 1) rc rs mX10_init 0 [some (.ref o)] [] M Q
  refine r_aload_n (pc := 0) (i := 0) dX10_init_0 rfl rfl ?_
  refine r_objInit (pc := 1) (st := []) ww_215 ww_28 ww_29 dX10_init_1 (Nat.le_of_ble_eq_true rfl) ?_
  refine r_aload_n (pc := 4) (i := 0) dX10_init_4 rfl rfl ?_
  obtain ⟨y1, y2, h⟩ := h
  refine r_newV (pc := 5) (ci := 2) (q := (RX2, TX2, 10)) dX10_init_5 rfl ww_216 ww_217 ww_8 y1 y2 (fun n3 M4 enn3 eMn3 e5 => ?_)
  replace h := h n3 enn3 M4 eMn3
  refine r_dup (pc := 8) dX10_init_8 rfl ?_
  obtain ⟨y6, y7, h⟩ := h
  refine r_callI (pc := 9) (as := []) (st := [_, _]) okX2_init lkX10_11 inX2_init rfl dX10_init_9 rfl (Nat.le_of_ble_eq_true rfl) y6 y7 (Call.mono h (fun r8 M9 h => ?_))
  obtain ⟨rfl, h⟩ := h
  obtain ⟨k10, h⟩ := h
  refine r_putr (pc := 12) (r := some _) flX10_12 dX10_init_12 rfl (fun q hq => by cases hq; exact Or.inr ⟨rfl, rfl, rfl⟩) (fun q hq _ => by cases hq; exact ww_257) k10 ?_
  replace h := h _ rfl
  refine r_aload_n (pc := 15) (i := 0) dX10_init_15 rfl rfl ?_
  obtain ⟨y12, y13, h⟩ := h
  refine r_newV (pc := 16) (ci := 1) (q := (RX1, TX1, 4)) dX10_init_16 rfl ww_255 ww_108 ww_6 y12 y13 (fun n14 M15 enn14 eMn14 e16 => ?_)
  replace h := h n14 enn14 M15 eMn14
  refine r_dup (pc := 19) dX10_init_19 rfl ?_
  refine r_bipush (pc := 20) (v := 40) dX10_init_20 (by decide) ?_
  refine r_bipush (pc := 22) (v := 9) dX10_init_22 (by decide) ?_
  obtain ⟨y17, y18, h⟩ := h
  refine r_callI (pc := 24) (as := [_, _]) (st := [_, _]) okX1_init lkX10_20 inX1_init rfl dX10_init_24 rfl (Nat.le_of_ble_eq_true rfl) y17 y18 (Call.mono h (fun r19 M20 h => ?_))
  obtain ⟨rfl, h⟩ := h
  obtain ⟨k21, h⟩ := h
  refine r_putr (pc := 27) (r := some _) flX10_23 dX10_init_27 rfl (fun q hq => by cases hq; exact Or.inr ⟨rfl, rfl, rfl⟩) (fun q hq _ => by cases hq; exact ww_258) k21 ?_
  replace h := h _ rfl
  refine r_aload_n (pc := 30) (i := 0) dX10_init_30 rfl rfl ?_
  obtain ⟨y23, y24, h⟩ := h
  refine r_newV (pc := 31) (ci := 1) (q := (RX1, TX1, 4)) dX10_init_31 rfl ww_255 ww_108 ww_6 y23 y24 (fun n25 M26 enn25 eMn25 e27 => ?_)
  replace h := h n25 enn25 M26 eMn25
  refine r_dup (pc := 34) dX10_init_34 rfl ?_
  refine r_bipush (pc := 35) (v := 40) dX10_init_35 (by decide) ?_
  refine r_bipush (pc := 37) (v := 9) dX10_init_37 (by decide) ?_
  obtain ⟨y28, y29, h⟩ := h
  refine r_callI (pc := 39) (as := [_, _]) (st := [_, _]) okX1_init lkX10_20 inX1_init rfl dX10_init_39 rfl (Nat.le_of_ble_eq_true rfl) y28 y29 (Call.mono h (fun r30 M31 h => ?_))
  obtain ⟨rfl, h⟩ := h
  obtain ⟨k32, h⟩ := h
  refine r_putr (pc := 42) (r := some _) flX10_27 dX10_init_42 rfl (fun q hq => by cases hq; exact Or.inr ⟨rfl, rfl, rfl⟩) (fun q hq _ => by cases hq; exact ww_259) k32 ?_
  replace h := h _ rfl
  refine r_aload_n (pc := 45) (i := 0) dX10_init_45 rfl rfl ?_
  refine r_bipush (pc := 46) (v := 27) dX10_init_46 (by decide) ?_
  obtain ⟨y37, y38, h⟩ := h
  refine r_newIV (pc := 48) (n := 27) dX10_init_48 (by decide) (by decide) (by decide) y37 y38 (fun n34 M35 enn34 eMn34 e36 => ?_)
  replace h := h n34 enn34 M35 eMn34
  obtain ⟨k39, h⟩ := h
  refine r_putr (pc := 50) (r := some _) flX10_30 dX10_init_50 rfl (fun q hq => by cases hq; exact Or.inr ⟨rfl, rfl, rfl⟩) (fun q hq _ => by cases hq; exact ww_260) k39 ?_
  replace h := h _ rfl
  refine r_aload_n (pc := 53) (i := 0) dX10_init_53 rfl rfl ?_
  refine r_bipush (pc := 54) (v := 27) dX10_init_54 (by decide) ?_
  obtain ⟨y44, y45, h⟩ := h
  refine r_newIV (pc := 56) (n := 27) dX10_init_56 (by decide) (by decide) (by decide) y44 y45 (fun n41 M42 enn41 eMn41 e43 => ?_)
  replace h := h n41 enn41 M42 eMn41
  obtain ⟨k46, h⟩ := h
  refine r_putr (pc := 58) (r := some _) flX10_34 dX10_init_58 rfl (fun q hq => by cases hq; exact Or.inr ⟨rfl, rfl, rfl⟩) (fun q hq _ => by cases hq; exact ww_261) k46 ?_
  replace h := h _ rfl
  refine r_aload_n (pc := 61) (i := 0) dX10_init_61 rfl rfl ?_
  refine r_bipush (pc := 62) (v := 8) dX10_init_62 (by decide) ?_
  obtain ⟨y51, y52, h⟩ := h
  refine r_newIV (pc := 64) (n := 8) dX10_init_64 (by decide) (by decide) (by decide) y51 y52 (fun n48 M49 enn48 eMn48 e50 => ?_)
  replace h := h n48 enn48 M49 eMn48
  obtain ⟨k53, h⟩ := h
  refine r_putr (pc := 66) (r := some _) flX10_37 dX10_init_66 rfl (fun q hq => by cases hq; exact Or.inr ⟨rfl, rfl, rfl⟩) (fun q hq _ => by cases hq; exact ww_262) k53 ?_
  replace h := h _ rfl
  refine r_aload_n (pc := 69) (i := 0) dX10_init_69 rfl rfl ?_
  refine r_iconst (pc := 70) (v := 4) dX10_init_70 (by decide) ?_
  obtain ⟨y58, y59, h⟩ := h
  refine r_newIV (pc := 71) (n := 4) dX10_init_71 (by decide) (by decide) (by decide) y58 y59 (fun n55 M56 enn55 eMn55 e57 => ?_)
  replace h := h n55 enn55 M56 eMn55
  obtain ⟨k60, h⟩ := h
  refine r_putr (pc := 73) (r := some _) flX10_40 dX10_init_73 rfl (fun q hq => by cases hq; exact Or.inr ⟨rfl, rfl, rfl⟩) (fun q hq _ => by cases hq; exact ww_263) k60 ?_
  replace h := h _ rfl
  refine r_aload_n (pc := 76) (i := 0) dX10_init_76 rfl rfl ?_
  refine r_sipush (pc := 77) (v := 300) dX10_init_77 (by decide) ?_
  obtain ⟨y65, y66, h⟩ := h
  refine r_newJV (pc := 80) (n := 300) dX10_init_80 (by decide) (by decide) (by decide) y65 y66 (fun n62 M63 enn62 eMn62 e64 => ?_)
  replace h := h n62 enn62 M63 eMn62
  obtain ⟨k67, h⟩ := h
  refine r_putr (pc := 82) (r := some _) flX10_43 dX10_init_82 rfl (fun q hq => by cases hq; exact Or.inr ⟨rfl, rfl, rfl⟩) (fun q hq _ => by cases hq; exact ww_264) k67 ?_
  replace h := h _ rfl
  refine r_aload_n (pc := 85) (i := 0) dX10_init_85 rfl rfl ?_
  refine r_sipush (pc := 86) (v := 1024) dX10_init_86 (by decide) ?_
  obtain ⟨y72, y73, h⟩ := h
  refine r_newIV (pc := 89) (n := 1024) dX10_init_89 (by decide) (by decide) (by decide) y72 y73 (fun n69 M70 enn69 eMn69 e71 => ?_)
  replace h := h n69 enn69 M70 eMn69
  obtain ⟨k74, h⟩ := h
  refine r_putr (pc := 91) (r := some _) flX10_47 dX10_init_91 rfl (fun q hq => by cases hq; exact Or.inr ⟨rfl, rfl, rfl⟩) (fun q hq _ => by cases hq; exact ww_265) k74 ?_
  replace h := h _ rfl
  refine r_aload_n (pc := 94) (i := 0) dX10_init_94 rfl rfl ?_
  refine r_bipush (pc := 95) (v := 27) dX10_init_95 (by decide) ?_
  obtain ⟨y79, y80, h⟩ := h
  refine r_newJV (pc := 97) (n := 27) dX10_init_97 (by decide) (by decide) (by decide) y79 y80 (fun n76 M77 enn76 eMn76 e78 => ?_)
  replace h := h n76 enn76 M77 eMn76
  obtain ⟨k81, h⟩ := h
  refine r_putr (pc := 99) (r := some _) flX10_50 dX10_init_99 rfl (fun q hq => by cases hq; exact Or.inr ⟨rfl, rfl, rfl⟩) (fun q hq _ => by cases hq; exact ww_266) k81 ?_
  replace h := h _ rfl
  refine r_aload_n (pc := 102) (i := 0) dX10_init_102 rfl rfl ?_
  refine r_iconst (pc := 103) (v := 0) dX10_init_103 (by decide) ?_
  refine r_puti (pc := 104) flX10_53 dX10_init_104 (Or.inl rfl) (fun q hq => by cases hq; rfl) k81 ?_
  replace h := h _ rfl
  refine r_aload_n (pc := 107) (i := 0) dX10_init_107 rfl rfl ?_
  refine r_iconst (pc := 108) (v := 2) dX10_init_108 (by decide) ?_
  refine r_puti (pc := 109) flX10_57 dX10_init_109 (Or.inl rfl) (fun q hq => by cases hq; rfl) k81 ?_
  replace h := h _ rfl
  exact r_vret (pc := 112) dX10_init_112 rfl h
abbrev LX10_weaveMachine_24 (G : GG) (d rc rs : Nat) (p0 : Nat) (p1 : Nat) (p2 : Nat) (x3 : Int32) (x4 : Int32) (p5 : Nat) (x6 : Int32) (z7 : Option Value) (z8 : Option Value) (z9 : Option Value) (z10 : Option Value) (M : Mem) (Q : Option Value → Mem → Prop) : Prop := Wk G (d + 1) rc rs mX10_weaveMachine 24 [some (.ref p0), some (.ref p1), some (.ref p2), some (.int x3), some (.int x4), some (.ref p5), some (.int x6), z7, z8, z9, z10] [] M Q
abbrev LX10_weaveMachine_85 (G : GG) (d rc rs : Nat) (p0 : Nat) (p1 : Nat) (p2 : Nat) (x3 : Int32) (x4 : Int32) (p5 : Nat) (x6 : Int32) (x7 : Int32) (x8 : Int32) (x9 : Int32) (z10 : Option Value) (M : Mem) (Q : Option Value → Mem → Prop) : Prop := Wk G (d + 1) rc rs mX10_weaveMachine 85 [some (.ref p0), some (.ref p1), some (.ref p2), some (.int x3), some (.int x4), some (.ref p5), some (.int x6), some (.int x7), some (.int x8), some (.int x9), z10] [] M Q
abbrev LX10_weaveMachine_108 (G : GG) (d rc rs : Nat) (p0 : Nat) (p1 : Nat) (p2 : Nat) (x3 : Int32) (x4 : Int32) (p5 : Nat) (x6 : Int32) (x7 : Int32) (x8 : Int32) (x9 : Int32) (z10 : Option Value) (u0 : Int32) (M : Mem) (Q : Option Value → Mem → Prop) : Prop := Wk G (d + 1) rc rs mX10_weaveMachine 108 [some (.ref p0), some (.ref p1), some (.ref p2), some (.int x3), some (.int x4), some (.ref p5), some (.int x6), some (.int x7), some (.int x8), some (.int x9), z10] [.int u0] M Q
theorem eX10_weaveMachine {G : GG} {d rc rs : Nat} (o : Nat) (a1 : Nat) (a2 : Nat) (a3 : Int32) (a4 : Int32) (a5 : Nat)  {M : Mem} {Q : Option Value → Mem → Prop} (h : (x_h M o).1 = 26 ∧ (∃ b2, x_r M o 0 = some b2 ∧ (x_h M b2).1 = 18 ∧ Call G d 0 0 mX2_open [.ref b2, .int (a3 + 1), .int a4] M (fun r4 M5 => r4 = none ∧ (x_h M5 o).1 = 26 ∧ (∃ b7, x_r M5 o 0 = some b7 ∧ (x_h M5 b7).1 = 18 ∧ Call G d 0 0 mX2_meet [.ref b7, .int a3] M5 (fun r9 M10 => ∃ v11 : Int32, r9 = some (.int v11) ∧ LX10_weaveMachine_24 G d rc rs o a1 a2 a3 a4 a5 0 none none none none M10 Q))))) : Call G (d + 1) rc rs mX10_weaveMachine [.ref o, .ref a1, .ref a2, .int a3, .int a4, .ref a5] M Q := by
  refine call_of (by decide) (Nat.le_of_ble_eq_true rfl) ?_
  show Wk G (d + 1) rc rs mX10_weaveMachine 0 [some (.ref o), some (.ref a1), some (.ref a2), some (.int a3), some (.int a4), some (.ref a5), none, none, none, none, none] [] M Q
  refine r_aload_n (pc := 0) (i := 0) dX10_weaveMachine_0 rfl rfl ?_
  obtain ⟨k1, h⟩ := h
  obtain ⟨b2, hb2, h⟩ := h
  refine r_getr (pc := 1) flX10_12 dX10_weaveMachine_1 rfl k1 hb2 ?_
  refine r_iload_n (pc := 4) (i := 3) dX10_weaveMachine_4 rfl rfl ?_
  refine r_iconst (pc := 5) (v := 1) dX10_weaveMachine_5 (by decide) ?_
  refine r_iadd (pc := 6) dX10_weaveMachine_6 ?_
  refine r_iload (pc := 7) (i := 4) dX10_weaveMachine_7 rfl ?_
  obtain ⟨k3, h⟩ := h
  refine r_callV (pc := 9) (ci := 2) (as := [_, _]) (st := []) okX2_open lkX10_60 inX2_open seX2_open ⟨_, rfl, rfl⟩ dX10_weaveMachine_9 rfl k3 (Nat.le_of_ble_eq_true rfl) (Nat.zero_le _) (Nat.zero_le _) (Call.mono h (fun r4 M5 h => ?_))
  obtain ⟨rfl, h⟩ := h
  refine r_aload_n (pc := 12) (i := 0) dX10_weaveMachine_12 rfl rfl ?_
  obtain ⟨k6, h⟩ := h
  obtain ⟨b7, hb7, h⟩ := h
  refine r_getr (pc := 13) flX10_12 dX10_weaveMachine_13 rfl k6 hb7 ?_
  refine r_iload_n (pc := 16) (i := 3) dX10_weaveMachine_16 rfl rfl ?_
  obtain ⟨k8, h⟩ := h
  refine r_callV (pc := 17) (ci := 2) (as := [_]) (st := []) okX2_meet lkX10_63 inX2_meet seX2_meet ⟨_, rfl, rfl⟩ dX10_weaveMachine_17 rfl k8 (Nat.le_of_ble_eq_true rfl) (Nat.zero_le _) (Nat.zero_le _) (Call.mono h (fun r9 M10 h => ?_))
  obtain ⟨v11, rfl, h⟩ := h
  refine r_pop (pc := 20) dX10_weaveMachine_20 rfl ?_
  refine r_iconst (pc := 21) (v := 0) dX10_weaveMachine_21 (by decide) ?_
  refine r_istore (pc := 22) (i := 6) dX10_weaveMachine_22 rfl (Nat.le_of_ble_eq_true rfl) ?_
  exact h
theorem vX10_weaveMachine_24 {G : GG} {d rc rs : Nat} (p0 : Nat) (p1 : Nat) (p2 : Nat) (x3 : Int32) (x4 : Int32) (p5 : Nat) (x6 : Int32) (z7 : Option Value) (z8 : Option Value) (z9 : Option Value) (z10 : Option Value) (hz7 : c1 z7 = true) (hz8 : c1 z8 = true) (hz9 : c1 z9 = true) (hz10 : c1 z10 = true) {M : Mem} {Q : Option Value → Mem → Prop} (h : (x_h M p0).1 = 26 ∧ (∃ b2, x_r M p0 0 = some b2 ∧ (x_h M b2).1 = 18 ∧ ((x_i M b2 9) ≤ x6 → Call G d 0 0 mX2_draw [.ref b2, .ref p5, .int 60] M (fun r5 M6 => ∃ v7 : Int32, r5 = some (.int v7) ∧ Q none M6)) ∧ (¬ (x_i M b2 9) ≤ x6 → (x3 < x6 → Call G d 0 0 mX2_draw [.ref b2, .ref p5, .int 60] M (fun r9 M10 => ∃ v11 : Int32, r9 = some (.int v11) ∧ Q none M10)) ∧ (¬ x3 < x6 → Call G d 0 0 mX2_keyOf [.ref b2, .int x6] M (fun r12 M13 => ∃ v14 : Int32, r12 = some (.int v14) ∧ (¬ v14 = x3 → (x_h M13 p0).1 = 26 ∧ (∃ b17, x_r M13 p0 0 = some b17 ∧ Call G d 0 0 mX10_at [.ref p2, .int v14] M13 (fun r18 M19 => ∃ v20 : Int32, r18 = some (.int v20) ∧ (x_h M19 b17).1 = 18 ∧ Call G d 0 0 mX2_putMark [.ref b17, .int x6, .int v20] M19 (fun r22 M23 => r22 = none ∧ LX10_weaveMachine_85 G d rc rs p0 p1 p2 x3 x4 p5 x6 v14 v14 0 z10 M23 Q)))) ∧ (v14 = x3 → (x_h M13 p0).1 = 26 ∧ (∃ b25, x_r M13 p0 0 = some b25 ∧ Call G d 0 0 mX10_at [.ref p2, .int 0] M13 (fun r26 M27 => ∃ v28 : Int32, r26 = some (.int v28) ∧ (x_h M27 b25).1 = 18 ∧ Call G d 0 0 mX2_putMark [.ref b25, .int x6, .int v28] M27 (fun r30 M31 => r30 = none ∧ LX10_weaveMachine_85 G d rc rs p0 p1 p2 x3 x4 p5 x6 v14 0 0 z10 M31 Q))))))))) : LX10_weaveMachine_24 G d rc rs p0 p1 p2 x3 x4 p5 x6 z7 z8 z9 z10 M Q := by
  show Wk G (d + 1) rc rs mX10_weaveMachine 24 _ _ M Q
  refine r_iload (pc := 24) (i := 6) dX10_weaveMachine_24 rfl ?_
  refine r_aload_n (pc := 26) (i := 0) dX10_weaveMachine_26 rfl rfl ?_
  obtain ⟨k1, h⟩ := h
  obtain ⟨b2, hb2, h⟩ := h
  refine r_getr (pc := 27) flX10_12 dX10_weaveMachine_27 rfl k1 hb2 ?_
  obtain ⟨k3, h⟩ := h
  refine r_geti (pc := 30) flX10_67 dX10_weaveMachine_30 (Or.inl rfl) k3 ?_
  refine r_icmp_ge (pc := 33) (tgt := 161) dX10_weaveMachine_33 (by decide) (fun c4 => ?_) (fun c4 => ?_)
  · replace h := h.1 c4
    refine r_aload_n (pc := 161) (i := 0) dX10_weaveMachine_161 rfl rfl ?_
    refine r_getr (pc := 162) flX10_12 dX10_weaveMachine_162 rfl k1 hb2 ?_
    refine r_aload (pc := 165) (i := 5) dX10_weaveMachine_165 rfl ?_
    refine r_bipush (pc := 167) (v := 60) dX10_weaveMachine_167 (by decide) ?_
    refine r_callV (pc := 169) (ci := 2) (as := [_, _]) (st := []) okX2_draw lkX10_84 inX2_draw seX2_draw ⟨_, rfl, rfl⟩ dX10_weaveMachine_169 rfl k3 (Nat.le_of_ble_eq_true rfl) (Nat.zero_le _) (Nat.zero_le _) (Call.mono h (fun r5 M6 h => ?_))
    obtain ⟨v7, rfl, h⟩ := h
    refine r_pop (pc := 172) dX10_weaveMachine_172 rfl ?_
    exact r_vret (pc := 173) dX10_weaveMachine_173 rfl h
  · replace h := h.2 c4
    refine r_iload (pc := 36) (i := 6) dX10_weaveMachine_36 rfl ?_
    refine r_iload_n (pc := 38) (i := 3) dX10_weaveMachine_38 rfl rfl ?_
    refine r_icmp_gt (pc := 39) (tgt := 161) dX10_weaveMachine_39 (by decide) (fun c8 => ?_) (fun c8 => ?_)
    · replace h := h.1 c8
      refine r_aload_n (pc := 161) (i := 0) dX10_weaveMachine_161 rfl rfl ?_
      refine r_getr (pc := 162) flX10_12 dX10_weaveMachine_162 rfl k1 hb2 ?_
      refine r_aload (pc := 165) (i := 5) dX10_weaveMachine_165 rfl ?_
      refine r_bipush (pc := 167) (v := 60) dX10_weaveMachine_167 (by decide) ?_
      refine r_callV (pc := 169) (ci := 2) (as := [_, _]) (st := []) okX2_draw lkX10_84 inX2_draw seX2_draw ⟨_, rfl, rfl⟩ dX10_weaveMachine_169 rfl k3 (Nat.le_of_ble_eq_true rfl) (Nat.zero_le _) (Nat.zero_le _) (Call.mono h (fun r9 M10 h => ?_))
      obtain ⟨v11, rfl, h⟩ := h
      refine r_pop (pc := 172) dX10_weaveMachine_172 rfl ?_
      exact r_vret (pc := 173) dX10_weaveMachine_173 rfl h
    · replace h := h.2 c8
      refine r_aload_n (pc := 42) (i := 0) dX10_weaveMachine_42 rfl rfl ?_
      refine r_getr (pc := 43) flX10_12 dX10_weaveMachine_43 rfl k1 hb2 ?_
      refine r_iload (pc := 46) (i := 6) dX10_weaveMachine_46 rfl ?_
      refine r_callV (pc := 48) (ci := 2) (as := [_]) (st := []) okX2_keyOf lkX10_70 inX2_keyOf seX2_keyOf ⟨_, rfl, rfl⟩ dX10_weaveMachine_48 rfl k3 (Nat.le_of_ble_eq_true rfl) (Nat.zero_le _) (Nat.zero_le _) (Call.mono h (fun r12 M13 h => ?_))
      obtain ⟨v14, rfl, h⟩ := h
      refine r_istore (pc := 51) (i := 7) dX10_weaveMachine_51 rfl (Nat.le_of_ble_eq_true rfl) ?_
      refine r_iload (pc := 53) (i := 7) dX10_weaveMachine_53 rfl ?_
      refine r_iload_n (pc := 55) (i := 3) dX10_weaveMachine_55 rfl rfl ?_
      refine r_icmp_ne (pc := 56) (tgt := 63) dX10_weaveMachine_56 (by decide) (fun c15 => ?_) (fun c15 => ?_)
      · replace h := h.1 c15
        refine r_iload (pc := 63) (i := 7) dX10_weaveMachine_63 rfl ?_
        refine r_istore (pc := 65) (i := 8) dX10_weaveMachine_65 rfl (Nat.le_of_ble_eq_true rfl) ?_
        refine r_aload_n (pc := 67) (i := 0) dX10_weaveMachine_67 rfl rfl ?_
        obtain ⟨k16, h⟩ := h
        obtain ⟨b17, hb17, h⟩ := h
        refine r_getr (pc := 68) flX10_12 dX10_weaveMachine_68 rfl k16 hb17 ?_
        refine r_iload (pc := 71) (i := 6) dX10_weaveMachine_71 rfl ?_
        refine r_aload_n (pc := 73) (i := 2) dX10_weaveMachine_73 rfl rfl ?_
        refine r_iload (pc := 74) (i := 8) dX10_weaveMachine_74 rfl ?_
        refine r_callS (pc := 76) (as := [_, _]) (st := [_, _]) okX10_at lkX10_73 stX10_at dX10_weaveMachine_76 rfl (Nat.le_of_ble_eq_true rfl) (Nat.zero_le _) (Nat.zero_le _) (Call.mono h (fun r18 M19 h => ?_))
        obtain ⟨v20, rfl, h⟩ := h
        obtain ⟨k21, h⟩ := h
        refine r_callV (pc := 79) (ci := 2) (as := [_, _]) (st := []) okX2_putMark lkX10_77 inX2_putMark seX2_putMark ⟨_, rfl, rfl⟩ dX10_weaveMachine_79 rfl k21 (Nat.le_of_ble_eq_true rfl) (Nat.zero_le _) (Nat.zero_le _) (Call.mono h (fun r22 M23 h => ?_))
        obtain ⟨rfl, h⟩ := h
        refine r_iconst (pc := 82) (v := 0) dX10_weaveMachine_82 (by decide) ?_
        refine r_istore (pc := 83) (i := 9) dX10_weaveMachine_83 rfl (Nat.le_of_ble_eq_true rfl) ?_
        exact h
      · replace h := h.2 c15
        refine r_iconst (pc := 59) (v := 0) dX10_weaveMachine_59 (by decide) ?_
        refine r_goto (pc := 60) (tgt := 65) dX10_weaveMachine_60 (by decide) ?_
        refine r_istore (pc := 65) (i := 8) dX10_weaveMachine_65 rfl (Nat.le_of_ble_eq_true rfl) ?_
        refine r_aload_n (pc := 67) (i := 0) dX10_weaveMachine_67 rfl rfl ?_
        obtain ⟨k24, h⟩ := h
        obtain ⟨b25, hb25, h⟩ := h
        refine r_getr (pc := 68) flX10_12 dX10_weaveMachine_68 rfl k24 hb25 ?_
        refine r_iload (pc := 71) (i := 6) dX10_weaveMachine_71 rfl ?_
        refine r_aload_n (pc := 73) (i := 2) dX10_weaveMachine_73 rfl rfl ?_
        refine r_iload (pc := 74) (i := 8) dX10_weaveMachine_74 rfl ?_
        refine r_callS (pc := 76) (as := [_, _]) (st := [_, _]) okX10_at lkX10_73 stX10_at dX10_weaveMachine_76 rfl (Nat.le_of_ble_eq_true rfl) (Nat.zero_le _) (Nat.zero_le _) (Call.mono h (fun r26 M27 h => ?_))
        obtain ⟨v28, rfl, h⟩ := h
        obtain ⟨k29, h⟩ := h
        refine r_callV (pc := 79) (ci := 2) (as := [_, _]) (st := []) okX2_putMark lkX10_77 inX2_putMark seX2_putMark ⟨_, rfl, rfl⟩ dX10_weaveMachine_79 rfl k29 (Nat.le_of_ble_eq_true rfl) (Nat.zero_le _) (Nat.zero_le _) (Call.mono h (fun r30 M31 h => ?_))
        obtain ⟨rfl, h⟩ := h
        refine r_iconst (pc := 82) (v := 0) dX10_weaveMachine_82 (by decide) ?_
        refine r_istore (pc := 83) (i := 9) dX10_weaveMachine_83 rfl (Nat.le_of_ble_eq_true rfl) ?_
        exact h
theorem vX10_weaveMachine_85 {G : GG} {d rc rs : Nat} (p0 : Nat) (p1 : Nat) (p2 : Nat) (x3 : Int32) (x4 : Int32) (p5 : Nat) (x6 : Int32) (x7 : Int32) (x8 : Int32) (x9 : Int32) (z10 : Option Value) (hz10 : c1 z10 = true) {M : Mem} {Q : Option Value → Mem → Prop} (h : (x4 ≤ x9 → LX10_weaveMachine_24 G d rc rs p0 p1 p2 x3 x4 p5 (x6 + 1) (some (.int x7)) (some (.int x8)) (some (.int x9)) z10 M Q) ∧ (¬ x4 ≤ x9 → (¬ x7 = x3 → LX10_weaveMachine_108 G d rc rs p0 p1 p2 x3 x4 p5 x6 x7 x8 x9 z10 0 M Q) ∧ (x7 = x3 → (¬ x9 = 0 → LX10_weaveMachine_108 G d rc rs p0 p1 p2 x3 x4 p5 x6 x7 x8 x9 z10 0 M Q) ∧ (x9 = 0 → LX10_weaveMachine_108 G d rc rs p0 p1 p2 x3 x4 p5 x6 x7 x8 x9 z10 1 M Q)))) : LX10_weaveMachine_85 G d rc rs p0 p1 p2 x3 x4 p5 x6 x7 x8 x9 z10 M Q := by
  show Wk G (d + 1) rc rs mX10_weaveMachine 85 _ _ M Q
  refine r_iload (pc := 85) (i := 9) dX10_weaveMachine_85 rfl ?_
  refine r_iload (pc := 87) (i := 4) dX10_weaveMachine_87 rfl ?_
  refine r_icmp_ge (pc := 89) (tgt := 155) dX10_weaveMachine_89 (by decide) (fun c1 => ?_) (fun c1 => ?_)
  · replace h := h.1 c1
    refine r_iinc (pc := 155) (i := 6) (v := _ + 1) dX10_weaveMachine_155 rfl rfl rfl ?_
    refine r_goto (pc := 158) (tgt := 24) dX10_weaveMachine_158 (by decide) ?_
    exact h
  · replace h := h.2 c1
    refine r_iload (pc := 92) (i := 7) dX10_weaveMachine_92 rfl ?_
    refine r_iload_n (pc := 94) (i := 3) dX10_weaveMachine_94 rfl rfl ?_
    refine r_icmp_ne (pc := 95) (tgt := 107) dX10_weaveMachine_95 (by decide) (fun c2 => ?_) (fun c2 => ?_)
    · replace h := h.1 c2
      refine r_iconst (pc := 107) (v := 0) dX10_weaveMachine_107 (by decide) ?_
      exact h
    · replace h := h.2 c2
      refine r_iload (pc := 98) (i := 9) dX10_weaveMachine_98 rfl ?_
      refine r_if_ne (pc := 100) (tgt := 107) dX10_weaveMachine_100 (by decide) (fun c3 => ?_) (fun c3 => ?_)
      · replace h := h.1 c3
        refine r_iconst (pc := 107) (v := 0) dX10_weaveMachine_107 (by decide) ?_
        exact h
      · replace h := h.2 c3
        refine r_iconst (pc := 103) (v := 1) dX10_weaveMachine_103 (by decide) ?_
        refine r_goto (pc := 104) (tgt := 108) dX10_weaveMachine_104 (by decide) ?_
        exact h
theorem vX10_weaveMachine_108 {G : GG} {d rc rs : Nat} (p0 : Nat) (p1 : Nat) (p2 : Nat) (x3 : Int32) (x4 : Int32) (p5 : Nat) (x6 : Int32) (x7 : Int32) (x8 : Int32) (x9 : Int32) (z10 : Option Value) (u0 : Int32) (hz10 : c1 z10 = true) {M : Mem} {Q : Option Value → Mem → Prop} (h : (x_h M p0).1 = 26 ∧ (∃ b2, x_r M p0 0 = some b2 ∧ (u0 = 0 → Call G d 0 0 mX10_at [.ref p1, .int ((x8 * x4) + x9)] M (fun r4 M5 => ∃ v6 : Int32, r4 = some (.int v6) ∧ (x_h M5 b2).1 = 18 ∧ Call G d 0 0 mX2_meet [.ref b2, .int v6] M5 (fun r8 M9 => ∃ v10 : Int32, r8 = some (.int v10) ∧ (x_h M9 b2).1 = 18 ∧ Call G d 0 0 mX2_link [.ref b2, .int x6, .int x9, .int v10] M9 (fun r12 M13 => r12 = none ∧ LX10_weaveMachine_85 G d rc rs p0 p1 p2 x3 x4 p5 x6 x7 x8 (x9 + 1) (some (.int u0)) M13 Q)))) ∧ (¬ u0 = 0 → (x_h M b2).1 = 18 ∧ Call G d 0 0 mX2_meet [.ref b2, .int x3] M (fun r15 M16 => ∃ v17 : Int32, r15 = some (.int v17) ∧ (x_h M16 b2).1 = 18 ∧ Call G d 0 0 mX2_link [.ref b2, .int x6, .int x9, .int v17] M16 (fun r19 M20 => r19 = none ∧ LX10_weaveMachine_85 G d rc rs p0 p1 p2 x3 x4 p5 x6 x7 x8 (x9 + 1) (some (.int u0)) M20 Q))))) : LX10_weaveMachine_108 G d rc rs p0 p1 p2 x3 x4 p5 x6 x7 x8 x9 z10 u0 M Q := by
  show Wk G (d + 1) rc rs mX10_weaveMachine 108 _ _ M Q
  refine r_istore (pc := 108) (i := 10) dX10_weaveMachine_108 rfl (Nat.le_of_ble_eq_true rfl) ?_
  refine r_aload_n (pc := 110) (i := 0) dX10_weaveMachine_110 rfl rfl ?_
  obtain ⟨k1, h⟩ := h
  obtain ⟨b2, hb2, h⟩ := h
  refine r_getr (pc := 111) flX10_12 dX10_weaveMachine_111 rfl k1 hb2 ?_
  refine r_iload (pc := 114) (i := 6) dX10_weaveMachine_114 rfl ?_
  refine r_iload (pc := 116) (i := 9) dX10_weaveMachine_116 rfl ?_
  refine r_aload_n (pc := 118) (i := 0) dX10_weaveMachine_118 rfl rfl ?_
  refine r_getr (pc := 119) flX10_12 dX10_weaveMachine_119 rfl k1 hb2 ?_
  refine r_iload (pc := 122) (i := 10) dX10_weaveMachine_122 rfl ?_
  refine r_if_eq (pc := 124) (tgt := 131) dX10_weaveMachine_124 (by decide) (fun c3 => ?_) (fun c3 => ?_)
  · replace h := h.1 c3
    refine r_aload_n (pc := 131) (i := 1) dX10_weaveMachine_131 rfl rfl ?_
    refine r_iload (pc := 132) (i := 8) dX10_weaveMachine_132 rfl ?_
    refine r_iload (pc := 134) (i := 4) dX10_weaveMachine_134 rfl ?_
    refine r_imul (pc := 136) dX10_weaveMachine_136 ?_
    refine r_iload (pc := 137) (i := 9) dX10_weaveMachine_137 rfl ?_
    refine r_iadd (pc := 139) dX10_weaveMachine_139 ?_
    refine r_callS (pc := 140) (as := [_, _]) (st := [_, _, _, _]) okX10_at lkX10_73 stX10_at dX10_weaveMachine_140 rfl (Nat.le_of_ble_eq_true rfl) (Nat.zero_le _) (Nat.zero_le _) (Call.mono h (fun r4 M5 h => ?_))
    obtain ⟨v6, rfl, h⟩ := h
    obtain ⟨k7, h⟩ := h
    refine r_callV (pc := 143) (ci := 2) (as := [_]) (st := [_, _, _]) okX2_meet lkX10_63 inX2_meet seX2_meet ⟨_, rfl, rfl⟩ dX10_weaveMachine_143 rfl k7 (Nat.le_of_ble_eq_true rfl) (Nat.zero_le _) (Nat.zero_le _) (Call.mono h (fun r8 M9 h => ?_))
    obtain ⟨v10, rfl, h⟩ := h
    obtain ⟨k11, h⟩ := h
    refine r_callV (pc := 146) (ci := 2) (as := [_, _, _]) (st := []) okX2_link lkX10_80 inX2_link seX2_link ⟨_, rfl, rfl⟩ dX10_weaveMachine_146 rfl k11 (Nat.le_of_ble_eq_true rfl) (Nat.zero_le _) (Nat.zero_le _) (Call.mono h (fun r12 M13 h => ?_))
    obtain ⟨rfl, h⟩ := h
    refine r_iinc (pc := 149) (i := 9) (v := _ + 1) dX10_weaveMachine_149 rfl rfl rfl ?_
    refine r_goto (pc := 152) (tgt := 85) dX10_weaveMachine_152 (by decide) ?_
    exact h
  · replace h := h.2 c3
    refine r_iload_n (pc := 127) (i := 3) dX10_weaveMachine_127 rfl rfl ?_
    refine r_goto (pc := 128) (tgt := 143) dX10_weaveMachine_128 (by decide) ?_
    obtain ⟨k14, h⟩ := h
    refine r_callV (pc := 143) (ci := 2) (as := [_]) (st := [_, _, _]) okX2_meet lkX10_63 inX2_meet seX2_meet ⟨_, rfl, rfl⟩ dX10_weaveMachine_143 rfl k14 (Nat.le_of_ble_eq_true rfl) (Nat.zero_le _) (Nat.zero_le _) (Call.mono h (fun r15 M16 h => ?_))
    obtain ⟨v17, rfl, h⟩ := h
    obtain ⟨k18, h⟩ := h
    refine r_callV (pc := 146) (ci := 2) (as := [_, _, _]) (st := []) okX2_link lkX10_80 inX2_link seX2_link ⟨_, rfl, rfl⟩ dX10_weaveMachine_146 rfl k18 (Nat.le_of_ble_eq_true rfl) (Nat.zero_le _) (Nat.zero_le _) (Call.mono h (fun r19 M20 h => ?_))
    obtain ⟨rfl, h⟩ := h
    refine r_iinc (pc := 149) (i := 9) (v := _ + 1) dX10_weaveMachine_149 rfl rfl rfl ?_
    refine r_goto (pc := 152) (tgt := 85) dX10_weaveMachine_152 (by decide) ?_
    exact h
abbrev LX10_weaveGrown_21 (G : GG) (d rc rs : Nat) (p0 : Nat) (p1 : Nat) (x2 : Int32) (x3 : Int32) (p4 : Nat) (x5 : Int32) (z6 : Option Value) (z7 : Option Value) (M : Mem) (Q : Option Value → Mem → Prop) : Prop := Wk G (d + 1) rc rs mX10_weaveGrown 21 [some (.ref p0), some (.ref p1), some (.int x2), some (.int x3), some (.ref p4), some (.int x5), z6, z7] [] M Q
abbrev LX10_weaveGrown_64 (G : GG) (d rc rs : Nat) (p0 : Nat) (p1 : Nat) (x2 : Int32) (x3 : Int32) (p4 : Nat) (x5 : Int32) (x6 : Int32) (x7 : Int32) (M : Mem) (Q : Option Value → Mem → Prop) : Prop := Wk G (d + 1) rc rs mX10_weaveGrown 64 [some (.ref p0), some (.ref p1), some (.int x2), some (.int x3), some (.ref p4), some (.int x5), some (.int x6), some (.int x7)] [] M Q
theorem eX10_weaveGrown {G : GG} {d rc rs : Nat} (o : Nat) (a1 : Nat) (a2 : Int32) (a3 : Int32) (a4 : Nat)  {M : Mem} {Q : Option Value → Mem → Prop} (h : (x_h M o).1 = 26 ∧ (∃ b2, x_r M o 0 = some b2 ∧ (x_h M b2).1 = 18 ∧ Call G d 0 0 mX2_open [.ref b2, .int a2, .int a3] M (fun r4 M5 => r4 = none ∧ (x_h M5 o).1 = 26 ∧ (∃ b7, x_r M5 o 0 = some b7 ∧ (x_h M5 b7).1 = 18 ∧ Call G d 0 0 mX2_meet [.ref b7, .int 0] M5 (fun r9 M10 => ∃ v11 : Int32, r9 = some (.int v11) ∧ LX10_weaveGrown_21 G d rc rs o a1 a2 a3 a4 0 none none M10 Q))))) : Call G (d + 1) rc rs mX10_weaveGrown [.ref o, .ref a1, .int a2, .int a3, .ref a4] M Q := by
  refine call_of (by decide) (Nat.le_of_ble_eq_true rfl) ?_
  show Wk G (d + 1) rc rs mX10_weaveGrown 0 [some (.ref o), some (.ref a1), some (.int a2), some (.int a3), some (.ref a4), none, none, none] [] M Q
  refine r_aload_n (pc := 0) (i := 0) dX10_weaveGrown_0 rfl rfl ?_
  obtain ⟨k1, h⟩ := h
  obtain ⟨b2, hb2, h⟩ := h
  refine r_getr (pc := 1) flX10_12 dX10_weaveGrown_1 rfl k1 hb2 ?_
  refine r_iload_n (pc := 4) (i := 2) dX10_weaveGrown_4 rfl rfl ?_
  refine r_iload_n (pc := 5) (i := 3) dX10_weaveGrown_5 rfl rfl ?_
  obtain ⟨k3, h⟩ := h
  refine r_callV (pc := 6) (ci := 2) (as := [_, _]) (st := []) okX2_open lkX10_60 inX2_open seX2_open ⟨_, rfl, rfl⟩ dX10_weaveGrown_6 rfl k3 (Nat.le_of_ble_eq_true rfl) (Nat.zero_le _) (Nat.zero_le _) (Call.mono h (fun r4 M5 h => ?_))
  obtain ⟨rfl, h⟩ := h
  refine r_aload_n (pc := 9) (i := 0) dX10_weaveGrown_9 rfl rfl ?_
  obtain ⟨k6, h⟩ := h
  obtain ⟨b7, hb7, h⟩ := h
  refine r_getr (pc := 10) flX10_12 dX10_weaveGrown_10 rfl k6 hb7 ?_
  refine r_iconst (pc := 13) (v := 0) dX10_weaveGrown_13 (by decide) ?_
  obtain ⟨k8, h⟩ := h
  refine r_callV (pc := 14) (ci := 2) (as := [_]) (st := []) okX2_meet lkX10_63 inX2_meet seX2_meet ⟨_, rfl, rfl⟩ dX10_weaveGrown_14 rfl k8 (Nat.le_of_ble_eq_true rfl) (Nat.zero_le _) (Nat.zero_le _) (Call.mono h (fun r9 M10 h => ?_))
  obtain ⟨v11, rfl, h⟩ := h
  refine r_pop (pc := 17) dX10_weaveGrown_17 rfl ?_
  refine r_iconst (pc := 18) (v := 0) dX10_weaveGrown_18 (by decide) ?_
  refine r_istore (pc := 19) (i := 5) dX10_weaveGrown_19 rfl (Nat.le_of_ble_eq_true rfl) ?_
  exact h
theorem vX10_weaveGrown_21 {G : GG} {d rc rs : Nat} (p0 : Nat) (p1 : Nat) (x2 : Int32) (x3 : Int32) (p4 : Nat) (x5 : Int32) (z6 : Option Value) (z7 : Option Value) (hz6 : c1 z6 = true) (hz7 : c1 z7 = true) {M : Mem} {Q : Option Value → Mem → Prop} (h : (x_h M p0).1 = 26 ∧ (∃ b2, x_r M p0 0 = some b2 ∧ (x_h M b2).1 = 18 ∧ ((x_i M b2 9) ≤ x5 → Call G d 0 0 mX2_draw [.ref b2, .ref p4, .int 60] M (fun r5 M6 => ∃ v7 : Int32, r5 = some (.int v7) ∧ Q none M6)) ∧ (¬ (x_i M b2 9) ≤ x5 → (x2 ≤ x5 → Call G d 0 0 mX2_draw [.ref b2, .ref p4, .int 60] M (fun r9 M10 => ∃ v11 : Int32, r9 = some (.int v11) ∧ Q none M10)) ∧ (¬ x2 ≤ x5 → Call G d 0 0 mX2_keyOf [.ref b2, .int x5] M (fun r12 M13 => ∃ v14 : Int32, r12 = some (.int v14) ∧ (x_h M13 p0).1 = 26 ∧ (∃ b16, x_r M13 p0 0 = some b16 ∧ (x_h M13 b16).1 = 18 ∧ Call G d 0 0 mX2_putMark [.ref b16, .int x5, .int v14] M13 (fun r18 M19 => r18 = none ∧ LX10_weaveGrown_64 G d rc rs p0 p1 x2 x3 p4 x5 v14 0 M19 Q))))))) : LX10_weaveGrown_21 G d rc rs p0 p1 x2 x3 p4 x5 z6 z7 M Q := by
  show Wk G (d + 1) rc rs mX10_weaveGrown 21 _ _ M Q
  refine r_iload (pc := 21) (i := 5) dX10_weaveGrown_21 rfl ?_
  refine r_aload_n (pc := 23) (i := 0) dX10_weaveGrown_23 rfl rfl ?_
  obtain ⟨k1, h⟩ := h
  obtain ⟨b2, hb2, h⟩ := h
  refine r_getr (pc := 24) flX10_12 dX10_weaveGrown_24 rfl k1 hb2 ?_
  obtain ⟨k3, h⟩ := h
  refine r_geti (pc := 27) flX10_67 dX10_weaveGrown_27 (Or.inl rfl) k3 ?_
  refine r_icmp_ge (pc := 30) (tgt := 111) dX10_weaveGrown_30 (by decide) (fun c4 => ?_) (fun c4 => ?_)
  · replace h := h.1 c4
    refine r_aload_n (pc := 111) (i := 0) dX10_weaveGrown_111 rfl rfl ?_
    refine r_getr (pc := 112) flX10_12 dX10_weaveGrown_112 rfl k1 hb2 ?_
    refine r_aload (pc := 115) (i := 4) dX10_weaveGrown_115 rfl ?_
    refine r_bipush (pc := 117) (v := 60) dX10_weaveGrown_117 (by decide) ?_
    refine r_callV (pc := 119) (ci := 2) (as := [_, _]) (st := []) okX2_draw lkX10_84 inX2_draw seX2_draw ⟨_, rfl, rfl⟩ dX10_weaveGrown_119 rfl k3 (Nat.le_of_ble_eq_true rfl) (Nat.zero_le _) (Nat.zero_le _) (Call.mono h (fun r5 M6 h => ?_))
    obtain ⟨v7, rfl, h⟩ := h
    refine r_pop (pc := 122) dX10_weaveGrown_122 rfl ?_
    exact r_vret (pc := 123) dX10_weaveGrown_123 rfl h
  · replace h := h.2 c4
    refine r_iload (pc := 33) (i := 5) dX10_weaveGrown_33 rfl ?_
    refine r_iload_n (pc := 35) (i := 2) dX10_weaveGrown_35 rfl rfl ?_
    refine r_icmp_ge (pc := 36) (tgt := 111) dX10_weaveGrown_36 (by decide) (fun c8 => ?_) (fun c8 => ?_)
    · replace h := h.1 c8
      refine r_aload_n (pc := 111) (i := 0) dX10_weaveGrown_111 rfl rfl ?_
      refine r_getr (pc := 112) flX10_12 dX10_weaveGrown_112 rfl k1 hb2 ?_
      refine r_aload (pc := 115) (i := 4) dX10_weaveGrown_115 rfl ?_
      refine r_bipush (pc := 117) (v := 60) dX10_weaveGrown_117 (by decide) ?_
      refine r_callV (pc := 119) (ci := 2) (as := [_, _]) (st := []) okX2_draw lkX10_84 inX2_draw seX2_draw ⟨_, rfl, rfl⟩ dX10_weaveGrown_119 rfl k3 (Nat.le_of_ble_eq_true rfl) (Nat.zero_le _) (Nat.zero_le _) (Call.mono h (fun r9 M10 h => ?_))
      obtain ⟨v11, rfl, h⟩ := h
      refine r_pop (pc := 122) dX10_weaveGrown_122 rfl ?_
      exact r_vret (pc := 123) dX10_weaveGrown_123 rfl h
    · replace h := h.2 c8
      refine r_aload_n (pc := 39) (i := 0) dX10_weaveGrown_39 rfl rfl ?_
      refine r_getr (pc := 40) flX10_12 dX10_weaveGrown_40 rfl k1 hb2 ?_
      refine r_iload (pc := 43) (i := 5) dX10_weaveGrown_43 rfl ?_
      refine r_callV (pc := 45) (ci := 2) (as := [_]) (st := []) okX2_keyOf lkX10_70 inX2_keyOf seX2_keyOf ⟨_, rfl, rfl⟩ dX10_weaveGrown_45 rfl k3 (Nat.le_of_ble_eq_true rfl) (Nat.zero_le _) (Nat.zero_le _) (Call.mono h (fun r12 M13 h => ?_))
      obtain ⟨v14, rfl, h⟩ := h
      refine r_istore (pc := 48) (i := 6) dX10_weaveGrown_48 rfl (Nat.le_of_ble_eq_true rfl) ?_
      refine r_aload_n (pc := 50) (i := 0) dX10_weaveGrown_50 rfl rfl ?_
      obtain ⟨k15, h⟩ := h
      obtain ⟨b16, hb16, h⟩ := h
      refine r_getr (pc := 51) flX10_12 dX10_weaveGrown_51 rfl k15 hb16 ?_
      refine r_iload (pc := 54) (i := 5) dX10_weaveGrown_54 rfl ?_
      refine r_iload (pc := 56) (i := 6) dX10_weaveGrown_56 rfl ?_
      obtain ⟨k17, h⟩ := h
      refine r_callV (pc := 58) (ci := 2) (as := [_, _]) (st := []) okX2_putMark lkX10_77 inX2_putMark seX2_putMark ⟨_, rfl, rfl⟩ dX10_weaveGrown_58 rfl k17 (Nat.le_of_ble_eq_true rfl) (Nat.zero_le _) (Nat.zero_le _) (Call.mono h (fun r18 M19 h => ?_))
      obtain ⟨rfl, h⟩ := h
      refine r_iconst (pc := 61) (v := 0) dX10_weaveGrown_61 (by decide) ?_
      refine r_istore (pc := 62) (i := 7) dX10_weaveGrown_62 rfl (Nat.le_of_ble_eq_true rfl) ?_
      exact h
theorem vX10_weaveGrown_64 {G : GG} {d rc rs : Nat} (p0 : Nat) (p1 : Nat) (x2 : Int32) (x3 : Int32) (p4 : Nat) (x5 : Int32) (x6 : Int32) (x7 : Int32)  {M : Mem} {Q : Option Value → Mem → Prop} (h : (x3 ≤ x7 → LX10_weaveGrown_21 G d rc rs p0 p1 x2 x3 p4 (x5 + 1) (some (.int x6)) (some (.int x7)) M Q) ∧ (¬ x3 ≤ x7 → (x_h M p0).1 = 26 ∧ (∃ b3, x_r M p0 0 = some b3 ∧ Call G d 0 0 mX10_at [.ref p1, .int ((x6 * x3) + x7)] M (fun r4 M5 => ∃ v6 : Int32, r4 = some (.int v6) ∧ (x_h M5 b3).1 = 18 ∧ Call G d 0 0 mX2_meet [.ref b3, .int v6] M5 (fun r8 M9 => ∃ v10 : Int32, r8 = some (.int v10) ∧ (x_h M9 b3).1 = 18 ∧ Call G d 0 0 mX2_link [.ref b3, .int x5, .int x7, .int v10] M9 (fun r12 M13 => r12 = none ∧ LX10_weaveGrown_64 G d rc rs p0 p1 x2 x3 p4 x5 x6 (x7 + 1) M13 Q)))))) : LX10_weaveGrown_64 G d rc rs p0 p1 x2 x3 p4 x5 x6 x7 M Q := by
  show Wk G (d + 1) rc rs mX10_weaveGrown 64 _ _ M Q
  refine r_iload (pc := 64) (i := 7) dX10_weaveGrown_64 rfl ?_
  refine r_iload_n (pc := 66) (i := 3) dX10_weaveGrown_66 rfl rfl ?_
  refine r_icmp_ge (pc := 67) (tgt := 105) dX10_weaveGrown_67 (by decide) (fun c1 => ?_) (fun c1 => ?_)
  · replace h := h.1 c1
    refine r_iinc (pc := 105) (i := 5) (v := _ + 1) dX10_weaveGrown_105 rfl rfl rfl ?_
    refine r_goto (pc := 108) (tgt := 21) dX10_weaveGrown_108 (by decide) ?_
    exact h
  · replace h := h.2 c1
    refine r_aload_n (pc := 70) (i := 0) dX10_weaveGrown_70 rfl rfl ?_
    obtain ⟨k2, h⟩ := h
    obtain ⟨b3, hb3, h⟩ := h
    refine r_getr (pc := 71) flX10_12 dX10_weaveGrown_71 rfl k2 hb3 ?_
    refine r_iload (pc := 74) (i := 5) dX10_weaveGrown_74 rfl ?_
    refine r_iload (pc := 76) (i := 7) dX10_weaveGrown_76 rfl ?_
    refine r_aload_n (pc := 78) (i := 0) dX10_weaveGrown_78 rfl rfl ?_
    refine r_getr (pc := 79) flX10_12 dX10_weaveGrown_79 rfl k2 hb3 ?_
    refine r_aload_n (pc := 82) (i := 1) dX10_weaveGrown_82 rfl rfl ?_
    refine r_iload (pc := 83) (i := 6) dX10_weaveGrown_83 rfl ?_
    refine r_iload_n (pc := 85) (i := 3) dX10_weaveGrown_85 rfl rfl ?_
    refine r_imul (pc := 86) dX10_weaveGrown_86 ?_
    refine r_iload (pc := 87) (i := 7) dX10_weaveGrown_87 rfl ?_
    refine r_iadd (pc := 89) dX10_weaveGrown_89 ?_
    refine r_callS (pc := 90) (as := [_, _]) (st := [_, _, _, _]) okX10_at lkX10_73 stX10_at dX10_weaveGrown_90 rfl (Nat.le_of_ble_eq_true rfl) (Nat.zero_le _) (Nat.zero_le _) (Call.mono h (fun r4 M5 h => ?_))
    obtain ⟨v6, rfl, h⟩ := h
    obtain ⟨k7, h⟩ := h
    refine r_callV (pc := 93) (ci := 2) (as := [_]) (st := [_, _, _]) okX2_meet lkX10_63 inX2_meet seX2_meet ⟨_, rfl, rfl⟩ dX10_weaveGrown_93 rfl k7 (Nat.le_of_ble_eq_true rfl) (Nat.zero_le _) (Nat.zero_le _) (Call.mono h (fun r8 M9 h => ?_))
    obtain ⟨v10, rfl, h⟩ := h
    obtain ⟨k11, h⟩ := h
    refine r_callV (pc := 96) (ci := 2) (as := [_, _, _]) (st := []) okX2_link lkX10_80 inX2_link seX2_link ⟨_, rfl, rfl⟩ dX10_weaveGrown_96 rfl k11 (Nat.le_of_ble_eq_true rfl) (Nat.zero_le _) (Nat.zero_le _) (Call.mono h (fun r12 M13 h => ?_))
    obtain ⟨rfl, h⟩ := h
    refine r_iinc (pc := 99) (i := 7) (v := _ + 1) dX10_weaveGrown_99 rfl rfl rfl ?_
    refine r_goto (pc := 102) (tgt := 64) dX10_weaveGrown_102 (by decide) ?_
    exact h
abbrev LX10_weaveRing_28 (G : GG) (d rc rs : Nat) (p0 : Nat) (p1 : Nat) (x2 : Int32) (x3 : Int32) (x4 : Int32) (p5 : Nat) (x6 : Int32) (x7 : Int32) (z8 : Option Value) (z9 : Option Value) (z10 : Option Value) (z11 : Option Value) (M : Mem) (Q : Option Value → Mem → Prop) : Prop := Wk G (d + 1) rc rs mX10_weaveRing 28 [some (.ref p0), some (.ref p1), some (.int x2), some (.int x3), some (.int x4), some (.ref p5), some (.int x6), some (.int x7), z8, z9, z10, z11] [] M Q
abbrev LX10_weaveRing_76 (G : GG) (d rc rs : Nat) (p0 : Nat) (p1 : Nat) (x2 : Int32) (x3 : Int32) (x4 : Int32) (p5 : Nat) (x6 : Int32) (x7 : Int32) (x8 : Int32) (x9 : Int32) (z10 : Option Value) (z11 : Option Value) (M : Mem) (Q : Option Value → Mem → Prop) : Prop := Wk G (d + 1) rc rs mX10_weaveRing 76 [some (.ref p0), some (.ref p1), some (.int x2), some (.int x3), some (.int x4), some (.ref p5), some (.int x6), some (.int x7), some (.int x8), some (.int x9), z10, z11] [] M Q
abbrev LX10_weaveRing_109 (G : GG) (d rc rs : Nat) (p0 : Nat) (p1 : Nat) (x2 : Int32) (x3 : Int32) (x4 : Int32) (p5 : Nat) (x6 : Int32) (x7 : Int32) (x8 : Int32) (x9 : Int32) (x10 : Int32) (z11 : Option Value) (u0 : Int32) (M : Mem) (Q : Option Value → Mem → Prop) : Prop := Wk G (d + 1) rc rs mX10_weaveRing 109 [some (.ref p0), some (.ref p1), some (.int x2), some (.int x3), some (.int x4), some (.ref p5), some (.int x6), some (.int x7), some (.int x8), some (.int x9), some (.int x10), z11] [.int u0] M Q
theorem eX10_weaveRing {G : GG} {d rc rs : Nat} (o : Nat) (a1 : Nat) (a2 : Int32) (a3 : Int32) (a4 : Int32) (a5 : Nat)  {M : Mem} {Q : Option Value → Mem → Prop} (h : (x_h M o).1 = 26 ∧ (∃ b2, x_r M o 0 = some b2 ∧ (x_h M b2).1 = 18 ∧ Call G d 0 0 mX2_open [.ref b2, .int (a2 + a3), .int a4] M (fun r4 M5 => r4 = none ∧ (x_h M5 o).1 = 26 ∧ (∃ b7, x_r M5 o 0 = some b7 ∧ (x_h M5 b7).1 = 18 ∧ Call G d 0 0 mX2_meet [.ref b7, .int 0] M5 (fun r9 M10 => ∃ v11 : Int32, r9 = some (.int v11) ∧ LX10_weaveRing_28 G d rc rs o a1 a2 a3 a4 a5 (a2 + a3) 0 none none none none M10 Q))))) : Call G (d + 1) rc rs mX10_weaveRing [.ref o, .ref a1, .int a2, .int a3, .int a4, .ref a5] M Q := by
  refine call_of (by decide) (Nat.le_of_ble_eq_true rfl) ?_
  show Wk G (d + 1) rc rs mX10_weaveRing 0 [some (.ref o), some (.ref a1), some (.int a2), some (.int a3), some (.int a4), some (.ref a5), none, none, none, none, none, none] [] M Q
  refine r_iload_n (pc := 0) (i := 2) dX10_weaveRing_0 rfl rfl ?_
  refine r_iload_n (pc := 1) (i := 3) dX10_weaveRing_1 rfl rfl ?_
  refine r_iadd (pc := 2) dX10_weaveRing_2 ?_
  refine r_istore (pc := 3) (i := 6) dX10_weaveRing_3 rfl (Nat.le_of_ble_eq_true rfl) ?_
  refine r_aload_n (pc := 5) (i := 0) dX10_weaveRing_5 rfl rfl ?_
  obtain ⟨k1, h⟩ := h
  obtain ⟨b2, hb2, h⟩ := h
  refine r_getr (pc := 6) flX10_12 dX10_weaveRing_6 rfl k1 hb2 ?_
  refine r_iload (pc := 9) (i := 6) dX10_weaveRing_9 rfl ?_
  refine r_iload (pc := 11) (i := 4) dX10_weaveRing_11 rfl ?_
  obtain ⟨k3, h⟩ := h
  refine r_callV (pc := 13) (ci := 2) (as := [_, _]) (st := []) okX2_open lkX10_60 inX2_open seX2_open ⟨_, rfl, rfl⟩ dX10_weaveRing_13 rfl k3 (Nat.le_of_ble_eq_true rfl) (Nat.zero_le _) (Nat.zero_le _) (Call.mono h (fun r4 M5 h => ?_))
  obtain ⟨rfl, h⟩ := h
  refine r_aload_n (pc := 16) (i := 0) dX10_weaveRing_16 rfl rfl ?_
  obtain ⟨k6, h⟩ := h
  obtain ⟨b7, hb7, h⟩ := h
  refine r_getr (pc := 17) flX10_12 dX10_weaveRing_17 rfl k6 hb7 ?_
  refine r_iconst (pc := 20) (v := 0) dX10_weaveRing_20 (by decide) ?_
  obtain ⟨k8, h⟩ := h
  refine r_callV (pc := 21) (ci := 2) (as := [_]) (st := []) okX2_meet lkX10_63 inX2_meet seX2_meet ⟨_, rfl, rfl⟩ dX10_weaveRing_21 rfl k8 (Nat.le_of_ble_eq_true rfl) (Nat.zero_le _) (Nat.zero_le _) (Call.mono h (fun r9 M10 h => ?_))
  obtain ⟨v11, rfl, h⟩ := h
  refine r_pop (pc := 24) dX10_weaveRing_24 rfl ?_
  refine r_iconst (pc := 25) (v := 0) dX10_weaveRing_25 (by decide) ?_
  refine r_istore (pc := 26) (i := 7) dX10_weaveRing_26 rfl (Nat.le_of_ble_eq_true rfl) ?_
  exact h
theorem vX10_weaveRing_28 {G : GG} {d rc rs : Nat} (p0 : Nat) (p1 : Nat) (x2 : Int32) (x3 : Int32) (x4 : Int32) (p5 : Nat) (x6 : Int32) (x7 : Int32) (z8 : Option Value) (z9 : Option Value) (z10 : Option Value) (z11 : Option Value) (hz8 : c1 z8 = true) (hz9 : c1 z9 = true) (hz10 : c1 z10 = true) (hz11 : c1 z11 = true) {M : Mem} {Q : Option Value → Mem → Prop} (h : (x_h M p0).1 = 26 ∧ (∃ b2, x_r M p0 0 = some b2 ∧ (x_h M b2).1 = 18 ∧ ((x_i M b2 9) ≤ x7 → Call G d 0 0 mX2_draw [.ref b2, .ref p5, .int 60] M (fun r5 M6 => ∃ v7 : Int32, r5 = some (.int v7) ∧ Q none M6)) ∧ (¬ (x_i M b2 9) ≤ x7 → (x6 ≤ x7 → Call G d 0 0 mX2_draw [.ref b2, .ref p5, .int 60] M (fun r9 M10 => ∃ v11 : Int32, r9 = some (.int v11) ∧ Q none M10)) ∧ (¬ x6 ≤ x7 → Call G d 0 0 mX2_keyOf [.ref b2, .int x7] M (fun r12 M13 => ∃ v14 : Int32, r12 = some (.int v14) ∧ (x_h M13 p0).1 = 26 ∧ (∃ b16, x_r M13 p0 0 = some b16 ∧ Call G d 0 0 mX10_at [.ref p1, .int v14] M13 (fun r17 M18 => ∃ v19 : Int32, r17 = some (.int v19) ∧ (x_h M18 b16).1 = 18 ∧ Call G d 0 0 mX2_putMark [.ref b16, .int x7, .int v19] M18 (fun r21 M22 => r21 = none ∧ LX10_weaveRing_76 G d rc rs p0 p1 x2 x3 x4 p5 x6 x7 v14 0 z10 z11 M22 Q)))))))) : LX10_weaveRing_28 G d rc rs p0 p1 x2 x3 x4 p5 x6 x7 z8 z9 z10 z11 M Q := by
  show Wk G (d + 1) rc rs mX10_weaveRing 28 _ _ M Q
  refine r_iload (pc := 28) (i := 7) dX10_weaveRing_28 rfl ?_
  refine r_aload_n (pc := 30) (i := 0) dX10_weaveRing_30 rfl rfl ?_
  obtain ⟨k1, h⟩ := h
  obtain ⟨b2, hb2, h⟩ := h
  refine r_getr (pc := 31) flX10_12 dX10_weaveRing_31 rfl k1 hb2 ?_
  obtain ⟨k3, h⟩ := h
  refine r_geti (pc := 34) flX10_67 dX10_weaveRing_34 (Or.inl rfl) k3 ?_
  refine r_icmp_ge (pc := 37) (tgt := 159) dX10_weaveRing_37 (by decide) (fun c4 => ?_) (fun c4 => ?_)
  · replace h := h.1 c4
    refine r_aload_n (pc := 159) (i := 0) dX10_weaveRing_159 rfl rfl ?_
    refine r_getr (pc := 160) flX10_12 dX10_weaveRing_160 rfl k1 hb2 ?_
    refine r_aload (pc := 163) (i := 5) dX10_weaveRing_163 rfl ?_
    refine r_bipush (pc := 165) (v := 60) dX10_weaveRing_165 (by decide) ?_
    refine r_callV (pc := 167) (ci := 2) (as := [_, _]) (st := []) okX2_draw lkX10_84 inX2_draw seX2_draw ⟨_, rfl, rfl⟩ dX10_weaveRing_167 rfl k3 (Nat.le_of_ble_eq_true rfl) (Nat.zero_le _) (Nat.zero_le _) (Call.mono h (fun r5 M6 h => ?_))
    obtain ⟨v7, rfl, h⟩ := h
    refine r_pop (pc := 170) dX10_weaveRing_170 rfl ?_
    exact r_vret (pc := 171) dX10_weaveRing_171 rfl h
  · replace h := h.2 c4
    refine r_iload (pc := 40) (i := 7) dX10_weaveRing_40 rfl ?_
    refine r_iload (pc := 42) (i := 6) dX10_weaveRing_42 rfl ?_
    refine r_icmp_ge (pc := 44) (tgt := 159) dX10_weaveRing_44 (by decide) (fun c8 => ?_) (fun c8 => ?_)
    · replace h := h.1 c8
      refine r_aload_n (pc := 159) (i := 0) dX10_weaveRing_159 rfl rfl ?_
      refine r_getr (pc := 160) flX10_12 dX10_weaveRing_160 rfl k1 hb2 ?_
      refine r_aload (pc := 163) (i := 5) dX10_weaveRing_163 rfl ?_
      refine r_bipush (pc := 165) (v := 60) dX10_weaveRing_165 (by decide) ?_
      refine r_callV (pc := 167) (ci := 2) (as := [_, _]) (st := []) okX2_draw lkX10_84 inX2_draw seX2_draw ⟨_, rfl, rfl⟩ dX10_weaveRing_167 rfl k3 (Nat.le_of_ble_eq_true rfl) (Nat.zero_le _) (Nat.zero_le _) (Call.mono h (fun r9 M10 h => ?_))
      obtain ⟨v11, rfl, h⟩ := h
      refine r_pop (pc := 170) dX10_weaveRing_170 rfl ?_
      exact r_vret (pc := 171) dX10_weaveRing_171 rfl h
    · replace h := h.2 c8
      refine r_aload_n (pc := 47) (i := 0) dX10_weaveRing_47 rfl rfl ?_
      refine r_getr (pc := 48) flX10_12 dX10_weaveRing_48 rfl k1 hb2 ?_
      refine r_iload (pc := 51) (i := 7) dX10_weaveRing_51 rfl ?_
      refine r_callV (pc := 53) (ci := 2) (as := [_]) (st := []) okX2_keyOf lkX10_70 inX2_keyOf seX2_keyOf ⟨_, rfl, rfl⟩ dX10_weaveRing_53 rfl k3 (Nat.le_of_ble_eq_true rfl) (Nat.zero_le _) (Nat.zero_le _) (Call.mono h (fun r12 M13 h => ?_))
      obtain ⟨v14, rfl, h⟩ := h
      refine r_istore (pc := 56) (i := 8) dX10_weaveRing_56 rfl (Nat.le_of_ble_eq_true rfl) ?_
      refine r_aload_n (pc := 58) (i := 0) dX10_weaveRing_58 rfl rfl ?_
      obtain ⟨k15, h⟩ := h
      obtain ⟨b16, hb16, h⟩ := h
      refine r_getr (pc := 59) flX10_12 dX10_weaveRing_59 rfl k15 hb16 ?_
      refine r_iload (pc := 62) (i := 7) dX10_weaveRing_62 rfl ?_
      refine r_aload_n (pc := 64) (i := 1) dX10_weaveRing_64 rfl rfl ?_
      refine r_iload (pc := 65) (i := 8) dX10_weaveRing_65 rfl ?_
      refine r_callS (pc := 67) (as := [_, _]) (st := [_, _]) okX10_at lkX10_73 stX10_at dX10_weaveRing_67 rfl (Nat.le_of_ble_eq_true rfl) (Nat.zero_le _) (Nat.zero_le _) (Call.mono h (fun r17 M18 h => ?_))
      obtain ⟨v19, rfl, h⟩ := h
      obtain ⟨k20, h⟩ := h
      refine r_callV (pc := 70) (ci := 2) (as := [_, _]) (st := []) okX2_putMark lkX10_77 inX2_putMark seX2_putMark ⟨_, rfl, rfl⟩ dX10_weaveRing_70 rfl k20 (Nat.le_of_ble_eq_true rfl) (Nat.zero_le _) (Nat.zero_le _) (Call.mono h (fun r21 M22 h => ?_))
      obtain ⟨rfl, h⟩ := h
      refine r_iconst (pc := 73) (v := 0) dX10_weaveRing_73 (by decide) ?_
      refine r_istore (pc := 74) (i := 9) dX10_weaveRing_74 rfl (Nat.le_of_ble_eq_true rfl) ?_
      exact h
theorem vX10_weaveRing_76 {G : GG} {d rc rs : Nat} (p0 : Nat) (p1 : Nat) (x2 : Int32) (x3 : Int32) (x4 : Int32) (p5 : Nat) (x6 : Int32) (x7 : Int32) (x8 : Int32) (x9 : Int32) (z10 : Option Value) (z11 : Option Value) (hz10 : c1 z10 = true) (hz11 : c1 z11 = true) {M : Mem} {Q : Option Value → Mem → Prop} (h : (x4 ≤ x9 → LX10_weaveRing_28 G d rc rs p0 p1 x2 x3 x4 p5 x6 (x7 + 1) (some (.int x8)) (some (.int x9)) z10 z11 M Q) ∧ (¬ x4 ≤ x9 → (((x8 * x4) + x9) < x6 → LX10_weaveRing_109 G d rc rs p0 p1 x2 x3 x4 p5 x6 x7 x8 x9 ((x8 * x4) + x9) z11 0 M Q) ∧ (¬ ((x8 * x4) + x9) < x6 → (x3 ≤ 0 → LX10_weaveRing_109 G d rc rs p0 p1 x2 x3 x4 p5 x6 x7 x8 x9 ((x8 * x4) + x9) z11 0 M Q) ∧ (¬ x3 ≤ 0 → LX10_weaveRing_109 G d rc rs p0 p1 x2 x3 x4 p5 x6 x7 x8 x9 ((x8 * x4) + x9) z11 1 M Q)))) : LX10_weaveRing_76 G d rc rs p0 p1 x2 x3 x4 p5 x6 x7 x8 x9 z10 z11 M Q := by
  show Wk G (d + 1) rc rs mX10_weaveRing 76 _ _ M Q
  refine r_iload (pc := 76) (i := 9) dX10_weaveRing_76 rfl ?_
  refine r_iload (pc := 78) (i := 4) dX10_weaveRing_78 rfl ?_
  refine r_icmp_ge (pc := 80) (tgt := 153) dX10_weaveRing_80 (by decide) (fun c1 => ?_) (fun c1 => ?_)
  · replace h := h.1 c1
    refine r_iinc (pc := 153) (i := 7) (v := _ + 1) dX10_weaveRing_153 rfl rfl rfl ?_
    refine r_goto (pc := 156) (tgt := 28) dX10_weaveRing_156 (by decide) ?_
    exact h
  · replace h := h.2 c1
    refine r_iload (pc := 83) (i := 8) dX10_weaveRing_83 rfl ?_
    refine r_iload (pc := 85) (i := 4) dX10_weaveRing_85 rfl ?_
    refine r_imul (pc := 87) dX10_weaveRing_87 ?_
    refine r_iload (pc := 88) (i := 9) dX10_weaveRing_88 rfl ?_
    refine r_iadd (pc := 90) dX10_weaveRing_90 ?_
    refine r_istore (pc := 91) (i := 10) dX10_weaveRing_91 rfl (Nat.le_of_ble_eq_true rfl) ?_
    refine r_iload (pc := 93) (i := 10) dX10_weaveRing_93 rfl ?_
    refine r_iload (pc := 95) (i := 6) dX10_weaveRing_95 rfl ?_
    refine r_icmp_lt (pc := 97) (tgt := 108) dX10_weaveRing_97 (by decide) (fun c2 => ?_) (fun c2 => ?_)
    · replace h := h.1 c2
      refine r_iconst (pc := 108) (v := 0) dX10_weaveRing_108 (by decide) ?_
      exact h
    · replace h := h.2 c2
      refine r_iload_n (pc := 100) (i := 3) dX10_weaveRing_100 rfl rfl ?_
      refine r_if_le (pc := 101) (tgt := 108) dX10_weaveRing_101 (by decide) (fun c3 => ?_) (fun c3 => ?_)
      · replace h := h.1 c3
        refine r_iconst (pc := 108) (v := 0) dX10_weaveRing_108 (by decide) ?_
        exact h
      · replace h := h.2 c3
        refine r_iconst (pc := 104) (v := 1) dX10_weaveRing_104 (by decide) ?_
        refine r_goto (pc := 105) (tgt := 109) dX10_weaveRing_105 (by decide) ?_
        exact h
theorem vX10_weaveRing_109 {G : GG} {d rc rs : Nat} (p0 : Nat) (p1 : Nat) (x2 : Int32) (x3 : Int32) (x4 : Int32) (p5 : Nat) (x6 : Int32) (x7 : Int32) (x8 : Int32) (x9 : Int32) (x10 : Int32) (z11 : Option Value) (u0 : Int32) (hz11 : c1 z11 = true) {M : Mem} {Q : Option Value → Mem → Prop} (h : (x_h M p0).1 = 26 ∧ (∃ b2, x_r M p0 0 = some b2 ∧ (u0 = 0 → (x_h M b2).1 = 18 ∧ Call G d 0 0 mX2_meet [.ref b2, .int x10] M (fun r5 M6 => ∃ v7 : Int32, r5 = some (.int v7) ∧ (x_h M6 b2).1 = 18 ∧ Call G d 0 0 mX2_link [.ref b2, .int x7, .int x9, .int v7] M6 (fun r9 M10 => r9 = none ∧ LX10_weaveRing_76 G d rc rs p0 p1 x2 x3 x4 p5 x6 x7 x8 (x9 + 1) (some (.int x10)) (some (.int u0)) M10 Q))) ∧ (¬ u0 = 0 → ¬ x3 = 0 ∧ (x_h M b2).1 = 18 ∧ Call G d 0 0 mX2_meet [.ref b2, .int (x2 + ((x10 - x2) - (x10 - x2) / x3 * x3))] M (fun r13 M14 => ∃ v15 : Int32, r13 = some (.int v15) ∧ (x_h M14 b2).1 = 18 ∧ Call G d 0 0 mX2_link [.ref b2, .int x7, .int x9, .int v15] M14 (fun r17 M18 => r17 = none ∧ LX10_weaveRing_76 G d rc rs p0 p1 x2 x3 x4 p5 x6 x7 x8 (x9 + 1) (some (.int x10)) (some (.int u0)) M18 Q))))) : LX10_weaveRing_109 G d rc rs p0 p1 x2 x3 x4 p5 x6 x7 x8 x9 x10 z11 u0 M Q := by
  show Wk G (d + 1) rc rs mX10_weaveRing 109 _ _ M Q
  refine r_istore (pc := 109) (i := 11) dX10_weaveRing_109 rfl (Nat.le_of_ble_eq_true rfl) ?_
  refine r_aload_n (pc := 111) (i := 0) dX10_weaveRing_111 rfl rfl ?_
  obtain ⟨k1, h⟩ := h
  obtain ⟨b2, hb2, h⟩ := h
  refine r_getr (pc := 112) flX10_12 dX10_weaveRing_112 rfl k1 hb2 ?_
  refine r_iload (pc := 115) (i := 7) dX10_weaveRing_115 rfl ?_
  refine r_iload (pc := 117) (i := 9) dX10_weaveRing_117 rfl ?_
  refine r_aload_n (pc := 119) (i := 0) dX10_weaveRing_119 rfl rfl ?_
  refine r_getr (pc := 120) flX10_12 dX10_weaveRing_120 rfl k1 hb2 ?_
  refine r_iload (pc := 123) (i := 11) dX10_weaveRing_123 rfl ?_
  refine r_if_eq (pc := 125) (tgt := 139) dX10_weaveRing_125 (by decide) (fun c3 => ?_) (fun c3 => ?_)
  · replace h := h.1 c3
    refine r_iload (pc := 139) (i := 10) dX10_weaveRing_139 rfl ?_
    obtain ⟨k4, h⟩ := h
    refine r_callV (pc := 141) (ci := 2) (as := [_]) (st := [_, _, _]) okX2_meet lkX10_63 inX2_meet seX2_meet ⟨_, rfl, rfl⟩ dX10_weaveRing_141 rfl k4 (Nat.le_of_ble_eq_true rfl) (Nat.zero_le _) (Nat.zero_le _) (Call.mono h (fun r5 M6 h => ?_))
    obtain ⟨v7, rfl, h⟩ := h
    obtain ⟨k8, h⟩ := h
    refine r_callV (pc := 144) (ci := 2) (as := [_, _, _]) (st := []) okX2_link lkX10_80 inX2_link seX2_link ⟨_, rfl, rfl⟩ dX10_weaveRing_144 rfl k8 (Nat.le_of_ble_eq_true rfl) (Nat.zero_le _) (Nat.zero_le _) (Call.mono h (fun r9 M10 h => ?_))
    obtain ⟨rfl, h⟩ := h
    refine r_iinc (pc := 147) (i := 9) (v := _ + 1) dX10_weaveRing_147 rfl rfl rfl ?_
    refine r_goto (pc := 150) (tgt := 76) dX10_weaveRing_150 (by decide) ?_
    exact h
  · replace h := h.2 c3
    refine r_iload_n (pc := 128) (i := 2) dX10_weaveRing_128 rfl rfl ?_
    refine r_iload (pc := 129) (i := 10) dX10_weaveRing_129 rfl ?_
    refine r_iload_n (pc := 131) (i := 2) dX10_weaveRing_131 rfl rfl ?_
    refine r_isub (pc := 132) dX10_weaveRing_132 ?_
    refine r_iload_n (pc := 133) (i := 3) dX10_weaveRing_133 rfl rfl ?_
    obtain ⟨n11, h⟩ := h
    refine r_irem (pc := 134) dX10_weaveRing_134 n11 ?_
    refine r_iadd (pc := 135) dX10_weaveRing_135 ?_
    refine r_goto (pc := 136) (tgt := 141) dX10_weaveRing_136 (by decide) ?_
    obtain ⟨k12, h⟩ := h
    refine r_callV (pc := 141) (ci := 2) (as := [_]) (st := [_, _, _]) okX2_meet lkX10_63 inX2_meet seX2_meet ⟨_, rfl, rfl⟩ dX10_weaveRing_141 rfl k12 (Nat.le_of_ble_eq_true rfl) (Nat.zero_le _) (Nat.zero_le _) (Call.mono h (fun r13 M14 h => ?_))
    obtain ⟨v15, rfl, h⟩ := h
    obtain ⟨k16, h⟩ := h
    refine r_callV (pc := 144) (ci := 2) (as := [_, _, _]) (st := []) okX2_link lkX10_80 inX2_link seX2_link ⟨_, rfl, rfl⟩ dX10_weaveRing_144 rfl k16 (Nat.le_of_ble_eq_true rfl) (Nat.zero_le _) (Nat.zero_le _) (Call.mono h (fun r17 M18 h => ?_))
    obtain ⟨rfl, h⟩ := h
    refine r_iinc (pc := 147) (i := 9) (v := _ + 1) dX10_weaveRing_147 rfl rfl rfl ?_
    refine r_goto (pc := 150) (tgt := 76) dX10_weaveRing_150 (by decide) ?_
    exact h
theorem eX10_weavePair {G : GG} {d rc rs : Nat} (o : Nat) (a1 : Nat) (a2 : Nat) (a3 : Int32) (a4 : Int32) (a5 : Nat)  {M : Mem} {Q : Option Value → Mem → Prop} (h : (x_h M o).1 = 26 ∧ (∀ M2, M2 = x_si M o 11 a4 → Call G d 0 0 mX10_product [.ref o, .ref a1, .int 1, .ref a2, .int 1, .int a3, .ref a5, .int 60] M2 (fun r3 M4 => ∃ v5 : Int32, r3 = some (.int v5) ∧ (v5 = 0 ∨ v5 = 1) ∧ Q (some (.int v5)) M4))) : Call G (d + 1) rc rs mX10_weavePair [.ref o, .ref a1, .ref a2, .int a3, .int a4, .ref a5] M Q := by
  refine call_of (by decide) (Nat.le_of_ble_eq_true rfl) ?_
  show Wk G (d + 1) rc rs mX10_weavePair 0 [some (.ref o), some (.ref a1), some (.ref a2), some (.int a3), some (.int a4), some (.ref a5)] [] M Q
  refine r_aload_n (pc := 0) (i := 0) dX10_weavePair_0 rfl rfl ?_
  refine r_iload (pc := 1) (i := 4) dX10_weavePair_1 rfl ?_
  obtain ⟨k1, h⟩ := h
  refine r_puti (pc := 3) flX10_57 dX10_weavePair_3 (Or.inl rfl) (fun q hq => by cases hq; rfl) k1 ?_
  replace h := h _ rfl
  refine r_aload_n (pc := 6) (i := 0) dX10_weavePair_6 rfl rfl ?_
  refine r_aload_n (pc := 7) (i := 1) dX10_weavePair_7 rfl rfl ?_
  refine r_iconst (pc := 8) (v := 1) dX10_weavePair_8 (by decide) ?_
  refine r_aload_n (pc := 9) (i := 2) dX10_weavePair_9 rfl rfl ?_
  refine r_iconst (pc := 10) (v := 1) dX10_weavePair_10 (by decide) ?_
  refine r_iload_n (pc := 11) (i := 3) dX10_weavePair_11 rfl rfl ?_
  refine r_aload (pc := 12) (i := 5) dX10_weavePair_12 rfl ?_
  refine r_bipush (pc := 14) (v := 60) dX10_weavePair_14 (by decide) ?_
  refine r_callV (pc := 16) (ci := 10) (as := [_, _, _, _, _, _, _]) (st := []) okX10_product lkX10_88 inX10_product seX10_product ⟨_, rfl, rfl⟩ dX10_weavePair_16 rfl k1 (Nat.le_of_ble_eq_true rfl) (Nat.zero_le _) (Nat.zero_le _) (Call.mono h (fun r3 M4 h => ?_))
  obtain ⟨v5, rfl, h⟩ := h
  exact r_zret (pc := 19) dX10_weavePair_19 rfl h.1 h.2
abbrev LX10_decide_9 (G : GG) (d rc rs : Nat) (p0 : Nat) (p1 : Nat) (p2 : Nat) (p3 : Nat) (x4 : Int32) (x5 : Int32) (x6 : Int32) (z7 : Option Value) (z8 : Option Value) (M : Mem) (Q : Option Value → Mem → Prop) : Prop := Wk G (d + 1) rc rs mX10_decide 9 [some (.ref p0), some (.ref p1), some (.ref p2), some (.ref p3), some (.int x4), some (.int x5), some (.int x6), z7, z8] [] M Q
abbrev LX10_decide_45 (G : GG) (d rc rs : Nat) (p0 : Nat) (p1 : Nat) (p2 : Nat) (p3 : Nat) (x4 : Int32) (x5 : Int32) (x6 : Int32) (p7 : Nat) (z8 : Option Value) (u0 : Int32) (M : Mem) (Q : Option Value → Mem → Prop) : Prop := Wk G (d + 1) rc rs mX10_decide 45 [some (.ref p0), some (.ref p1), some (.ref p2), some (.ref p3), some (.int x4), some (.int x5), some (.int x6), some (.ref p7), z8] [.int u0] M Q
theorem eX10_decide {G : GG} {d rc rs : Nat} (o : Nat) (a1 : Nat) (a2 : Nat) (a3 : Nat) (a4 : Int32) (a5 : Int32)  {M : Mem} {Q : Option Value → Mem → Prop} (h : (x_h M o).1 = 26 ∧ (∀ M2, M2 = x_si M o 11 a5 → LX10_decide_9 G d rc rs o a1 a2 a3 a4 a5 0 none none M2 Q)) : Call G (d + 1) rc rs mX10_decide [.ref o, .ref a1, .ref a2, .ref a3, .int a4, .int a5] M Q := by
  refine call_of (by decide) (Nat.le_of_ble_eq_true rfl) ?_
  show Wk G (d + 1) rc rs mX10_decide 0 [some (.ref o), some (.ref a1), some (.ref a2), some (.ref a3), some (.int a4), some (.int a5), none, none, none] [] M Q
  refine r_aload_n (pc := 0) (i := 0) dX10_decide_0 rfl rfl ?_
  refine r_iload (pc := 1) (i := 5) dX10_decide_1 rfl ?_
  obtain ⟨k1, h⟩ := h
  refine r_puti (pc := 3) flX10_57 dX10_decide_3 (Or.inl rfl) (fun q hq => by cases hq; rfl) k1 ?_
  replace h := h _ rfl
  refine r_iconst (pc := 6) (v := 0) dX10_decide_6 (by decide) ?_
  refine r_istore (pc := 7) (i := 6) dX10_decide_7 rfl (Nat.le_of_ble_eq_true rfl) ?_
  exact h
theorem vX10_decide_9 {G : GG} {d rc rs : Nat} (p0 : Nat) (p1 : Nat) (p2 : Nat) (p3 : Nat) (x4 : Int32) (x5 : Int32) (x6 : Int32) (z7 : Option Value) (z8 : Option Value) (hz7 : c1 z7 = true) (hz8 : c1 z8 = true) {M : Mem} {Q : Option Value → Mem → Prop} (h : (x_h M p2).1 = 20 ∧ ((x_i M p2 5) ≤ x6 → (1 ≤ (x_h M p1).1 ∧ (x_h M p1).1 < 8) ∧ Call G d 0 0 mX11_within [.int ((x_i M p2 5) - 1), .int (nI (x_h M p1).2)] M (fun r4 M5 => ∃ v6 : Int32, r4 = some (.int v6) ∧ (v6 = 0 → Q none M5) ∧ (¬ v6 = 0 → (x_h M5 p2).1 = 20 ∧ (∃ b9, x_r M5 p2 0 = some b9 ∧ (4 ≤ (x_h M5 p1).1 ∧ (x_h M5 p1).1 < 8) ∧ vp_in ((x_i M5 p2 5) - 1) (x_h M5 p1).2 ∧ (∃ b12, x_r M5 p1 ((x_i M5 p2 5) - 1).toNatClampNeg = some b12 ∧ (x_h M5 b12).1 = 19 ∧ (∃ b14, x_r M5 b12 2 = some b14 ∧ (x_h M5 b9).1 = 17 ∧ Call G d 0 0 mX1_become [.ref b9, .ref b14] M5 (fun r16 M17 => r16 = none ∧ Q none M17))))))) ∧ (¬ (x_i M p2 5) ≤ x6 → (1 ≤ (x_h M p1).1 ∧ (x_h M p1).1 < 8) ∧ ((nI (x_h M p1).2) ≤ x6 → Call G d 0 0 mX11_within [.int ((x_i M p2 5) - 1), .int (nI (x_h M p1).2)] M (fun r20 M21 => ∃ v22 : Int32, r20 = some (.int v22) ∧ (v22 = 0 → Q none M21) ∧ (¬ v22 = 0 → (x_h M21 p2).1 = 20 ∧ (∃ b25, x_r M21 p2 0 = some b25 ∧ (4 ≤ (x_h M21 p1).1 ∧ (x_h M21 p1).1 < 8) ∧ vp_in ((x_i M21 p2 5) - 1) (x_h M21 p1).2 ∧ (∃ b28, x_r M21 p1 ((x_i M21 p2 5) - 1).toNatClampNeg = some b28 ∧ (x_h M21 b28).1 = 19 ∧ (∃ b30, x_r M21 b28 2 = some b30 ∧ (x_h M21 b25).1 = 17 ∧ Call G d 0 0 mX1_become [.ref b25, .ref b30] M21 (fun r32 M33 => r32 = none ∧ Q none M33))))))) ∧ (¬ (nI (x_h M p1).2) ≤ x6 → (4 ≤ (x_h M p1).1 ∧ (x_h M p1).1 < 8) ∧ vp_in x6 (x_h M p1).2 ∧ (∃ b36, x_r M p1 x6.toNatClampNeg = some b36 ∧ (x_h M b36).1 = 19 ∧ (¬ (x_i M b36 3) = 1 → LX10_decide_45 G d rc rs p0 p1 p2 p3 x4 x5 x6 b36 z8 0 M Q) ∧ ((x_i M b36 3) = 1 → LX10_decide_45 G d rc rs p0 p1 p2 p3 x4 x5 x6 b36 z8 1 M Q))))) : LX10_decide_9 G d rc rs p0 p1 p2 p3 x4 x5 x6 z7 z8 M Q := by
  show Wk G (d + 1) rc rs mX10_decide 9 _ _ M Q
  refine r_iload (pc := 9) (i := 6) dX10_decide_9 rfl ?_
  refine r_aload_n (pc := 11) (i := 2) dX10_decide_11 rfl rfl ?_
  obtain ⟨k1, h⟩ := h
  refine r_geti (pc := 12) flX10_92 dX10_decide_12 (Or.inl rfl) k1 ?_
  refine r_icmp_ge (pc := 15) (tgt := 93) dX10_decide_15 (by decide) (fun c2 => ?_) (fun c2 => ?_)
  · replace h := h.1 c2
    refine r_aload_n (pc := 93) (i := 2) dX10_decide_93 rfl rfl ?_
    refine r_geti (pc := 94) flX10_92 dX10_decide_94 (Or.inl rfl) k1 ?_
    refine r_iconst (pc := 97) (v := 1) dX10_decide_97 (by decide) ?_
    refine r_isub (pc := 98) dX10_decide_98 ?_
    refine r_aload_n (pc := 99) (i := 1) dX10_decide_99 rfl rfl ?_
    obtain ⟨k3, h⟩ := h
    refine r_alen (pc := 100) dX10_decide_100 rfl k3 ?_
    refine r_callS (pc := 101) (as := [_, _]) (st := []) okX11_within lkX10_116 stX11_within dX10_decide_101 rfl (Nat.le_of_ble_eq_true rfl) (Nat.zero_le _) (Nat.zero_le _) (Call.mono h (fun r4 M5 h => ?_))
    obtain ⟨v6, rfl, h⟩ := h
    refine r_if_eq (pc := 104) (tgt := 125) dX10_decide_104 (by decide) (fun c7 => ?_) (fun c7 => ?_)
    · replace h := h.1 c7
      exact r_vret (pc := 125) dX10_decide_125 rfl h
    · replace h := h.2 c7
      refine r_aload_n (pc := 107) (i := 2) dX10_decide_107 rfl rfl ?_
      obtain ⟨k8, h⟩ := h
      obtain ⟨b9, hb9, h⟩ := h
      refine r_getr (pc := 108) flX10_120 dX10_decide_108 rfl k8 hb9 ?_
      refine r_aload_n (pc := 111) (i := 1) dX10_decide_111 rfl rfl ?_
      refine r_aload_n (pc := 112) (i := 2) dX10_decide_112 rfl rfl ?_
      refine r_geti (pc := 113) flX10_92 dX10_decide_113 (Or.inl rfl) k8 ?_
      refine r_iconst (pc := 116) (v := 1) dX10_decide_116 (by decide) ?_
      refine r_isub (pc := 117) dX10_decide_117 ?_
      obtain ⟨k10, h⟩ := h
      obtain ⟨i11, h⟩ := h
      obtain ⟨b12, hb12, h⟩ := h
      refine r_aald (pc := 118) dX10_decide_118 rfl k10 i11 hb12 ?_
      obtain ⟨k13, h⟩ := h
      obtain ⟨b14, hb14, h⟩ := h
      refine r_getr (pc := 119) flX10_123 dX10_decide_119 rfl k13 hb14 ?_
      obtain ⟨k15, h⟩ := h
      refine r_callV (pc := 122) (ci := 1) (as := [_]) (st := []) okX1_become lkX10_124 inX1_become seX1_become ⟨_, rfl, rfl⟩ dX10_decide_122 rfl k15 (Nat.le_of_ble_eq_true rfl) (Nat.zero_le _) (Nat.zero_le _) (Call.mono h (fun r16 M17 h => ?_))
      obtain ⟨rfl, h⟩ := h
      exact r_vret (pc := 125) dX10_decide_125 rfl h
  · replace h := h.2 c2
    refine r_iload (pc := 18) (i := 6) dX10_decide_18 rfl ?_
    refine r_aload_n (pc := 20) (i := 1) dX10_decide_20 rfl rfl ?_
    obtain ⟨k18, h⟩ := h
    refine r_alen (pc := 21) dX10_decide_21 rfl k18 ?_
    refine r_icmp_ge (pc := 22) (tgt := 93) dX10_decide_22 (by decide) (fun c19 => ?_) (fun c19 => ?_)
    · replace h := h.1 c19
      refine r_aload_n (pc := 93) (i := 2) dX10_decide_93 rfl rfl ?_
      refine r_geti (pc := 94) flX10_92 dX10_decide_94 (Or.inl rfl) k1 ?_
      refine r_iconst (pc := 97) (v := 1) dX10_decide_97 (by decide) ?_
      refine r_isub (pc := 98) dX10_decide_98 ?_
      refine r_aload_n (pc := 99) (i := 1) dX10_decide_99 rfl rfl ?_
      refine r_alen (pc := 100) dX10_decide_100 rfl k18 ?_
      refine r_callS (pc := 101) (as := [_, _]) (st := []) okX11_within lkX10_116 stX11_within dX10_decide_101 rfl (Nat.le_of_ble_eq_true rfl) (Nat.zero_le _) (Nat.zero_le _) (Call.mono h (fun r20 M21 h => ?_))
      obtain ⟨v22, rfl, h⟩ := h
      refine r_if_eq (pc := 104) (tgt := 125) dX10_decide_104 (by decide) (fun c23 => ?_) (fun c23 => ?_)
      · replace h := h.1 c23
        exact r_vret (pc := 125) dX10_decide_125 rfl h
      · replace h := h.2 c23
        refine r_aload_n (pc := 107) (i := 2) dX10_decide_107 rfl rfl ?_
        obtain ⟨k24, h⟩ := h
        obtain ⟨b25, hb25, h⟩ := h
        refine r_getr (pc := 108) flX10_120 dX10_decide_108 rfl k24 hb25 ?_
        refine r_aload_n (pc := 111) (i := 1) dX10_decide_111 rfl rfl ?_
        refine r_aload_n (pc := 112) (i := 2) dX10_decide_112 rfl rfl ?_
        refine r_geti (pc := 113) flX10_92 dX10_decide_113 (Or.inl rfl) k24 ?_
        refine r_iconst (pc := 116) (v := 1) dX10_decide_116 (by decide) ?_
        refine r_isub (pc := 117) dX10_decide_117 ?_
        obtain ⟨k26, h⟩ := h
        obtain ⟨i27, h⟩ := h
        obtain ⟨b28, hb28, h⟩ := h
        refine r_aald (pc := 118) dX10_decide_118 rfl k26 i27 hb28 ?_
        obtain ⟨k29, h⟩ := h
        obtain ⟨b30, hb30, h⟩ := h
        refine r_getr (pc := 119) flX10_123 dX10_decide_119 rfl k29 hb30 ?_
        obtain ⟨k31, h⟩ := h
        refine r_callV (pc := 122) (ci := 1) (as := [_]) (st := []) okX1_become lkX10_124 inX1_become seX1_become ⟨_, rfl, rfl⟩ dX10_decide_122 rfl k31 (Nat.le_of_ble_eq_true rfl) (Nat.zero_le _) (Nat.zero_le _) (Call.mono h (fun r32 M33 h => ?_))
        obtain ⟨rfl, h⟩ := h
        exact r_vret (pc := 125) dX10_decide_125 rfl h
    · replace h := h.2 c19
      refine r_aload_n (pc := 25) (i := 1) dX10_decide_25 rfl rfl ?_
      refine r_iload (pc := 26) (i := 6) dX10_decide_26 rfl ?_
      obtain ⟨k34, h⟩ := h
      obtain ⟨i35, h⟩ := h
      obtain ⟨b36, hb36, h⟩ := h
      refine r_aald (pc := 28) dX10_decide_28 rfl k34 i35 hb36 ?_
      refine r_astore (pc := 29) (i := 7) dX10_decide_29 rfl (Nat.le_of_ble_eq_true rfl) ?_
      refine r_aload (pc := 31) (i := 7) dX10_decide_31 rfl ?_
      obtain ⟨k37, h⟩ := h
      refine r_geti (pc := 33) flX10_97 dX10_decide_33 (Or.inl rfl) k37 ?_
      refine r_iconst (pc := 36) (v := 1) dX10_decide_36 (by decide) ?_
      refine r_icmp_ne (pc := 37) (tgt := 44) dX10_decide_37 (by decide) (fun c38 => ?_) (fun c38 => ?_)
      · replace h := h.1 c38
        refine r_iconst (pc := 44) (v := 0) dX10_decide_44 (by decide) ?_
        exact h
      · replace h := h.2 c38
        refine r_iconst (pc := 40) (v := 1) dX10_decide_40 (by decide) ?_
        refine r_goto (pc := 41) (tgt := 45) dX10_decide_41 (by decide) ?_
        exact h
theorem vX10_decide_45 {G : GG} {d rc rs : Nat} (p0 : Nat) (p1 : Nat) (p2 : Nat) (p3 : Nat) (x4 : Int32) (x5 : Int32) (x6 : Int32) (p7 : Nat) (z8 : Option Value) (u0 : Int32) (hz8 : c1 z8 = true) {M : Mem} {Q : Option Value → Mem → Prop} (h : (u0 = 0 → (x_h M p0).1 = 26 ∧ Call G d 0 0 mX10_weavePart [.ref p0, .ref p7, .ref p1] M (fun r3 M4 => ∃ v5 : Int32, r3 = some (.int v5) ∧ (¬ v5 = 0 → LX10_decide_9 G d rc rs p0 p1 p2 p3 x4 x5 (x6 + 1) (some (.ref p7)) (some (.int u0)) M4 Q) ∧ (v5 = 0 → (x_h M4 p7).1 = 19 ∧ (x_h M4 p2).1 = 20 ∧ (∀ M9, M9 = x_si M4 p2 3 (x_i M4 p7 4) → Q none M9)))) ∧ (¬ u0 = 0 → (x_h M p0).1 = 26 ∧ Call G d 0 0 mX10_weaveRows [.ref p0, .ref p7, .ref p3, .int x4] M (fun r11 M12 => ∃ v13 : Int32, r11 = some (.int v13) ∧ (v13 = 0 → (x_h M12 p7).1 = 19 ∧ (x_h M12 p2).1 = 20 ∧ (∀ M17, M17 = x_si M12 p2 3 (x_i M12 p7 4) → Q none M17)) ∧ (¬ v13 = 0 → LX10_decide_9 G d rc rs p0 p1 p2 p3 x4 x5 (x6 + 1) (some (.ref p7)) (some (.int u0)) M12 Q)))) : LX10_decide_45 G d rc rs p0 p1 p2 p3 x4 x5 x6 p7 z8 u0 M Q := by
  show Wk G (d + 1) rc rs mX10_decide 45 _ _ M Q
  refine r_istore (pc := 45) (i := 8) dX10_decide_45 rfl (Nat.le_of_ble_eq_true rfl) ?_
  refine r_iload (pc := 47) (i := 8) dX10_decide_47 rfl ?_
  refine r_if_eq (pc := 49) (tgt := 67) dX10_decide_49 (by decide) (fun c1 => ?_) (fun c1 => ?_)
  · replace h := h.1 c1
    refine r_aload_n (pc := 67) (i := 0) dX10_decide_67 rfl rfl ?_
    refine r_aload (pc := 68) (i := 7) dX10_decide_68 rfl ?_
    refine r_aload_n (pc := 70) (i := 1) dX10_decide_70 rfl rfl ?_
    obtain ⟨k2, h⟩ := h
    refine r_callV (pc := 71) (ci := 10) (as := [_, _]) (st := []) okX10_weavePart lkX10_106 inX10_weavePart seX10_weavePart ⟨_, rfl, rfl⟩ dX10_decide_71 rfl k2 (Nat.le_of_ble_eq_true rfl) (Nat.zero_le _) (Nat.zero_le _) (Call.mono h (fun r3 M4 h => ?_))
    obtain ⟨v5, rfl, h⟩ := h
    refine r_if_ne (pc := 74) (tgt := 87) dX10_decide_74 (by decide) (fun c6 => ?_) (fun c6 => ?_)
    · replace h := h.1 c6
      refine r_iinc (pc := 87) (i := 6) (v := _ + 1) dX10_decide_87 rfl rfl rfl ?_
      refine r_goto (pc := 90) (tgt := 9) dX10_decide_90 (by decide) ?_
      exact h
    · replace h := h.2 c6
      refine r_aload_n (pc := 77) (i := 2) dX10_decide_77 rfl rfl ?_
      refine r_aload (pc := 78) (i := 7) dX10_decide_78 rfl ?_
      obtain ⟨k7, h⟩ := h
      refine r_geti (pc := 80) flX10_110 dX10_decide_80 (Or.inl rfl) k7 ?_
      obtain ⟨k8, h⟩ := h
      refine r_puti (pc := 83) flX10_113 dX10_decide_83 (Or.inl rfl) (fun q hq => by cases hq; rfl) k8 ?_
      replace h := h _ rfl
      exact r_vret (pc := 86) dX10_decide_86 rfl h
  · replace h := h.2 c1
    refine r_aload_n (pc := 52) (i := 0) dX10_decide_52 rfl rfl ?_
    refine r_aload (pc := 53) (i := 7) dX10_decide_53 rfl ?_
    refine r_aload_n (pc := 55) (i := 3) dX10_decide_55 rfl rfl ?_
    refine r_iload (pc := 56) (i := 4) dX10_decide_56 rfl ?_
    obtain ⟨k10, h⟩ := h
    refine r_callV (pc := 58) (ci := 10) (as := [_, _, _]) (st := []) okX10_weaveRows lkX10_102 inX10_weaveRows seX10_weaveRows ⟨_, rfl, rfl⟩ dX10_decide_58 rfl k10 (Nat.le_of_ble_eq_true rfl) (Nat.zero_le _) (Nat.zero_le _) (Call.mono h (fun r11 M12 h => ?_))
    obtain ⟨v13, rfl, h⟩ := h
    refine r_if_eq (pc := 61) (tgt := 77) dX10_decide_61 (by decide) (fun c14 => ?_) (fun c14 => ?_)
    · replace h := h.1 c14
      refine r_aload_n (pc := 77) (i := 2) dX10_decide_77 rfl rfl ?_
      refine r_aload (pc := 78) (i := 7) dX10_decide_78 rfl ?_
      obtain ⟨k15, h⟩ := h
      refine r_geti (pc := 80) flX10_110 dX10_decide_80 (Or.inl rfl) k15 ?_
      obtain ⟨k16, h⟩ := h
      refine r_puti (pc := 83) flX10_113 dX10_decide_83 (Or.inl rfl) (fun q hq => by cases hq; rfl) k16 ?_
      replace h := h _ rfl
      exact r_vret (pc := 86) dX10_decide_86 rfl h
    · replace h := h.2 c14
      refine r_goto (pc := 64) (tgt := 87) dX10_decide_64 (by decide) ?_
      refine r_iinc (pc := 87) (i := 6) (v := _ + 1) dX10_decide_87 rfl rfl rfl ?_
      refine r_goto (pc := 90) (tgt := 9) dX10_decide_90 (by decide) ?_
      exact h
theorem eX10_weavePart {G : GG} {d rc rs : Nat} (o : Nat) (a1 : Nat) (a2 : Nat)  {M : Mem} {Q : Option Value → Mem → Prop} (h : (x_h M a1).1 = 19 ∧ (¬ (x_i M a1 3) = 0 → (1 ≤ (x_h M a2).1 ∧ (x_h M a2).1 < 8) ∧ Call G d 0 0 mX11_within [.int (x_i M a1 5), .int (nI (x_h M a2).2)] M (fun r4 M5 => ∃ v6 : Int32, r4 = some (.int v6) ∧ (¬ v6 = 0 → (x_h M5 a1).1 = 19 ∧ (4 ≤ (x_h M5 a2).1 ∧ (x_h M5 a2).1 < 8) ∧ vp_in (x_i M5 a1 5) (x_h M5 a2).2 ∧ (∃ b11, x_r M5 a2 (x_i M5 a1 5).toNatClampNeg = some b11 ∧ (¬ (x_i M5 a1 3) = 2 → ((x_i M5 a1 3) = 6 → (x_h M5 o).1 = 26 ∧ Call G d 0 0 mX10_weaveBound [.ref o, .ref a1, .ref b11] M5 (fun r15 M16 => ∃ v17 : Int32, r15 = some (.int v17) ∧ (v17 = 0 ∨ v17 = 1) ∧ Q (some (.int v17)) M16)) ∧ (¬ (x_i M5 a1 3) = 6 → (¬ (x_i M5 a1 3) = 7 → (1 ≤ (x_h M5 a2).1 ∧ (x_h M5 a2).1 < 8) ∧ Call G d 0 0 mX11_within [.int (x_i M5 a1 6), .int (nI (x_h M5 a2).2)] M5 (fun r20 M21 => ∃ v22 : Int32, r20 = some (.int v22) ∧ (¬ v22 = 0 → (x_h M21 a1).1 = 19 ∧ (4 ≤ (x_h M21 a2).1 ∧ (x_h M21 a2).1 < 8) ∧ vp_in (x_i M21 a1 6) (x_h M21 a2).2 ∧ (∃ b27, x_r M21 a2 (x_i M21 a1 6).toNatClampNeg = some b27 ∧ (x_h M21 b11).1 = 19 ∧ (∃ b29, x_r M21 b11 2 = some b29 ∧ (x_h M21 b27).1 = 19 ∧ (∃ b31, x_r M21 b27 2 = some b31 ∧ ∃ b32, x_r M21 a1 2 = some b32 ∧ (x_h M21 o).1 = 26 ∧ Call G d 0 0 mX10_product [.ref o, .ref b29, .int (x_i M21 b11 8), .ref b31, .int (x_i M21 b27 8), .int (x_i M21 a1 3), .ref b32, .int 40] M21 (fun r34 M35 => ∃ v36 : Int32, r34 = some (.int v36) ∧ (v36 = 0 ∨ v36 = 1) ∧ Q (some (.int v36)) M35))))) ∧ (v22 = 0 → Q (some (.int 0)) M21))) ∧ ((x_i M5 a1 3) = 7 → (x_h M5 o).1 = 26 ∧ Call G d 0 0 mX10_weaveBound [.ref o, .ref a1, .ref b11] M5 (fun r38 M39 => ∃ v40 : Int32, r38 = some (.int v40) ∧ (v40 = 0 ∨ v40 = 1) ∧ Q (some (.int v40)) M39)))) ∧ ((x_i M5 a1 3) = 2 → ∃ b41, x_r M5 a1 2 = some b41 ∧ (x_h M5 b11).1 = 19 ∧ (∃ b43, x_r M5 b11 2 = some b43 ∧ (x_h M5 b41).1 = 17 ∧ Call G d 0 0 mX1_becomeContrary [.ref b41, .ref b43] M5 (fun r45 M46 => r45 = none ∧ Q (some (.int 1)) M46))))) ∧ (v6 = 0 → Q (some (.int 0)) M5))) ∧ ((x_i M a1 3) = 0 → (x_h M o).1 = 26 ∧ Call G d 0 0 mX10_weaveSums [.ref o, .ref a1] M (fun r48 M49 => ∃ v50 : Int32, r48 = some (.int v50) ∧ (v50 = 0 ∨ v50 = 1) ∧ Q (some (.int v50)) M49))) : Call G (d + 1) rc rs mX10_weavePart [.ref o, .ref a1, .ref a2] M Q := by
  refine call_of (by decide) (Nat.le_of_ble_eq_true rfl) ?_
  show Wk G (d + 1) rc rs mX10_weavePart 0 [some (.ref o), some (.ref a1), some (.ref a2), none, none] [] M Q
  refine r_aload_n (pc := 0) (i := 1) dX10_weavePart_0 rfl rfl ?_
  obtain ⟨k1, h⟩ := h
  refine r_geti (pc := 1) flX10_97 dX10_weavePart_1 (Or.inl rfl) k1 ?_
  refine r_if_ne (pc := 4) (tgt := 13) dX10_weavePart_4 (by decide) (fun c2 => ?_) (fun c2 => ?_)
  · replace h := h.1 c2
    refine r_aload_n (pc := 13) (i := 1) dX10_weavePart_13 rfl rfl ?_
    refine r_geti (pc := 14) flX10_132 dX10_weavePart_14 (Or.inl rfl) k1 ?_
    refine r_aload_n (pc := 17) (i := 2) dX10_weavePart_17 rfl rfl ?_
    obtain ⟨k3, h⟩ := h
    refine r_alen (pc := 18) dX10_weavePart_18 rfl k3 ?_
    refine r_callS (pc := 19) (as := [_, _]) (st := []) okX11_within lkX10_116 stX11_within dX10_weavePart_19 rfl (Nat.le_of_ble_eq_true rfl) (Nat.zero_le _) (Nat.zero_le _) (Call.mono h (fun r4 M5 h => ?_))
    obtain ⟨v6, rfl, h⟩ := h
    refine r_if_ne (pc := 22) (tgt := 27) dX10_weavePart_22 (by decide) (fun c7 => ?_) (fun c7 => ?_)
    · replace h := h.1 c7
      refine r_aload_n (pc := 27) (i := 2) dX10_weavePart_27 rfl rfl ?_
      refine r_aload_n (pc := 28) (i := 1) dX10_weavePart_28 rfl rfl ?_
      obtain ⟨k8, h⟩ := h
      refine r_geti (pc := 29) flX10_132 dX10_weavePart_29 (Or.inl rfl) k8 ?_
      obtain ⟨k9, h⟩ := h
      obtain ⟨i10, h⟩ := h
      obtain ⟨b11, hb11, h⟩ := h
      refine r_aald (pc := 32) dX10_weavePart_32 rfl k9 i10 hb11 ?_
      refine r_astore_n (pc := 33) (i := 3) dX10_weavePart_33 rfl rfl (Nat.le_of_ble_eq_true rfl) ?_
      refine r_aload_n (pc := 34) (i := 1) dX10_weavePart_34 rfl rfl ?_
      refine r_geti (pc := 35) flX10_97 dX10_weavePart_35 (Or.inl rfl) k8 ?_
      refine r_iconst (pc := 38) (v := 2) dX10_weavePart_38 (by decide) ?_
      refine r_icmp_ne (pc := 39) (tgt := 55) dX10_weavePart_39 (by decide) (fun c12 => ?_) (fun c12 => ?_)
      · replace h := h.1 c12
        refine r_aload_n (pc := 55) (i := 1) dX10_weavePart_55 rfl rfl ?_
        refine r_geti (pc := 56) flX10_97 dX10_weavePart_56 (Or.inl rfl) k8 ?_
        refine r_bipush (pc := 59) (v := 6) dX10_weavePart_59 (by decide) ?_
        refine r_icmp_eq (pc := 61) (tgt := 73) dX10_weavePart_61 (by decide) (fun c13 => ?_) (fun c13 => ?_)
        · replace h := h.1 c13
          refine r_aload_n (pc := 73) (i := 0) dX10_weavePart_73 rfl rfl ?_
          refine r_aload_n (pc := 74) (i := 1) dX10_weavePart_74 rfl rfl ?_
          refine r_aload_n (pc := 75) (i := 3) dX10_weavePart_75 rfl rfl ?_
          obtain ⟨k14, h⟩ := h
          refine r_callV (pc := 76) (ci := 10) (as := [_, _]) (st := []) okX10_weaveBound lkX10_138 inX10_weaveBound seX10_weaveBound ⟨_, rfl, rfl⟩ dX10_weavePart_76 rfl k14 (Nat.le_of_ble_eq_true rfl) (Nat.zero_le _) (Nat.zero_le _) (Call.mono h (fun r15 M16 h => ?_))
          obtain ⟨v17, rfl, h⟩ := h
          exact r_zret (pc := 79) dX10_weavePart_79 rfl h.1 h.2
        · replace h := h.2 c13
          refine r_aload_n (pc := 64) (i := 1) dX10_weavePart_64 rfl rfl ?_
          refine r_geti (pc := 65) flX10_97 dX10_weavePart_65 (Or.inl rfl) k8 ?_
          refine r_bipush (pc := 68) (v := 7) dX10_weavePart_68 (by decide) ?_
          refine r_icmp_ne (pc := 70) (tgt := 80) dX10_weavePart_70 (by decide) (fun c18 => ?_) (fun c18 => ?_)
          · replace h := h.1 c18
            refine r_aload_n (pc := 80) (i := 1) dX10_weavePart_80 rfl rfl ?_
            refine r_geti (pc := 81) flX10_142 dX10_weavePart_81 (Or.inl rfl) k8 ?_
            refine r_aload_n (pc := 84) (i := 2) dX10_weavePart_84 rfl rfl ?_
            obtain ⟨k19, h⟩ := h
            refine r_alen (pc := 85) dX10_weavePart_85 rfl k19 ?_
            refine r_callS (pc := 86) (as := [_, _]) (st := []) okX11_within lkX10_116 stX11_within dX10_weavePart_86 rfl (Nat.le_of_ble_eq_true rfl) (Nat.zero_le _) (Nat.zero_le _) (Call.mono h (fun r20 M21 h => ?_))
            obtain ⟨v22, rfl, h⟩ := h
            refine r_if_ne (pc := 89) (tgt := 94) dX10_weavePart_89 (by decide) (fun c23 => ?_) (fun c23 => ?_)
            · replace h := h.1 c23
              refine r_aload_n (pc := 94) (i := 2) dX10_weavePart_94 rfl rfl ?_
              refine r_aload_n (pc := 95) (i := 1) dX10_weavePart_95 rfl rfl ?_
              obtain ⟨k24, h⟩ := h
              refine r_geti (pc := 96) flX10_142 dX10_weavePart_96 (Or.inl rfl) k24 ?_
              obtain ⟨k25, h⟩ := h
              obtain ⟨i26, h⟩ := h
              obtain ⟨b27, hb27, h⟩ := h
              refine r_aald (pc := 99) dX10_weavePart_99 rfl k25 i26 hb27 ?_
              refine r_astore (pc := 100) (i := 4) dX10_weavePart_100 rfl (Nat.le_of_ble_eq_true rfl) ?_
              refine r_aload_n (pc := 102) (i := 0) dX10_weavePart_102 rfl rfl ?_
              refine r_aload_n (pc := 103) (i := 3) dX10_weavePart_103 rfl rfl ?_
              obtain ⟨k28, h⟩ := h
              obtain ⟨b29, hb29, h⟩ := h
              refine r_getr (pc := 104) flX10_123 dX10_weavePart_104 rfl k28 hb29 ?_
              refine r_aload_n (pc := 107) (i := 3) dX10_weavePart_107 rfl rfl ?_
              refine r_geti (pc := 108) flX10_145 dX10_weavePart_108 (Or.inl rfl) k28 ?_
              refine r_aload (pc := 111) (i := 4) dX10_weavePart_111 rfl ?_
              obtain ⟨k30, h⟩ := h
              obtain ⟨b31, hb31, h⟩ := h
              refine r_getr (pc := 113) flX10_123 dX10_weavePart_113 rfl k30 hb31 ?_
              refine r_aload (pc := 116) (i := 4) dX10_weavePart_116 rfl ?_
              refine r_geti (pc := 118) flX10_145 dX10_weavePart_118 (Or.inl rfl) k30 ?_
              refine r_aload_n (pc := 121) (i := 1) dX10_weavePart_121 rfl rfl ?_
              refine r_geti (pc := 122) flX10_97 dX10_weavePart_122 (Or.inl rfl) k24 ?_
              refine r_aload_n (pc := 125) (i := 1) dX10_weavePart_125 rfl rfl ?_
              obtain ⟨b32, hb32, h⟩ := h
              refine r_getr (pc := 126) flX10_123 dX10_weavePart_126 rfl k24 hb32 ?_
              refine r_bipush (pc := 129) (v := 40) dX10_weavePart_129 (by decide) ?_
              obtain ⟨k33, h⟩ := h
              refine r_callV (pc := 131) (ci := 10) (as := [_, _, _, _, _, _, _]) (st := []) okX10_product lkX10_88 inX10_product seX10_product ⟨_, rfl, rfl⟩ dX10_weavePart_131 rfl k33 (Nat.le_of_ble_eq_true rfl) (Nat.zero_le _) (Nat.zero_le _) (Call.mono h (fun r34 M35 h => ?_))
              obtain ⟨v36, rfl, h⟩ := h
              exact r_zret (pc := 134) dX10_weavePart_134 rfl h.1 h.2
            · replace h := h.2 c23
              refine r_iconst (pc := 92) (v := 0) dX10_weavePart_92 (by decide) ?_
              exact r_zret (pc := 93) dX10_weavePart_93 rfl (Or.inl rfl) h
          · replace h := h.2 c18
            refine r_aload_n (pc := 73) (i := 0) dX10_weavePart_73 rfl rfl ?_
            refine r_aload_n (pc := 74) (i := 1) dX10_weavePart_74 rfl rfl ?_
            refine r_aload_n (pc := 75) (i := 3) dX10_weavePart_75 rfl rfl ?_
            obtain ⟨k37, h⟩ := h
            refine r_callV (pc := 76) (ci := 10) (as := [_, _]) (st := []) okX10_weaveBound lkX10_138 inX10_weaveBound seX10_weaveBound ⟨_, rfl, rfl⟩ dX10_weavePart_76 rfl k37 (Nat.le_of_ble_eq_true rfl) (Nat.zero_le _) (Nat.zero_le _) (Call.mono h (fun r38 M39 h => ?_))
            obtain ⟨v40, rfl, h⟩ := h
            exact r_zret (pc := 79) dX10_weavePart_79 rfl h.1 h.2
      · replace h := h.2 c12
        refine r_aload_n (pc := 42) (i := 1) dX10_weavePart_42 rfl rfl ?_
        obtain ⟨b41, hb41, h⟩ := h
        refine r_getr (pc := 43) flX10_123 dX10_weavePart_43 rfl k8 hb41 ?_
        refine r_aload_n (pc := 46) (i := 3) dX10_weavePart_46 rfl rfl ?_
        obtain ⟨k42, h⟩ := h
        obtain ⟨b43, hb43, h⟩ := h
        refine r_getr (pc := 47) flX10_123 dX10_weavePart_47 rfl k42 hb43 ?_
        obtain ⟨k44, h⟩ := h
        refine r_callV (pc := 50) (ci := 1) (as := [_]) (st := []) okX1_becomeContrary lkX10_135 inX1_becomeContrary seX1_becomeContrary ⟨_, rfl, rfl⟩ dX10_weavePart_50 rfl k44 (Nat.le_of_ble_eq_true rfl) (Nat.zero_le _) (Nat.zero_le _) (Call.mono h (fun r45 M46 h => ?_))
        obtain ⟨rfl, h⟩ := h
        refine r_iconst (pc := 53) (v := 1) dX10_weavePart_53 (by decide) ?_
        exact r_zret (pc := 54) dX10_weavePart_54 rfl (Or.inr rfl) h
    · replace h := h.2 c7
      refine r_iconst (pc := 25) (v := 0) dX10_weavePart_25 (by decide) ?_
      exact r_zret (pc := 26) dX10_weavePart_26 rfl (Or.inl rfl) h
  · replace h := h.2 c2
    refine r_aload_n (pc := 7) (i := 0) dX10_weavePart_7 rfl rfl ?_
    refine r_aload_n (pc := 8) (i := 1) dX10_weavePart_8 rfl rfl ?_
    obtain ⟨k47, h⟩ := h
    refine r_callV (pc := 9) (ci := 10) (as := [_]) (st := []) okX10_weaveSums lkX10_128 inX10_weaveSums seX10_weaveSums ⟨_, rfl, rfl⟩ dX10_weavePart_9 rfl k47 (Nat.le_of_ble_eq_true rfl) (Nat.zero_le _) (Nat.zero_le _) (Call.mono h (fun r48 M49 h => ?_))
    obtain ⟨v50, rfl, h⟩ := h
    exact r_zret (pc := 12) dX10_weavePart_12 rfl h.1 h.2
theorem eX10_at {G : GG} {d rc rs : Nat} (a1 : Nat) (a2 : Int32)  {M : Mem} {Q : Option Value → Mem → Prop} (h : (1 ≤ (x_h M a1).1 ∧ (x_h M a1).1 < 8) ∧ Call G d 0 0 mX11_within [.int a2, .int (nI (x_h M a1).2)] M (fun r2 M3 => ∃ v4 : Int32, r2 = some (.int v4) ∧ (v4 = 0 → Q (some (.int 0)) M3) ∧ (¬ v4 = 0 → (x_h M3 a1).1 = 1 ∧ vp_in a2 (x_h M3 a1).2 ∧ Q (some (.int (x_i M3 a1 a2.toNatClampNeg))) M3))) : Call G (d + 1) rc rs mX10_at [.ref a1, .int a2] M Q := by
  refine call_of (by decide) (Nat.le_of_ble_eq_true rfl) ?_
  show Wk G (d + 1) rc rs mX10_at 0 [some (.ref a1), some (.int a2)] [] M Q
  refine r_iload_n (pc := 0) (i := 1) dX10_at_0 rfl rfl ?_
  refine r_aload_n (pc := 1) (i := 0) dX10_at_1 rfl rfl ?_
  obtain ⟨k1, h⟩ := h
  refine r_alen (pc := 2) dX10_at_2 rfl k1 ?_
  refine r_callS (pc := 3) (as := [_, _]) (st := []) okX11_within lkX10_116 stX11_within dX10_at_3 rfl (Nat.le_of_ble_eq_true rfl) (Nat.zero_le _) (Nat.zero_le _) (Call.mono h (fun r2 M3 h => ?_))
  obtain ⟨v4, rfl, h⟩ := h
  refine r_if_eq (pc := 6) (tgt := 15) dX10_at_6 (by decide) (fun c5 => ?_) (fun c5 => ?_)
  · replace h := h.1 c5
    refine r_iconst (pc := 15) (v := 0) dX10_at_15 (by decide) ?_
    exact r_iret (pc := 16) dX10_at_16 rfl h
  · replace h := h.2 c5
    refine r_aload_n (pc := 9) (i := 0) dX10_at_9 rfl rfl ?_
    refine r_iload_n (pc := 10) (i := 1) dX10_at_10 rfl rfl ?_
    obtain ⟨k6, h⟩ := h
    obtain ⟨i7, h⟩ := h
    refine r_iald (pc := 11) dX10_at_11 k6 i7 ?_
    refine r_goto (pc := 12) (tgt := 16) dX10_at_12 (by decide) ?_
    exact r_iret (pc := 16) dX10_at_16 rfl h
abbrev LX10_power_4 (G : GG) (d rc rs : Nat) (x0 : Int32) (x1 : Int32) (x2 : Int32) (x3 : Int32) (M : Mem) (Q : Option Value → Mem → Prop) : Prop := Wk G (d + 1) rc rs mX10_power 4 [some (.int x0), some (.int x1), some (.int x2), some (.int x3)] [] M Q
theorem eX10_power {G : GG} {d rc rs : Nat} (a1 : Int32) (a2 : Int32)  {M : Mem} {Q : Option Value → Mem → Prop} (h : LX10_power_4 G d rc rs a1 a2 1 0 M Q) : Call G (d + 1) rc rs mX10_power [.int a1, .int a2] M Q := by
  refine call_of (by decide) (Nat.le_of_ble_eq_true rfl) ?_
  show Wk G (d + 1) rc rs mX10_power 0 [some (.int a1), some (.int a2), none, none] [] M Q
  refine r_iconst (pc := 0) (v := 1) dX10_power_0 (by decide) ?_
  refine r_istore_n (pc := 1) (i := 2) dX10_power_1 rfl rfl (Nat.le_of_ble_eq_true rfl) ?_
  refine r_iconst (pc := 2) (v := 0) dX10_power_2 (by decide) ?_
  refine r_istore_n (pc := 3) (i := 3) dX10_power_3 rfl rfl (Nat.le_of_ble_eq_true rfl) ?_
  exact h
theorem vX10_power_4 {G : GG} {d rc rs : Nat} (x0 : Int32) (x1 : Int32) (x2 : Int32) (x3 : Int32)  {M : Mem} {Q : Option Value → Mem → Prop} (h : (x1 ≤ x3 → Q (some (.int x2)) M) ∧ (¬ x1 ≤ x3 → (8 ≤ x3 → Q (some (.int x2)) M) ∧ (¬ 8 ≤ x3 → LX10_power_4 G d rc rs x0 x1 (x2 * x0) (x3 + 1) M Q))) : LX10_power_4 G d rc rs x0 x1 x2 x3 M Q := by
  show Wk G (d + 1) rc rs mX10_power 4 _ _ M Q
  refine r_iload_n (pc := 4) (i := 3) dX10_power_4 rfl rfl ?_
  refine r_iload_n (pc := 5) (i := 1) dX10_power_5 rfl rfl ?_
  refine r_icmp_ge (pc := 6) (tgt := 25) dX10_power_6 (by decide) (fun c1 => ?_) (fun c1 => ?_)
  · replace h := h.1 c1
    refine r_iload_n (pc := 25) (i := 2) dX10_power_25 rfl rfl ?_
    exact r_iret (pc := 26) dX10_power_26 rfl h
  · replace h := h.2 c1
    refine r_iload_n (pc := 9) (i := 3) dX10_power_9 rfl rfl ?_
    refine r_bipush (pc := 10) (v := 8) dX10_power_10 (by decide) ?_
    refine r_icmp_ge (pc := 12) (tgt := 25) dX10_power_12 (by decide) (fun c2 => ?_) (fun c2 => ?_)
    · replace h := h.1 c2
      refine r_iload_n (pc := 25) (i := 2) dX10_power_25 rfl rfl ?_
      exact r_iret (pc := 26) dX10_power_26 rfl h
    · replace h := h.2 c2
      refine r_iload_n (pc := 15) (i := 2) dX10_power_15 rfl rfl ?_
      refine r_iload_n (pc := 16) (i := 0) dX10_power_16 rfl rfl ?_
      refine r_imul (pc := 17) dX10_power_17 ?_
      refine r_istore_n (pc := 18) (i := 2) dX10_power_18 rfl rfl (Nat.le_of_ble_eq_true rfl) ?_
      refine r_iinc (pc := 19) (i := 3) (v := _ + 1) dX10_power_19 rfl rfl rfl ?_
      refine r_goto (pc := 22) (tgt := 4) dX10_power_22 (by decide) ?_
      exact h
theorem eX10_fan {G : GG} {d rc rs : Nat} (o : Nat) (a1 : Int32)  {M : Mem} {Q : Option Value → Mem → Prop} (h : (x_h M o).1 = 26 ∧ Call G d 0 0 mJ6_bitCount_0f7a4 [.int a1] M (fun r2 M3 => ∃ v4 : Int32, r2 = some (.int v4) ∧ Call G d 0 0 mX10_power [.int (x_i M o 11), .int v4] M3 (fun r5 M6 => ∃ v7 : Int32, r5 = some (.int v7) ∧ Q (some (.int v7)) M6))) : Call G (d + 1) rc rs mX10_fan [.ref o, .int a1] M Q := by
  refine call_of (by decide) (Nat.le_of_ble_eq_true rfl) ?_
  show Wk G (d + 1) rc rs mX10_fan 0 [some (.ref o), some (.int a1)] [] M Q
  refine r_aload_n (pc := 0) (i := 0) dX10_fan_0 rfl rfl ?_
  obtain ⟨k1, h⟩ := h
  refine r_geti (pc := 1) flX10_57 dX10_fan_1 (Or.inl rfl) k1 ?_
  refine r_iload_n (pc := 4) (i := 1) dX10_fan_4 rfl rfl ?_
  refine r_callS (pc := 5) (as := [_]) (st := [_]) okJ6_bitCount_0f7a4 lkX10_148 stJ6_bitCount_0f7a4 dX10_fan_5 rfl (Nat.le_of_ble_eq_true rfl) (Nat.zero_le _) (Nat.zero_le _) (Call.mono h (fun r2 M3 h => ?_))
  obtain ⟨v4, rfl, h⟩ := h
  refine r_callS (pc := 8) (as := [_, _]) (st := []) okX10_power lkX10_153 stX10_power dX10_fan_8 rfl (Nat.le_of_ble_eq_true rfl) (Nat.zero_le _) (Nat.zero_le _) (Call.mono h (fun r5 M6 h => ?_))
  obtain ⟨v7, rfl, h⟩ := h
  exact r_iret (pc := 11) dX10_fan_11 rfl h
abbrev LX10_view_13 (G : GG) (d rc rs : Nat) (p0 : Nat) (x1 : Int32) (x2 : Int32) (x3 : Int32) (x4 : Int32) (x5 : Int32) (x6 : Int32) (x7 : Int32) (M : Mem) (Q : Option Value → Mem → Prop) : Prop := Wk G (d + 1) rc rs mX10_view 13 [some (.ref p0), some (.int x1), some (.int x2), some (.int x3), some (.int x4), some (.int x5), some (.int x6), some (.int x7)] [] M Q
theorem eX10_view {G : GG} {d rc rs : Nat} (o : Nat) (a1 : Int32) (a2 : Int32) (a3 : Int32)  {M : Mem} {Q : Option Value → Mem → Prop} (h : LX10_view_13 G d rc rs o a1 a2 a3 0 1 a1 7 M Q) : Call G (d + 1) rc rs mX10_view [.ref o, .int a1, .int a2, .int a3] M Q := by
  refine call_of (by decide) (Nat.le_of_ble_eq_true rfl) ?_
  show Wk G (d + 1) rc rs mX10_view 0 [some (.ref o), some (.int a1), some (.int a2), some (.int a3), none, none, none, none] [] M Q
  refine r_iconst (pc := 0) (v := 0) dX10_view_0 (by decide) ?_
  refine r_istore (pc := 1) (i := 4) dX10_view_1 rfl (Nat.le_of_ble_eq_true rfl) ?_
  refine r_iconst (pc := 3) (v := 1) dX10_view_3 (by decide) ?_
  refine r_istore (pc := 4) (i := 5) dX10_view_4 rfl (Nat.le_of_ble_eq_true rfl) ?_
  refine r_iload_n (pc := 6) (i := 1) dX10_view_6 rfl rfl ?_
  refine r_istore (pc := 7) (i := 6) dX10_view_7 rfl (Nat.le_of_ble_eq_true rfl) ?_
  refine r_bipush (pc := 9) (v := 7) dX10_view_9 (by decide) ?_
  refine r_istore (pc := 11) (i := 7) dX10_view_11 rfl (Nat.le_of_ble_eq_true rfl) ?_
  exact h
theorem vX10_view_13 {G : GG} {d rc rs : Nat} (p0 : Nat) (x1 : Int32) (x2 : Int32) (x3 : Int32) (x4 : Int32) (x5 : Int32) (x6 : Int32) (x7 : Int32)  {M : Mem} {Q : Option Value → Mem → Prop} (h : (x7 < 0 → Q (some (.int x4)) M) ∧ (¬ x7 < 0 → (x_h M p0).1 = 26 ∧ ((x_i M p0 11) ≤ 1 → Q (some (.int x4)) M) ∧ (¬ (x_i M p0 11) ≤ 1 → (((x2 >>> (x7 &&& 31)) &&& 1) = 0 → LX10_view_13 G d rc rs p0 x1 x2 x3 x4 x5 x6 (x7 + (-1)) M Q) ∧ (¬ ((x2 >>> (x7 &&& 31)) &&& 1) = 0 → (((x3 >>> (x7 &&& 31)) &&& 1) = 0 → ¬ (x_i M p0 11) = 0 ∧ LX10_view_13 G d rc rs p0 x1 x2 x3 x4 x5 (x6 / (x_i M p0 11)) (x7 + (-1)) M Q) ∧ (¬ ((x3 >>> (x7 &&& 31)) &&& 1) = 0 → ¬ (x_i M p0 11) = 0 ∧ ¬ (x_i M p0 11) = 0 ∧ LX10_view_13 G d rc rs p0 x1 x2 x3 (x4 + ((x6 - x6 / (x_i M p0 11) * (x_i M p0 11)) * x5)) (x5 * (x_i M p0 11)) (x6 / (x_i M p0 11)) (x7 + (-1)) M Q))))) : LX10_view_13 G d rc rs p0 x1 x2 x3 x4 x5 x6 x7 M Q := by
  show Wk G (d + 1) rc rs mX10_view 13 _ _ M Q
  refine r_iload (pc := 13) (i := 7) dX10_view_13 rfl ?_
  refine r_if_lt (pc := 15) (tgt := 83) dX10_view_15 (by decide) (fun c1 => ?_) (fun c1 => ?_)
  · replace h := h.1 c1
    refine r_iload (pc := 83) (i := 4) dX10_view_83 rfl ?_
    exact r_iret (pc := 85) dX10_view_85 rfl h
  · replace h := h.2 c1
    refine r_aload_n (pc := 18) (i := 0) dX10_view_18 rfl rfl ?_
    obtain ⟨k2, h⟩ := h
    refine r_geti (pc := 19) flX10_57 dX10_view_19 (Or.inl rfl) k2 ?_
    refine r_iconst (pc := 22) (v := 1) dX10_view_22 (by decide) ?_
    refine r_icmp_le (pc := 23) (tgt := 83) dX10_view_23 (by decide) (fun c3 => ?_) (fun c3 => ?_)
    · replace h := h.1 c3
      refine r_iload (pc := 83) (i := 4) dX10_view_83 rfl ?_
      exact r_iret (pc := 85) dX10_view_85 rfl h
    · replace h := h.2 c3
      refine r_iload_n (pc := 26) (i := 2) dX10_view_26 rfl rfl ?_
      refine r_iload (pc := 27) (i := 7) dX10_view_27 rfl ?_
      refine r_ishr (pc := 29) dX10_view_29 ?_
      refine r_iconst (pc := 30) (v := 1) dX10_view_30 (by decide) ?_
      refine r_iand (pc := 31) dX10_view_31 ?_
      refine r_if_eq (pc := 32) (tgt := 77) dX10_view_32 (by decide) (fun c4 => ?_) (fun c4 => ?_)
      · replace h := h.1 c4
        refine r_iinc (pc := 77) (i := 7) (v := _ + (-1)) dX10_view_77 rfl rfl rfl ?_
        refine r_goto (pc := 80) (tgt := 13) dX10_view_80 (by decide) ?_
        exact h
      · replace h := h.2 c4
        refine r_iload_n (pc := 35) (i := 3) dX10_view_35 rfl rfl ?_
        refine r_iload (pc := 36) (i := 7) dX10_view_36 rfl ?_
        refine r_ishr (pc := 38) dX10_view_38 ?_
        refine r_iconst (pc := 39) (v := 1) dX10_view_39 (by decide) ?_
        refine r_iand (pc := 40) dX10_view_40 ?_
        refine r_if_eq (pc := 41) (tgt := 68) dX10_view_41 (by decide) (fun c5 => ?_) (fun c5 => ?_)
        · replace h := h.1 c5
          refine r_iload (pc := 68) (i := 6) dX10_view_68 rfl ?_
          refine r_aload_n (pc := 70) (i := 0) dX10_view_70 rfl rfl ?_
          refine r_geti (pc := 71) flX10_57 dX10_view_71 (Or.inl rfl) k2 ?_
          obtain ⟨n6, h⟩ := h
          refine r_idiv (pc := 74) dX10_view_74 n6 ?_
          refine r_istore (pc := 75) (i := 6) dX10_view_75 rfl (Nat.le_of_ble_eq_true rfl) ?_
          refine r_iinc (pc := 77) (i := 7) (v := _ + (-1)) dX10_view_77 rfl rfl rfl ?_
          refine r_goto (pc := 80) (tgt := 13) dX10_view_80 (by decide) ?_
          exact h
        · replace h := h.2 c5
          refine r_iload (pc := 44) (i := 4) dX10_view_44 rfl ?_
          refine r_iload (pc := 46) (i := 6) dX10_view_46 rfl ?_
          refine r_aload_n (pc := 48) (i := 0) dX10_view_48 rfl rfl ?_
          refine r_geti (pc := 49) flX10_57 dX10_view_49 (Or.inl rfl) k2 ?_
          obtain ⟨n7, h⟩ := h
          refine r_irem (pc := 52) dX10_view_52 n7 ?_
          refine r_iload (pc := 53) (i := 5) dX10_view_53 rfl ?_
          refine r_imul (pc := 55) dX10_view_55 ?_
          refine r_iadd (pc := 56) dX10_view_56 ?_
          refine r_istore (pc := 57) (i := 4) dX10_view_57 rfl (Nat.le_of_ble_eq_true rfl) ?_
          refine r_iload (pc := 59) (i := 5) dX10_view_59 rfl ?_
          refine r_aload_n (pc := 61) (i := 0) dX10_view_61 rfl rfl ?_
          refine r_geti (pc := 62) flX10_57 dX10_view_62 (Or.inl rfl) k2 ?_
          refine r_imul (pc := 65) dX10_view_65 ?_
          refine r_istore (pc := 66) (i := 5) dX10_view_66 rfl (Nat.le_of_ble_eq_true rfl) ?_
          refine r_iload (pc := 68) (i := 6) dX10_view_68 rfl ?_
          refine r_aload_n (pc := 70) (i := 0) dX10_view_70 rfl rfl ?_
          refine r_geti (pc := 71) flX10_57 dX10_view_71 (Or.inl rfl) k2 ?_
          obtain ⟨n8, h⟩ := h
          refine r_idiv (pc := 74) dX10_view_74 n8 ?_
          refine r_istore (pc := 75) (i := 6) dX10_view_75 rfl (Nat.le_of_ble_eq_true rfl) ?_
          refine r_iinc (pc := 77) (i := 7) (v := _ + (-1)) dX10_view_77 rfl rfl rfl ?_
          refine r_goto (pc := 80) (tgt := 13) dX10_view_80 (by decide) ?_
          exact h
abbrev LX10_fillViews_10 (G : GG) (d rc rs : Nat) (p0 : Nat) (p1 : Nat) (x2 : Int32) (x3 : Int32) (x4 : Int32) (x5 : Int32) (M : Mem) (Q : Option Value → Mem → Prop) : Prop := Wk G (d + 1) rc rs mX10_fillViews 10 [some (.ref p0), some (.ref p1), some (.int x2), some (.int x3), some (.int x4), some (.int x5)] [] M Q
theorem eX10_fillViews {G : GG} {d rc rs : Nat} (o : Nat) (a1 : Nat) (a2 : Int32) (a3 : Int32)  {M : Mem} {Q : Option Value → Mem → Prop} (h : (x_h M o).1 = 26 ∧ Call G d 0 0 mX10_fan [.ref o, .int a2] M (fun r2 M3 => ∃ v4 : Int32, r2 = some (.int v4) ∧ LX10_fillViews_10 G d rc rs o a1 a2 a3 v4 0 M3 Q)) : Call G (d + 1) rc rs mX10_fillViews [.ref o, .ref a1, .int a2, .int a3] M Q := by
  refine call_of (by decide) (Nat.le_of_ble_eq_true rfl) ?_
  show Wk G (d + 1) rc rs mX10_fillViews 0 [some (.ref o), some (.ref a1), some (.int a2), some (.int a3), none, none] [] M Q
  refine r_aload_n (pc := 0) (i := 0) dX10_fillViews_0 rfl rfl ?_
  refine r_iload_n (pc := 1) (i := 2) dX10_fillViews_1 rfl rfl ?_
  obtain ⟨k1, h⟩ := h
  refine r_callV (pc := 2) (ci := 10) (as := [_]) (st := []) okX10_fan lkX10_157 inX10_fan seX10_fan ⟨_, rfl, rfl⟩ dX10_fillViews_2 rfl k1 (Nat.le_of_ble_eq_true rfl) (Nat.zero_le _) (Nat.zero_le _) (Call.mono h (fun r2 M3 h => ?_))
  obtain ⟨v4, rfl, h⟩ := h
  refine r_istore (pc := 5) (i := 4) dX10_fillViews_5 rfl (Nat.le_of_ble_eq_true rfl) ?_
  refine r_iconst (pc := 7) (v := 0) dX10_fillViews_7 (by decide) ?_
  refine r_istore (pc := 8) (i := 5) dX10_fillViews_8 rfl (Nat.le_of_ble_eq_true rfl) ?_
  exact h
theorem vX10_fillViews_10 {G : GG} {d rc rs : Nat} (p0 : Nat) (p1 : Nat) (x2 : Int32) (x3 : Int32) (x4 : Int32) (x5 : Int32)  {M : Mem} {Q : Option Value → Mem → Prop} (h : (x4 ≤ x5 → Q none M) ∧ (¬ x4 ≤ x5 → (1 ≤ (x_h M p1).1 ∧ (x_h M p1).1 < 8) ∧ ((nI (x_h M p1).2) ≤ x5 → Q none M) ∧ (¬ (nI (x_h M p1).2) ≤ x5 → (x_h M p0).1 = 26 ∧ Call G d 0 0 mX10_view [.ref p0, .int x5, .int x2, .int x3] M (fun r5 M6 => ∃ v7 : Int32, r5 = some (.int v7) ∧ (x_h M6 p1).1 = 1 ∧ vp_in x5 (x_h M6 p1).2 ∧ (∀ M10, M10 = x_si M6 p1 x5.toNatClampNeg v7 → LX10_fillViews_10 G d rc rs p0 p1 x2 x3 x4 (x5 + 1) M10 Q))))) : LX10_fillViews_10 G d rc rs p0 p1 x2 x3 x4 x5 M Q := by
  show Wk G (d + 1) rc rs mX10_fillViews 10 _ _ M Q
  refine r_iload (pc := 10) (i := 5) dX10_fillViews_10 rfl ?_
  refine r_iload (pc := 12) (i := 4) dX10_fillViews_12 rfl ?_
  refine r_icmp_ge (pc := 14) (tgt := 42) dX10_fillViews_14 (by decide) (fun c1 => ?_) (fun c1 => ?_)
  · replace h := h.1 c1
    exact r_vret (pc := 42) dX10_fillViews_42 rfl h
  · replace h := h.2 c1
    refine r_iload (pc := 17) (i := 5) dX10_fillViews_17 rfl ?_
    refine r_aload_n (pc := 19) (i := 1) dX10_fillViews_19 rfl rfl ?_
    obtain ⟨k2, h⟩ := h
    refine r_alen (pc := 20) dX10_fillViews_20 rfl k2 ?_
    refine r_icmp_ge (pc := 21) (tgt := 42) dX10_fillViews_21 (by decide) (fun c3 => ?_) (fun c3 => ?_)
    · replace h := h.1 c3
      exact r_vret (pc := 42) dX10_fillViews_42 rfl h
    · replace h := h.2 c3
      refine r_aload_n (pc := 24) (i := 1) dX10_fillViews_24 rfl rfl ?_
      refine r_iload (pc := 25) (i := 5) dX10_fillViews_25 rfl ?_
      refine r_aload_n (pc := 27) (i := 0) dX10_fillViews_27 rfl rfl ?_
      refine r_iload (pc := 28) (i := 5) dX10_fillViews_28 rfl ?_
      refine r_iload_n (pc := 30) (i := 2) dX10_fillViews_30 rfl rfl ?_
      refine r_iload_n (pc := 31) (i := 3) dX10_fillViews_31 rfl rfl ?_
      obtain ⟨k4, h⟩ := h
      refine r_callV (pc := 32) (ci := 10) (as := [_, _, _]) (st := [_, _]) okX10_view lkX10_160 inX10_view seX10_view ⟨_, rfl, rfl⟩ dX10_fillViews_32 rfl k4 (Nat.le_of_ble_eq_true rfl) (Nat.zero_le _) (Nat.zero_le _) (Call.mono h (fun r5 M6 h => ?_))
      obtain ⟨v7, rfl, h⟩ := h
      obtain ⟨k8, h⟩ := h
      obtain ⟨i9, h⟩ := h
      refine r_iast (pc := 35) dX10_fillViews_35 k8 i9 ?_
      replace h := h _ rfl
      refine r_iinc (pc := 36) (i := 5) (v := _ + 1) dX10_fillViews_36 rfl rfl rfl ?_
      refine r_goto (pc := 39) (tgt := 10) dX10_fillViews_39 (by decide) ?_
      exact h
abbrev LX10_load_10 (G : GG) (d rc rs : Nat) (p0 : Nat) (x1 : Int32) (x2 : Int32) (p3 : Nat) (x4 : Int32) (x5 : Int32) (x6 : Int32) (M : Mem) (Q : Option Value → Mem → Prop) : Prop := Wk G (d + 1) rc rs mX10_load 10 [some (.ref p0), some (.int x1), some (.int x2), some (.ref p3), some (.int x4), some (.int x5), some (.int x6)] [] M Q
theorem eX10_load {G : GG} {d rc rs : Nat} (o : Nat) (a1 : Int32) (a2 : Int32) (a3 : Nat)  {M : Mem} {Q : Option Value → Mem → Prop} (h : LX10_load_10 G d rc rs o a1 a2 a3 0 a1 7 M Q) : Call G (d + 1) rc rs mX10_load [.ref o, .int a1, .int a2, .ref a3] M Q := by
  refine call_of (by decide) (Nat.le_of_ble_eq_true rfl) ?_
  show Wk G (d + 1) rc rs mX10_load 0 [some (.ref o), some (.int a1), some (.int a2), some (.ref a3), none, none, none] [] M Q
  refine r_iconst (pc := 0) (v := 0) dX10_load_0 (by decide) ?_
  refine r_istore (pc := 1) (i := 4) dX10_load_1 rfl (Nat.le_of_ble_eq_true rfl) ?_
  refine r_iload_n (pc := 3) (i := 1) dX10_load_3 rfl rfl ?_
  refine r_istore (pc := 4) (i := 5) dX10_load_4 rfl (Nat.le_of_ble_eq_true rfl) ?_
  refine r_bipush (pc := 6) (v := 7) dX10_load_6 (by decide) ?_
  refine r_istore (pc := 8) (i := 6) dX10_load_8 rfl (Nat.le_of_ble_eq_true rfl) ?_
  exact h
theorem vX10_load_10 {G : GG} {d rc rs : Nat} (p0 : Nat) (x1 : Int32) (x2 : Int32) (p3 : Nat) (x4 : Int32) (x5 : Int32) (x6 : Int32)  {M : Mem} {Q : Option Value → Mem → Prop} (h : (x6 < 0 → Q (some (.int x4)) M) ∧ (¬ x6 < 0 → (x_h M p0).1 = 26 ∧ ((x_i M p0 11) ≤ 1 → Q (some (.int x4)) M) ∧ (¬ (x_i M p0 11) ≤ 1 → (((x2 >>> (x6 &&& 31)) &&& 1) = 0 → LX10_load_10 G d rc rs p0 x1 x2 p3 x4 x5 (x6 + (-1)) M Q) ∧ (¬ ((x2 >>> (x6 &&& 31)) &&& 1) = 0 → Call G d 0 0 mX10_at [.ref p3, .int x6] M (fun r5 M6 => ∃ v7 : Int32, r5 = some (.int v7) ∧ (x_h M6 p0).1 = 26 ∧ ¬ (x_i M6 p0 11) = 0 ∧ ¬ (x_i M6 p0 11) = 0 ∧ LX10_load_10 G d rc rs p0 x1 x2 p3 (x4 + (v7 * (x5 - x5 / (x_i M6 p0 11) * (x_i M6 p0 11)))) (x5 / (x_i M6 p0 11)) (x6 + (-1)) M6 Q))))) : LX10_load_10 G d rc rs p0 x1 x2 p3 x4 x5 x6 M Q := by
  show Wk G (d + 1) rc rs mX10_load 10 _ _ M Q
  refine r_iload (pc := 10) (i := 6) dX10_load_10 rfl ?_
  refine r_if_lt (pc := 12) (tgt := 66) dX10_load_12 (by decide) (fun c1 => ?_) (fun c1 => ?_)
  · replace h := h.1 c1
    refine r_iload (pc := 66) (i := 4) dX10_load_66 rfl ?_
    exact r_iret (pc := 68) dX10_load_68 rfl h
  · replace h := h.2 c1
    refine r_aload_n (pc := 15) (i := 0) dX10_load_15 rfl rfl ?_
    obtain ⟨k2, h⟩ := h
    refine r_geti (pc := 16) flX10_57 dX10_load_16 (Or.inl rfl) k2 ?_
    refine r_iconst (pc := 19) (v := 1) dX10_load_19 (by decide) ?_
    refine r_icmp_le (pc := 20) (tgt := 66) dX10_load_20 (by decide) (fun c3 => ?_) (fun c3 => ?_)
    · replace h := h.1 c3
      refine r_iload (pc := 66) (i := 4) dX10_load_66 rfl ?_
      exact r_iret (pc := 68) dX10_load_68 rfl h
    · replace h := h.2 c3
      refine r_iload_n (pc := 23) (i := 2) dX10_load_23 rfl rfl ?_
      refine r_iload (pc := 24) (i := 6) dX10_load_24 rfl ?_
      refine r_ishr (pc := 26) dX10_load_26 ?_
      refine r_iconst (pc := 27) (v := 1) dX10_load_27 (by decide) ?_
      refine r_iand (pc := 28) dX10_load_28 ?_
      refine r_if_eq (pc := 29) (tgt := 60) dX10_load_29 (by decide) (fun c4 => ?_) (fun c4 => ?_)
      · replace h := h.1 c4
        refine r_iinc (pc := 60) (i := 6) (v := _ + (-1)) dX10_load_60 rfl rfl rfl ?_
        refine r_goto (pc := 63) (tgt := 10) dX10_load_63 (by decide) ?_
        exact h
      · replace h := h.2 c4
        refine r_iload (pc := 32) (i := 4) dX10_load_32 rfl ?_
        refine r_aload_n (pc := 34) (i := 3) dX10_load_34 rfl rfl ?_
        refine r_iload (pc := 35) (i := 6) dX10_load_35 rfl ?_
        refine r_callS (pc := 37) (as := [_, _]) (st := [_]) okX10_at lkX10_73 stX10_at dX10_load_37 rfl (Nat.le_of_ble_eq_true rfl) (Nat.zero_le _) (Nat.zero_le _) (Call.mono h (fun r5 M6 h => ?_))
        obtain ⟨v7, rfl, h⟩ := h
        refine r_iload (pc := 40) (i := 5) dX10_load_40 rfl ?_
        refine r_aload_n (pc := 42) (i := 0) dX10_load_42 rfl rfl ?_
        obtain ⟨k8, h⟩ := h
        refine r_geti (pc := 43) flX10_57 dX10_load_43 (Or.inl rfl) k8 ?_
        obtain ⟨n9, h⟩ := h
        refine r_irem (pc := 46) dX10_load_46 n9 ?_
        refine r_imul (pc := 47) dX10_load_47 ?_
        refine r_iadd (pc := 48) dX10_load_48 ?_
        refine r_istore (pc := 49) (i := 4) dX10_load_49 rfl (Nat.le_of_ble_eq_true rfl) ?_
        refine r_iload (pc := 51) (i := 5) dX10_load_51 rfl ?_
        refine r_aload_n (pc := 53) (i := 0) dX10_load_53 rfl rfl ?_
        refine r_geti (pc := 54) flX10_57 dX10_load_54 (Or.inl rfl) k8 ?_
        obtain ⟨n10, h⟩ := h
        refine r_idiv (pc := 57) dX10_load_57 n10 ?_
        refine r_istore (pc := 58) (i := 5) dX10_load_58 rfl (Nat.le_of_ble_eq_true rfl) ?_
        refine r_iinc (pc := 60) (i := 6) (v := _ + (-1)) dX10_load_60 rfl rfl rfl ?_
        refine r_goto (pc := 63) (tgt := 10) dX10_load_63 (by decide) ?_
        exact h
abbrev LX10_product_76 (G : GG) (d rc rs : Nat) (p0 : Nat) (p1 : Nat) (x2 : Int32) (p3 : Nat) (x4 : Int32) (x5 : Int32) (p6 : Nat) (x7 : Int32) (x8 : Int32) (x9 : Int32) (x10 : Int32) (x11 : Int32) (z12 : Option Value) (z13 : Option Value) (z14 : Option Value) (z15 : Option Value) (M : Mem) (Q : Option Value → Mem → Prop) : Prop := Wk G (d + 1) rc rs mX10_product 76 [some (.ref p0), some (.ref p1), some (.int x2), some (.ref p3), some (.int x4), some (.int x5), some (.ref p6), some (.int x7), some (.int x8), some (.int x9), some (.int x10), some (.int x11), z12, z13, z14, z15] [] M Q
abbrev LX10_product_158 (G : GG) (d rc rs : Nat) (p0 : Nat) (p1 : Nat) (x2 : Int32) (p3 : Nat) (x4 : Int32) (x5 : Int32) (p6 : Nat) (x7 : Int32) (x8 : Int32) (x9 : Int32) (x10 : Int32) (x11 : Int32) (x12 : Int32) (x13 : Int32) (x14 : Int32) (z15 : Option Value) (M : Mem) (Q : Option Value → Mem → Prop) : Prop := Wk G (d + 1) rc rs mX10_product 158 [some (.ref p0), some (.ref p1), some (.int x2), some (.ref p3), some (.int x4), some (.int x5), some (.ref p6), some (.int x7), some (.int x8), some (.int x9), some (.int x10), some (.int x11), some (.int x12), some (.int x13), some (.int x14), z15] [] M Q
theorem eX10_product {G : GG} {d rc rs : Nat} (o : Nat) (a1 : Nat) (a2 : Int32) (a3 : Nat) (a4 : Int32) (a5 : Int32) (a6 : Nat) (a7 : Int32)  {M : Mem} {Q : Option Value → Mem → Prop} (h : (x_h M o).1 = 26 ∧ Call G d 0 0 mX10_fan [.ref o, .int (a2 ||| a4)] M (fun r2 M3 => ∃ v4 : Int32, r2 = some (.int v4) ∧ Call G d 0 0 mJ9_min_7cf53 [.int v4, .int 27] M3 (fun r5 M6 => ∃ v7 : Int32, r5 = some (.int v7) ∧ (x_h M6 o).1 = 26 ∧ (∃ b9, x_r M6 o 3 = some b9 ∧ Call G d 0 0 mX10_fillViews [.ref o, .ref b9, .int (a2 ||| a4), .int a2] M6 (fun r10 M11 => r10 = none ∧ (x_h M11 o).1 = 26 ∧ (∃ b13, x_r M11 o 4 = some b13 ∧ Call G d 0 0 mX10_fillViews [.ref o, .ref b13, .int (a2 ||| a4), .int a4] M11 (fun r14 M15 => r14 = none ∧ (x_h M15 a3).1 = 17 ∧ (x_h M15 o).1 = 26 ∧ (∃ b18, x_r M15 o 0 = some b18 ∧ (x_h M15 a1).1 = 17 ∧ (x_h M15 b18).1 = 18 ∧ Call G d 0 0 mX2_open [.ref b18, .int ((x_i M15 a1 2) * (x_i M15 a3 2)), .int v7] M15 (fun r21 M22 => r21 = none ∧ (x_h M22 o).1 = 26 ∧ (∃ b24, x_r M22 o 0 = some b24 ∧ (x_h M22 b24).1 = 18 ∧ Call G d 0 0 mX2_meet [.ref b24, .int 0] M22 (fun r26 M27 => ∃ v28 : Int32, r26 = some (.int v28) ∧ LX10_product_76 G d rc rs o a1 a2 a3 a4 a5 a6 a7 (a2 ||| a4) v7 (x_i M15 a3 2) 0 none none none none M27 Q))))))))))) : Call G (d + 1) rc rs mX10_product [.ref o, .ref a1, .int a2, .ref a3, .int a4, .int a5, .ref a6, .int a7] M Q := by
  refine call_of (by decide) (Nat.le_of_ble_eq_true rfl) ?_
  show Wk G (d + 1) rc rs mX10_product 0 [some (.ref o), some (.ref a1), some (.int a2), some (.ref a3), some (.int a4), some (.int a5), some (.ref a6), some (.int a7), none, none, none, none, none, none, none, none] [] M Q
  refine r_iload_n (pc := 0) (i := 2) dX10_product_0 rfl rfl ?_
  refine r_iload (pc := 1) (i := 4) dX10_product_1 rfl ?_
  refine r_ior (pc := 3) dX10_product_3 ?_
  refine r_istore (pc := 4) (i := 8) dX10_product_4 rfl (Nat.le_of_ble_eq_true rfl) ?_
  refine r_aload_n (pc := 6) (i := 0) dX10_product_6 rfl rfl ?_
  refine r_iload (pc := 7) (i := 8) dX10_product_7 rfl ?_
  obtain ⟨k1, h⟩ := h
  refine r_callV (pc := 9) (ci := 10) (as := [_]) (st := []) okX10_fan lkX10_157 inX10_fan seX10_fan ⟨_, rfl, rfl⟩ dX10_product_9 rfl k1 (Nat.le_of_ble_eq_true rfl) (Nat.zero_le _) (Nat.zero_le _) (Call.mono h (fun r2 M3 h => ?_))
  obtain ⟨v4, rfl, h⟩ := h
  refine r_bipush (pc := 12) (v := 27) dX10_product_12 (by decide) ?_
  refine r_callS (pc := 14) (as := [_, _]) (st := []) okJ9_min_7cf53 lkX10_164 stJ9_min_7cf53 dX10_product_14 rfl (Nat.le_of_ble_eq_true rfl) (Nat.zero_le _) (Nat.zero_le _) (Call.mono h (fun r5 M6 h => ?_))
  obtain ⟨v7, rfl, h⟩ := h
  refine r_istore (pc := 17) (i := 9) dX10_product_17 rfl (Nat.le_of_ble_eq_true rfl) ?_
  refine r_aload_n (pc := 19) (i := 0) dX10_product_19 rfl rfl ?_
  refine r_aload_n (pc := 20) (i := 0) dX10_product_20 rfl rfl ?_
  obtain ⟨k8, h⟩ := h
  obtain ⟨b9, hb9, h⟩ := h
  refine r_getr (pc := 21) flX10_30 dX10_product_21 rfl k8 hb9 ?_
  refine r_iload (pc := 24) (i := 8) dX10_product_24 rfl ?_
  refine r_iload_n (pc := 26) (i := 2) dX10_product_26 rfl rfl ?_
  refine r_callV (pc := 27) (ci := 10) (as := [_, _, _]) (st := []) okX10_fillViews lkX10_169 inX10_fillViews seX10_fillViews ⟨_, rfl, rfl⟩ dX10_product_27 rfl k8 (Nat.le_of_ble_eq_true rfl) (Nat.zero_le _) (Nat.zero_le _) (Call.mono h (fun r10 M11 h => ?_))
  obtain ⟨rfl, h⟩ := h
  refine r_aload_n (pc := 30) (i := 0) dX10_product_30 rfl rfl ?_
  refine r_aload_n (pc := 31) (i := 0) dX10_product_31 rfl rfl ?_
  obtain ⟨k12, h⟩ := h
  obtain ⟨b13, hb13, h⟩ := h
  refine r_getr (pc := 32) flX10_34 dX10_product_32 rfl k12 hb13 ?_
  refine r_iload (pc := 35) (i := 8) dX10_product_35 rfl ?_
  refine r_iload (pc := 37) (i := 4) dX10_product_37 rfl ?_
  refine r_callV (pc := 39) (ci := 10) (as := [_, _, _]) (st := []) okX10_fillViews lkX10_169 inX10_fillViews seX10_fillViews ⟨_, rfl, rfl⟩ dX10_product_39 rfl k12 (Nat.le_of_ble_eq_true rfl) (Nat.zero_le _) (Nat.zero_le _) (Call.mono h (fun r14 M15 h => ?_))
  obtain ⟨rfl, h⟩ := h
  refine r_aload_n (pc := 42) (i := 3) dX10_product_42 rfl rfl ?_
  obtain ⟨k16, h⟩ := h
  refine r_geti (pc := 43) flX10_173 dX10_product_43 (Or.inl rfl) k16 ?_
  refine r_istore (pc := 46) (i := 10) dX10_product_46 rfl (Nat.le_of_ble_eq_true rfl) ?_
  refine r_aload_n (pc := 48) (i := 0) dX10_product_48 rfl rfl ?_
  obtain ⟨k17, h⟩ := h
  obtain ⟨b18, hb18, h⟩ := h
  refine r_getr (pc := 49) flX10_12 dX10_product_49 rfl k17 hb18 ?_
  refine r_aload_n (pc := 52) (i := 1) dX10_product_52 rfl rfl ?_
  obtain ⟨k19, h⟩ := h
  refine r_geti (pc := 53) flX10_173 dX10_product_53 (Or.inl rfl) k19 ?_
  refine r_iload (pc := 56) (i := 10) dX10_product_56 rfl ?_
  refine r_imul (pc := 58) dX10_product_58 ?_
  refine r_iload (pc := 59) (i := 9) dX10_product_59 rfl ?_
  obtain ⟨k20, h⟩ := h
  refine r_callV (pc := 61) (ci := 2) (as := [_, _]) (st := []) okX2_open lkX10_60 inX2_open seX2_open ⟨_, rfl, rfl⟩ dX10_product_61 rfl k20 (Nat.le_of_ble_eq_true rfl) (Nat.zero_le _) (Nat.zero_le _) (Call.mono h (fun r21 M22 h => ?_))
  obtain ⟨rfl, h⟩ := h
  refine r_aload_n (pc := 64) (i := 0) dX10_product_64 rfl rfl ?_
  obtain ⟨k23, h⟩ := h
  obtain ⟨b24, hb24, h⟩ := h
  refine r_getr (pc := 65) flX10_12 dX10_product_65 rfl k23 hb24 ?_
  refine r_iconst (pc := 68) (v := 0) dX10_product_68 (by decide) ?_
  obtain ⟨k25, h⟩ := h
  refine r_callV (pc := 69) (ci := 2) (as := [_]) (st := []) okX2_meet lkX10_63 inX2_meet seX2_meet ⟨_, rfl, rfl⟩ dX10_product_69 rfl k25 (Nat.le_of_ble_eq_true rfl) (Nat.zero_le _) (Nat.zero_le _) (Call.mono h (fun r26 M27 h => ?_))
  obtain ⟨v28, rfl, h⟩ := h
  refine r_pop (pc := 72) dX10_product_72 rfl ?_
  refine r_iconst (pc := 73) (v := 0) dX10_product_73 (by decide) ?_
  refine r_istore (pc := 74) (i := 11) dX10_product_74 rfl (Nat.le_of_ble_eq_true rfl) ?_
  exact h
theorem vX10_product_76 {G : GG} {d rc rs : Nat} (p0 : Nat) (p1 : Nat) (x2 : Int32) (p3 : Nat) (x4 : Int32) (x5 : Int32) (p6 : Nat) (x7 : Int32) (x8 : Int32) (x9 : Int32) (x10 : Int32) (x11 : Int32) (z12 : Option Value) (z13 : Option Value) (z14 : Option Value) (z15 : Option Value) (hz12 : c1 z12 = true) (hz13 : c1 z13 = true) (hz14 : c1 z14 = true) (hz15 : c1 z15 = true) {M : Mem} {Q : Option Value → Mem → Prop} (h : (x_h M p0).1 = 26 ∧ (∃ b2, x_r M p0 0 = some b2 ∧ (x_h M b2).1 = 18 ∧ ((x_i M b2 9) ≤ x11 → Call G d 0 0 mX2_draw [.ref b2, .ref p6, .int x7] M (fun r5 M6 => ∃ v7 : Int32, r5 = some (.int v7) ∧ (v7 = 0 ∨ v7 = 1) ∧ Q (some (.int v7)) M6)) ∧ (¬ (x_i M b2 9) ≤ x11 → (3600 ≤ x11 → Call G d 0 0 mX2_draw [.ref b2, .ref p6, .int x7] M (fun r9 M10 => ∃ v11 : Int32, r9 = some (.int v11) ∧ (v11 = 0 ∨ v11 = 1) ∧ Q (some (.int v11)) M10)) ∧ (¬ 3600 ≤ x11 → (x10 ≤ 0 → Call G d 0 0 mX2_draw [.ref b2, .ref p6, .int x7] M (fun r13 M14 => ∃ v15 : Int32, r13 = some (.int v15) ∧ (v15 = 0 ∨ v15 = 1) ∧ Q (some (.int v15)) M14)) ∧ (¬ x10 ≤ 0 → Call G d 0 0 mX2_keyOf [.ref b2, .int x11] M (fun r16 M17 => ∃ v18 : Int32, r16 = some (.int v18) ∧ ¬ x10 = 0 ∧ (x_h M17 p0).1 = 26 ∧ (∃ b21, x_r M17 p0 0 = some b21 ∧ (x_h M17 b21).1 = 18 ∧ Call G d 0 0 mX2_keyOf [.ref b21, .int x11] M17 (fun r23 M24 => ∃ v25 : Int32, r23 = some (.int v25) ∧ ¬ x10 = 0 ∧ (x_h M24 p0).1 = 26 ∧ (∃ b28, x_r M24 p0 0 = some b28 ∧ (x_h M24 p1).1 = 17 ∧ Call G d 0 0 mX1_mark [.ref p1, .int (v18 / x10)] M24 (fun r30 M31 => ∃ v32 : Int32, r30 = some (.int v32) ∧ (x_h M31 p3).1 = 17 ∧ Call G d 0 0 mX1_mark [.ref p3, .int (v25 - v25 / x10 * x10)] M31 (fun r34 M35 => ∃ v36 : Int32, r34 = some (.int v36) ∧ Call G d 0 0 mX10_joined [.int x5, .int v32, .int v36] M35 (fun r37 M38 => ∃ v39 : Int32, r37 = some (.int v39) ∧ (x_h M38 b28).1 = 18 ∧ Call G d 0 0 mX2_putMark [.ref b28, .int x11, .int v39] M38 (fun r41 M42 => r41 = none ∧ LX10_product_158 G d rc rs p0 p1 x2 p3 x4 x5 p6 x7 x8 x9 x10 x11 (v18 / x10) (v25 - v25 / x10 * x10) 0 z15 M42 Q))))))))))))) : LX10_product_76 G d rc rs p0 p1 x2 p3 x4 x5 p6 x7 x8 x9 x10 x11 z12 z13 z14 z15 M Q := by
  show Wk G (d + 1) rc rs mX10_product 76 _ _ M Q
  refine r_iload (pc := 76) (i := 11) dX10_product_76 rfl ?_
  refine r_aload_n (pc := 78) (i := 0) dX10_product_78 rfl rfl ?_
  obtain ⟨k1, h⟩ := h
  obtain ⟨b2, hb2, h⟩ := h
  refine r_getr (pc := 79) flX10_12 dX10_product_79 rfl k1 hb2 ?_
  obtain ⟨k3, h⟩ := h
  refine r_geti (pc := 82) flX10_67 dX10_product_82 (Or.inl rfl) k3 ?_
  refine r_icmp_ge (pc := 85) (tgt := 229) dX10_product_85 (by decide) (fun c4 => ?_) (fun c4 => ?_)
  · replace h := h.1 c4
    refine r_aload_n (pc := 229) (i := 0) dX10_product_229 rfl rfl ?_
    refine r_getr (pc := 230) flX10_12 dX10_product_230 rfl k1 hb2 ?_
    refine r_aload (pc := 233) (i := 6) dX10_product_233 rfl ?_
    refine r_iload (pc := 235) (i := 7) dX10_product_235 rfl ?_
    refine r_callV (pc := 237) (ci := 2) (as := [_, _]) (st := []) okX2_draw lkX10_84 inX2_draw seX2_draw ⟨_, rfl, rfl⟩ dX10_product_237 rfl k3 (Nat.le_of_ble_eq_true rfl) (Nat.zero_le _) (Nat.zero_le _) (Call.mono h (fun r5 M6 h => ?_))
    obtain ⟨v7, rfl, h⟩ := h
    exact r_zret (pc := 240) dX10_product_240 rfl h.1 h.2
  · replace h := h.2 c4
    refine r_iload (pc := 88) (i := 11) dX10_product_88 rfl ?_
    refine r_sipush (pc := 90) (v := 3600) dX10_product_90 (by decide) ?_
    refine r_icmp_ge (pc := 93) (tgt := 229) dX10_product_93 (by decide) (fun c8 => ?_) (fun c8 => ?_)
    · replace h := h.1 c8
      refine r_aload_n (pc := 229) (i := 0) dX10_product_229 rfl rfl ?_
      refine r_getr (pc := 230) flX10_12 dX10_product_230 rfl k1 hb2 ?_
      refine r_aload (pc := 233) (i := 6) dX10_product_233 rfl ?_
      refine r_iload (pc := 235) (i := 7) dX10_product_235 rfl ?_
      refine r_callV (pc := 237) (ci := 2) (as := [_, _]) (st := []) okX2_draw lkX10_84 inX2_draw seX2_draw ⟨_, rfl, rfl⟩ dX10_product_237 rfl k3 (Nat.le_of_ble_eq_true rfl) (Nat.zero_le _) (Nat.zero_le _) (Call.mono h (fun r9 M10 h => ?_))
      obtain ⟨v11, rfl, h⟩ := h
      exact r_zret (pc := 240) dX10_product_240 rfl h.1 h.2
    · replace h := h.2 c8
      refine r_iload (pc := 96) (i := 10) dX10_product_96 rfl ?_
      refine r_if_le (pc := 98) (tgt := 229) dX10_product_98 (by decide) (fun c12 => ?_) (fun c12 => ?_)
      · replace h := h.1 c12
        refine r_aload_n (pc := 229) (i := 0) dX10_product_229 rfl rfl ?_
        refine r_getr (pc := 230) flX10_12 dX10_product_230 rfl k1 hb2 ?_
        refine r_aload (pc := 233) (i := 6) dX10_product_233 rfl ?_
        refine r_iload (pc := 235) (i := 7) dX10_product_235 rfl ?_
        refine r_callV (pc := 237) (ci := 2) (as := [_, _]) (st := []) okX2_draw lkX10_84 inX2_draw seX2_draw ⟨_, rfl, rfl⟩ dX10_product_237 rfl k3 (Nat.le_of_ble_eq_true rfl) (Nat.zero_le _) (Nat.zero_le _) (Call.mono h (fun r13 M14 h => ?_))
        obtain ⟨v15, rfl, h⟩ := h
        exact r_zret (pc := 240) dX10_product_240 rfl h.1 h.2
      · replace h := h.2 c12
        refine r_aload_n (pc := 101) (i := 0) dX10_product_101 rfl rfl ?_
        refine r_getr (pc := 102) flX10_12 dX10_product_102 rfl k1 hb2 ?_
        refine r_iload (pc := 105) (i := 11) dX10_product_105 rfl ?_
        refine r_callV (pc := 107) (ci := 2) (as := [_]) (st := []) okX2_keyOf lkX10_70 inX2_keyOf seX2_keyOf ⟨_, rfl, rfl⟩ dX10_product_107 rfl k3 (Nat.le_of_ble_eq_true rfl) (Nat.zero_le _) (Nat.zero_le _) (Call.mono h (fun r16 M17 h => ?_))
        obtain ⟨v18, rfl, h⟩ := h
        refine r_iload (pc := 110) (i := 10) dX10_product_110 rfl ?_
        obtain ⟨n19, h⟩ := h
        refine r_idiv (pc := 112) dX10_product_112 n19 ?_
        refine r_istore (pc := 113) (i := 12) dX10_product_113 rfl (Nat.le_of_ble_eq_true rfl) ?_
        refine r_aload_n (pc := 115) (i := 0) dX10_product_115 rfl rfl ?_
        obtain ⟨k20, h⟩ := h
        obtain ⟨b21, hb21, h⟩ := h
        refine r_getr (pc := 116) flX10_12 dX10_product_116 rfl k20 hb21 ?_
        refine r_iload (pc := 119) (i := 11) dX10_product_119 rfl ?_
        obtain ⟨k22, h⟩ := h
        refine r_callV (pc := 121) (ci := 2) (as := [_]) (st := []) okX2_keyOf lkX10_70 inX2_keyOf seX2_keyOf ⟨_, rfl, rfl⟩ dX10_product_121 rfl k22 (Nat.le_of_ble_eq_true rfl) (Nat.zero_le _) (Nat.zero_le _) (Call.mono h (fun r23 M24 h => ?_))
        obtain ⟨v25, rfl, h⟩ := h
        refine r_iload (pc := 124) (i := 10) dX10_product_124 rfl ?_
        obtain ⟨n26, h⟩ := h
        refine r_irem (pc := 126) dX10_product_126 n26 ?_
        refine r_istore (pc := 127) (i := 13) dX10_product_127 rfl (Nat.le_of_ble_eq_true rfl) ?_
        refine r_aload_n (pc := 129) (i := 0) dX10_product_129 rfl rfl ?_
        obtain ⟨k27, h⟩ := h
        obtain ⟨b28, hb28, h⟩ := h
        refine r_getr (pc := 130) flX10_12 dX10_product_130 rfl k27 hb28 ?_
        refine r_iload (pc := 133) (i := 11) dX10_product_133 rfl ?_
        refine r_iload (pc := 135) (i := 5) dX10_product_135 rfl ?_
        refine r_aload_n (pc := 137) (i := 1) dX10_product_137 rfl rfl ?_
        refine r_iload (pc := 138) (i := 12) dX10_product_138 rfl ?_
        obtain ⟨k29, h⟩ := h
        refine r_callV (pc := 140) (ci := 1) (as := [_]) (st := [_, _, _]) okX1_mark lkX10_176 inX1_mark seX1_mark ⟨_, rfl, rfl⟩ dX10_product_140 rfl k29 (Nat.le_of_ble_eq_true rfl) (Nat.zero_le _) (Nat.zero_le _) (Call.mono h (fun r30 M31 h => ?_))
        obtain ⟨v32, rfl, h⟩ := h
        refine r_aload_n (pc := 143) (i := 3) dX10_product_143 rfl rfl ?_
        refine r_iload (pc := 144) (i := 13) dX10_product_144 rfl ?_
        obtain ⟨k33, h⟩ := h
        refine r_callV (pc := 146) (ci := 1) (as := [_]) (st := [_, _, _, _]) okX1_mark lkX10_176 inX1_mark seX1_mark ⟨_, rfl, rfl⟩ dX10_product_146 rfl k33 (Nat.le_of_ble_eq_true rfl) (Nat.zero_le _) (Nat.zero_le _) (Call.mono h (fun r34 M35 h => ?_))
        obtain ⟨v36, rfl, h⟩ := h
        refine r_callS (pc := 149) (as := [_, _, _]) (st := [_, _]) okX10_joined lkX10_179 stX10_joined dX10_product_149 rfl (Nat.le_of_ble_eq_true rfl) (Nat.zero_le _) (Nat.zero_le _) (Call.mono h (fun r37 M38 h => ?_))
        obtain ⟨v39, rfl, h⟩ := h
        obtain ⟨k40, h⟩ := h
        refine r_callV (pc := 152) (ci := 2) (as := [_, _]) (st := []) okX2_putMark lkX10_77 inX2_putMark seX2_putMark ⟨_, rfl, rfl⟩ dX10_product_152 rfl k40 (Nat.le_of_ble_eq_true rfl) (Nat.zero_le _) (Nat.zero_le _) (Call.mono h (fun r41 M42 h => ?_))
        obtain ⟨rfl, h⟩ := h
        refine r_iconst (pc := 155) (v := 0) dX10_product_155 (by decide) ?_
        refine r_istore (pc := 156) (i := 14) dX10_product_156 rfl (Nat.le_of_ble_eq_true rfl) ?_
        exact h
theorem vX10_product_158 {G : GG} {d rc rs : Nat} (p0 : Nat) (p1 : Nat) (x2 : Int32) (p3 : Nat) (x4 : Int32) (x5 : Int32) (p6 : Nat) (x7 : Int32) (x8 : Int32) (x9 : Int32) (x10 : Int32) (x11 : Int32) (x12 : Int32) (x13 : Int32) (x14 : Int32) (z15 : Option Value) (hz15 : c1 z15 = true) {M : Mem} {Q : Option Value → Mem → Prop} (h : (x9 ≤ x14 → LX10_product_76 G d rc rs p0 p1 x2 p3 x4 x5 p6 x7 x8 x9 x10 (x11 + 1) (some (.int x12)) (some (.int x13)) (some (.int x14)) z15 M Q) ∧ (¬ x9 ≤ x14 → (x_h M p0).1 = 26 ∧ (∃ b3, x_r M p0 3 = some b3 ∧ (x_h M b3).1 = 1 ∧ vp_in x14 (x_h M b3).2 ∧ (x_h M p1).1 = 17 ∧ Call G d 0 0 mX1_after [.ref p1, .int x12, .int (x_i M b3 x14.toNatClampNeg)] M (fun r7 M8 => ∃ v9 : Int32, r7 = some (.int v9) ∧ (x_h M8 p0).1 = 26 ∧ (∃ b11, x_r M8 p0 4 = some b11 ∧ (x_h M8 b11).1 = 1 ∧ vp_in x14 (x_h M8 b11).2 ∧ (x_h M8 p3).1 = 17 ∧ Call G d 0 0 mX1_after [.ref p3, .int x13, .int (x_i M8 b11 x14.toNatClampNeg)] M8 (fun r15 M16 => ∃ v17 : Int32, r15 = some (.int v17) ∧ (x_h M16 p0).1 = 26 ∧ (∃ b19, x_r M16 p0 0 = some b19 ∧ (x_h M16 b19).1 = 18 ∧ Call G d 0 0 mX2_meet [.ref b19, .int ((v9 * x10) + v17)] M16 (fun r21 M22 => ∃ v23 : Int32, r21 = some (.int v23) ∧ (x_h M22 b19).1 = 18 ∧ Call G d 0 0 mX2_link [.ref b19, .int x11, .int x14, .int v23] M22 (fun r25 M26 => r25 = none ∧ LX10_product_158 G d rc rs p0 p1 x2 p3 x4 x5 p6 x7 x8 x9 x10 x11 x12 x13 (x14 + 1) (some (.int ((v9 * x10) + v17))) M26 Q))))))))) : LX10_product_158 G d rc rs p0 p1 x2 p3 x4 x5 p6 x7 x8 x9 x10 x11 x12 x13 x14 z15 M Q := by
  show Wk G (d + 1) rc rs mX10_product 158 _ _ M Q
  refine r_iload (pc := 158) (i := 14) dX10_product_158 rfl ?_
  refine r_iload (pc := 160) (i := 9) dX10_product_160 rfl ?_
  refine r_icmp_ge (pc := 162) (tgt := 223) dX10_product_162 (by decide) (fun c1 => ?_) (fun c1 => ?_)
  · replace h := h.1 c1
    refine r_iinc (pc := 223) (i := 11) (v := _ + 1) dX10_product_223 rfl rfl rfl ?_
    refine r_goto (pc := 226) (tgt := 76) dX10_product_226 (by decide) ?_
    exact h
  · replace h := h.2 c1
    refine r_aload_n (pc := 165) (i := 1) dX10_product_165 rfl rfl ?_
    refine r_iload (pc := 166) (i := 12) dX10_product_166 rfl ?_
    refine r_aload_n (pc := 168) (i := 0) dX10_product_168 rfl rfl ?_
    obtain ⟨k2, h⟩ := h
    obtain ⟨b3, hb3, h⟩ := h
    refine r_getr (pc := 169) flX10_30 dX10_product_169 rfl k2 hb3 ?_
    refine r_iload (pc := 172) (i := 14) dX10_product_172 rfl ?_
    obtain ⟨k4, h⟩ := h
    obtain ⟨i5, h⟩ := h
    refine r_iald (pc := 174) dX10_product_174 k4 i5 ?_
    obtain ⟨k6, h⟩ := h
    refine r_callV (pc := 175) (ci := 1) (as := [_, _]) (st := []) okX1_after lkX10_182 inX1_after seX1_after ⟨_, rfl, rfl⟩ dX10_product_175 rfl k6 (Nat.le_of_ble_eq_true rfl) (Nat.zero_le _) (Nat.zero_le _) (Call.mono h (fun r7 M8 h => ?_))
    obtain ⟨v9, rfl, h⟩ := h
    refine r_iload (pc := 178) (i := 10) dX10_product_178 rfl ?_
    refine r_imul (pc := 180) dX10_product_180 ?_
    refine r_aload_n (pc := 181) (i := 3) dX10_product_181 rfl rfl ?_
    refine r_iload (pc := 182) (i := 13) dX10_product_182 rfl ?_
    refine r_aload_n (pc := 184) (i := 0) dX10_product_184 rfl rfl ?_
    obtain ⟨k10, h⟩ := h
    obtain ⟨b11, hb11, h⟩ := h
    refine r_getr (pc := 185) flX10_34 dX10_product_185 rfl k10 hb11 ?_
    refine r_iload (pc := 188) (i := 14) dX10_product_188 rfl ?_
    obtain ⟨k12, h⟩ := h
    obtain ⟨i13, h⟩ := h
    refine r_iald (pc := 190) dX10_product_190 k12 i13 ?_
    obtain ⟨k14, h⟩ := h
    refine r_callV (pc := 191) (ci := 1) (as := [_, _]) (st := [_]) okX1_after lkX10_182 inX1_after seX1_after ⟨_, rfl, rfl⟩ dX10_product_191 rfl k14 (Nat.le_of_ble_eq_true rfl) (Nat.zero_le _) (Nat.zero_le _) (Call.mono h (fun r15 M16 h => ?_))
    obtain ⟨v17, rfl, h⟩ := h
    refine r_iadd (pc := 194) dX10_product_194 ?_
    refine r_istore (pc := 195) (i := 15) dX10_product_195 rfl (Nat.le_of_ble_eq_true rfl) ?_
    refine r_aload_n (pc := 197) (i := 0) dX10_product_197 rfl rfl ?_
    obtain ⟨k18, h⟩ := h
    obtain ⟨b19, hb19, h⟩ := h
    refine r_getr (pc := 198) flX10_12 dX10_product_198 rfl k18 hb19 ?_
    refine r_iload (pc := 201) (i := 11) dX10_product_201 rfl ?_
    refine r_iload (pc := 203) (i := 14) dX10_product_203 rfl ?_
    refine r_aload_n (pc := 205) (i := 0) dX10_product_205 rfl rfl ?_
    refine r_getr (pc := 206) flX10_12 dX10_product_206 rfl k18 hb19 ?_
    refine r_iload (pc := 209) (i := 15) dX10_product_209 rfl ?_
    obtain ⟨k20, h⟩ := h
    refine r_callV (pc := 211) (ci := 2) (as := [_]) (st := [_, _, _]) okX2_meet lkX10_63 inX2_meet seX2_meet ⟨_, rfl, rfl⟩ dX10_product_211 rfl k20 (Nat.le_of_ble_eq_true rfl) (Nat.zero_le _) (Nat.zero_le _) (Call.mono h (fun r21 M22 h => ?_))
    obtain ⟨v23, rfl, h⟩ := h
    obtain ⟨k24, h⟩ := h
    refine r_callV (pc := 214) (ci := 2) (as := [_, _, _]) (st := []) okX2_link lkX10_80 inX2_link seX2_link ⟨_, rfl, rfl⟩ dX10_product_214 rfl k24 (Nat.le_of_ble_eq_true rfl) (Nat.zero_le _) (Nat.zero_le _) (Call.mono h (fun r25 M26 h => ?_))
    obtain ⟨rfl, h⟩ := h
    refine r_iinc (pc := 217) (i := 14) (v := _ + 1) dX10_product_217 rfl rfl rfl ?_
    refine r_goto (pc := 220) (tgt := 158) dX10_product_220 (by decide) ?_
    exact h
theorem eX10_joined {G : GG} {d rc rs : Nat} (a1 : Int32) (a2 : Int32) (a3 : Int32)  {M : Mem} {Q : Option Value → Mem → Prop} (h : (a1 = 0 → (¬ a2 = a3 → Q (some (.int 0)) M) ∧ (a2 = a3 → Q (some (.int 1)) M)) ∧ (a1 = 1 → Q (some (.int ((a2 + a3) &&& 7))) M) ∧ (a1 = 2 → Call G d 0 0 mJ9_max_7cf53 [.int a2, .int a3] M (fun r5 M6 => ∃ v7 : Int32, r5 = some (.int v7) ∧ Q (some (.int v7)) M6)) ∧ (a1 = 3 → Q (some (.int (a2 &&& a3))) M) ∧ (a1 = 4 → Q (some (.int (a2 ||| a3))) M) ∧ (¬ a1 = 0 ∧ ¬ a1 = 1 ∧ ¬ a1 = 2 ∧ ¬ a1 = 3 ∧ ¬ a1 = 4 → Q (some (.int ((1 - a2) ||| a3))) M)) : Call G (d + 1) rc rs mX10_joined [.int a1, .int a2, .int a3] M Q := by
  refine call_of (by decide) (Nat.le_of_ble_eq_true rfl) ?_
  show Wk G (d + 1) rc rs mX10_joined 0 [some (.int a1), some (.int a2), some (.int a3)] [] M Q
  refine r_iload_n (pc := 0) (i := 0) dX10_joined_0 rfl rfl ?_
  refine dite (a1 = 0) (fun c1 => ?_) (fun c1 => ?_)
  · replace h := h.1 c1
    refine r_tabIn (pc := 1) (tgt := 36) dX10_joined_1 (by rw [c1]; decide) (by rw [c1]; decide) (by rw [c1]; rfl) (by decide) ?_
    refine r_iload_n (pc := 36) (i := 1) dX10_joined_36 rfl rfl ?_
    refine r_iload_n (pc := 37) (i := 2) dX10_joined_37 rfl rfl ?_
    refine r_icmp_ne (pc := 38) (tgt := 45) dX10_joined_38 (by decide) (fun c2 => ?_) (fun c2 => ?_)
    · replace h := h.1 c2
      refine r_iconst (pc := 45) (v := 0) dX10_joined_45 (by decide) ?_
      exact r_iret (pc := 46) dX10_joined_46 rfl h
    · replace h := h.2 c2
      refine r_iconst (pc := 41) (v := 1) dX10_joined_41 (by decide) ?_
      refine r_goto (pc := 42) (tgt := 46) dX10_joined_42 (by decide) ?_
      exact r_iret (pc := 46) dX10_joined_46 rfl h
  refine dite (a1 = 1) (fun c3 => ?_) (fun c3 => ?_)
  · replace h := h.2.1 c3
    refine r_tabIn (pc := 1) (tgt := 47) dX10_joined_1 (by rw [c3]; decide) (by rw [c3]; decide) (by rw [c3]; rfl) (by decide) ?_
    refine r_iload_n (pc := 47) (i := 1) dX10_joined_47 rfl rfl ?_
    refine r_iload_n (pc := 48) (i := 2) dX10_joined_48 rfl rfl ?_
    refine r_iadd (pc := 49) dX10_joined_49 ?_
    refine r_bipush (pc := 50) (v := 7) dX10_joined_50 (by decide) ?_
    refine r_iand (pc := 52) dX10_joined_52 ?_
    exact r_iret (pc := 53) dX10_joined_53 rfl h
  refine dite (a1 = 2) (fun c4 => ?_) (fun c4 => ?_)
  · replace h := h.2.2.1 c4
    refine r_tabIn (pc := 1) (tgt := 54) dX10_joined_1 (by rw [c4]; decide) (by rw [c4]; decide) (by rw [c4]; rfl) (by decide) ?_
    refine r_iload_n (pc := 54) (i := 1) dX10_joined_54 rfl rfl ?_
    refine r_iload_n (pc := 55) (i := 2) dX10_joined_55 rfl rfl ?_
    refine r_callS (pc := 56) (as := [_, _]) (st := []) okJ9_max_7cf53 lkX10_185 stJ9_max_7cf53 dX10_joined_56 rfl (Nat.le_of_ble_eq_true rfl) (Nat.zero_le _) (Nat.zero_le _) (Call.mono h (fun r5 M6 h => ?_))
    obtain ⟨v7, rfl, h⟩ := h
    exact r_iret (pc := 59) dX10_joined_59 rfl h
  refine dite (a1 = 3) (fun c8 => ?_) (fun c8 => ?_)
  · replace h := h.2.2.2.1 c8
    refine r_tabIn (pc := 1) (tgt := 60) dX10_joined_1 (by rw [c8]; decide) (by rw [c8]; decide) (by rw [c8]; rfl) (by decide) ?_
    refine r_iload_n (pc := 60) (i := 1) dX10_joined_60 rfl rfl ?_
    refine r_iload_n (pc := 61) (i := 2) dX10_joined_61 rfl rfl ?_
    refine r_iand (pc := 62) dX10_joined_62 ?_
    exact r_iret (pc := 63) dX10_joined_63 rfl h
  refine dite (a1 = 4) (fun c9 => ?_) (fun c9 => ?_)
  · replace h := h.2.2.2.2.1 c9
    refine r_tabIn (pc := 1) (tgt := 64) dX10_joined_1 (by rw [c9]; decide) (by rw [c9]; decide) (by rw [c9]; rfl) (by decide) ?_
    refine r_iload_n (pc := 64) (i := 1) dX10_joined_64 rfl rfl ?_
    refine r_iload_n (pc := 65) (i := 2) dX10_joined_65 rfl rfl ?_
    refine r_ior (pc := 66) dX10_joined_66 ?_
    exact r_iret (pc := 67) dX10_joined_67 rfl h
  replace h := h.2.2.2.2.2 ⟨c1, c3, c4, c8, c9⟩
  refine r_tabOut (pc := 1) (tgt := 68) dX10_joined_1 (by have tc1 : ¬ Int32.toInt _ = 0 := sw_ne c1; have tc3 : ¬ Int32.toInt _ = 1 := sw_ne c3; have tc4 : ¬ Int32.toInt _ = 2 := sw_ne c4; have tc8 : ¬ Int32.toInt _ = 3 := sw_ne c8; have tc9 : ¬ Int32.toInt _ = 4 := sw_ne c9; omega) (by decide) ?_
  refine r_iconst (pc := 68) (v := 1) dX10_joined_68 (by decide) ?_
  refine r_iload_n (pc := 69) (i := 1) dX10_joined_69 rfl rfl ?_
  refine r_isub (pc := 70) dX10_joined_70 ?_
  refine r_iload_n (pc := 71) (i := 2) dX10_joined_71 rfl rfl ?_
  refine r_ior (pc := 72) dX10_joined_72 ?_
  exact r_iret (pc := 73) dX10_joined_73 rfl h
theorem eX10_weaveRows {G : GG} {d rc rs : Nat} (o : Nat) (a1 : Nat) (a2 : Nat) (a3 : Int32)  {M : Mem} {Q : Option Value → Mem → Prop} (h : (x_h M a1).1 = 19 ∧ (∃ b2, x_r M a1 0 = some b2 ∧ ∃ b3, x_r M a1 1 = some b3 ∧ (x_h M b2).1 = 24 ∧ Call G d 0 0 mX11_within [.int (x_i M b2 1), .int a3] M (fun r5 M6 => ∃ v7 : Int32, r5 = some (.int v7) ∧ (v7 = 0 → Q (some (.int 0)) M6) ∧ (¬ v7 = 0 → (x_h M6 b2).1 = 24 ∧ (4 ≤ (x_h M6 a2).1 ∧ (x_h M6 a2).1 < 8) ∧ vp_in (x_i M6 b2 1) (x_h M6 a2).2 ∧ (∃ b12, x_r M6 a2 (x_i M6 b2 1).toNatClampNeg = some b12 ∧ (x_h M6 b12).1 = 23 ∧ (∃ b14, x_r M6 b12 0 = some b14 ∧ (x_h M6 o).1 = 26 ∧ (∃ b16, x_r M6 o 1 = some b16 ∧ Call G d 0 0 mX10_weaveLetters [.ref o, .ref b2, .ref b14, .ref b16] M6 (fun r17 M18 => ∃ v19 : Int32, r17 = some (.int v19) ∧ (¬ v19 = 0 → (x_h M18 b3).1 = 24 ∧ Call G d 0 0 mX11_within [.int (x_i M18 b3 1), .int a3] M18 (fun r22 M23 => ∃ v24 : Int32, r22 = some (.int v24) ∧ (¬ v24 = 0 → (x_h M23 b3).1 = 24 ∧ (4 ≤ (x_h M23 a2).1 ∧ (x_h M23 a2).1 < 8) ∧ vp_in (x_i M23 b3 1) (x_h M23 a2).2 ∧ (∃ b29, x_r M23 a2 (x_i M23 b3 1).toNatClampNeg = some b29 ∧ (x_h M23 b29).1 = 23 ∧ (∃ b31, x_r M23 b29 0 = some b31 ∧ (x_h M23 o).1 = 26 ∧ (∃ b33, x_r M23 o 2 = some b33 ∧ Call G d 0 0 mX10_weaveLetters [.ref o, .ref b3, .ref b31, .ref b33] M23 (fun r34 M35 => ∃ v36 : Int32, r34 = some (.int v36) ∧ (¬ v36 = 0 → (x_h M35 o).1 = 26 ∧ (∃ b39, x_r M35 o 1 = some b39 ∧ (x_h M35 b2).1 = 24 ∧ (∃ b41, x_r M35 o 2 = some b41 ∧ (x_h M35 b3).1 = 24 ∧ (x_h M35 a1).1 = 19 ∧ (∃ b44, x_r M35 a1 2 = some b44 ∧ Call G d 0 0 mX10_product [.ref o, .ref b39, .int (x_i M35 b2 3), .ref b41, .int (x_i M35 b3 3), .int 0, .ref b44, .int 40] M35 (fun r45 M46 => ∃ v47 : Int32, r45 = some (.int v47) ∧ (v47 = 0 ∨ v47 = 1) ∧ Q (some (.int v47)) M46))))) ∧ (v36 = 0 → Q (some (.int 0)) M35)))))) ∧ (v24 = 0 → (x_h M23 o).1 = 26 ∧ (∃ b49, x_r M23 o 2 = some b49 ∧ (x_h M23 b3).1 = 24 ∧ (x_h M23 b49).1 = 17 ∧ Call G d 0 0 mX1_becomeOnly [.ref b49, .int (x_i M23 b3 2)] M23 (fun r52 M53 => r52 = none ∧ (x_h M53 o).1 = 26 ∧ (∃ b55, x_r M53 o 1 = some b55 ∧ (x_h M53 b2).1 = 24 ∧ (∃ b57, x_r M53 o 2 = some b57 ∧ (x_h M53 b3).1 = 24 ∧ (x_h M53 a1).1 = 19 ∧ (∃ b60, x_r M53 a1 2 = some b60 ∧ Call G d 0 0 mX10_product [.ref o, .ref b55, .int (x_i M53 b2 3), .ref b57, .int (x_i M53 b3 3), .int 0, .ref b60, .int 40] M53 (fun r61 M62 => ∃ v63 : Int32, r61 = some (.int v63) ∧ (v63 = 0 ∨ v63 = 1) ∧ Q (some (.int v63)) M62))))))))) ∧ (v19 = 0 → Q (some (.int 0)) M18))))))))) : Call G (d + 1) rc rs mX10_weaveRows [.ref o, .ref a1, .ref a2, .int a3] M Q := by
  refine call_of (by decide) (Nat.le_of_ble_eq_true rfl) ?_
  show Wk G (d + 1) rc rs mX10_weaveRows 0 [some (.ref o), some (.ref a1), some (.ref a2), some (.int a3), none, none] [] M Q
  refine r_aload_n (pc := 0) (i := 1) dX10_weaveRows_0 rfl rfl ?_
  obtain ⟨k1, h⟩ := h
  obtain ⟨b2, hb2, h⟩ := h
  refine r_getr (pc := 1) flX10_188 dX10_weaveRows_1 rfl k1 hb2 ?_
  refine r_astore (pc := 4) (i := 4) dX10_weaveRows_4 rfl (Nat.le_of_ble_eq_true rfl) ?_
  refine r_aload_n (pc := 6) (i := 1) dX10_weaveRows_6 rfl rfl ?_
  obtain ⟨b3, hb3, h⟩ := h
  refine r_getr (pc := 7) flX10_192 dX10_weaveRows_7 rfl k1 hb3 ?_
  refine r_astore (pc := 10) (i := 5) dX10_weaveRows_10 rfl (Nat.le_of_ble_eq_true rfl) ?_
  refine r_aload (pc := 12) (i := 4) dX10_weaveRows_12 rfl ?_
  obtain ⟨k4, h⟩ := h
  refine r_geti (pc := 14) flX10_195 dX10_weaveRows_14 (Or.inl rfl) k4 ?_
  refine r_iload_n (pc := 17) (i := 3) dX10_weaveRows_17 rfl rfl ?_
  refine r_callS (pc := 18) (as := [_, _]) (st := []) okX11_within lkX10_116 stX11_within dX10_weaveRows_18 rfl (Nat.le_of_ble_eq_true rfl) (Nat.zero_le _) (Nat.zero_le _) (Call.mono h (fun r5 M6 h => ?_))
  obtain ⟨v7, rfl, h⟩ := h
  refine r_if_eq (pc := 21) (tgt := 47) dX10_weaveRows_21 (by decide) (fun c8 => ?_) (fun c8 => ?_)
  · replace h := h.1 c8
    refine r_iconst (pc := 47) (v := 0) dX10_weaveRows_47 (by decide) ?_
    exact r_zret (pc := 48) dX10_weaveRows_48 rfl (Or.inl rfl) h
  · replace h := h.2 c8
    refine r_aload_n (pc := 24) (i := 0) dX10_weaveRows_24 rfl rfl ?_
    refine r_aload (pc := 25) (i := 4) dX10_weaveRows_25 rfl ?_
    refine r_aload_n (pc := 27) (i := 2) dX10_weaveRows_27 rfl rfl ?_
    refine r_aload (pc := 28) (i := 4) dX10_weaveRows_28 rfl ?_
    obtain ⟨k9, h⟩ := h
    refine r_geti (pc := 30) flX10_195 dX10_weaveRows_30 (Or.inl rfl) k9 ?_
    obtain ⟨k10, h⟩ := h
    obtain ⟨i11, h⟩ := h
    obtain ⟨b12, hb12, h⟩ := h
    refine r_aald (pc := 33) dX10_weaveRows_33 rfl k10 i11 hb12 ?_
    obtain ⟨k13, h⟩ := h
    obtain ⟨b14, hb14, h⟩ := h
    refine r_getr (pc := 34) flX10_200 dX10_weaveRows_34 rfl k13 hb14 ?_
    refine r_aload_n (pc := 37) (i := 0) dX10_weaveRows_37 rfl rfl ?_
    obtain ⟨k15, h⟩ := h
    obtain ⟨b16, hb16, h⟩ := h
    refine r_getr (pc := 38) flX10_23 dX10_weaveRows_38 rfl k15 hb16 ?_
    refine r_callV (pc := 41) (ci := 10) (as := [_, _, _]) (st := []) okX10_weaveLetters lkX10_203 inX10_weaveLetters seX10_weaveLetters ⟨_, rfl, rfl⟩ dX10_weaveRows_41 rfl k15 (Nat.le_of_ble_eq_true rfl) (Nat.zero_le _) (Nat.zero_le _) (Call.mono h (fun r17 M18 h => ?_))
    obtain ⟨v19, rfl, h⟩ := h
    refine r_if_ne (pc := 44) (tgt := 49) dX10_weaveRows_44 (by decide) (fun c20 => ?_) (fun c20 => ?_)
    · replace h := h.1 c20
      refine r_aload (pc := 49) (i := 5) dX10_weaveRows_49 rfl ?_
      obtain ⟨k21, h⟩ := h
      refine r_geti (pc := 51) flX10_195 dX10_weaveRows_51 (Or.inl rfl) k21 ?_
      refine r_iload_n (pc := 54) (i := 3) dX10_weaveRows_54 rfl rfl ?_
      refine r_callS (pc := 55) (as := [_, _]) (st := []) okX11_within lkX10_116 stX11_within dX10_weaveRows_55 rfl (Nat.le_of_ble_eq_true rfl) (Nat.zero_le _) (Nat.zero_le _) (Call.mono h (fun r22 M23 h => ?_))
      obtain ⟨v24, rfl, h⟩ := h
      refine r_if_ne (pc := 58) (tgt := 76) dX10_weaveRows_58 (by decide) (fun c25 => ?_) (fun c25 => ?_)
      · replace h := h.1 c25
        refine r_aload_n (pc := 76) (i := 0) dX10_weaveRows_76 rfl rfl ?_
        refine r_aload (pc := 77) (i := 5) dX10_weaveRows_77 rfl ?_
        refine r_aload_n (pc := 79) (i := 2) dX10_weaveRows_79 rfl rfl ?_
        refine r_aload (pc := 80) (i := 5) dX10_weaveRows_80 rfl ?_
        obtain ⟨k26, h⟩ := h
        refine r_geti (pc := 82) flX10_195 dX10_weaveRows_82 (Or.inl rfl) k26 ?_
        obtain ⟨k27, h⟩ := h
        obtain ⟨i28, h⟩ := h
        obtain ⟨b29, hb29, h⟩ := h
        refine r_aald (pc := 85) dX10_weaveRows_85 rfl k27 i28 hb29 ?_
        obtain ⟨k30, h⟩ := h
        obtain ⟨b31, hb31, h⟩ := h
        refine r_getr (pc := 86) flX10_200 dX10_weaveRows_86 rfl k30 hb31 ?_
        refine r_aload_n (pc := 89) (i := 0) dX10_weaveRows_89 rfl rfl ?_
        obtain ⟨k32, h⟩ := h
        obtain ⟨b33, hb33, h⟩ := h
        refine r_getr (pc := 90) flX10_27 dX10_weaveRows_90 rfl k32 hb33 ?_
        refine r_callV (pc := 93) (ci := 10) (as := [_, _, _]) (st := []) okX10_weaveLetters lkX10_203 inX10_weaveLetters seX10_weaveLetters ⟨_, rfl, rfl⟩ dX10_weaveRows_93 rfl k32 (Nat.le_of_ble_eq_true rfl) (Nat.zero_le _) (Nat.zero_le _) (Call.mono h (fun r34 M35 h => ?_))
        obtain ⟨v36, rfl, h⟩ := h
        refine r_if_ne (pc := 96) (tgt := 101) dX10_weaveRows_96 (by decide) (fun c37 => ?_) (fun c37 => ?_)
        · replace h := h.1 c37
          refine r_aload_n (pc := 101) (i := 0) dX10_weaveRows_101 rfl rfl ?_
          refine r_aload_n (pc := 102) (i := 0) dX10_weaveRows_102 rfl rfl ?_
          obtain ⟨k38, h⟩ := h
          obtain ⟨b39, hb39, h⟩ := h
          refine r_getr (pc := 103) flX10_23 dX10_weaveRows_103 rfl k38 hb39 ?_
          refine r_aload (pc := 106) (i := 4) dX10_weaveRows_106 rfl ?_
          obtain ⟨k40, h⟩ := h
          refine r_geti (pc := 108) flX10_214 dX10_weaveRows_108 (Or.inl rfl) k40 ?_
          refine r_aload_n (pc := 111) (i := 0) dX10_weaveRows_111 rfl rfl ?_
          obtain ⟨b41, hb41, h⟩ := h
          refine r_getr (pc := 112) flX10_27 dX10_weaveRows_112 rfl k38 hb41 ?_
          refine r_aload (pc := 115) (i := 5) dX10_weaveRows_115 rfl ?_
          obtain ⟨k42, h⟩ := h
          refine r_geti (pc := 117) flX10_214 dX10_weaveRows_117 (Or.inl rfl) k42 ?_
          refine r_iconst (pc := 120) (v := 0) dX10_weaveRows_120 (by decide) ?_
          refine r_aload_n (pc := 121) (i := 1) dX10_weaveRows_121 rfl rfl ?_
          obtain ⟨k43, h⟩ := h
          obtain ⟨b44, hb44, h⟩ := h
          refine r_getr (pc := 122) flX10_123 dX10_weaveRows_122 rfl k43 hb44 ?_
          refine r_bipush (pc := 125) (v := 40) dX10_weaveRows_125 (by decide) ?_
          refine r_callV (pc := 127) (ci := 10) (as := [_, _, _, _, _, _, _]) (st := []) okX10_product lkX10_88 inX10_product seX10_product ⟨_, rfl, rfl⟩ dX10_weaveRows_127 rfl k38 (Nat.le_of_ble_eq_true rfl) (Nat.zero_le _) (Nat.zero_le _) (Call.mono h (fun r45 M46 h => ?_))
          obtain ⟨v47, rfl, h⟩ := h
          exact r_zret (pc := 130) dX10_weaveRows_130 rfl h.1 h.2
        · replace h := h.2 c37
          refine r_iconst (pc := 99) (v := 0) dX10_weaveRows_99 (by decide) ?_
          exact r_zret (pc := 100) dX10_weaveRows_100 rfl (Or.inl rfl) h
      · replace h := h.2 c25
        refine r_aload_n (pc := 61) (i := 0) dX10_weaveRows_61 rfl rfl ?_
        obtain ⟨k48, h⟩ := h
        obtain ⟨b49, hb49, h⟩ := h
        refine r_getr (pc := 62) flX10_27 dX10_weaveRows_62 rfl k48 hb49 ?_
        refine r_aload (pc := 65) (i := 5) dX10_weaveRows_65 rfl ?_
        obtain ⟨k50, h⟩ := h
        refine r_geti (pc := 67) flX10_207 dX10_weaveRows_67 (Or.inl rfl) k50 ?_
        obtain ⟨k51, h⟩ := h
        refine r_callV (pc := 70) (ci := 1) (as := [_]) (st := []) okX1_becomeOnly lkX10_210 inX1_becomeOnly seX1_becomeOnly ⟨_, rfl, rfl⟩ dX10_weaveRows_70 rfl k51 (Nat.le_of_ble_eq_true rfl) (Nat.zero_le _) (Nat.zero_le _) (Call.mono h (fun r52 M53 h => ?_))
        obtain ⟨rfl, h⟩ := h
        refine r_goto (pc := 73) (tgt := 101) dX10_weaveRows_73 (by decide) ?_
        refine r_aload_n (pc := 101) (i := 0) dX10_weaveRows_101 rfl rfl ?_
        refine r_aload_n (pc := 102) (i := 0) dX10_weaveRows_102 rfl rfl ?_
        obtain ⟨k54, h⟩ := h
        obtain ⟨b55, hb55, h⟩ := h
        refine r_getr (pc := 103) flX10_23 dX10_weaveRows_103 rfl k54 hb55 ?_
        refine r_aload (pc := 106) (i := 4) dX10_weaveRows_106 rfl ?_
        obtain ⟨k56, h⟩ := h
        refine r_geti (pc := 108) flX10_214 dX10_weaveRows_108 (Or.inl rfl) k56 ?_
        refine r_aload_n (pc := 111) (i := 0) dX10_weaveRows_111 rfl rfl ?_
        obtain ⟨b57, hb57, h⟩ := h
        refine r_getr (pc := 112) flX10_27 dX10_weaveRows_112 rfl k54 hb57 ?_
        refine r_aload (pc := 115) (i := 5) dX10_weaveRows_115 rfl ?_
        obtain ⟨k58, h⟩ := h
        refine r_geti (pc := 117) flX10_214 dX10_weaveRows_117 (Or.inl rfl) k58 ?_
        refine r_iconst (pc := 120) (v := 0) dX10_weaveRows_120 (by decide) ?_
        refine r_aload_n (pc := 121) (i := 1) dX10_weaveRows_121 rfl rfl ?_
        obtain ⟨k59, h⟩ := h
        obtain ⟨b60, hb60, h⟩ := h
        refine r_getr (pc := 122) flX10_123 dX10_weaveRows_122 rfl k59 hb60 ?_
        refine r_bipush (pc := 125) (v := 40) dX10_weaveRows_125 (by decide) ?_
        refine r_callV (pc := 127) (ci := 10) (as := [_, _, _, _, _, _, _]) (st := []) okX10_product lkX10_88 inX10_product seX10_product ⟨_, rfl, rfl⟩ dX10_weaveRows_127 rfl k54 (Nat.le_of_ble_eq_true rfl) (Nat.zero_le _) (Nat.zero_le _) (Call.mono h (fun r61 M62 h => ?_))
        obtain ⟨v63, rfl, h⟩ := h
        exact r_zret (pc := 130) dX10_weaveRows_130 rfl h.1 h.2
    · replace h := h.2 c20
      refine r_iconst (pc := 47) (v := 0) dX10_weaveRows_47 (by decide) ?_
      exact r_zret (pc := 48) dX10_weaveRows_48 rfl (Or.inl rfl) h
abbrev LX10_weaveLetters_6 (G : GG) (d rc rs : Nat) (p0 : Nat) (p1 : Nat) (p2 : Nat) (p3 : Nat) (x4 : Int32) (x5 : Int32) (M : Mem) (Q : Option Value → Mem → Prop) : Prop := Wk G (d + 1) rc rs mX10_weaveLetters 6 [some (.ref p0), some (.ref p1), some (.ref p2), some (.ref p3), some (.int x4), some (.int x5), none, none, none, none, none, none, none] [] M Q
abbrev LX10_weaveLetters_87 (G : GG) (d rc rs : Nat) (p0 : Nat) (p1 : Nat) (p2 : Nat) (p3 : Nat) (x4 : Int32) (x5 : Int32) (x6 : Int32) (x7 : Int32) (M : Mem) (Q : Option Value → Mem → Prop) : Prop := Wk G (d + 1) rc rs mX10_weaveLetters 87 [some (.ref p0), some (.ref p1), some (.ref p2), some (.ref p3), some (.int x4), some (.int x5), some (.int x6), some (.int x7), none, none, none, none, none] [] M Q
abbrev LX10_weaveLetters_142 (G : GG) (d rc rs : Nat) (p0 : Nat) (p1 : Nat) (p2 : Nat) (p3 : Nat) (x4 : Int32) (x5 : Int32) (x6 : Int32) (x7 : Int32) (z8 : Option Value) (z9 : Option Value) (z10 : Option Value) (z11 : Option Value) (z12 : Option Value) (M : Mem) (Q : Option Value → Mem → Prop) : Prop := Wk G (d + 1) rc rs mX10_weaveLetters 142 [some (.ref p0), some (.ref p1), some (.ref p2), some (.ref p3), some (.int x4), some (.int x5), some (.int x6), some (.int x7), z8, z9, z10, z11, z12] [] M Q
abbrev LX10_weaveLetters_202 (G : GG) (d rc rs : Nat) (p0 : Nat) (p1 : Nat) (p2 : Nat) (p3 : Nat) (x4 : Int32) (x5 : Int32) (x6 : Int32) (x7 : Int32) (x8 : Int32) (x9 : Int32) (z10 : Option Value) (z11 : Option Value) (z12 : Option Value) (M : Mem) (Q : Option Value → Mem → Prop) : Prop := Wk G (d + 1) rc rs mX10_weaveLetters 202 [some (.ref p0), some (.ref p1), some (.ref p2), some (.ref p3), some (.int x4), some (.int x5), some (.int x6), some (.int x7), some (.int x8), some (.int x9), z10, z11, z12] [] M Q
abbrev LX10_weaveLetters_228 (G : GG) (d rc rs : Nat) (p0 : Nat) (p1 : Nat) (p2 : Nat) (p3 : Nat) (x4 : Int32) (x5 : Int32) (x6 : Int32) (x7 : Int32) (x8 : Int32) (x9 : Int32) (x10 : Int32) (x11 : Int32) (z12 : Option Value) (M : Mem) (Q : Option Value → Mem → Prop) : Prop := Wk G (d + 1) rc rs mX10_weaveLetters 228 [some (.ref p0), some (.ref p1), some (.ref p2), some (.ref p3), some (.int x4), some (.int x5), some (.int x6), some (.int x7), some (.int x8), some (.int x9), some (.int x10), some (.int x11), z12] [] M Q
theorem eX10_weaveLetters {G : GG} {d rc rs : Nat} (o : Nat) (a1 : Nat) (a2 : Nat) (a3 : Nat)  {M : Mem} {Q : Option Value → Mem → Prop} (h : LX10_weaveLetters_6 G d rc rs o a1 a2 a3 0 0 M Q) : Call G (d + 1) rc rs mX10_weaveLetters [.ref o, .ref a1, .ref a2, .ref a3] M Q := by
  refine call_of (by decide) (Nat.le_of_ble_eq_true rfl) ?_
  show Wk G (d + 1) rc rs mX10_weaveLetters 0 [some (.ref o), some (.ref a1), some (.ref a2), some (.ref a3), none, none, none, none, none, none, none, none, none] [] M Q
  refine r_iconst (pc := 0) (v := 0) dX10_weaveLetters_0 (by decide) ?_
  refine r_istore (pc := 1) (i := 4) dX10_weaveLetters_1 rfl (Nat.le_of_ble_eq_true rfl) ?_
  refine r_iconst (pc := 3) (v := 0) dX10_weaveLetters_3 (by decide) ?_
  refine r_istore (pc := 4) (i := 5) dX10_weaveLetters_4 rfl (Nat.le_of_ble_eq_true rfl) ?_
  exact h
theorem vX10_weaveLetters_6 {G : GG} {d rc rs : Nat} (p0 : Nat) (p1 : Nat) (p2 : Nat) (p3 : Nat) (x4 : Int32) (x5 : Int32)  {M : Mem} {Q : Option Value → Mem → Prop} (h : (8 ≤ x5 → (x_h M p1).1 = 24 ∧ Call G d 0 0 mJ9_max_7cf53 [.int (x4 - 1), .int (x_i M p1 2)] M (fun r3 M4 => ∃ v5 : Int32, r3 = some (.int v5) ∧ (x_h M4 p0).1 = 26 ∧ (∃ b7, x_r M4 p0 6 = some b7 ∧ (1 ≤ (x_h M4 b7).1 ∧ (x_h M4 b7).1 < 8) ∧ Call G d 0 0 mJ9_min_7cf53 [.int v5, .int ((nI (x_h M4 b7).2) - 1)] M4 (fun r9 M10 => ∃ v11 : Int32, r9 = some (.int v11) ∧ (x_h M10 p1).1 = 24 ∧ (x_h M10 p0).1 = 26 ∧ Call G d 0 0 mX10_fan [.ref p0, .int (x_i M10 p1 3)] M10 (fun r14 M15 => ∃ v16 : Int32, r14 = some (.int v16) ∧ (x_h M15 p0).1 = 26 ∧ (∃ b18, x_r M15 p0 0 = some b18 ∧ (x_h M15 p2).1 = 17 ∧ Call G d 0 0 mX10_power [.int (x_i M15 p2 2), .int (v11 + 1)] M15 (fun r20 M21 => ∃ v22 : Int32, r20 = some (.int v22) ∧ (x_h M21 b18).1 = 18 ∧ Call G d 0 0 mX2_open [.ref b18, .int v22, .int v16] M21 (fun r24 M25 => r24 = none ∧ LX10_weaveLetters_87 G d rc rs p0 p1 p2 p3 x4 v11 v16 0 M25 Q)))))))) ∧ (¬ 8 ≤ x5 → (x_h M p1).1 = 24 ∧ (∃ b27, x_r M p1 0 = some b27 ∧ (x_h M b27).1 = 1 ∧ vp_in x5 (x_h M b27).2 ∧ LX10_weaveLetters_6 G d rc rs p0 p1 p2 p3 (x4 + (x_i M b27 x5.toNatClampNeg)) (x5 + 1) M Q))) : LX10_weaveLetters_6 G d rc rs p0 p1 p2 p3 x4 x5 M Q := by
  show Wk G (d + 1) rc rs mX10_weaveLetters 6 _ _ M Q
  refine r_iload (pc := 6) (i := 5) dX10_weaveLetters_6 rfl ?_
  refine r_bipush (pc := 8) (v := 8) dX10_weaveLetters_8 (by decide) ?_
  refine r_icmp_ge (pc := 10) (tgt := 31) dX10_weaveLetters_10 (by decide) (fun c1 => ?_) (fun c1 => ?_)
  · replace h := h.1 c1
    refine r_iload (pc := 31) (i := 4) dX10_weaveLetters_31 rfl ?_
    refine r_iconst (pc := 33) (v := 1) dX10_weaveLetters_33 (by decide) ?_
    refine r_isub (pc := 34) dX10_weaveLetters_34 ?_
    refine r_aload_n (pc := 35) (i := 1) dX10_weaveLetters_35 rfl rfl ?_
    obtain ⟨k2, h⟩ := h
    refine r_geti (pc := 36) flX10_207 dX10_weaveLetters_36 (Or.inl rfl) k2 ?_
    refine r_callS (pc := 39) (as := [_, _]) (st := []) okJ9_max_7cf53 lkX10_185 stJ9_max_7cf53 dX10_weaveLetters_39 rfl (Nat.le_of_ble_eq_true rfl) (Nat.zero_le _) (Nat.zero_le _) (Call.mono h (fun r3 M4 h => ?_))
    obtain ⟨v5, rfl, h⟩ := h
    refine r_aload_n (pc := 42) (i := 0) dX10_weaveLetters_42 rfl rfl ?_
    obtain ⟨k6, h⟩ := h
    obtain ⟨b7, hb7, h⟩ := h
    refine r_getr (pc := 43) flX10_40 dX10_weaveLetters_43 rfl k6 hb7 ?_
    obtain ⟨k8, h⟩ := h
    refine r_alen (pc := 46) dX10_weaveLetters_46 rfl k8 ?_
    refine r_iconst (pc := 47) (v := 1) dX10_weaveLetters_47 (by decide) ?_
    refine r_isub (pc := 48) dX10_weaveLetters_48 ?_
    refine r_callS (pc := 49) (as := [_, _]) (st := []) okJ9_min_7cf53 lkX10_164 stJ9_min_7cf53 dX10_weaveLetters_49 rfl (Nat.le_of_ble_eq_true rfl) (Nat.zero_le _) (Nat.zero_le _) (Call.mono h (fun r9 M10 h => ?_))
    obtain ⟨v11, rfl, h⟩ := h
    refine r_istore (pc := 52) (i := 5) dX10_weaveLetters_52 rfl (Nat.le_of_ble_eq_true rfl) ?_
    refine r_aload_n (pc := 54) (i := 0) dX10_weaveLetters_54 rfl rfl ?_
    refine r_aload_n (pc := 55) (i := 1) dX10_weaveLetters_55 rfl rfl ?_
    obtain ⟨k12, h⟩ := h
    refine r_geti (pc := 56) flX10_214 dX10_weaveLetters_56 (Or.inl rfl) k12 ?_
    obtain ⟨k13, h⟩ := h
    refine r_callV (pc := 59) (ci := 10) (as := [_]) (st := []) okX10_fan lkX10_157 inX10_fan seX10_fan ⟨_, rfl, rfl⟩ dX10_weaveLetters_59 rfl k13 (Nat.le_of_ble_eq_true rfl) (Nat.zero_le _) (Nat.zero_le _) (Call.mono h (fun r14 M15 h => ?_))
    obtain ⟨v16, rfl, h⟩ := h
    refine r_istore (pc := 62) (i := 6) dX10_weaveLetters_62 rfl (Nat.le_of_ble_eq_true rfl) ?_
    refine r_aload_n (pc := 64) (i := 0) dX10_weaveLetters_64 rfl rfl ?_
    obtain ⟨k17, h⟩ := h
    obtain ⟨b18, hb18, h⟩ := h
    refine r_getr (pc := 65) flX10_12 dX10_weaveLetters_65 rfl k17 hb18 ?_
    refine r_aload_n (pc := 68) (i := 2) dX10_weaveLetters_68 rfl rfl ?_
    obtain ⟨k19, h⟩ := h
    refine r_geti (pc := 69) flX10_173 dX10_weaveLetters_69 (Or.inl rfl) k19 ?_
    refine r_iload (pc := 72) (i := 5) dX10_weaveLetters_72 rfl ?_
    refine r_iconst (pc := 74) (v := 1) dX10_weaveLetters_74 (by decide) ?_
    refine r_iadd (pc := 75) dX10_weaveLetters_75 ?_
    refine r_callS (pc := 76) (as := [_, _]) (st := [_]) okX10_power lkX10_153 stX10_power dX10_weaveLetters_76 rfl (Nat.le_of_ble_eq_true rfl) (Nat.zero_le _) (Nat.zero_le _) (Call.mono h (fun r20 M21 h => ?_))
    obtain ⟨v22, rfl, h⟩ := h
    refine r_iload (pc := 79) (i := 6) dX10_weaveLetters_79 rfl ?_
    obtain ⟨k23, h⟩ := h
    refine r_callV (pc := 81) (ci := 2) (as := [_, _]) (st := []) okX2_open lkX10_60 inX2_open seX2_open ⟨_, rfl, rfl⟩ dX10_weaveLetters_81 rfl k23 (Nat.le_of_ble_eq_true rfl) (Nat.zero_le _) (Nat.zero_le _) (Call.mono h (fun r24 M25 h => ?_))
    obtain ⟨rfl, h⟩ := h
    refine r_iconst (pc := 84) (v := 0) dX10_weaveLetters_84 (by decide) ?_
    refine r_istore (pc := 85) (i := 7) dX10_weaveLetters_85 rfl (Nat.le_of_ble_eq_true rfl) ?_
    exact h
  · replace h := h.2 c1
    refine r_iload (pc := 13) (i := 4) dX10_weaveLetters_13 rfl ?_
    refine r_aload_n (pc := 15) (i := 1) dX10_weaveLetters_15 rfl rfl ?_
    obtain ⟨k26, h⟩ := h
    obtain ⟨b27, hb27, h⟩ := h
    refine r_getr (pc := 16) flX10_215 dX10_weaveLetters_16 rfl k26 hb27 ?_
    refine r_iload (pc := 19) (i := 5) dX10_weaveLetters_19 rfl ?_
    obtain ⟨k28, h⟩ := h
    obtain ⟨i29, h⟩ := h
    refine r_iald (pc := 21) dX10_weaveLetters_21 k28 i29 ?_
    refine r_iadd (pc := 22) dX10_weaveLetters_22 ?_
    refine r_istore (pc := 23) (i := 4) dX10_weaveLetters_23 rfl (Nat.le_of_ble_eq_true rfl) ?_
    refine r_iinc (pc := 25) (i := 5) (v := _ + 1) dX10_weaveLetters_25 rfl rfl rfl ?_
    refine r_goto (pc := 28) (tgt := 6) dX10_weaveLetters_28 (by decide) ?_
    exact h
theorem vX10_weaveLetters_87 {G : GG} {d rc rs : Nat} (p0 : Nat) (p1 : Nat) (p2 : Nat) (p3 : Nat) (x4 : Int32) (x5 : Int32) (x6 : Int32) (x7 : Int32)  {M : Mem} {Q : Option Value → Mem → Prop} (h : (x5 < x7 → (x_h M p0).1 = 26 ∧ (∃ b3, x_r M p0 0 = some b3 ∧ (x_h M p2).1 = 17 ∧ Call G d 0 0 mX10_keyOfPlaces [.ref p0, .int (x_i M p2 2), .int x5] M (fun r5 M6 => ∃ v7 : Int32, r5 = some (.int v7) ∧ (x_h M6 b3).1 = 18 ∧ Call G d 0 0 mX2_meet [.ref b3, .int v7] M6 (fun r9 M10 => ∃ v11 : Int32, r9 = some (.int v11) ∧ LX10_weaveLetters_142 G d rc rs p0 p1 p2 p3 x4 x5 x6 0 none none none none none M10 Q)))) ∧ (¬ x5 < x7 → (x_h M p0).1 = 26 ∧ (∃ b13, x_r M p0 6 = some b13 ∧ (x_h M p2).1 = 17 ∧ Call G d 0 0 mX1_readsAll [.ref p2, .int 1, .long x7.toInt64, .long 0, .long 0, .int (x_i M p0 11)] M (fun r15 M16 => ∃ v17 : Int32, r15 = some (.int v17) ∧ (x_h M16 b13).1 = 1 ∧ vp_in x7 (x_h M16 b13).2 ∧ (∀ M20, M20 = x_si M16 b13 x7.toNatClampNeg v17 → LX10_weaveLetters_87 G d rc rs p0 p1 p2 p3 x4 x5 x6 (x7 + 1) M20 Q))))) : LX10_weaveLetters_87 G d rc rs p0 p1 p2 p3 x4 x5 x6 x7 M Q := by
  show Wk G (d + 1) rc rs mX10_weaveLetters 87 _ _ M Q
  refine r_iload (pc := 87) (i := 7) dX10_weaveLetters_87 rfl ?_
  refine r_iload (pc := 89) (i := 5) dX10_weaveLetters_89 rfl ?_
  refine r_icmp_gt (pc := 91) (tgt := 121) dX10_weaveLetters_91 (by decide) (fun c1 => ?_) (fun c1 => ?_)
  · replace h := h.1 c1
    refine r_aload_n (pc := 121) (i := 0) dX10_weaveLetters_121 rfl rfl ?_
    obtain ⟨k2, h⟩ := h
    obtain ⟨b3, hb3, h⟩ := h
    refine r_getr (pc := 122) flX10_12 dX10_weaveLetters_122 rfl k2 hb3 ?_
    refine r_aload_n (pc := 125) (i := 0) dX10_weaveLetters_125 rfl rfl ?_
    refine r_aload_n (pc := 126) (i := 2) dX10_weaveLetters_126 rfl rfl ?_
    obtain ⟨k4, h⟩ := h
    refine r_geti (pc := 127) flX10_173 dX10_weaveLetters_127 (Or.inl rfl) k4 ?_
    refine r_iload (pc := 130) (i := 5) dX10_weaveLetters_130 rfl ?_
    refine r_callV (pc := 132) (ci := 10) (as := [_, _]) (st := [_]) okX10_keyOfPlaces lkX10_222 inX10_keyOfPlaces seX10_keyOfPlaces ⟨_, rfl, rfl⟩ dX10_weaveLetters_132 rfl k2 (Nat.le_of_ble_eq_true rfl) (Nat.zero_le _) (Nat.zero_le _) (Call.mono h (fun r5 M6 h => ?_))
    obtain ⟨v7, rfl, h⟩ := h
    obtain ⟨k8, h⟩ := h
    refine r_callV (pc := 135) (ci := 2) (as := [_]) (st := []) okX2_meet lkX10_63 inX2_meet seX2_meet ⟨_, rfl, rfl⟩ dX10_weaveLetters_135 rfl k8 (Nat.le_of_ble_eq_true rfl) (Nat.zero_le _) (Nat.zero_le _) (Call.mono h (fun r9 M10 h => ?_))
    obtain ⟨v11, rfl, h⟩ := h
    refine r_pop (pc := 138) dX10_weaveLetters_138 rfl ?_
    refine r_iconst (pc := 139) (v := 0) dX10_weaveLetters_139 (by decide) ?_
    refine r_istore (pc := 140) (i := 7) dX10_weaveLetters_140 rfl (Nat.le_of_ble_eq_true rfl) ?_
    exact h
  · replace h := h.2 c1
    refine r_aload_n (pc := 94) (i := 0) dX10_weaveLetters_94 rfl rfl ?_
    obtain ⟨k12, h⟩ := h
    obtain ⟨b13, hb13, h⟩ := h
    refine r_getr (pc := 95) flX10_40 dX10_weaveLetters_95 rfl k12 hb13 ?_
    refine r_iload (pc := 98) (i := 7) dX10_weaveLetters_98 rfl ?_
    refine r_aload_n (pc := 100) (i := 2) dX10_weaveLetters_100 rfl rfl ?_
    refine r_iconst (pc := 101) (v := 1) dX10_weaveLetters_101 (by decide) ?_
    refine r_iload (pc := 102) (i := 7) dX10_weaveLetters_102 rfl ?_
    refine r_i2l (pc := 104) dX10_weaveLetters_104 ?_
    refine r_lconst (pc := 105) (v := 0) dX10_weaveLetters_105 (by decide) ?_
    refine r_lconst (pc := 106) (v := 0) dX10_weaveLetters_106 (by decide) ?_
    refine r_aload_n (pc := 107) (i := 0) dX10_weaveLetters_107 rfl rfl ?_
    refine r_geti (pc := 108) flX10_57 dX10_weaveLetters_108 (Or.inl rfl) k12 ?_
    obtain ⟨k14, h⟩ := h
    refine r_callV (pc := 111) (ci := 1) (as := [_, _, _, _, _]) (st := [_, _]) okX1_readsAll lkX10_218 inX1_readsAll seX1_readsAll ⟨_, rfl, rfl⟩ dX10_weaveLetters_111 rfl k14 (Nat.le_of_ble_eq_true rfl) (Nat.zero_le _) (Nat.zero_le _) (Call.mono h (fun r15 M16 h => ?_))
    obtain ⟨v17, rfl, h⟩ := h
    obtain ⟨k18, h⟩ := h
    obtain ⟨i19, h⟩ := h
    refine r_iast (pc := 114) dX10_weaveLetters_114 k18 i19 ?_
    replace h := h _ rfl
    refine r_iinc (pc := 115) (i := 7) (v := _ + 1) dX10_weaveLetters_115 rfl rfl rfl ?_
    refine r_goto (pc := 118) (tgt := 87) dX10_weaveLetters_118 (by decide) ?_
    exact h
theorem vX10_weaveLetters_142 {G : GG} {d rc rs : Nat} (p0 : Nat) (p1 : Nat) (p2 : Nat) (p3 : Nat) (x4 : Int32) (x5 : Int32) (x6 : Int32) (x7 : Int32) (z8 : Option Value) (z9 : Option Value) (z10 : Option Value) (z11 : Option Value) (z12 : Option Value) (hz8 : c1 z8 = true) (hz9 : c1 z9 = true) (hz10 : c1 z10 = true) (hz11 : c1 z11 = true) (hz12 : c1 z12 = true) {M : Mem} {Q : Option Value → Mem → Prop} (h : (x_h M p0).1 = 26 ∧ (∃ b2, x_r M p0 0 = some b2 ∧ (x_h M b2).1 = 18 ∧ ((x_i M b2 9) ≤ x7 → Call G d 0 0 mX2_draw [.ref b2, .ref p3, .int 40] M (fun r5 M6 => ∃ v7 : Int32, r5 = some (.int v7) ∧ (v7 = 0 ∨ v7 = 1) ∧ Q (some (.int v7)) M6)) ∧ (¬ (x_i M b2 9) ≤ x7 → (3600 ≤ x7 → Call G d 0 0 mX2_draw [.ref b2, .ref p3, .int 40] M (fun r9 M10 => ∃ v11 : Int32, r9 = some (.int v11) ∧ (v11 = 0 ∨ v11 = 1) ∧ Q (some (.int v11)) M10)) ∧ (¬ 3600 ≤ x7 → Call G d 0 0 mX2_keyOf [.ref b2, .int x7] M (fun r12 M13 => ∃ v14 : Int32, r12 = some (.int v14) ∧ (x_h M13 p0).1 = 26 ∧ (∃ b16, x_r M13 p0 0 = some b16 ∧ (x_h M13 p2).1 = 17 ∧ (x_h M13 p1).1 = 24 ∧ Call G d 0 0 mX10_placeIn [.int v14, .int (x_i M13 p2 2), .int (x_i M13 p1 2)] M13 (fun r19 M20 => ∃ v21 : Int32, r19 = some (.int v21) ∧ (x_h M20 p2).1 = 17 ∧ Call G d 0 0 mX1_mark [.ref p2, .int v21] M20 (fun r23 M24 => ∃ v25 : Int32, r23 = some (.int v25) ∧ (x_h M24 b16).1 = 18 ∧ Call G d 0 0 mX2_putMark [.ref b16, .int x7, .int v25] M24 (fun r27 M28 => r27 = none ∧ LX10_weaveLetters_202 G d rc rs p0 p1 p2 p3 x4 x5 x6 x7 v14 0 z10 z11 z12 M28 Q))))))))) : LX10_weaveLetters_142 G d rc rs p0 p1 p2 p3 x4 x5 x6 x7 z8 z9 z10 z11 z12 M Q := by
  show Wk G (d + 1) rc rs mX10_weaveLetters 142 _ _ M Q
  refine r_iload (pc := 142) (i := 7) dX10_weaveLetters_142 rfl ?_
  refine r_aload_n (pc := 144) (i := 0) dX10_weaveLetters_144 rfl rfl ?_
  obtain ⟨k1, h⟩ := h
  obtain ⟨b2, hb2, h⟩ := h
  refine r_getr (pc := 145) flX10_12 dX10_weaveLetters_145 rfl k1 hb2 ?_
  obtain ⟨k3, h⟩ := h
  refine r_geti (pc := 148) flX10_67 dX10_weaveLetters_148 (Or.inl rfl) k3 ?_
  refine r_icmp_ge (pc := 151) (tgt := 333) dX10_weaveLetters_151 (by decide) (fun c4 => ?_) (fun c4 => ?_)
  · replace h := h.1 c4
    refine r_aload_n (pc := 333) (i := 0) dX10_weaveLetters_333 rfl rfl ?_
    refine r_getr (pc := 334) flX10_12 dX10_weaveLetters_334 rfl k1 hb2 ?_
    refine r_aload_n (pc := 337) (i := 3) dX10_weaveLetters_337 rfl rfl ?_
    refine r_bipush (pc := 338) (v := 40) dX10_weaveLetters_338 (by decide) ?_
    refine r_callV (pc := 340) (ci := 2) (as := [_, _]) (st := []) okX2_draw lkX10_84 inX2_draw seX2_draw ⟨_, rfl, rfl⟩ dX10_weaveLetters_340 rfl k3 (Nat.le_of_ble_eq_true rfl) (Nat.zero_le _) (Nat.zero_le _) (Call.mono h (fun r5 M6 h => ?_))
    obtain ⟨v7, rfl, h⟩ := h
    exact r_zret (pc := 343) dX10_weaveLetters_343 rfl h.1 h.2
  · replace h := h.2 c4
    refine r_iload (pc := 154) (i := 7) dX10_weaveLetters_154 rfl ?_
    refine r_sipush (pc := 156) (v := 3600) dX10_weaveLetters_156 (by decide) ?_
    refine r_icmp_ge (pc := 159) (tgt := 333) dX10_weaveLetters_159 (by decide) (fun c8 => ?_) (fun c8 => ?_)
    · replace h := h.1 c8
      refine r_aload_n (pc := 333) (i := 0) dX10_weaveLetters_333 rfl rfl ?_
      refine r_getr (pc := 334) flX10_12 dX10_weaveLetters_334 rfl k1 hb2 ?_
      refine r_aload_n (pc := 337) (i := 3) dX10_weaveLetters_337 rfl rfl ?_
      refine r_bipush (pc := 338) (v := 40) dX10_weaveLetters_338 (by decide) ?_
      refine r_callV (pc := 340) (ci := 2) (as := [_, _]) (st := []) okX2_draw lkX10_84 inX2_draw seX2_draw ⟨_, rfl, rfl⟩ dX10_weaveLetters_340 rfl k3 (Nat.le_of_ble_eq_true rfl) (Nat.zero_le _) (Nat.zero_le _) (Call.mono h (fun r9 M10 h => ?_))
      obtain ⟨v11, rfl, h⟩ := h
      exact r_zret (pc := 343) dX10_weaveLetters_343 rfl h.1 h.2
    · replace h := h.2 c8
      refine r_aload_n (pc := 162) (i := 0) dX10_weaveLetters_162 rfl rfl ?_
      refine r_getr (pc := 163) flX10_12 dX10_weaveLetters_163 rfl k1 hb2 ?_
      refine r_iload (pc := 166) (i := 7) dX10_weaveLetters_166 rfl ?_
      refine r_callV (pc := 168) (ci := 2) (as := [_]) (st := []) okX2_keyOf lkX10_70 inX2_keyOf seX2_keyOf ⟨_, rfl, rfl⟩ dX10_weaveLetters_168 rfl k3 (Nat.le_of_ble_eq_true rfl) (Nat.zero_le _) (Nat.zero_le _) (Call.mono h (fun r12 M13 h => ?_))
      obtain ⟨v14, rfl, h⟩ := h
      refine r_istore (pc := 171) (i := 8) dX10_weaveLetters_171 rfl (Nat.le_of_ble_eq_true rfl) ?_
      refine r_aload_n (pc := 173) (i := 0) dX10_weaveLetters_173 rfl rfl ?_
      obtain ⟨k15, h⟩ := h
      obtain ⟨b16, hb16, h⟩ := h
      refine r_getr (pc := 174) flX10_12 dX10_weaveLetters_174 rfl k15 hb16 ?_
      refine r_iload (pc := 177) (i := 7) dX10_weaveLetters_177 rfl ?_
      refine r_aload_n (pc := 179) (i := 2) dX10_weaveLetters_179 rfl rfl ?_
      refine r_iload (pc := 180) (i := 8) dX10_weaveLetters_180 rfl ?_
      refine r_aload_n (pc := 182) (i := 2) dX10_weaveLetters_182 rfl rfl ?_
      obtain ⟨k17, h⟩ := h
      refine r_geti (pc := 183) flX10_173 dX10_weaveLetters_183 (Or.inl rfl) k17 ?_
      refine r_aload_n (pc := 186) (i := 1) dX10_weaveLetters_186 rfl rfl ?_
      obtain ⟨k18, h⟩ := h
      refine r_geti (pc := 187) flX10_207 dX10_weaveLetters_187 (Or.inl rfl) k18 ?_
      refine r_callS (pc := 190) (as := [_, _, _]) (st := [_, _, _]) okX10_placeIn lkX10_225 stX10_placeIn dX10_weaveLetters_190 rfl (Nat.le_of_ble_eq_true rfl) (Nat.zero_le _) (Nat.zero_le _) (Call.mono h (fun r19 M20 h => ?_))
      obtain ⟨v21, rfl, h⟩ := h
      obtain ⟨k22, h⟩ := h
      refine r_callV (pc := 193) (ci := 1) (as := [_]) (st := [_, _]) okX1_mark lkX10_176 inX1_mark seX1_mark ⟨_, rfl, rfl⟩ dX10_weaveLetters_193 rfl k22 (Nat.le_of_ble_eq_true rfl) (Nat.zero_le _) (Nat.zero_le _) (Call.mono h (fun r23 M24 h => ?_))
      obtain ⟨v25, rfl, h⟩ := h
      obtain ⟨k26, h⟩ := h
      refine r_callV (pc := 196) (ci := 2) (as := [_, _]) (st := []) okX2_putMark lkX10_77 inX2_putMark seX2_putMark ⟨_, rfl, rfl⟩ dX10_weaveLetters_196 rfl k26 (Nat.le_of_ble_eq_true rfl) (Nat.zero_le _) (Nat.zero_le _) (Call.mono h (fun r27 M28 h => ?_))
      obtain ⟨rfl, h⟩ := h
      refine r_iconst (pc := 199) (v := 0) dX10_weaveLetters_199 (by decide) ?_
      refine r_istore (pc := 200) (i := 9) dX10_weaveLetters_200 rfl (Nat.le_of_ble_eq_true rfl) ?_
      exact h
theorem vX10_weaveLetters_202 {G : GG} {d rc rs : Nat} (p0 : Nat) (p1 : Nat) (p2 : Nat) (p3 : Nat) (x4 : Int32) (x5 : Int32) (x6 : Int32) (x7 : Int32) (x8 : Int32) (x9 : Int32) (z10 : Option Value) (z11 : Option Value) (z12 : Option Value) (hz10 : c1 z10 = true) (hz11 : c1 z11 = true) (hz12 : c1 z12 = true) {M : Mem} {Q : Option Value → Mem → Prop} (h : (x6 ≤ x9 → LX10_weaveLetters_142 G d rc rs p0 p1 p2 p3 x4 x5 x6 (x7 + 1) (some (.int x8)) (some (.int x9)) z10 z11 z12 M Q) ∧ (¬ x6 ≤ x9 → (x_h M p1).1 = 24 ∧ (∃ b3, x_r M p1 0 = some b3 ∧ (x_h M p0).1 = 26 ∧ Call G d 0 0 mX10_load [.ref p0, .int x9, .int (x_i M p1 3), .ref b3] M (fun r5 M6 => ∃ v7 : Int32, r5 = some (.int v7) ∧ LX10_weaveLetters_228 G d rc rs p0 p1 p2 p3 x4 x5 x6 x7 x8 x9 v7 0 z12 M6 Q)))) : LX10_weaveLetters_202 G d rc rs p0 p1 p2 p3 x4 x5 x6 x7 x8 x9 z10 z11 z12 M Q := by
  show Wk G (d + 1) rc rs mX10_weaveLetters 202 _ _ M Q
  refine r_iload (pc := 202) (i := 9) dX10_weaveLetters_202 rfl ?_
  refine r_iload (pc := 204) (i := 6) dX10_weaveLetters_204 rfl ?_
  refine r_icmp_ge (pc := 206) (tgt := 327) dX10_weaveLetters_206 (by decide) (fun c1 => ?_) (fun c1 => ?_)
  · replace h := h.1 c1
    refine r_iinc (pc := 327) (i := 7) (v := _ + 1) dX10_weaveLetters_327 rfl rfl rfl ?_
    refine r_goto (pc := 330) (tgt := 142) dX10_weaveLetters_330 (by decide) ?_
    exact h
  · replace h := h.2 c1
    refine r_aload_n (pc := 209) (i := 0) dX10_weaveLetters_209 rfl rfl ?_
    refine r_iload (pc := 210) (i := 9) dX10_weaveLetters_210 rfl ?_
    refine r_aload_n (pc := 212) (i := 1) dX10_weaveLetters_212 rfl rfl ?_
    obtain ⟨k2, h⟩ := h
    refine r_geti (pc := 213) flX10_214 dX10_weaveLetters_213 (Or.inl rfl) k2 ?_
    refine r_aload_n (pc := 216) (i := 1) dX10_weaveLetters_216 rfl rfl ?_
    obtain ⟨b3, hb3, h⟩ := h
    refine r_getr (pc := 217) flX10_215 dX10_weaveLetters_217 rfl k2 hb3 ?_
    obtain ⟨k4, h⟩ := h
    refine r_callV (pc := 220) (ci := 10) (as := [_, _, _]) (st := []) okX10_load lkX10_228 inX10_load seX10_load ⟨_, rfl, rfl⟩ dX10_weaveLetters_220 rfl k4 (Nat.le_of_ble_eq_true rfl) (Nat.zero_le _) (Nat.zero_le _) (Call.mono h (fun r5 M6 h => ?_))
    obtain ⟨v7, rfl, h⟩ := h
    refine r_istore (pc := 223) (i := 10) dX10_weaveLetters_223 rfl (Nat.le_of_ble_eq_true rfl) ?_
    refine r_iconst (pc := 225) (v := 0) dX10_weaveLetters_225 (by decide) ?_
    refine r_istore (pc := 226) (i := 11) dX10_weaveLetters_226 rfl (Nat.le_of_ble_eq_true rfl) ?_
    exact h
theorem vX10_weaveLetters_228 {G : GG} {d rc rs : Nat} (p0 : Nat) (p1 : Nat) (p2 : Nat) (p3 : Nat) (x4 : Int32) (x5 : Int32) (x6 : Int32) (x7 : Int32) (x8 : Int32) (x9 : Int32) (x10 : Int32) (x11 : Int32) (z12 : Option Value) (hz12 : c1 z12 = true) {M : Mem} {Q : Option Value → Mem → Prop} (h : (x5 < x11 → (x_h M p0).1 = 26 ∧ (∃ b3, x_r M p0 0 = some b3 ∧ (x_h M p2).1 = 17 ∧ Call G d 0 0 mX10_keyOfPlaces [.ref p0, .int (x_i M p2 2), .int x5] M (fun r5 M6 => ∃ v7 : Int32, r5 = some (.int v7) ∧ (x_h M6 b3).1 = 18 ∧ Call G d 0 0 mX2_meet [.ref b3, .int v7] M6 (fun r9 M10 => ∃ v11 : Int32, r9 = some (.int v11) ∧ (x_h M10 b3).1 = 18 ∧ Call G d 0 0 mX2_link [.ref b3, .int x7, .int x9, .int v11] M10 (fun r13 M14 => r13 = none ∧ LX10_weaveLetters_202 G d rc rs p0 p1 p2 p3 x4 x5 x6 x7 x8 (x9 + 1) (some (.int x10)) (some (.int x11)) z12 M14 Q))))) ∧ (¬ x5 < x11 → (x_h M p0).1 = 26 ∧ ((x_i M p0 11) ≤ 1 → ∃ b17, x_r M p0 0 = some b17 ∧ (x_h M p2).1 = 17 ∧ Call G d 0 0 mX10_keyOfPlaces [.ref p0, .int (x_i M p2 2), .int x5] M (fun r19 M20 => ∃ v21 : Int32, r19 = some (.int v21) ∧ (x_h M20 b17).1 = 18 ∧ Call G d 0 0 mX2_meet [.ref b17, .int v21] M20 (fun r23 M24 => ∃ v25 : Int32, r23 = some (.int v25) ∧ (x_h M24 b17).1 = 18 ∧ Call G d 0 0 mX2_link [.ref b17, .int x7, .int x9, .int v25] M24 (fun r27 M28 => r27 = none ∧ LX10_weaveLetters_202 G d rc rs p0 p1 p2 p3 x4 x5 x6 x7 x8 (x9 + 1) (some (.int x10)) (some (.int x11)) z12 M28 Q)))) ∧ (¬ (x_i M p0 11) ≤ 1 → (x_h M p2).1 = 17 ∧ ¬ (x_i M p0 11) = 0 ∧ Call G d 0 0 mX10_placeIn [.int x8, .int (x_i M p2 2), .int ((x10 + x11) / (x_i M p0 11))] M (fun r31 M32 => ∃ v33 : Int32, r31 = some (.int v33) ∧ (x_h M32 p0).1 = 26 ∧ (∃ b35, x_r M32 p0 6 = some b35 ∧ ¬ (x_i M32 p0 11) = 0 ∧ (x_h M32 p2).1 = 17 ∧ Call G d 0 0 mX1_after [.ref p2, .int v33, .int ((x10 + x11) - (x10 + x11) / (x_i M32 p0 11) * (x_i M32 p0 11))] M32 (fun r38 M39 => ∃ v40 : Int32, r38 = some (.int v40) ∧ (x_h M39 b35).1 = 1 ∧ vp_in x11 (x_h M39 b35).2 ∧ (∀ M43, M43 = x_si M39 b35 x11.toNatClampNeg v40 → LX10_weaveLetters_228 G d rc rs p0 p1 p2 p3 x4 x5 x6 x7 x8 x9 x10 (x11 + 1) (some (.int v33)) M43 Q))))))) : LX10_weaveLetters_228 G d rc rs p0 p1 p2 p3 x4 x5 x6 x7 x8 x9 x10 x11 z12 M Q := by
  show Wk G (d + 1) rc rs mX10_weaveLetters 228 _ _ M Q
  refine r_iload (pc := 228) (i := 11) dX10_weaveLetters_228 rfl ?_
  refine r_iload (pc := 230) (i := 5) dX10_weaveLetters_230 rfl ?_
  refine r_icmp_gt (pc := 232) (tgt := 293) dX10_weaveLetters_232 (by decide) (fun c1 => ?_) (fun c1 => ?_)
  · replace h := h.1 c1
    refine r_aload_n (pc := 293) (i := 0) dX10_weaveLetters_293 rfl rfl ?_
    obtain ⟨k2, h⟩ := h
    obtain ⟨b3, hb3, h⟩ := h
    refine r_getr (pc := 294) flX10_12 dX10_weaveLetters_294 rfl k2 hb3 ?_
    refine r_iload (pc := 297) (i := 7) dX10_weaveLetters_297 rfl ?_
    refine r_iload (pc := 299) (i := 9) dX10_weaveLetters_299 rfl ?_
    refine r_aload_n (pc := 301) (i := 0) dX10_weaveLetters_301 rfl rfl ?_
    refine r_getr (pc := 302) flX10_12 dX10_weaveLetters_302 rfl k2 hb3 ?_
    refine r_aload_n (pc := 305) (i := 0) dX10_weaveLetters_305 rfl rfl ?_
    refine r_aload_n (pc := 306) (i := 2) dX10_weaveLetters_306 rfl rfl ?_
    obtain ⟨k4, h⟩ := h
    refine r_geti (pc := 307) flX10_173 dX10_weaveLetters_307 (Or.inl rfl) k4 ?_
    refine r_iload (pc := 310) (i := 5) dX10_weaveLetters_310 rfl ?_
    refine r_callV (pc := 312) (ci := 10) (as := [_, _]) (st := [_, _, _, _]) okX10_keyOfPlaces lkX10_222 inX10_keyOfPlaces seX10_keyOfPlaces ⟨_, rfl, rfl⟩ dX10_weaveLetters_312 rfl k2 (Nat.le_of_ble_eq_true rfl) (Nat.zero_le _) (Nat.zero_le _) (Call.mono h (fun r5 M6 h => ?_))
    obtain ⟨v7, rfl, h⟩ := h
    obtain ⟨k8, h⟩ := h
    refine r_callV (pc := 315) (ci := 2) (as := [_]) (st := [_, _, _]) okX2_meet lkX10_63 inX2_meet seX2_meet ⟨_, rfl, rfl⟩ dX10_weaveLetters_315 rfl k8 (Nat.le_of_ble_eq_true rfl) (Nat.zero_le _) (Nat.zero_le _) (Call.mono h (fun r9 M10 h => ?_))
    obtain ⟨v11, rfl, h⟩ := h
    obtain ⟨k12, h⟩ := h
    refine r_callV (pc := 318) (ci := 2) (as := [_, _, _]) (st := []) okX2_link lkX10_80 inX2_link seX2_link ⟨_, rfl, rfl⟩ dX10_weaveLetters_318 rfl k12 (Nat.le_of_ble_eq_true rfl) (Nat.zero_le _) (Nat.zero_le _) (Call.mono h (fun r13 M14 h => ?_))
    obtain ⟨rfl, h⟩ := h
    refine r_iinc (pc := 321) (i := 9) (v := _ + 1) dX10_weaveLetters_321 rfl rfl rfl ?_
    refine r_goto (pc := 324) (tgt := 202) dX10_weaveLetters_324 (by decide) ?_
    exact h
  · replace h := h.2 c1
    refine r_aload_n (pc := 235) (i := 0) dX10_weaveLetters_235 rfl rfl ?_
    obtain ⟨k15, h⟩ := h
    refine r_geti (pc := 236) flX10_57 dX10_weaveLetters_236 (Or.inl rfl) k15 ?_
    refine r_iconst (pc := 239) (v := 1) dX10_weaveLetters_239 (by decide) ?_
    refine r_icmp_le (pc := 240) (tgt := 293) dX10_weaveLetters_240 (by decide) (fun c16 => ?_) (fun c16 => ?_)
    · replace h := h.1 c16
      refine r_aload_n (pc := 293) (i := 0) dX10_weaveLetters_293 rfl rfl ?_
      obtain ⟨b17, hb17, h⟩ := h
      refine r_getr (pc := 294) flX10_12 dX10_weaveLetters_294 rfl k15 hb17 ?_
      refine r_iload (pc := 297) (i := 7) dX10_weaveLetters_297 rfl ?_
      refine r_iload (pc := 299) (i := 9) dX10_weaveLetters_299 rfl ?_
      refine r_aload_n (pc := 301) (i := 0) dX10_weaveLetters_301 rfl rfl ?_
      refine r_getr (pc := 302) flX10_12 dX10_weaveLetters_302 rfl k15 hb17 ?_
      refine r_aload_n (pc := 305) (i := 0) dX10_weaveLetters_305 rfl rfl ?_
      refine r_aload_n (pc := 306) (i := 2) dX10_weaveLetters_306 rfl rfl ?_
      obtain ⟨k18, h⟩ := h
      refine r_geti (pc := 307) flX10_173 dX10_weaveLetters_307 (Or.inl rfl) k18 ?_
      refine r_iload (pc := 310) (i := 5) dX10_weaveLetters_310 rfl ?_
      refine r_callV (pc := 312) (ci := 10) (as := [_, _]) (st := [_, _, _, _]) okX10_keyOfPlaces lkX10_222 inX10_keyOfPlaces seX10_keyOfPlaces ⟨_, rfl, rfl⟩ dX10_weaveLetters_312 rfl k15 (Nat.le_of_ble_eq_true rfl) (Nat.zero_le _) (Nat.zero_le _) (Call.mono h (fun r19 M20 h => ?_))
      obtain ⟨v21, rfl, h⟩ := h
      obtain ⟨k22, h⟩ := h
      refine r_callV (pc := 315) (ci := 2) (as := [_]) (st := [_, _, _]) okX2_meet lkX10_63 inX2_meet seX2_meet ⟨_, rfl, rfl⟩ dX10_weaveLetters_315 rfl k22 (Nat.le_of_ble_eq_true rfl) (Nat.zero_le _) (Nat.zero_le _) (Call.mono h (fun r23 M24 h => ?_))
      obtain ⟨v25, rfl, h⟩ := h
      obtain ⟨k26, h⟩ := h
      refine r_callV (pc := 318) (ci := 2) (as := [_, _, _]) (st := []) okX2_link lkX10_80 inX2_link seX2_link ⟨_, rfl, rfl⟩ dX10_weaveLetters_318 rfl k26 (Nat.le_of_ble_eq_true rfl) (Nat.zero_le _) (Nat.zero_le _) (Call.mono h (fun r27 M28 h => ?_))
      obtain ⟨rfl, h⟩ := h
      refine r_iinc (pc := 321) (i := 9) (v := _ + 1) dX10_weaveLetters_321 rfl rfl rfl ?_
      refine r_goto (pc := 324) (tgt := 202) dX10_weaveLetters_324 (by decide) ?_
      exact h
    · replace h := h.2 c16
      refine r_iload (pc := 243) (i := 8) dX10_weaveLetters_243 rfl ?_
      refine r_aload_n (pc := 245) (i := 2) dX10_weaveLetters_245 rfl rfl ?_
      obtain ⟨k29, h⟩ := h
      refine r_geti (pc := 246) flX10_173 dX10_weaveLetters_246 (Or.inl rfl) k29 ?_
      refine r_iload (pc := 249) (i := 10) dX10_weaveLetters_249 rfl ?_
      refine r_iload (pc := 251) (i := 11) dX10_weaveLetters_251 rfl ?_
      refine r_iadd (pc := 253) dX10_weaveLetters_253 ?_
      refine r_aload_n (pc := 254) (i := 0) dX10_weaveLetters_254 rfl rfl ?_
      refine r_geti (pc := 255) flX10_57 dX10_weaveLetters_255 (Or.inl rfl) k15 ?_
      obtain ⟨n30, h⟩ := h
      refine r_idiv (pc := 258) dX10_weaveLetters_258 n30 ?_
      refine r_callS (pc := 259) (as := [_, _, _]) (st := []) okX10_placeIn lkX10_225 stX10_placeIn dX10_weaveLetters_259 rfl (Nat.le_of_ble_eq_true rfl) (Nat.zero_le _) (Nat.zero_le _) (Call.mono h (fun r31 M32 h => ?_))
      obtain ⟨v33, rfl, h⟩ := h
      refine r_istore (pc := 262) (i := 12) dX10_weaveLetters_262 rfl (Nat.le_of_ble_eq_true rfl) ?_
      refine r_aload_n (pc := 264) (i := 0) dX10_weaveLetters_264 rfl rfl ?_
      obtain ⟨k34, h⟩ := h
      obtain ⟨b35, hb35, h⟩ := h
      refine r_getr (pc := 265) flX10_40 dX10_weaveLetters_265 rfl k34 hb35 ?_
      refine r_iload (pc := 268) (i := 11) dX10_weaveLetters_268 rfl ?_
      refine r_aload_n (pc := 270) (i := 2) dX10_weaveLetters_270 rfl rfl ?_
      refine r_iload (pc := 271) (i := 12) dX10_weaveLetters_271 rfl ?_
      refine r_iload (pc := 273) (i := 10) dX10_weaveLetters_273 rfl ?_
      refine r_iload (pc := 275) (i := 11) dX10_weaveLetters_275 rfl ?_
      refine r_iadd (pc := 277) dX10_weaveLetters_277 ?_
      refine r_aload_n (pc := 278) (i := 0) dX10_weaveLetters_278 rfl rfl ?_
      refine r_geti (pc := 279) flX10_57 dX10_weaveLetters_279 (Or.inl rfl) k34 ?_
      obtain ⟨n36, h⟩ := h
      refine r_irem (pc := 282) dX10_weaveLetters_282 n36 ?_
      obtain ⟨k37, h⟩ := h
      refine r_callV (pc := 283) (ci := 1) (as := [_, _]) (st := [_, _]) okX1_after lkX10_182 inX1_after seX1_after ⟨_, rfl, rfl⟩ dX10_weaveLetters_283 rfl k37 (Nat.le_of_ble_eq_true rfl) (Nat.zero_le _) (Nat.zero_le _) (Call.mono h (fun r38 M39 h => ?_))
      obtain ⟨v40, rfl, h⟩ := h
      obtain ⟨k41, h⟩ := h
      obtain ⟨i42, h⟩ := h
      refine r_iast (pc := 286) dX10_weaveLetters_286 k41 i42 ?_
      replace h := h _ rfl
      refine r_iinc (pc := 287) (i := 11) (v := _ + 1) dX10_weaveLetters_287 rfl rfl rfl ?_
      refine r_goto (pc := 290) (tgt := 228) dX10_weaveLetters_290 (by decide) ?_
      exact h
abbrev LX10_keyOfPlaces_15 (G : GG) (d rc rs : Nat) (p0 : Nat) (x1 : Int32) (x2 : Int32) (x3 : Int32) (x4 : Int32) (M : Mem) (Q : Option Value → Mem → Prop) : Prop := Wk G (d + 1) rc rs mX10_keyOfPlaces 15 [some (.ref p0), some (.int x1), some (.int x2), some (.int x3), some (.int x4)] [] M Q
theorem eX10_keyOfPlaces {G : GG} {d rc rs : Nat} (o : Nat) (a1 : Int32) (a2 : Int32)  {M : Mem} {Q : Option Value → Mem → Prop} (h : (x_h M o).1 = 26 ∧ (∃ b2, x_r M o 6 = some b2 ∧ (1 ≤ (x_h M b2).1 ∧ (x_h M b2).1 < 8) ∧ Call G d 0 0 mJ9_min_7cf53 [.int a2, .int ((nI (x_h M b2).2) - 1)] M (fun r4 M5 => ∃ v6 : Int32, r4 = some (.int v6) ∧ LX10_keyOfPlaces_15 G d rc rs o a1 a2 0 v6 M5 Q))) : Call G (d + 1) rc rs mX10_keyOfPlaces [.ref o, .int a1, .int a2] M Q := by
  refine call_of (by decide) (Nat.le_of_ble_eq_true rfl) ?_
  show Wk G (d + 1) rc rs mX10_keyOfPlaces 0 [some (.ref o), some (.int a1), some (.int a2), none, none] [] M Q
  refine r_iconst (pc := 0) (v := 0) dX10_keyOfPlaces_0 (by decide) ?_
  refine r_istore_n (pc := 1) (i := 3) dX10_keyOfPlaces_1 rfl rfl (Nat.le_of_ble_eq_true rfl) ?_
  refine r_iload_n (pc := 2) (i := 2) dX10_keyOfPlaces_2 rfl rfl ?_
  refine r_aload_n (pc := 3) (i := 0) dX10_keyOfPlaces_3 rfl rfl ?_
  obtain ⟨k1, h⟩ := h
  obtain ⟨b2, hb2, h⟩ := h
  refine r_getr (pc := 4) flX10_40 dX10_keyOfPlaces_4 rfl k1 hb2 ?_
  obtain ⟨k3, h⟩ := h
  refine r_alen (pc := 7) dX10_keyOfPlaces_7 rfl k3 ?_
  refine r_iconst (pc := 8) (v := 1) dX10_keyOfPlaces_8 (by decide) ?_
  refine r_isub (pc := 9) dX10_keyOfPlaces_9 ?_
  refine r_callS (pc := 10) (as := [_, _]) (st := []) okJ9_min_7cf53 lkX10_164 stJ9_min_7cf53 dX10_keyOfPlaces_10 rfl (Nat.le_of_ble_eq_true rfl) (Nat.zero_le _) (Nat.zero_le _) (Call.mono h (fun r4 M5 h => ?_))
  obtain ⟨v6, rfl, h⟩ := h
  refine r_istore (pc := 13) (i := 4) dX10_keyOfPlaces_13 rfl (Nat.le_of_ble_eq_true rfl) ?_
  exact h
theorem vX10_keyOfPlaces_15 {G : GG} {d rc rs : Nat} (p0 : Nat) (x1 : Int32) (x2 : Int32) (x3 : Int32) (x4 : Int32)  {M : Mem} {Q : Option Value → Mem → Prop} (h : (x4 < 0 → Q (some (.int x3)) M) ∧ (¬ x4 < 0 → (x_h M p0).1 = 26 ∧ (∃ b3, x_r M p0 6 = some b3 ∧ (x_h M b3).1 = 1 ∧ vp_in x4 (x_h M b3).2 ∧ LX10_keyOfPlaces_15 G d rc rs p0 x1 x2 ((x3 * x1) + (x_i M b3 x4.toNatClampNeg)) (x4 + (-1)) M Q))) : LX10_keyOfPlaces_15 G d rc rs p0 x1 x2 x3 x4 M Q := by
  show Wk G (d + 1) rc rs mX10_keyOfPlaces 15 _ _ M Q
  refine r_iload (pc := 15) (i := 4) dX10_keyOfPlaces_15 rfl ?_
  refine r_if_lt (pc := 17) (tgt := 38) dX10_keyOfPlaces_17 (by decide) (fun c1 => ?_) (fun c1 => ?_)
  · replace h := h.1 c1
    refine r_iload_n (pc := 38) (i := 3) dX10_keyOfPlaces_38 rfl rfl ?_
    exact r_iret (pc := 39) dX10_keyOfPlaces_39 rfl h
  · replace h := h.2 c1
    refine r_iload_n (pc := 20) (i := 3) dX10_keyOfPlaces_20 rfl rfl ?_
    refine r_iload_n (pc := 21) (i := 1) dX10_keyOfPlaces_21 rfl rfl ?_
    refine r_imul (pc := 22) dX10_keyOfPlaces_22 ?_
    refine r_aload_n (pc := 23) (i := 0) dX10_keyOfPlaces_23 rfl rfl ?_
    obtain ⟨k2, h⟩ := h
    obtain ⟨b3, hb3, h⟩ := h
    refine r_getr (pc := 24) flX10_40 dX10_keyOfPlaces_24 rfl k2 hb3 ?_
    refine r_iload (pc := 27) (i := 4) dX10_keyOfPlaces_27 rfl ?_
    obtain ⟨k4, h⟩ := h
    obtain ⟨i5, h⟩ := h
    refine r_iald (pc := 29) dX10_keyOfPlaces_29 k4 i5 ?_
    refine r_iadd (pc := 30) dX10_keyOfPlaces_30 ?_
    refine r_istore_n (pc := 31) (i := 3) dX10_keyOfPlaces_31 rfl rfl (Nat.le_of_ble_eq_true rfl) ?_
    refine r_iinc (pc := 32) (i := 4) (v := _ + (-1)) dX10_keyOfPlaces_32 rfl rfl rfl ?_
    refine r_goto (pc := 35) (tgt := 15) dX10_keyOfPlaces_35 (by decide) ?_
    exact h
abbrev LX10_placeIn_5 (G : GG) (d rc rs : Nat) (x0 : Int32) (x1 : Int32) (x2 : Int32) (x3 : Int32) (x4 : Int32) (M : Mem) (Q : Option Value → Mem → Prop) : Prop := Wk G (d + 1) rc rs mX10_placeIn 5 [some (.int x0), some (.int x1), some (.int x2), some (.int x3), some (.int x4)] [] M Q
theorem eX10_placeIn {G : GG} {d rc rs : Nat} (a1 : Int32) (a2 : Int32) (a3 : Int32)  {M : Mem} {Q : Option Value → Mem → Prop} (h : LX10_placeIn_5 G d rc rs a1 a2 a3 a1 0 M Q) : Call G (d + 1) rc rs mX10_placeIn [.int a1, .int a2, .int a3] M Q := by
  refine call_of (by decide) (Nat.le_of_ble_eq_true rfl) ?_
  show Wk G (d + 1) rc rs mX10_placeIn 0 [some (.int a1), some (.int a2), some (.int a3), none, none] [] M Q
  refine r_iload_n (pc := 0) (i := 0) dX10_placeIn_0 rfl rfl ?_
  refine r_istore_n (pc := 1) (i := 3) dX10_placeIn_1 rfl rfl (Nat.le_of_ble_eq_true rfl) ?_
  refine r_iconst (pc := 2) (v := 0) dX10_placeIn_2 (by decide) ?_
  refine r_istore (pc := 3) (i := 4) dX10_placeIn_3 rfl (Nat.le_of_ble_eq_true rfl) ?_
  exact h
theorem vX10_placeIn_5 {G : GG} {d rc rs : Nat} (x0 : Int32) (x1 : Int32) (x2 : Int32) (x3 : Int32) (x4 : Int32)  {M : Mem} {Q : Option Value → Mem → Prop} (h : (x2 ≤ x4 → (x1 ≤ 0 → Q (some (.int 0)) M) ∧ (¬ x1 ≤ 0 → ¬ x1 = 0 ∧ Q (some (.int (x3 - x3 / x1 * x1))) M)) ∧ (¬ x2 ≤ x4 → (8 ≤ x4 → (x1 ≤ 0 → Q (some (.int 0)) M) ∧ (¬ x1 ≤ 0 → ¬ x1 = 0 ∧ Q (some (.int (x3 - x3 / x1 * x1))) M)) ∧ (¬ 8 ≤ x4 → (x1 ≤ 0 → (x1 ≤ 0 → Q (some (.int 0)) M) ∧ (¬ x1 ≤ 0 → ¬ x1 = 0 ∧ Q (some (.int (x3 - x3 / x1 * x1))) M)) ∧ (¬ x1 ≤ 0 → ¬ x1 = 0 ∧ LX10_placeIn_5 G d rc rs x0 x1 x2 (x3 / x1) (x4 + 1) M Q)))) : LX10_placeIn_5 G d rc rs x0 x1 x2 x3 x4 M Q := by
  show Wk G (d + 1) rc rs mX10_placeIn 5 _ _ M Q
  refine r_iload (pc := 5) (i := 4) dX10_placeIn_5 rfl ?_
  refine r_iload_n (pc := 7) (i := 2) dX10_placeIn_7 rfl rfl ?_
  refine r_icmp_ge (pc := 8) (tgt := 32) dX10_placeIn_8 (by decide) (fun c1 => ?_) (fun c1 => ?_)
  · replace h := h.1 c1
    refine r_iload_n (pc := 32) (i := 1) dX10_placeIn_32 rfl rfl ?_
    refine r_if_le (pc := 33) (tgt := 42) dX10_placeIn_33 (by decide) (fun c2 => ?_) (fun c2 => ?_)
    · replace h := h.1 c2
      refine r_iconst (pc := 42) (v := 0) dX10_placeIn_42 (by decide) ?_
      exact r_iret (pc := 43) dX10_placeIn_43 rfl h
    · replace h := h.2 c2
      refine r_iload_n (pc := 36) (i := 3) dX10_placeIn_36 rfl rfl ?_
      refine r_iload_n (pc := 37) (i := 1) dX10_placeIn_37 rfl rfl ?_
      obtain ⟨n3, h⟩ := h
      refine r_irem (pc := 38) dX10_placeIn_38 n3 ?_
      refine r_goto (pc := 39) (tgt := 43) dX10_placeIn_39 (by decide) ?_
      exact r_iret (pc := 43) dX10_placeIn_43 rfl h
  · replace h := h.2 c1
    refine r_iload (pc := 11) (i := 4) dX10_placeIn_11 rfl ?_
    refine r_bipush (pc := 13) (v := 8) dX10_placeIn_13 (by decide) ?_
    refine r_icmp_ge (pc := 15) (tgt := 32) dX10_placeIn_15 (by decide) (fun c4 => ?_) (fun c4 => ?_)
    · replace h := h.1 c4
      refine r_iload_n (pc := 32) (i := 1) dX10_placeIn_32 rfl rfl ?_
      refine r_if_le (pc := 33) (tgt := 42) dX10_placeIn_33 (by decide) (fun c5 => ?_) (fun c5 => ?_)
      · replace h := h.1 c5
        refine r_iconst (pc := 42) (v := 0) dX10_placeIn_42 (by decide) ?_
        exact r_iret (pc := 43) dX10_placeIn_43 rfl h
      · replace h := h.2 c5
        refine r_iload_n (pc := 36) (i := 3) dX10_placeIn_36 rfl rfl ?_
        refine r_iload_n (pc := 37) (i := 1) dX10_placeIn_37 rfl rfl ?_
        obtain ⟨n6, h⟩ := h
        refine r_irem (pc := 38) dX10_placeIn_38 n6 ?_
        refine r_goto (pc := 39) (tgt := 43) dX10_placeIn_39 (by decide) ?_
        exact r_iret (pc := 43) dX10_placeIn_43 rfl h
    · replace h := h.2 c4
      refine r_iload_n (pc := 18) (i := 1) dX10_placeIn_18 rfl rfl ?_
      refine r_if_le (pc := 19) (tgt := 32) dX10_placeIn_19 (by decide) (fun c7 => ?_) (fun c7 => ?_)
      · replace h := h.1 c7
        refine r_iload_n (pc := 32) (i := 1) dX10_placeIn_32 rfl rfl ?_
        refine r_if_le (pc := 33) (tgt := 42) dX10_placeIn_33 (by decide) (fun c8 => ?_) (fun c8 => ?_)
        · replace h := h.1 c8
          refine r_iconst (pc := 42) (v := 0) dX10_placeIn_42 (by decide) ?_
          exact r_iret (pc := 43) dX10_placeIn_43 rfl h
        · replace h := h.2 c8
          refine r_iload_n (pc := 36) (i := 3) dX10_placeIn_36 rfl rfl ?_
          refine r_iload_n (pc := 37) (i := 1) dX10_placeIn_37 rfl rfl ?_
          obtain ⟨n9, h⟩ := h
          refine r_irem (pc := 38) dX10_placeIn_38 n9 ?_
          refine r_goto (pc := 39) (tgt := 43) dX10_placeIn_39 (by decide) ?_
          exact r_iret (pc := 43) dX10_placeIn_43 rfl h
      · replace h := h.2 c7
        refine r_iload_n (pc := 22) (i := 3) dX10_placeIn_22 rfl rfl ?_
        refine r_iload_n (pc := 23) (i := 1) dX10_placeIn_23 rfl rfl ?_
        obtain ⟨n10, h⟩ := h
        refine r_idiv (pc := 24) dX10_placeIn_24 n10 ?_
        refine r_istore_n (pc := 25) (i := 3) dX10_placeIn_25 rfl rfl (Nat.le_of_ble_eq_true rfl) ?_
        refine r_iinc (pc := 26) (i := 4) (v := _ + 1) dX10_placeIn_26 rfl rfl rfl ?_
        refine r_goto (pc := 29) (tgt := 5) dX10_placeIn_29 (by decide) ?_
        exact h
abbrev LX10_weaveSums_24 (G : GG) (d rc rs : Nat) (p0 : Nat) (p1 : Nat) (x2 : Int32) (x3 : Int32) (x4 : Int32) (x5 : Int32) (M : Mem) (Q : Option Value → Mem → Prop) : Prop := Wk G (d + 1) rc rs mX10_weaveSums 24 [some (.ref p0), some (.ref p1), some (.int x2), some (.int x3), some (.int x4), some (.int x5), none, none, none, none] [] M Q
abbrev LX10_weaveSums_156 (G : GG) (d rc rs : Nat) (p0 : Nat) (p1 : Nat) (x2 : Int32) (x3 : Int32) (x4 : Int32) (x5 : Int32) (x6 : Int32) (z7 : Option Value) (z8 : Option Value) (z9 : Option Value) (M : Mem) (Q : Option Value → Mem → Prop) : Prop := Wk G (d + 1) rc rs mX10_weaveSums 156 [some (.ref p0), some (.ref p1), some (.int x2), some (.int x3), some (.int x4), some (.int x5), some (.int x6), z7, z8, z9] [] M Q
abbrev LX10_weaveSums_212 (G : GG) (d rc rs : Nat) (p0 : Nat) (p1 : Nat) (x2 : Int32) (x3 : Int32) (x4 : Int32) (x5 : Int32) (x6 : Int32) (x7 : Int32) (x8 : Int32) (z9 : Option Value) (M : Mem) (Q : Option Value → Mem → Prop) : Prop := Wk G (d + 1) rc rs mX10_weaveSums 212 [some (.ref p0), some (.ref p1), some (.int x2), some (.int x3), some (.int x4), some (.int x5), some (.int x6), some (.int x7), some (.int x8), z9] [] M Q
theorem eX10_weaveSums {G : GG} {d rc rs : Nat} (o : Nat) (a1 : Nat)  {M : Mem} {Q : Option Value → Mem → Prop} (h : (x_h M a1).1 = 19 ∧ (∃ b2, x_r M a1 0 = some b2 ∧ (x_h M b2).1 = 24 ∧ (∃ b4, x_r M a1 1 = some b4 ∧ (x_h M b4).1 = 24 ∧ LX10_weaveSums_24 G d rc rs o a1 ((x_i M b2 2) - (x_i M b4 2)) 0 0 0 M Q))) : Call G (d + 1) rc rs mX10_weaveSums [.ref o, .ref a1] M Q := by
  refine call_of (by decide) (Nat.le_of_ble_eq_true rfl) ?_
  show Wk G (d + 1) rc rs mX10_weaveSums 0 [some (.ref o), some (.ref a1), none, none, none, none, none, none, none, none] [] M Q
  refine r_aload_n (pc := 0) (i := 1) dX10_weaveSums_0 rfl rfl ?_
  obtain ⟨k1, h⟩ := h
  obtain ⟨b2, hb2, h⟩ := h
  refine r_getr (pc := 1) flX10_188 dX10_weaveSums_1 rfl k1 hb2 ?_
  obtain ⟨k3, h⟩ := h
  refine r_geti (pc := 4) flX10_207 dX10_weaveSums_4 (Or.inl rfl) k3 ?_
  refine r_aload_n (pc := 7) (i := 1) dX10_weaveSums_7 rfl rfl ?_
  obtain ⟨b4, hb4, h⟩ := h
  refine r_getr (pc := 8) flX10_192 dX10_weaveSums_8 rfl k1 hb4 ?_
  obtain ⟨k5, h⟩ := h
  refine r_geti (pc := 11) flX10_207 dX10_weaveSums_11 (Or.inl rfl) k5 ?_
  refine r_isub (pc := 14) dX10_weaveSums_14 ?_
  refine r_istore_n (pc := 15) (i := 2) dX10_weaveSums_15 rfl rfl (Nat.le_of_ble_eq_true rfl) ?_
  refine r_iconst (pc := 16) (v := 0) dX10_weaveSums_16 (by decide) ?_
  refine r_istore_n (pc := 17) (i := 3) dX10_weaveSums_17 rfl rfl (Nat.le_of_ble_eq_true rfl) ?_
  refine r_iconst (pc := 18) (v := 0) dX10_weaveSums_18 (by decide) ?_
  refine r_istore (pc := 19) (i := 4) dX10_weaveSums_19 rfl (Nat.le_of_ble_eq_true rfl) ?_
  refine r_iconst (pc := 21) (v := 0) dX10_weaveSums_21 (by decide) ?_
  refine r_istore (pc := 22) (i := 5) dX10_weaveSums_22 rfl (Nat.le_of_ble_eq_true rfl) ?_
  exact h
theorem vX10_weaveSums_24 {G : GG} {d rc rs : Nat} (p0 : Nat) (p1 : Nat) (x2 : Int32) (x3 : Int32) (x4 : Int32) (x5 : Int32)  {M : Mem} {Q : Option Value → Mem → Prop} (h : (8 ≤ x5 → Call G d 0 0 mJ9_min_7cf53 [.int x3, .int ((-1) - x2)] M (fun r2 M3 => ∃ v4 : Int32, r2 = some (.int v4) ∧ Call G d 0 0 mJ9_max_7cf53 [.int x4, .int (1 - x2)] M3 (fun r5 M6 => ∃ v7 : Int32, r5 = some (.int v7) ∧ (x_h M6 p1).1 = 19 ∧ (x_h M6 p0).1 = 26 ∧ Call G d 0 0 mX10_fan [.ref p0, .int (x_i M6 p1 8)] M6 (fun r10 M11 => ∃ v12 : Int32, r10 = some (.int v12) ∧ Call G d 0 0 mJ9_min_7cf53 [.int v12, .int 27] M11 (fun r13 M14 => ∃ v15 : Int32, r13 = some (.int v15) ∧ (x_h M14 p0).1 = 26 ∧ (∃ b17, x_r M14 p0 0 = some b17 ∧ (x_h M14 b17).1 = 18 ∧ Call G d 0 0 mX2_open [.ref b17, .int ((v7 - v4) + 1), .int v15] M14 (fun r19 M20 => r19 = none ∧ (x_h M20 p0).1 = 26 ∧ (∃ b22, x_r M20 p0 0 = some b22 ∧ (x_h M20 b22).1 = 18 ∧ Call G d 0 0 mX2_meet [.ref b22, .int (-v4)] M20 (fun r24 M25 => ∃ v26 : Int32, r24 = some (.int v26) ∧ LX10_weaveSums_156 G d rc rs p0 p1 x2 v4 v7 v15 0 none none none M25 Q))))))))) ∧ (¬ 8 ≤ x5 → (x_h M p0).1 = 26 ∧ (∃ b28, x_r M p0 5 = some b28 ∧ (x_h M p1).1 = 19 ∧ (∃ b30, x_r M p1 0 = some b30 ∧ (x_h M b30).1 = 24 ∧ (∃ b32, x_r M b30 0 = some b32 ∧ (x_h M b32).1 = 1 ∧ vp_in x5 (x_h M b32).2 ∧ (∃ b35, x_r M p1 1 = some b35 ∧ (x_h M b35).1 = 24 ∧ (∃ b37, x_r M b35 0 = some b37 ∧ (x_h M b37).1 = 1 ∧ vp_in x5 (x_h M b37).2 ∧ (x_h M b28).1 = 1 ∧ vp_in x5 (x_h M b28).2 ∧ (∀ M42, M42 = x_si M b28 x5.toNatClampNeg ((x_i M b32 x5.toNatClampNeg) - (x_i M b37 x5.toNatClampNeg)) → Call G d 0 0 mJ9_max_7cf53 [.int (x_i M42 b28 x5.toNatClampNeg), .int 0] M42 (fun r43 M44 => ∃ v45 : Int32, r43 = some (.int v45) ∧ (x_h M44 p0).1 = 26 ∧ (∃ b47, x_r M44 p0 5 = some b47 ∧ (x_h M44 b47).1 = 1 ∧ vp_in x5 (x_h M44 b47).2 ∧ Call G d 0 0 mJ9_min_7cf53 [.int (x_i M44 b47 x5.toNatClampNeg), .int 0] M44 (fun r50 M51 => ∃ v52 : Int32, r50 = some (.int v52) ∧ LX10_weaveSums_24 G d rc rs p0 p1 x2 (x3 - v45) (x4 - v52) (x5 + 1) M51 Q))))))))))) : LX10_weaveSums_24 G d rc rs p0 p1 x2 x3 x4 x5 M Q := by
  show Wk G (d + 1) rc rs mX10_weaveSums 24 _ _ M Q
  refine r_iload (pc := 24) (i := 5) dX10_weaveSums_24 rfl ?_
  refine r_bipush (pc := 26) (v := 8) dX10_weaveSums_26 (by decide) ?_
  refine r_icmp_ge (pc := 28) (tgt := 95) dX10_weaveSums_28 (by decide) (fun c1 => ?_) (fun c1 => ?_)
  · replace h := h.1 c1
    refine r_iload_n (pc := 95) (i := 3) dX10_weaveSums_95 rfl rfl ?_
    refine r_iconst (pc := 96) (v := (-1)) dX10_weaveSums_96 (by decide) ?_
    refine r_iload_n (pc := 97) (i := 2) dX10_weaveSums_97 rfl rfl ?_
    refine r_isub (pc := 98) dX10_weaveSums_98 ?_
    refine r_callS (pc := 99) (as := [_, _]) (st := []) okJ9_min_7cf53 lkX10_164 stJ9_min_7cf53 dX10_weaveSums_99 rfl (Nat.le_of_ble_eq_true rfl) (Nat.zero_le _) (Nat.zero_le _) (Call.mono h (fun r2 M3 h => ?_))
    obtain ⟨v4, rfl, h⟩ := h
    refine r_istore_n (pc := 102) (i := 3) dX10_weaveSums_102 rfl rfl (Nat.le_of_ble_eq_true rfl) ?_
    refine r_iload (pc := 103) (i := 4) dX10_weaveSums_103 rfl ?_
    refine r_iconst (pc := 105) (v := 1) dX10_weaveSums_105 (by decide) ?_
    refine r_iload_n (pc := 106) (i := 2) dX10_weaveSums_106 rfl rfl ?_
    refine r_isub (pc := 107) dX10_weaveSums_107 ?_
    refine r_callS (pc := 108) (as := [_, _]) (st := []) okJ9_max_7cf53 lkX10_185 stJ9_max_7cf53 dX10_weaveSums_108 rfl (Nat.le_of_ble_eq_true rfl) (Nat.zero_le _) (Nat.zero_le _) (Call.mono h (fun r5 M6 h => ?_))
    obtain ⟨v7, rfl, h⟩ := h
    refine r_istore (pc := 111) (i := 4) dX10_weaveSums_111 rfl (Nat.le_of_ble_eq_true rfl) ?_
    refine r_aload_n (pc := 113) (i := 0) dX10_weaveSums_113 rfl rfl ?_
    refine r_aload_n (pc := 114) (i := 1) dX10_weaveSums_114 rfl rfl ?_
    obtain ⟨k8, h⟩ := h
    refine r_geti (pc := 115) flX10_145 dX10_weaveSums_115 (Or.inl rfl) k8 ?_
    obtain ⟨k9, h⟩ := h
    refine r_callV (pc := 118) (ci := 10) (as := [_]) (st := []) okX10_fan lkX10_157 inX10_fan seX10_fan ⟨_, rfl, rfl⟩ dX10_weaveSums_118 rfl k9 (Nat.le_of_ble_eq_true rfl) (Nat.zero_le _) (Nat.zero_le _) (Call.mono h (fun r10 M11 h => ?_))
    obtain ⟨v12, rfl, h⟩ := h
    refine r_bipush (pc := 121) (v := 27) dX10_weaveSums_121 (by decide) ?_
    refine r_callS (pc := 123) (as := [_, _]) (st := []) okJ9_min_7cf53 lkX10_164 stJ9_min_7cf53 dX10_weaveSums_123 rfl (Nat.le_of_ble_eq_true rfl) (Nat.zero_le _) (Nat.zero_le _) (Call.mono h (fun r13 M14 h => ?_))
    obtain ⟨v15, rfl, h⟩ := h
    refine r_istore (pc := 126) (i := 5) dX10_weaveSums_126 rfl (Nat.le_of_ble_eq_true rfl) ?_
    refine r_aload_n (pc := 128) (i := 0) dX10_weaveSums_128 rfl rfl ?_
    obtain ⟨k16, h⟩ := h
    obtain ⟨b17, hb17, h⟩ := h
    refine r_getr (pc := 129) flX10_12 dX10_weaveSums_129 rfl k16 hb17 ?_
    refine r_iload (pc := 132) (i := 4) dX10_weaveSums_132 rfl ?_
    refine r_iload_n (pc := 134) (i := 3) dX10_weaveSums_134 rfl rfl ?_
    refine r_isub (pc := 135) dX10_weaveSums_135 ?_
    refine r_iconst (pc := 136) (v := 1) dX10_weaveSums_136 (by decide) ?_
    refine r_iadd (pc := 137) dX10_weaveSums_137 ?_
    refine r_iload (pc := 138) (i := 5) dX10_weaveSums_138 rfl ?_
    obtain ⟨k18, h⟩ := h
    refine r_callV (pc := 140) (ci := 2) (as := [_, _]) (st := []) okX2_open lkX10_60 inX2_open seX2_open ⟨_, rfl, rfl⟩ dX10_weaveSums_140 rfl k18 (Nat.le_of_ble_eq_true rfl) (Nat.zero_le _) (Nat.zero_le _) (Call.mono h (fun r19 M20 h => ?_))
    obtain ⟨rfl, h⟩ := h
    refine r_aload_n (pc := 143) (i := 0) dX10_weaveSums_143 rfl rfl ?_
    obtain ⟨k21, h⟩ := h
    obtain ⟨b22, hb22, h⟩ := h
    refine r_getr (pc := 144) flX10_12 dX10_weaveSums_144 rfl k21 hb22 ?_
    refine r_iload_n (pc := 147) (i := 3) dX10_weaveSums_147 rfl rfl ?_
    refine r_ineg (pc := 148) dX10_weaveSums_148 ?_
    obtain ⟨k23, h⟩ := h
    refine r_callV (pc := 149) (ci := 2) (as := [_]) (st := []) okX2_meet lkX10_63 inX2_meet seX2_meet ⟨_, rfl, rfl⟩ dX10_weaveSums_149 rfl k23 (Nat.le_of_ble_eq_true rfl) (Nat.zero_le _) (Nat.zero_le _) (Call.mono h (fun r24 M25 h => ?_))
    obtain ⟨v26, rfl, h⟩ := h
    refine r_pop (pc := 152) dX10_weaveSums_152 rfl ?_
    refine r_iconst (pc := 153) (v := 0) dX10_weaveSums_153 (by decide) ?_
    refine r_istore (pc := 154) (i := 6) dX10_weaveSums_154 rfl (Nat.le_of_ble_eq_true rfl) ?_
    exact h
  · replace h := h.2 c1
    refine r_aload_n (pc := 31) (i := 0) dX10_weaveSums_31 rfl rfl ?_
    obtain ⟨k27, h⟩ := h
    obtain ⟨b28, hb28, h⟩ := h
    refine r_getr (pc := 32) flX10_37 dX10_weaveSums_32 rfl k27 hb28 ?_
    refine r_iload (pc := 35) (i := 5) dX10_weaveSums_35 rfl ?_
    refine r_aload_n (pc := 37) (i := 1) dX10_weaveSums_37 rfl rfl ?_
    obtain ⟨k29, h⟩ := h
    obtain ⟨b30, hb30, h⟩ := h
    refine r_getr (pc := 38) flX10_188 dX10_weaveSums_38 rfl k29 hb30 ?_
    obtain ⟨k31, h⟩ := h
    obtain ⟨b32, hb32, h⟩ := h
    refine r_getr (pc := 41) flX10_215 dX10_weaveSums_41 rfl k31 hb32 ?_
    refine r_iload (pc := 44) (i := 5) dX10_weaveSums_44 rfl ?_
    obtain ⟨k33, h⟩ := h
    obtain ⟨i34, h⟩ := h
    refine r_iald (pc := 46) dX10_weaveSums_46 k33 i34 ?_
    refine r_aload_n (pc := 47) (i := 1) dX10_weaveSums_47 rfl rfl ?_
    obtain ⟨b35, hb35, h⟩ := h
    refine r_getr (pc := 48) flX10_192 dX10_weaveSums_48 rfl k29 hb35 ?_
    obtain ⟨k36, h⟩ := h
    obtain ⟨b37, hb37, h⟩ := h
    refine r_getr (pc := 51) flX10_215 dX10_weaveSums_51 rfl k36 hb37 ?_
    refine r_iload (pc := 54) (i := 5) dX10_weaveSums_54 rfl ?_
    obtain ⟨k38, h⟩ := h
    obtain ⟨i39, h⟩ := h
    refine r_iald (pc := 56) dX10_weaveSums_56 k38 i39 ?_
    refine r_isub (pc := 57) dX10_weaveSums_57 ?_
    obtain ⟨k40, h⟩ := h
    obtain ⟨i41, h⟩ := h
    refine r_iast (pc := 58) dX10_weaveSums_58 k40 i41 ?_
    replace h := h _ rfl
    refine r_iload_n (pc := 59) (i := 3) dX10_weaveSums_59 rfl rfl ?_
    refine r_aload_n (pc := 60) (i := 0) dX10_weaveSums_60 rfl rfl ?_
    refine r_getr (pc := 61) flX10_37 dX10_weaveSums_61 rfl k27 hb28 ?_
    refine r_iload (pc := 64) (i := 5) dX10_weaveSums_64 rfl ?_
    refine r_iald (pc := 66) dX10_weaveSums_66 k40 i41 ?_
    refine r_iconst (pc := 67) (v := 0) dX10_weaveSums_67 (by decide) ?_
    refine r_callS (pc := 68) (as := [_, _]) (st := [_]) okJ9_max_7cf53 lkX10_185 stJ9_max_7cf53 dX10_weaveSums_68 rfl (Nat.le_of_ble_eq_true rfl) (Nat.zero_le _) (Nat.zero_le _) (Call.mono h (fun r43 M44 h => ?_))
    obtain ⟨v45, rfl, h⟩ := h
    refine r_isub (pc := 71) dX10_weaveSums_71 ?_
    refine r_istore_n (pc := 72) (i := 3) dX10_weaveSums_72 rfl rfl (Nat.le_of_ble_eq_true rfl) ?_
    refine r_iload (pc := 73) (i := 4) dX10_weaveSums_73 rfl ?_
    refine r_aload_n (pc := 75) (i := 0) dX10_weaveSums_75 rfl rfl ?_
    obtain ⟨k46, h⟩ := h
    obtain ⟨b47, hb47, h⟩ := h
    refine r_getr (pc := 76) flX10_37 dX10_weaveSums_76 rfl k46 hb47 ?_
    refine r_iload (pc := 79) (i := 5) dX10_weaveSums_79 rfl ?_
    obtain ⟨k48, h⟩ := h
    obtain ⟨i49, h⟩ := h
    refine r_iald (pc := 81) dX10_weaveSums_81 k48 i49 ?_
    refine r_iconst (pc := 82) (v := 0) dX10_weaveSums_82 (by decide) ?_
    refine r_callS (pc := 83) (as := [_, _]) (st := [_]) okJ9_min_7cf53 lkX10_164 stJ9_min_7cf53 dX10_weaveSums_83 rfl (Nat.le_of_ble_eq_true rfl) (Nat.zero_le _) (Nat.zero_le _) (Call.mono h (fun r50 M51 h => ?_))
    obtain ⟨v52, rfl, h⟩ := h
    refine r_isub (pc := 86) dX10_weaveSums_86 ?_
    refine r_istore (pc := 87) (i := 4) dX10_weaveSums_87 rfl (Nat.le_of_ble_eq_true rfl) ?_
    refine r_iinc (pc := 89) (i := 5) (v := _ + 1) dX10_weaveSums_89 rfl rfl rfl ?_
    refine r_goto (pc := 92) (tgt := 24) dX10_weaveSums_92 (by decide) ?_
    exact h
theorem vX10_weaveSums_156 {G : GG} {d rc rs : Nat} (p0 : Nat) (p1 : Nat) (x2 : Int32) (x3 : Int32) (x4 : Int32) (x5 : Int32) (x6 : Int32) (z7 : Option Value) (z8 : Option Value) (z9 : Option Value) (hz7 : c1 z7 = true) (hz8 : c1 z8 = true) (hz9 : c1 z9 = true) {M : Mem} {Q : Option Value → Mem → Prop} (h : (x_h M p0).1 = 26 ∧ (∃ b2, x_r M p0 0 = some b2 ∧ (x_h M b2).1 = 18 ∧ ((x_i M b2 9) ≤ x6 → (x_h M p1).1 = 19 ∧ (∃ b6, x_r M p1 2 = some b6 ∧ Call G d 0 0 mX2_draw [.ref b2, .ref b6, .int 40] M (fun r7 M8 => ∃ v9 : Int32, r7 = some (.int v9) ∧ (v9 = 0 ∨ v9 = 1) ∧ Q (some (.int v9)) M8))) ∧ (¬ (x_i M b2 9) ≤ x6 → (3600 ≤ x6 → (x_h M p1).1 = 19 ∧ (∃ b12, x_r M p1 2 = some b12 ∧ Call G d 0 0 mX2_draw [.ref b2, .ref b12, .int 40] M (fun r13 M14 => ∃ v15 : Int32, r13 = some (.int v15) ∧ (v15 = 0 ∨ v15 = 1) ∧ Q (some (.int v15)) M14))) ∧ (¬ 3600 ≤ x6 → Call G d 0 0 mX2_keyOf [.ref b2, .int x6] M (fun r16 M17 => ∃ v18 : Int32, r16 = some (.int v18) ∧ (x_h M17 p0).1 = 26 ∧ (∃ b20, x_r M17 p0 0 = some b20 ∧ (x_h M17 p1).1 = 19 ∧ Call G d 0 0 mX10_compares [.int (x_i M17 p1 7), .int ((v18 + x3) + x2)] M17 (fun r22 M23 => ∃ v24 : Int32, r22 = some (.int v24) ∧ (x_h M23 b20).1 = 18 ∧ Call G d 0 0 mX2_putMark [.ref b20, .int x6, .int v24] M23 (fun r26 M27 => r26 = none ∧ LX10_weaveSums_212 G d rc rs p0 p1 x2 x3 x4 x5 x6 (v18 + x3) 0 z9 M27 Q)))))))) : LX10_weaveSums_156 G d rc rs p0 p1 x2 x3 x4 x5 x6 z7 z8 z9 M Q := by
  show Wk G (d + 1) rc rs mX10_weaveSums 156 _ _ M Q
  refine r_iload (pc := 156) (i := 6) dX10_weaveSums_156 rfl ?_
  refine r_aload_n (pc := 158) (i := 0) dX10_weaveSums_158 rfl rfl ?_
  obtain ⟨k1, h⟩ := h
  obtain ⟨b2, hb2, h⟩ := h
  refine r_getr (pc := 159) flX10_12 dX10_weaveSums_159 rfl k1 hb2 ?_
  obtain ⟨k3, h⟩ := h
  refine r_geti (pc := 162) flX10_67 dX10_weaveSums_162 (Or.inl rfl) k3 ?_
  refine r_icmp_ge (pc := 165) (tgt := 286) dX10_weaveSums_165 (by decide) (fun c4 => ?_) (fun c4 => ?_)
  · replace h := h.1 c4
    refine r_aload_n (pc := 286) (i := 0) dX10_weaveSums_286 rfl rfl ?_
    refine r_getr (pc := 287) flX10_12 dX10_weaveSums_287 rfl k1 hb2 ?_
    refine r_aload_n (pc := 290) (i := 1) dX10_weaveSums_290 rfl rfl ?_
    obtain ⟨k5, h⟩ := h
    obtain ⟨b6, hb6, h⟩ := h
    refine r_getr (pc := 291) flX10_123 dX10_weaveSums_291 rfl k5 hb6 ?_
    refine r_bipush (pc := 294) (v := 40) dX10_weaveSums_294 (by decide) ?_
    refine r_callV (pc := 296) (ci := 2) (as := [_, _]) (st := []) okX2_draw lkX10_84 inX2_draw seX2_draw ⟨_, rfl, rfl⟩ dX10_weaveSums_296 rfl k3 (Nat.le_of_ble_eq_true rfl) (Nat.zero_le _) (Nat.zero_le _) (Call.mono h (fun r7 M8 h => ?_))
    obtain ⟨v9, rfl, h⟩ := h
    exact r_zret (pc := 299) dX10_weaveSums_299 rfl h.1 h.2
  · replace h := h.2 c4
    refine r_iload (pc := 168) (i := 6) dX10_weaveSums_168 rfl ?_
    refine r_sipush (pc := 170) (v := 3600) dX10_weaveSums_170 (by decide) ?_
    refine r_icmp_ge (pc := 173) (tgt := 286) dX10_weaveSums_173 (by decide) (fun c10 => ?_) (fun c10 => ?_)
    · replace h := h.1 c10
      refine r_aload_n (pc := 286) (i := 0) dX10_weaveSums_286 rfl rfl ?_
      refine r_getr (pc := 287) flX10_12 dX10_weaveSums_287 rfl k1 hb2 ?_
      refine r_aload_n (pc := 290) (i := 1) dX10_weaveSums_290 rfl rfl ?_
      obtain ⟨k11, h⟩ := h
      obtain ⟨b12, hb12, h⟩ := h
      refine r_getr (pc := 291) flX10_123 dX10_weaveSums_291 rfl k11 hb12 ?_
      refine r_bipush (pc := 294) (v := 40) dX10_weaveSums_294 (by decide) ?_
      refine r_callV (pc := 296) (ci := 2) (as := [_, _]) (st := []) okX2_draw lkX10_84 inX2_draw seX2_draw ⟨_, rfl, rfl⟩ dX10_weaveSums_296 rfl k3 (Nat.le_of_ble_eq_true rfl) (Nat.zero_le _) (Nat.zero_le _) (Call.mono h (fun r13 M14 h => ?_))
      obtain ⟨v15, rfl, h⟩ := h
      exact r_zret (pc := 299) dX10_weaveSums_299 rfl h.1 h.2
    · replace h := h.2 c10
      refine r_aload_n (pc := 176) (i := 0) dX10_weaveSums_176 rfl rfl ?_
      refine r_getr (pc := 177) flX10_12 dX10_weaveSums_177 rfl k1 hb2 ?_
      refine r_iload (pc := 180) (i := 6) dX10_weaveSums_180 rfl ?_
      refine r_callV (pc := 182) (ci := 2) (as := [_]) (st := []) okX2_keyOf lkX10_70 inX2_keyOf seX2_keyOf ⟨_, rfl, rfl⟩ dX10_weaveSums_182 rfl k3 (Nat.le_of_ble_eq_true rfl) (Nat.zero_le _) (Nat.zero_le _) (Call.mono h (fun r16 M17 h => ?_))
      obtain ⟨v18, rfl, h⟩ := h
      refine r_iload_n (pc := 185) (i := 3) dX10_weaveSums_185 rfl rfl ?_
      refine r_iadd (pc := 186) dX10_weaveSums_186 ?_
      refine r_istore (pc := 187) (i := 7) dX10_weaveSums_187 rfl (Nat.le_of_ble_eq_true rfl) ?_
      refine r_aload_n (pc := 189) (i := 0) dX10_weaveSums_189 rfl rfl ?_
      obtain ⟨k19, h⟩ := h
      obtain ⟨b20, hb20, h⟩ := h
      refine r_getr (pc := 190) flX10_12 dX10_weaveSums_190 rfl k19 hb20 ?_
      refine r_iload (pc := 193) (i := 6) dX10_weaveSums_193 rfl ?_
      refine r_aload_n (pc := 195) (i := 1) dX10_weaveSums_195 rfl rfl ?_
      obtain ⟨k21, h⟩ := h
      refine r_geti (pc := 196) flX10_232 dX10_weaveSums_196 (Or.inl rfl) k21 ?_
      refine r_iload (pc := 199) (i := 7) dX10_weaveSums_199 rfl ?_
      refine r_iload_n (pc := 201) (i := 2) dX10_weaveSums_201 rfl rfl ?_
      refine r_iadd (pc := 202) dX10_weaveSums_202 ?_
      refine r_callS (pc := 203) (as := [_, _]) (st := [_, _]) okX10_compares lkX10_235 stX10_compares dX10_weaveSums_203 rfl (Nat.le_of_ble_eq_true rfl) (Nat.zero_le _) (Nat.zero_le _) (Call.mono h (fun r22 M23 h => ?_))
      obtain ⟨v24, rfl, h⟩ := h
      obtain ⟨k25, h⟩ := h
      refine r_callV (pc := 206) (ci := 2) (as := [_, _]) (st := []) okX2_putMark lkX10_77 inX2_putMark seX2_putMark ⟨_, rfl, rfl⟩ dX10_weaveSums_206 rfl k25 (Nat.le_of_ble_eq_true rfl) (Nat.zero_le _) (Nat.zero_le _) (Call.mono h (fun r26 M27 h => ?_))
      obtain ⟨rfl, h⟩ := h
      refine r_iconst (pc := 209) (v := 0) dX10_weaveSums_209 (by decide) ?_
      refine r_istore (pc := 210) (i := 8) dX10_weaveSums_210 rfl (Nat.le_of_ble_eq_true rfl) ?_
      exact h
theorem vX10_weaveSums_212 {G : GG} {d rc rs : Nat} (p0 : Nat) (p1 : Nat) (x2 : Int32) (x3 : Int32) (x4 : Int32) (x5 : Int32) (x6 : Int32) (x7 : Int32) (x8 : Int32) (z9 : Option Value) (hz9 : c1 z9 = true) {M : Mem} {Q : Option Value → Mem → Prop} (h : (x5 ≤ x8 → LX10_weaveSums_156 G d rc rs p0 p1 x2 x3 x4 x5 (x6 + 1) (some (.int x7)) (some (.int x8)) z9 M Q) ∧ (¬ x5 ≤ x8 → (x_h M p0).1 = 26 ∧ (x_h M p1).1 = 19 ∧ (∃ b4, x_r M p0 5 = some b4 ∧ Call G d 0 0 mX10_load [.ref p0, .int x8, .int (x_i M p1 8), .ref b4] M (fun r5 M6 => ∃ v7 : Int32, r5 = some (.int v7) ∧ (x_h M6 p0).1 = 26 ∧ (∃ b9, x_r M6 p0 0 = some b9 ∧ Call G d 0 0 mJ9_min_7cf53 [.int x4, .int (((x_i M p0 11) * x7) + v7)] M6 (fun r10 M11 => ∃ v12 : Int32, r10 = some (.int v12) ∧ Call G d 0 0 mJ9_max_7cf53 [.int x3, .int v12] M11 (fun r13 M14 => ∃ v15 : Int32, r13 = some (.int v15) ∧ (x_h M14 b9).1 = 18 ∧ Call G d 0 0 mX2_meet [.ref b9, .int (v15 - x3)] M14 (fun r17 M18 => ∃ v19 : Int32, r17 = some (.int v19) ∧ (x_h M18 b9).1 = 18 ∧ Call G d 0 0 mX2_link [.ref b9, .int x6, .int x8, .int v19] M18 (fun r21 M22 => r21 = none ∧ LX10_weaveSums_212 G d rc rs p0 p1 x2 x3 x4 x5 x6 x7 (x8 + 1) (some (.int (((x_i M p0 11) * x7) + v7))) M22 Q))))))))) : LX10_weaveSums_212 G d rc rs p0 p1 x2 x3 x4 x5 x6 x7 x8 z9 M Q := by
  show Wk G (d + 1) rc rs mX10_weaveSums 212 _ _ M Q
  refine r_iload (pc := 212) (i := 8) dX10_weaveSums_212 rfl ?_
  refine r_iload (pc := 214) (i := 5) dX10_weaveSums_214 rfl ?_
  refine r_icmp_ge (pc := 216) (tgt := 280) dX10_weaveSums_216 (by decide) (fun c1 => ?_) (fun c1 => ?_)
  · replace h := h.1 c1
    refine r_iinc (pc := 280) (i := 6) (v := _ + 1) dX10_weaveSums_280 rfl rfl rfl ?_
    refine r_goto (pc := 283) (tgt := 156) dX10_weaveSums_283 (by decide) ?_
    exact h
  · replace h := h.2 c1
    refine r_aload_n (pc := 219) (i := 0) dX10_weaveSums_219 rfl rfl ?_
    obtain ⟨k2, h⟩ := h
    refine r_geti (pc := 220) flX10_57 dX10_weaveSums_220 (Or.inl rfl) k2 ?_
    refine r_iload (pc := 223) (i := 7) dX10_weaveSums_223 rfl ?_
    refine r_imul (pc := 225) dX10_weaveSums_225 ?_
    refine r_aload_n (pc := 226) (i := 0) dX10_weaveSums_226 rfl rfl ?_
    refine r_iload (pc := 227) (i := 8) dX10_weaveSums_227 rfl ?_
    refine r_aload_n (pc := 229) (i := 1) dX10_weaveSums_229 rfl rfl ?_
    obtain ⟨k3, h⟩ := h
    refine r_geti (pc := 230) flX10_145 dX10_weaveSums_230 (Or.inl rfl) k3 ?_
    refine r_aload_n (pc := 233) (i := 0) dX10_weaveSums_233 rfl rfl ?_
    obtain ⟨b4, hb4, h⟩ := h
    refine r_getr (pc := 234) flX10_37 dX10_weaveSums_234 rfl k2 hb4 ?_
    refine r_callV (pc := 237) (ci := 10) (as := [_, _, _]) (st := [_]) okX10_load lkX10_228 inX10_load seX10_load ⟨_, rfl, rfl⟩ dX10_weaveSums_237 rfl k2 (Nat.le_of_ble_eq_true rfl) (Nat.zero_le _) (Nat.zero_le _) (Call.mono h (fun r5 M6 h => ?_))
    obtain ⟨v7, rfl, h⟩ := h
    refine r_iadd (pc := 240) dX10_weaveSums_240 ?_
    refine r_istore (pc := 241) (i := 9) dX10_weaveSums_241 rfl (Nat.le_of_ble_eq_true rfl) ?_
    refine r_aload_n (pc := 243) (i := 0) dX10_weaveSums_243 rfl rfl ?_
    obtain ⟨k8, h⟩ := h
    obtain ⟨b9, hb9, h⟩ := h
    refine r_getr (pc := 244) flX10_12 dX10_weaveSums_244 rfl k8 hb9 ?_
    refine r_iload (pc := 247) (i := 6) dX10_weaveSums_247 rfl ?_
    refine r_iload (pc := 249) (i := 8) dX10_weaveSums_249 rfl ?_
    refine r_aload_n (pc := 251) (i := 0) dX10_weaveSums_251 rfl rfl ?_
    refine r_getr (pc := 252) flX10_12 dX10_weaveSums_252 rfl k8 hb9 ?_
    refine r_iload_n (pc := 255) (i := 3) dX10_weaveSums_255 rfl rfl ?_
    refine r_iload (pc := 256) (i := 4) dX10_weaveSums_256 rfl ?_
    refine r_iload (pc := 258) (i := 9) dX10_weaveSums_258 rfl ?_
    refine r_callS (pc := 260) (as := [_, _]) (st := [_, _, _, _, _]) okJ9_min_7cf53 lkX10_164 stJ9_min_7cf53 dX10_weaveSums_260 rfl (Nat.le_of_ble_eq_true rfl) (Nat.zero_le _) (Nat.zero_le _) (Call.mono h (fun r10 M11 h => ?_))
    obtain ⟨v12, rfl, h⟩ := h
    refine r_callS (pc := 263) (as := [_, _]) (st := [_, _, _, _]) okJ9_max_7cf53 lkX10_185 stJ9_max_7cf53 dX10_weaveSums_263 rfl (Nat.le_of_ble_eq_true rfl) (Nat.zero_le _) (Nat.zero_le _) (Call.mono h (fun r13 M14 h => ?_))
    obtain ⟨v15, rfl, h⟩ := h
    refine r_iload_n (pc := 266) (i := 3) dX10_weaveSums_266 rfl rfl ?_
    refine r_isub (pc := 267) dX10_weaveSums_267 ?_
    obtain ⟨k16, h⟩ := h
    refine r_callV (pc := 268) (ci := 2) (as := [_]) (st := [_, _, _]) okX2_meet lkX10_63 inX2_meet seX2_meet ⟨_, rfl, rfl⟩ dX10_weaveSums_268 rfl k16 (Nat.le_of_ble_eq_true rfl) (Nat.zero_le _) (Nat.zero_le _) (Call.mono h (fun r17 M18 h => ?_))
    obtain ⟨v19, rfl, h⟩ := h
    obtain ⟨k20, h⟩ := h
    refine r_callV (pc := 271) (ci := 2) (as := [_, _, _]) (st := []) okX2_link lkX10_80 inX2_link seX2_link ⟨_, rfl, rfl⟩ dX10_weaveSums_271 rfl k20 (Nat.le_of_ble_eq_true rfl) (Nat.zero_le _) (Nat.zero_le _) (Call.mono h (fun r21 M22 h => ?_))
    obtain ⟨rfl, h⟩ := h
    refine r_iinc (pc := 274) (i := 8) (v := _ + 1) dX10_weaveSums_274 rfl rfl rfl ?_
    refine r_goto (pc := 277) (tgt := 212) dX10_weaveSums_277 (by decide) ?_
    exact h
theorem eX10_compares {G : GG} {d rc rs : Nat} (a1 : Int32) (a2 : Int32)  {M : Mem} {Q : Option Value → Mem → Prop} (h : (¬ a1 = 16 → (¬ a1 = 17 → (0 < a2 → ((0 : Int32) = 0 → Q (some (.int 0)) M) ∧ (¬ (0 : Int32) = 0 → Q (some (.int 1)) M)) ∧ (¬ 0 < a2 → ((1 : Int32) = 0 → Q (some (.int 0)) M) ∧ (¬ (1 : Int32) = 0 → Q (some (.int 1)) M))) ∧ (a1 = 17 → (0 ≤ a2 → ((0 : Int32) = 0 → Q (some (.int 0)) M) ∧ (¬ (0 : Int32) = 0 → Q (some (.int 1)) M)) ∧ (¬ 0 ≤ a2 → ((1 : Int32) = 0 → Q (some (.int 0)) M) ∧ (¬ (1 : Int32) = 0 → Q (some (.int 1)) M)))) ∧ (a1 = 16 → (¬ a2 = 0 → ((0 : Int32) = 0 → Q (some (.int 0)) M) ∧ (¬ (0 : Int32) = 0 → Q (some (.int 1)) M)) ∧ (a2 = 0 → ((1 : Int32) = 0 → Q (some (.int 0)) M) ∧ (¬ (1 : Int32) = 0 → Q (some (.int 1)) M)))) : Call G (d + 1) rc rs mX10_compares [.int a1, .int a2] M Q := by
  refine call_of (by decide) (Nat.le_of_ble_eq_true rfl) ?_
  show Wk G (d + 1) rc rs mX10_compares 0 [some (.int a1), some (.int a2), none] [] M Q
  refine r_iload_n (pc := 0) (i := 0) dX10_compares_0 rfl rfl ?_
  refine r_bipush (pc := 1) (v := 16) dX10_compares_1 (by decide) ?_
  refine r_icmp_ne (pc := 3) (tgt := 18) dX10_compares_3 (by decide) (fun c1 => ?_) (fun c1 => ?_)
  · replace h := h.1 c1
    refine r_iload_n (pc := 18) (i := 0) dX10_compares_18 rfl rfl ?_
    refine r_bipush (pc := 19) (v := 17) dX10_compares_19 (by decide) ?_
    refine r_icmp_ne (pc := 21) (tgt := 36) dX10_compares_21 (by decide) (fun c2 => ?_) (fun c2 => ?_)
    · replace h := h.1 c2
      refine r_iload_n (pc := 36) (i := 1) dX10_compares_36 rfl rfl ?_
      refine r_if_gt (pc := 37) (tgt := 44) dX10_compares_37 (by decide) (fun c3 => ?_) (fun c3 => ?_)
      · replace h := h.1 c3
        refine r_iconst (pc := 44) (v := 0) dX10_compares_44 (by decide) ?_
        refine r_istore_n (pc := 45) (i := 2) dX10_compares_45 rfl rfl (Nat.le_of_ble_eq_true rfl) ?_
        refine r_iload_n (pc := 46) (i := 2) dX10_compares_46 rfl rfl ?_
        refine r_if_eq (pc := 47) (tgt := 54) dX10_compares_47 (by decide) (fun c4 => ?_) (fun c4 => ?_)
        · replace h := h.1 c4
          refine r_iconst (pc := 54) (v := 0) dX10_compares_54 (by decide) ?_
          exact r_iret (pc := 55) dX10_compares_55 rfl h
        · replace h := h.2 c4
          refine r_iconst (pc := 50) (v := 1) dX10_compares_50 (by decide) ?_
          refine r_goto (pc := 51) (tgt := 55) dX10_compares_51 (by decide) ?_
          exact r_iret (pc := 55) dX10_compares_55 rfl h
      · replace h := h.2 c3
        refine r_iconst (pc := 40) (v := 1) dX10_compares_40 (by decide) ?_
        refine r_goto (pc := 41) (tgt := 45) dX10_compares_41 (by decide) ?_
        refine r_istore_n (pc := 45) (i := 2) dX10_compares_45 rfl rfl (Nat.le_of_ble_eq_true rfl) ?_
        refine r_iload_n (pc := 46) (i := 2) dX10_compares_46 rfl rfl ?_
        refine r_if_eq (pc := 47) (tgt := 54) dX10_compares_47 (by decide) (fun c5 => ?_) (fun c5 => ?_)
        · replace h := h.1 c5
          refine r_iconst (pc := 54) (v := 0) dX10_compares_54 (by decide) ?_
          exact r_iret (pc := 55) dX10_compares_55 rfl h
        · replace h := h.2 c5
          refine r_iconst (pc := 50) (v := 1) dX10_compares_50 (by decide) ?_
          refine r_goto (pc := 51) (tgt := 55) dX10_compares_51 (by decide) ?_
          exact r_iret (pc := 55) dX10_compares_55 rfl h
    · replace h := h.2 c2
      refine r_iload_n (pc := 24) (i := 1) dX10_compares_24 rfl rfl ?_
      refine r_if_ge (pc := 25) (tgt := 32) dX10_compares_25 (by decide) (fun c6 => ?_) (fun c6 => ?_)
      · replace h := h.1 c6
        refine r_iconst (pc := 32) (v := 0) dX10_compares_32 (by decide) ?_
        refine r_goto (pc := 33) (tgt := 45) dX10_compares_33 (by decide) ?_
        refine r_istore_n (pc := 45) (i := 2) dX10_compares_45 rfl rfl (Nat.le_of_ble_eq_true rfl) ?_
        refine r_iload_n (pc := 46) (i := 2) dX10_compares_46 rfl rfl ?_
        refine r_if_eq (pc := 47) (tgt := 54) dX10_compares_47 (by decide) (fun c7 => ?_) (fun c7 => ?_)
        · replace h := h.1 c7
          refine r_iconst (pc := 54) (v := 0) dX10_compares_54 (by decide) ?_
          exact r_iret (pc := 55) dX10_compares_55 rfl h
        · replace h := h.2 c7
          refine r_iconst (pc := 50) (v := 1) dX10_compares_50 (by decide) ?_
          refine r_goto (pc := 51) (tgt := 55) dX10_compares_51 (by decide) ?_
          exact r_iret (pc := 55) dX10_compares_55 rfl h
      · replace h := h.2 c6
        refine r_iconst (pc := 28) (v := 1) dX10_compares_28 (by decide) ?_
        refine r_goto (pc := 29) (tgt := 45) dX10_compares_29 (by decide) ?_
        refine r_istore_n (pc := 45) (i := 2) dX10_compares_45 rfl rfl (Nat.le_of_ble_eq_true rfl) ?_
        refine r_iload_n (pc := 46) (i := 2) dX10_compares_46 rfl rfl ?_
        refine r_if_eq (pc := 47) (tgt := 54) dX10_compares_47 (by decide) (fun c8 => ?_) (fun c8 => ?_)
        · replace h := h.1 c8
          refine r_iconst (pc := 54) (v := 0) dX10_compares_54 (by decide) ?_
          exact r_iret (pc := 55) dX10_compares_55 rfl h
        · replace h := h.2 c8
          refine r_iconst (pc := 50) (v := 1) dX10_compares_50 (by decide) ?_
          refine r_goto (pc := 51) (tgt := 55) dX10_compares_51 (by decide) ?_
          exact r_iret (pc := 55) dX10_compares_55 rfl h
  · replace h := h.2 c1
    refine r_iload_n (pc := 6) (i := 1) dX10_compares_6 rfl rfl ?_
    refine r_if_ne (pc := 7) (tgt := 14) dX10_compares_7 (by decide) (fun c9 => ?_) (fun c9 => ?_)
    · replace h := h.1 c9
      refine r_iconst (pc := 14) (v := 0) dX10_compares_14 (by decide) ?_
      refine r_goto (pc := 15) (tgt := 45) dX10_compares_15 (by decide) ?_
      refine r_istore_n (pc := 45) (i := 2) dX10_compares_45 rfl rfl (Nat.le_of_ble_eq_true rfl) ?_
      refine r_iload_n (pc := 46) (i := 2) dX10_compares_46 rfl rfl ?_
      refine r_if_eq (pc := 47) (tgt := 54) dX10_compares_47 (by decide) (fun c10 => ?_) (fun c10 => ?_)
      · replace h := h.1 c10
        refine r_iconst (pc := 54) (v := 0) dX10_compares_54 (by decide) ?_
        exact r_iret (pc := 55) dX10_compares_55 rfl h
      · replace h := h.2 c10
        refine r_iconst (pc := 50) (v := 1) dX10_compares_50 (by decide) ?_
        refine r_goto (pc := 51) (tgt := 55) dX10_compares_51 (by decide) ?_
        exact r_iret (pc := 55) dX10_compares_55 rfl h
    · replace h := h.2 c9
      refine r_iconst (pc := 10) (v := 1) dX10_compares_10 (by decide) ?_
      refine r_goto (pc := 11) (tgt := 45) dX10_compares_11 (by decide) ?_
      refine r_istore_n (pc := 45) (i := 2) dX10_compares_45 rfl rfl (Nat.le_of_ble_eq_true rfl) ?_
      refine r_iload_n (pc := 46) (i := 2) dX10_compares_46 rfl rfl ?_
      refine r_if_eq (pc := 47) (tgt := 54) dX10_compares_47 (by decide) (fun c11 => ?_) (fun c11 => ?_)
      · replace h := h.1 c11
        refine r_iconst (pc := 54) (v := 0) dX10_compares_54 (by decide) ?_
        exact r_iret (pc := 55) dX10_compares_55 rfl h
      · replace h := h.2 c11
        refine r_iconst (pc := 50) (v := 1) dX10_compares_50 (by decide) ?_
        refine r_goto (pc := 51) (tgt := 55) dX10_compares_51 (by decide) ?_
        exact r_iret (pc := 55) dX10_compares_55 rfl h
abbrev LX10_weaveBound_111 (G : GG) (d rc rs : Nat) (p0 : Nat) (p1 : Nat) (p2 : Nat) (p3 : Nat) (x4 : Int32) (l5 : Int64) (x7 : Int32) (z8 : Option Value) (z9 : Option Value) (z10 : Option Value) (M : Mem) (Q : Option Value → Mem → Prop) : Prop := Wk G (d + 1) rc rs mX10_weaveBound 111 [some (.ref p0), some (.ref p1), some (.ref p2), some (.ref p3), some (.int x4), some (.long l5), none, some (.int x7), z8, z9, z10] [] M Q
abbrev LX10_weaveBound_184 (G : GG) (d rc rs : Nat) (p0 : Nat) (p1 : Nat) (p2 : Nat) (p3 : Nat) (x4 : Int32) (l5 : Int64) (x7 : Int32) (z8 : Option Value) (z9 : Option Value) (z10 : Option Value) (u0 : Int32) (M : Mem) (Q : Option Value → Mem → Prop) : Prop := Wk G (d + 1) rc rs mX10_weaveBound 184 [some (.ref p0), some (.ref p1), some (.ref p2), some (.ref p3), some (.int x4), some (.long l5), none, some (.int x7), z8, z9, z10] [.int u0] M Q
abbrev LX10_weaveBound_220 (G : GG) (d rc rs : Nat) (p0 : Nat) (p1 : Nat) (p2 : Nat) (p3 : Nat) (x4 : Int32) (l5 : Int64) (x7 : Int32) (x8 : Int32) (x9 : Int32) (z10 : Option Value) (M : Mem) (Q : Option Value → Mem → Prop) : Prop := Wk G (d + 1) rc rs mX10_weaveBound 220 [some (.ref p0), some (.ref p1), some (.ref p2), some (.ref p3), some (.int x4), some (.long l5), none, some (.int x7), some (.int x8), some (.int x9), z10] [] M Q
theorem eX10_weaveBound {G : GG} {d rc rs : Nat} (o : Nat) (a1 : Nat) (a2 : Nat)  {M : Mem} {Q : Option Value → Mem → Prop} (h : (x_h M a1).1 = 19 ∧ (x_h M a2).1 = 19 ∧ (¬ (x_i M a1 8) = (x_i M a2 8) → ∃ b4, x_r M a2 2 = some b4 ∧ (x_h M o).1 = 26 ∧ (∃ b6, x_r M o 3 = some b6 ∧ Call G d 0 0 mX10_fillViews [.ref o, .ref b6, .int (x_i M a2 8), .int (x_i M a1 8)] M (fun r7 M8 => r7 = none ∧ (x_h M8 a1).1 = 19 ∧ (x_h M8 o).1 = 26 ∧ Call G d 0 0 mX10_fan [.ref o, .int (x_i M8 a1 8)] M8 (fun r11 M12 => ∃ v13 : Int32, r11 = some (.int v13) ∧ Call G d 0 0 mJ9_min_7cf53 [.int v13, .int 27] M12 (fun r14 M15 => ∃ v16 : Int32, r14 = some (.int v16) ∧ Call G d 0 0 mX10_takers [.ref b4] M15 (fun r17 M18 => ∃ v19 : Int64, r17 = some (.long v19) ∧ (x_h M18 o).1 = 26 ∧ (∃ b21, x_r M18 o 0 = some b21 ∧ (x_h M18 b21).1 = 18 ∧ Call G d 0 0 mX2_open [.ref b21, .int 300, .int v16] M18 (fun r23 M24 => r23 = none ∧ (x_h M24 o).1 = 26 ∧ (∀ M26, M26 = x_si M24 o 10 0 → ∃ b27, x_r M26 o 8 = some b27 ∧ Call G d 0 0 mJ7_fill_53178 [.ref b27, .int (-1)] M26 (fun r28 M29 => r28 = none ∧ (x_h M29 o).1 = 26 ∧ (∃ b31, x_r M29 o 0 = some b31 ∧ Call G d 0 0 mX10_firstSet [.ref o, .ref b4] M29 (fun r32 M33 => ∃ v34 : Int64, r32 = some (.long v34) ∧ (x_h M33 o).1 = 26 ∧ Call G d 0 0 mX10_meetSet [.ref o, .long v34] M33 (fun r36 M37 => ∃ v38 : Int32, r36 = some (.int v38) ∧ (x_h M37 b31).1 = 18 ∧ Call G d 0 0 mX2_meet [.ref b31, .int v38] M37 (fun r40 M41 => ∃ v42 : Int32, r40 = some (.int v42) ∧ LX10_weaveBound_111 G d rc rs o a1 a2 b4 v16 v19 0 none none none M41 Q)))))))))))))) ∧ ((x_i M a1 8) = (x_i M a2 8) → ∃ b43, x_r M a1 2 = some b43 ∧ ∃ b44, x_r M a2 2 = some b44 ∧ (x_h M b43).1 = 17 ∧ Call G d 0 0 mX1_become [.ref b43, .ref b44] M (fun r46 M47 => r46 = none ∧ Q (some (.int 1)) M47))) : Call G (d + 1) rc rs mX10_weaveBound [.ref o, .ref a1, .ref a2] M Q := by
  refine call_of (by decide) (Nat.le_of_ble_eq_true rfl) ?_
  show Wk G (d + 1) rc rs mX10_weaveBound 0 [some (.ref o), some (.ref a1), some (.ref a2), none, none, none, none, none, none, none, none] [] M Q
  refine r_aload_n (pc := 0) (i := 1) dX10_weaveBound_0 rfl rfl ?_
  obtain ⟨k1, h⟩ := h
  refine r_geti (pc := 1) flX10_145 dX10_weaveBound_1 (Or.inl rfl) k1 ?_
  refine r_aload_n (pc := 4) (i := 2) dX10_weaveBound_4 rfl rfl ?_
  obtain ⟨k2, h⟩ := h
  refine r_geti (pc := 5) flX10_145 dX10_weaveBound_5 (Or.inl rfl) k2 ?_
  refine r_icmp_ne (pc := 8) (tgt := 24) dX10_weaveBound_8 (by decide) (fun c3 => ?_) (fun c3 => ?_)
  · replace h := h.1 c3
    refine r_aload_n (pc := 24) (i := 2) dX10_weaveBound_24 rfl rfl ?_
    obtain ⟨b4, hb4, h⟩ := h
    refine r_getr (pc := 25) flX10_123 dX10_weaveBound_25 rfl k2 hb4 ?_
    refine r_astore_n (pc := 28) (i := 3) dX10_weaveBound_28 rfl rfl (Nat.le_of_ble_eq_true rfl) ?_
    refine r_aload_n (pc := 29) (i := 0) dX10_weaveBound_29 rfl rfl ?_
    refine r_aload_n (pc := 30) (i := 0) dX10_weaveBound_30 rfl rfl ?_
    obtain ⟨k5, h⟩ := h
    obtain ⟨b6, hb6, h⟩ := h
    refine r_getr (pc := 31) flX10_30 dX10_weaveBound_31 rfl k5 hb6 ?_
    refine r_aload_n (pc := 34) (i := 2) dX10_weaveBound_34 rfl rfl ?_
    refine r_geti (pc := 35) flX10_145 dX10_weaveBound_35 (Or.inl rfl) k2 ?_
    refine r_aload_n (pc := 38) (i := 1) dX10_weaveBound_38 rfl rfl ?_
    refine r_geti (pc := 39) flX10_145 dX10_weaveBound_39 (Or.inl rfl) k1 ?_
    refine r_callV (pc := 42) (ci := 10) (as := [_, _, _]) (st := []) okX10_fillViews lkX10_169 inX10_fillViews seX10_fillViews ⟨_, rfl, rfl⟩ dX10_weaveBound_42 rfl k5 (Nat.le_of_ble_eq_true rfl) (Nat.zero_le _) (Nat.zero_le _) (Call.mono h (fun r7 M8 h => ?_))
    obtain ⟨rfl, h⟩ := h
    refine r_aload_n (pc := 45) (i := 0) dX10_weaveBound_45 rfl rfl ?_
    refine r_aload_n (pc := 46) (i := 1) dX10_weaveBound_46 rfl rfl ?_
    obtain ⟨k9, h⟩ := h
    refine r_geti (pc := 47) flX10_145 dX10_weaveBound_47 (Or.inl rfl) k9 ?_
    obtain ⟨k10, h⟩ := h
    refine r_callV (pc := 50) (ci := 10) (as := [_]) (st := []) okX10_fan lkX10_157 inX10_fan seX10_fan ⟨_, rfl, rfl⟩ dX10_weaveBound_50 rfl k10 (Nat.le_of_ble_eq_true rfl) (Nat.zero_le _) (Nat.zero_le _) (Call.mono h (fun r11 M12 h => ?_))
    obtain ⟨v13, rfl, h⟩ := h
    refine r_bipush (pc := 53) (v := 27) dX10_weaveBound_53 (by decide) ?_
    refine r_callS (pc := 55) (as := [_, _]) (st := []) okJ9_min_7cf53 lkX10_164 stJ9_min_7cf53 dX10_weaveBound_55 rfl (Nat.le_of_ble_eq_true rfl) (Nat.zero_le _) (Nat.zero_le _) (Call.mono h (fun r14 M15 h => ?_))
    obtain ⟨v16, rfl, h⟩ := h
    refine r_istore (pc := 58) (i := 4) dX10_weaveBound_58 rfl (Nat.le_of_ble_eq_true rfl) ?_
    refine r_aload_n (pc := 60) (i := 3) dX10_weaveBound_60 rfl rfl ?_
    refine r_callS (pc := 61) (as := [_]) (st := []) okX10_takers lkX10_238 stX10_takers dX10_weaveBound_61 rfl (Nat.le_of_ble_eq_true rfl) (Nat.zero_le _) (Nat.zero_le _) (Call.mono h (fun r17 M18 h => ?_))
    obtain ⟨v19, rfl, h⟩ := h
    refine r_lstore (pc := 64) (i := 5) dX10_weaveBound_64 rfl (Nat.le_of_ble_eq_true rfl) ?_
    refine r_aload_n (pc := 66) (i := 0) dX10_weaveBound_66 rfl rfl ?_
    obtain ⟨k20, h⟩ := h
    obtain ⟨b21, hb21, h⟩ := h
    refine r_getr (pc := 67) flX10_12 dX10_weaveBound_67 rfl k20 hb21 ?_
    refine r_sipush (pc := 70) (v := 300) dX10_weaveBound_70 (by decide) ?_
    refine r_iload (pc := 73) (i := 4) dX10_weaveBound_73 rfl ?_
    obtain ⟨k22, h⟩ := h
    refine r_callV (pc := 75) (ci := 2) (as := [_, _]) (st := []) okX2_open lkX10_60 inX2_open seX2_open ⟨_, rfl, rfl⟩ dX10_weaveBound_75 rfl k22 (Nat.le_of_ble_eq_true rfl) (Nat.zero_le _) (Nat.zero_le _) (Call.mono h (fun r23 M24 h => ?_))
    obtain ⟨rfl, h⟩ := h
    refine r_aload_n (pc := 78) (i := 0) dX10_weaveBound_78 rfl rfl ?_
    refine r_iconst (pc := 79) (v := 0) dX10_weaveBound_79 (by decide) ?_
    obtain ⟨k25, h⟩ := h
    refine r_puti (pc := 80) flX10_53 dX10_weaveBound_80 (Or.inl rfl) (fun q hq => by cases hq; rfl) k25 ?_
    replace h := h _ rfl
    refine r_aload_n (pc := 83) (i := 0) dX10_weaveBound_83 rfl rfl ?_
    obtain ⟨b27, hb27, h⟩ := h
    refine r_getr (pc := 84) flX10_47 dX10_weaveBound_84 rfl k25 hb27 ?_
    refine r_iconst (pc := 87) (v := (-1)) dX10_weaveBound_87 (by decide) ?_
    refine r_callS (pc := 88) (as := [_, _]) (st := []) okJ7_fill_53178 lkX10_242 stJ7_fill_53178 dX10_weaveBound_88 rfl (Nat.le_of_ble_eq_true rfl) (Nat.zero_le _) (Nat.zero_le _) (Call.mono h (fun r28 M29 h => ?_))
    obtain ⟨rfl, h⟩ := h
    refine r_aload_n (pc := 91) (i := 0) dX10_weaveBound_91 rfl rfl ?_
    obtain ⟨k30, h⟩ := h
    obtain ⟨b31, hb31, h⟩ := h
    refine r_getr (pc := 92) flX10_12 dX10_weaveBound_92 rfl k30 hb31 ?_
    refine r_aload_n (pc := 95) (i := 0) dX10_weaveBound_95 rfl rfl ?_
    refine r_aload_n (pc := 96) (i := 0) dX10_weaveBound_96 rfl rfl ?_
    refine r_aload_n (pc := 97) (i := 3) dX10_weaveBound_97 rfl rfl ?_
    refine r_callV (pc := 98) (ci := 10) (as := [_]) (st := [_, _]) okX10_firstSet lkX10_248 inX10_firstSet seX10_firstSet ⟨_, rfl, rfl⟩ dX10_weaveBound_98 rfl k30 (Nat.le_of_ble_eq_true rfl) (Nat.zero_le _) (Nat.zero_le _) (Call.mono h (fun r32 M33 h => ?_))
    obtain ⟨v34, rfl, h⟩ := h
    obtain ⟨k35, h⟩ := h
    refine r_callV (pc := 101) (ci := 10) (as := [_]) (st := [_]) okX10_meetSet lkX10_251 inX10_meetSet seX10_meetSet ⟨_, rfl, rfl⟩ dX10_weaveBound_101 rfl k35 (Nat.le_of_ble_eq_true rfl) (Nat.zero_le _) (Nat.zero_le _) (Call.mono h (fun r36 M37 h => ?_))
    obtain ⟨v38, rfl, h⟩ := h
    obtain ⟨k39, h⟩ := h
    refine r_callV (pc := 104) (ci := 2) (as := [_]) (st := []) okX2_meet lkX10_63 inX2_meet seX2_meet ⟨_, rfl, rfl⟩ dX10_weaveBound_104 rfl k39 (Nat.le_of_ble_eq_true rfl) (Nat.zero_le _) (Nat.zero_le _) (Call.mono h (fun r40 M41 h => ?_))
    obtain ⟨v42, rfl, h⟩ := h
    refine r_pop (pc := 107) dX10_weaveBound_107 rfl ?_
    refine r_iconst (pc := 108) (v := 0) dX10_weaveBound_108 (by decide) ?_
    refine r_istore (pc := 109) (i := 7) dX10_weaveBound_109 rfl (Nat.le_of_ble_eq_true rfl) ?_
    exact h
  · replace h := h.2 c3
    refine r_aload_n (pc := 11) (i := 1) dX10_weaveBound_11 rfl rfl ?_
    obtain ⟨b43, hb43, h⟩ := h
    refine r_getr (pc := 12) flX10_123 dX10_weaveBound_12 rfl k1 hb43 ?_
    refine r_aload_n (pc := 15) (i := 2) dX10_weaveBound_15 rfl rfl ?_
    obtain ⟨b44, hb44, h⟩ := h
    refine r_getr (pc := 16) flX10_123 dX10_weaveBound_16 rfl k2 hb44 ?_
    obtain ⟨k45, h⟩ := h
    refine r_callV (pc := 19) (ci := 1) (as := [_]) (st := []) okX1_become lkX10_124 inX1_become seX1_become ⟨_, rfl, rfl⟩ dX10_weaveBound_19 rfl k45 (Nat.le_of_ble_eq_true rfl) (Nat.zero_le _) (Nat.zero_le _) (Call.mono h (fun r46 M47 h => ?_))
    obtain ⟨rfl, h⟩ := h
    refine r_iconst (pc := 22) (v := 1) dX10_weaveBound_22 (by decide) ?_
    exact r_zret (pc := 23) dX10_weaveBound_23 rfl (Or.inr rfl) h
theorem vX10_weaveBound_111 {G : GG} {d rc rs : Nat} (p0 : Nat) (p1 : Nat) (p2 : Nat) (p3 : Nat) (x4 : Int32) (l5 : Int64) (x7 : Int32) (z8 : Option Value) (z9 : Option Value) (z10 : Option Value) (hz8 : c1 z8 = true) (hz9 : c1 z9 = true) (hz10 : c1 z10 = true) {M : Mem} {Q : Option Value → Mem → Prop} (h : (x_h M p0).1 = 26 ∧ ((x_i M p0 10) ≤ x7 → ∃ b3, x_r M p0 0 = some b3 ∧ (x_h M p1).1 = 19 ∧ (∃ b5, x_r M p1 2 = some b5 ∧ (x_h M b3).1 = 18 ∧ Call G d 0 0 mX2_draw [.ref b3, .ref b5, .int 40] M (fun r7 M8 => ∃ v9 : Int32, r7 = some (.int v9) ∧ (v9 = 0 ∨ v9 = 1) ∧ Q (some (.int v9)) M8))) ∧ (¬ (x_i M p0 10) ≤ x7 → (300 ≤ x7 → ∃ b11, x_r M p0 0 = some b11 ∧ (x_h M p1).1 = 19 ∧ (∃ b13, x_r M p1 2 = some b13 ∧ (x_h M b11).1 = 18 ∧ Call G d 0 0 mX2_draw [.ref b11, .ref b13, .int 40] M (fun r15 M16 => ∃ v17 : Int32, r15 = some (.int v17) ∧ (v17 = 0 ∨ v17 = 1) ∧ Q (some (.int v17)) M16))) ∧ (¬ 300 ≤ x7 → (x_h M p1).1 = 19 ∧ (¬ (x_i M p1 3) = 7 → ∃ b20, x_r M p0 7 = some b20 ∧ (x_h M b20).1 = 2 ∧ vp_in x7 (x_h M b20).2 ∧ (¬ (lg_cmp ((x_l M b20 x7.toNatClampNeg) &&& (l5 ^^^ (-1))) 0) = 0 → LX10_weaveBound_184 G d rc rs p0 p1 p2 p3 x4 l5 x7 z8 z9 z10 0 M Q) ∧ ((lg_cmp ((x_l M b20 x7.toNatClampNeg) &&& (l5 ^^^ (-1))) 0) = 0 → LX10_weaveBound_184 G d rc rs p0 p1 p2 p3 x4 l5 x7 z8 z9 z10 1 M Q)) ∧ ((x_i M p1 3) = 7 → ∃ b24, x_r M p0 7 = some b24 ∧ (x_h M b24).1 = 2 ∧ vp_in x7 (x_h M b24).2 ∧ ((lg_cmp ((x_l M b24 x7.toNatClampNeg) &&& l5) 0) = 0 → LX10_weaveBound_184 G d rc rs p0 p1 p2 p3 x4 l5 x7 z8 z9 z10 0 M Q) ∧ (¬ (lg_cmp ((x_l M b24 x7.toNatClampNeg) &&& l5) 0) = 0 → LX10_weaveBound_184 G d rc rs p0 p1 p2 p3 x4 l5 x7 z8 z9 z10 1 M Q))))) : LX10_weaveBound_111 G d rc rs p0 p1 p2 p3 x4 l5 x7 z8 z9 z10 M Q := by
  show Wk G (d + 1) rc rs mX10_weaveBound 111 _ _ M Q
  refine r_iload (pc := 111) (i := 7) dX10_weaveBound_111 rfl ?_
  refine r_aload_n (pc := 113) (i := 0) dX10_weaveBound_113 rfl rfl ?_
  obtain ⟨k1, h⟩ := h
  refine r_geti (pc := 114) flX10_53 dX10_weaveBound_114 (Or.inl rfl) k1 ?_
  refine r_icmp_ge (pc := 117) (tgt := 280) dX10_weaveBound_117 (by decide) (fun c2 => ?_) (fun c2 => ?_)
  · replace h := h.1 c2
    refine r_aload_n (pc := 280) (i := 0) dX10_weaveBound_280 rfl rfl ?_
    obtain ⟨b3, hb3, h⟩ := h
    refine r_getr (pc := 281) flX10_12 dX10_weaveBound_281 rfl k1 hb3 ?_
    refine r_aload_n (pc := 284) (i := 1) dX10_weaveBound_284 rfl rfl ?_
    obtain ⟨k4, h⟩ := h
    obtain ⟨b5, hb5, h⟩ := h
    refine r_getr (pc := 285) flX10_123 dX10_weaveBound_285 rfl k4 hb5 ?_
    refine r_bipush (pc := 288) (v := 40) dX10_weaveBound_288 (by decide) ?_
    obtain ⟨k6, h⟩ := h
    refine r_callV (pc := 290) (ci := 2) (as := [_, _]) (st := []) okX2_draw lkX10_84 inX2_draw seX2_draw ⟨_, rfl, rfl⟩ dX10_weaveBound_290 rfl k6 (Nat.le_of_ble_eq_true rfl) (Nat.zero_le _) (Nat.zero_le _) (Call.mono h (fun r7 M8 h => ?_))
    obtain ⟨v9, rfl, h⟩ := h
    exact r_zret (pc := 293) dX10_weaveBound_293 rfl h.1 h.2
  · replace h := h.2 c2
    refine r_iload (pc := 120) (i := 7) dX10_weaveBound_120 rfl ?_
    refine r_sipush (pc := 122) (v := 300) dX10_weaveBound_122 (by decide) ?_
    refine r_icmp_ge (pc := 125) (tgt := 280) dX10_weaveBound_125 (by decide) (fun c10 => ?_) (fun c10 => ?_)
    · replace h := h.1 c10
      refine r_aload_n (pc := 280) (i := 0) dX10_weaveBound_280 rfl rfl ?_
      obtain ⟨b11, hb11, h⟩ := h
      refine r_getr (pc := 281) flX10_12 dX10_weaveBound_281 rfl k1 hb11 ?_
      refine r_aload_n (pc := 284) (i := 1) dX10_weaveBound_284 rfl rfl ?_
      obtain ⟨k12, h⟩ := h
      obtain ⟨b13, hb13, h⟩ := h
      refine r_getr (pc := 285) flX10_123 dX10_weaveBound_285 rfl k12 hb13 ?_
      refine r_bipush (pc := 288) (v := 40) dX10_weaveBound_288 (by decide) ?_
      obtain ⟨k14, h⟩ := h
      refine r_callV (pc := 290) (ci := 2) (as := [_, _]) (st := []) okX2_draw lkX10_84 inX2_draw seX2_draw ⟨_, rfl, rfl⟩ dX10_weaveBound_290 rfl k14 (Nat.le_of_ble_eq_true rfl) (Nat.zero_le _) (Nat.zero_le _) (Call.mono h (fun r15 M16 h => ?_))
      obtain ⟨v17, rfl, h⟩ := h
      exact r_zret (pc := 293) dX10_weaveBound_293 rfl h.1 h.2
    · replace h := h.2 c10
      refine r_aload_n (pc := 128) (i := 1) dX10_weaveBound_128 rfl rfl ?_
      obtain ⟨k18, h⟩ := h
      refine r_geti (pc := 129) flX10_97 dX10_weaveBound_129 (Or.inl rfl) k18 ?_
      refine r_bipush (pc := 132) (v := 7) dX10_weaveBound_132 (by decide) ?_
      refine r_icmp_ne (pc := 134) (tgt := 160) dX10_weaveBound_134 (by decide) (fun c19 => ?_) (fun c19 => ?_)
      · replace h := h.1 c19
        refine r_aload_n (pc := 160) (i := 0) dX10_weaveBound_160 rfl rfl ?_
        obtain ⟨b20, hb20, h⟩ := h
        refine r_getr (pc := 161) flX10_43 dX10_weaveBound_161 rfl k1 hb20 ?_
        refine r_iload (pc := 164) (i := 7) dX10_weaveBound_164 rfl ?_
        obtain ⟨k21, h⟩ := h
        obtain ⟨i22, h⟩ := h
        refine r_lald (pc := 166) dX10_weaveBound_166 k21 i22 ?_
        refine r_lload (pc := 167) (i := 5) dX10_weaveBound_167 rfl ?_
        refine r_ldc2 (pc := 169) (v := (-1)) dX10_weaveBound_169 ww_969 ?_
        refine r_lxor (pc := 172) dX10_weaveBound_172 ?_
        refine r_land (pc := 173) dX10_weaveBound_173 ?_
        refine r_lconst (pc := 174) (v := 0) dX10_weaveBound_174 (by decide) ?_
        refine r_lcmp (pc := 175) dX10_weaveBound_175 ?_
        refine r_if_ne (pc := 176) (tgt := 183) dX10_weaveBound_176 (by decide) (fun c23 => ?_) (fun c23 => ?_)
        · replace h := h.1 c23
          refine r_iconst (pc := 183) (v := 0) dX10_weaveBound_183 (by decide) ?_
          exact h
        · replace h := h.2 c23
          refine r_iconst (pc := 179) (v := 1) dX10_weaveBound_179 (by decide) ?_
          refine r_goto (pc := 180) (tgt := 184) dX10_weaveBound_180 (by decide) ?_
          exact h
      · replace h := h.2 c19
        refine r_aload_n (pc := 137) (i := 0) dX10_weaveBound_137 rfl rfl ?_
        obtain ⟨b24, hb24, h⟩ := h
        refine r_getr (pc := 138) flX10_43 dX10_weaveBound_138 rfl k1 hb24 ?_
        refine r_iload (pc := 141) (i := 7) dX10_weaveBound_141 rfl ?_
        obtain ⟨k25, h⟩ := h
        obtain ⟨i26, h⟩ := h
        refine r_lald (pc := 143) dX10_weaveBound_143 k25 i26 ?_
        refine r_lload (pc := 144) (i := 5) dX10_weaveBound_144 rfl ?_
        refine r_land (pc := 146) dX10_weaveBound_146 ?_
        refine r_lconst (pc := 147) (v := 0) dX10_weaveBound_147 (by decide) ?_
        refine r_lcmp (pc := 148) dX10_weaveBound_148 ?_
        refine r_if_eq (pc := 149) (tgt := 156) dX10_weaveBound_149 (by decide) (fun c27 => ?_) (fun c27 => ?_)
        · replace h := h.1 c27
          refine r_iconst (pc := 156) (v := 0) dX10_weaveBound_156 (by decide) ?_
          refine r_goto (pc := 157) (tgt := 184) dX10_weaveBound_157 (by decide) ?_
          exact h
        · replace h := h.2 c27
          refine r_iconst (pc := 152) (v := 1) dX10_weaveBound_152 (by decide) ?_
          refine r_goto (pc := 153) (tgt := 184) dX10_weaveBound_153 (by decide) ?_
          exact h
theorem vX10_weaveBound_184 {G : GG} {d rc rs : Nat} (p0 : Nat) (p1 : Nat) (p2 : Nat) (p3 : Nat) (x4 : Int32) (l5 : Int64) (x7 : Int32) (z8 : Option Value) (z9 : Option Value) (z10 : Option Value) (u0 : Int32) (hz8 : c1 z8 = true) (hz9 : c1 z9 = true) (hz10 : c1 z10 = true) {M : Mem} {Q : Option Value → Mem → Prop} (h : (x_h M p0).1 = 26 ∧ (∃ b2, x_r M p0 0 = some b2 ∧ (u0 = 0 → (x_h M b2).1 = 18 ∧ Call G d 0 0 mX2_putMark [.ref b2, .int x7, .int 0] M (fun r5 M6 => r5 = none ∧ (x_h M6 p0).1 = 26 ∧ (∃ b8, x_r M6 p0 7 = some b8 ∧ (x_h M6 b8).1 = 2 ∧ vp_in x7 (x_h M6 b8).2 ∧ Call G d 0 0 mX10_spread [.ref p0, .ref p3, .long (x_l M6 b8 x7.toNatClampNeg)] M6 (fun r11 M12 => r11 = none ∧ LX10_weaveBound_220 G d rc rs p0 p1 p2 p3 x4 l5 x7 u0 0 z10 M12 Q)))) ∧ (¬ u0 = 0 → (x_h M b2).1 = 18 ∧ Call G d 0 0 mX2_putMark [.ref b2, .int x7, .int 1] M (fun r14 M15 => r14 = none ∧ (x_h M15 p0).1 = 26 ∧ (∃ b17, x_r M15 p0 7 = some b17 ∧ (x_h M15 b17).1 = 2 ∧ vp_in x7 (x_h M15 b17).2 ∧ Call G d 0 0 mX10_spread [.ref p0, .ref p3, .long (x_l M15 b17 x7.toNatClampNeg)] M15 (fun r20 M21 => r20 = none ∧ LX10_weaveBound_220 G d rc rs p0 p1 p2 p3 x4 l5 x7 u0 0 z10 M21 Q)))))) : LX10_weaveBound_184 G d rc rs p0 p1 p2 p3 x4 l5 x7 z8 z9 z10 u0 M Q := by
  show Wk G (d + 1) rc rs mX10_weaveBound 184 _ _ M Q
  refine r_istore (pc := 184) (i := 8) dX10_weaveBound_184 rfl (Nat.le_of_ble_eq_true rfl) ?_
  refine r_aload_n (pc := 186) (i := 0) dX10_weaveBound_186 rfl rfl ?_
  obtain ⟨k1, h⟩ := h
  obtain ⟨b2, hb2, h⟩ := h
  refine r_getr (pc := 187) flX10_12 dX10_weaveBound_187 rfl k1 hb2 ?_
  refine r_iload (pc := 190) (i := 7) dX10_weaveBound_190 rfl ?_
  refine r_iload (pc := 192) (i := 8) dX10_weaveBound_192 rfl ?_
  refine r_if_eq (pc := 194) (tgt := 201) dX10_weaveBound_194 (by decide) (fun c3 => ?_) (fun c3 => ?_)
  · replace h := h.1 c3
    refine r_iconst (pc := 201) (v := 0) dX10_weaveBound_201 (by decide) ?_
    obtain ⟨k4, h⟩ := h
    refine r_callV (pc := 202) (ci := 2) (as := [_, _]) (st := []) okX2_putMark lkX10_77 inX2_putMark seX2_putMark ⟨_, rfl, rfl⟩ dX10_weaveBound_202 rfl k4 (Nat.le_of_ble_eq_true rfl) (Nat.zero_le _) (Nat.zero_le _) (Call.mono h (fun r5 M6 h => ?_))
    obtain ⟨rfl, h⟩ := h
    refine r_aload_n (pc := 205) (i := 0) dX10_weaveBound_205 rfl rfl ?_
    refine r_aload_n (pc := 206) (i := 3) dX10_weaveBound_206 rfl rfl ?_
    refine r_aload_n (pc := 207) (i := 0) dX10_weaveBound_207 rfl rfl ?_
    obtain ⟨k7, h⟩ := h
    obtain ⟨b8, hb8, h⟩ := h
    refine r_getr (pc := 208) flX10_43 dX10_weaveBound_208 rfl k7 hb8 ?_
    refine r_iload (pc := 211) (i := 7) dX10_weaveBound_211 rfl ?_
    obtain ⟨k9, h⟩ := h
    obtain ⟨i10, h⟩ := h
    refine r_lald (pc := 213) dX10_weaveBound_213 k9 i10 ?_
    refine r_callV (pc := 214) (ci := 10) (as := [_, _]) (st := []) okX10_spread lkX10_257 inX10_spread seX10_spread ⟨_, rfl, rfl⟩ dX10_weaveBound_214 rfl k7 (Nat.le_of_ble_eq_true rfl) (Nat.zero_le _) (Nat.zero_le _) (Call.mono h (fun r11 M12 h => ?_))
    obtain ⟨rfl, h⟩ := h
    refine r_iconst (pc := 217) (v := 0) dX10_weaveBound_217 (by decide) ?_
    refine r_istore (pc := 218) (i := 9) dX10_weaveBound_218 rfl (Nat.le_of_ble_eq_true rfl) ?_
    exact h
  · replace h := h.2 c3
    refine r_iconst (pc := 197) (v := 1) dX10_weaveBound_197 (by decide) ?_
    refine r_goto (pc := 198) (tgt := 202) dX10_weaveBound_198 (by decide) ?_
    obtain ⟨k13, h⟩ := h
    refine r_callV (pc := 202) (ci := 2) (as := [_, _]) (st := []) okX2_putMark lkX10_77 inX2_putMark seX2_putMark ⟨_, rfl, rfl⟩ dX10_weaveBound_202 rfl k13 (Nat.le_of_ble_eq_true rfl) (Nat.zero_le _) (Nat.zero_le _) (Call.mono h (fun r14 M15 h => ?_))
    obtain ⟨rfl, h⟩ := h
    refine r_aload_n (pc := 205) (i := 0) dX10_weaveBound_205 rfl rfl ?_
    refine r_aload_n (pc := 206) (i := 3) dX10_weaveBound_206 rfl rfl ?_
    refine r_aload_n (pc := 207) (i := 0) dX10_weaveBound_207 rfl rfl ?_
    obtain ⟨k16, h⟩ := h
    obtain ⟨b17, hb17, h⟩ := h
    refine r_getr (pc := 208) flX10_43 dX10_weaveBound_208 rfl k16 hb17 ?_
    refine r_iload (pc := 211) (i := 7) dX10_weaveBound_211 rfl ?_
    obtain ⟨k18, h⟩ := h
    obtain ⟨i19, h⟩ := h
    refine r_lald (pc := 213) dX10_weaveBound_213 k18 i19 ?_
    refine r_callV (pc := 214) (ci := 10) (as := [_, _]) (st := []) okX10_spread lkX10_257 inX10_spread seX10_spread ⟨_, rfl, rfl⟩ dX10_weaveBound_214 rfl k16 (Nat.le_of_ble_eq_true rfl) (Nat.zero_le _) (Nat.zero_le _) (Call.mono h (fun r20 M21 h => ?_))
    obtain ⟨rfl, h⟩ := h
    refine r_iconst (pc := 217) (v := 0) dX10_weaveBound_217 (by decide) ?_
    refine r_istore (pc := 218) (i := 9) dX10_weaveBound_218 rfl (Nat.le_of_ble_eq_true rfl) ?_
    exact h
theorem vX10_weaveBound_220 {G : GG} {d rc rs : Nat} (p0 : Nat) (p1 : Nat) (p2 : Nat) (p3 : Nat) (x4 : Int32) (l5 : Int64) (x7 : Int32) (x8 : Int32) (x9 : Int32) (z10 : Option Value) (hz10 : c1 z10 = true) {M : Mem} {Q : Option Value → Mem → Prop} (h : (x4 ≤ x9 → LX10_weaveBound_111 G d rc rs p0 p1 p2 p3 x4 l5 (x7 + 1) (some (.int x8)) (some (.int x9)) z10 M Q) ∧ (¬ x4 ≤ x9 → (x_h M p0).1 = 26 ∧ (∃ b3, x_r M p0 9 = some b3 ∧ (x_h M b3).1 = 2 ∧ vp_in x9 (x_h M b3).2 ∧ Call G d 0 0 mX10_meetSet [.ref p0, .long (x_l M b3 x9.toNatClampNeg)] M (fun r6 M7 => ∃ v8 : Int32, r6 = some (.int v8) ∧ (¬ v8 = (-1) → (x_h M7 p0).1 = 26 ∧ (∃ b11, x_r M7 p0 0 = some b11 ∧ (x_h M7 b11).1 = 18 ∧ Call G d 0 0 mX2_meet [.ref b11, .int v8] M7 (fun r13 M14 => ∃ v15 : Int32, r13 = some (.int v15) ∧ (x_h M14 b11).1 = 18 ∧ Call G d 0 0 mX2_link [.ref b11, .int x7, .int x9, .int v15] M14 (fun r17 M18 => r17 = none ∧ LX10_weaveBound_220 G d rc rs p0 p1 p2 p3 x4 l5 x7 x8 (x9 + 1) (some (.int v8)) M18 Q)))) ∧ (v8 = (-1) → Q (some (.int 0)) M7))))) : LX10_weaveBound_220 G d rc rs p0 p1 p2 p3 x4 l5 x7 x8 x9 z10 M Q := by
  show Wk G (d + 1) rc rs mX10_weaveBound 220 _ _ M Q
  refine r_iload (pc := 220) (i := 9) dX10_weaveBound_220 rfl ?_
  refine r_iload (pc := 222) (i := 4) dX10_weaveBound_222 rfl ?_
  refine r_icmp_ge (pc := 224) (tgt := 274) dX10_weaveBound_224 (by decide) (fun c1 => ?_) (fun c1 => ?_)
  · replace h := h.1 c1
    refine r_iinc (pc := 274) (i := 7) (v := _ + 1) dX10_weaveBound_274 rfl rfl rfl ?_
    refine r_goto (pc := 277) (tgt := 111) dX10_weaveBound_277 (by decide) ?_
    exact h
  · replace h := h.2 c1
    refine r_aload_n (pc := 227) (i := 0) dX10_weaveBound_227 rfl rfl ?_
    refine r_aload_n (pc := 228) (i := 0) dX10_weaveBound_228 rfl rfl ?_
    obtain ⟨k2, h⟩ := h
    obtain ⟨b3, hb3, h⟩ := h
    refine r_getr (pc := 229) flX10_50 dX10_weaveBound_229 rfl k2 hb3 ?_
    refine r_iload (pc := 232) (i := 9) dX10_weaveBound_232 rfl ?_
    obtain ⟨k4, h⟩ := h
    obtain ⟨i5, h⟩ := h
    refine r_lald (pc := 234) dX10_weaveBound_234 k4 i5 ?_
    refine r_callV (pc := 235) (ci := 10) (as := [_]) (st := []) okX10_meetSet lkX10_251 inX10_meetSet seX10_meetSet ⟨_, rfl, rfl⟩ dX10_weaveBound_235 rfl k2 (Nat.le_of_ble_eq_true rfl) (Nat.zero_le _) (Nat.zero_le _) (Call.mono h (fun r6 M7 h => ?_))
    obtain ⟨v8, rfl, h⟩ := h
    refine r_istore (pc := 238) (i := 10) dX10_weaveBound_238 rfl (Nat.le_of_ble_eq_true rfl) ?_
    refine r_iload (pc := 240) (i := 10) dX10_weaveBound_240 rfl ?_
    refine r_iconst (pc := 242) (v := (-1)) dX10_weaveBound_242 (by decide) ?_
    refine r_icmp_ne (pc := 243) (tgt := 248) dX10_weaveBound_243 (by decide) (fun c9 => ?_) (fun c9 => ?_)
    · replace h := h.1 c9
      refine r_aload_n (pc := 248) (i := 0) dX10_weaveBound_248 rfl rfl ?_
      obtain ⟨k10, h⟩ := h
      obtain ⟨b11, hb11, h⟩ := h
      refine r_getr (pc := 249) flX10_12 dX10_weaveBound_249 rfl k10 hb11 ?_
      refine r_iload (pc := 252) (i := 7) dX10_weaveBound_252 rfl ?_
      refine r_iload (pc := 254) (i := 9) dX10_weaveBound_254 rfl ?_
      refine r_aload_n (pc := 256) (i := 0) dX10_weaveBound_256 rfl rfl ?_
      refine r_getr (pc := 257) flX10_12 dX10_weaveBound_257 rfl k10 hb11 ?_
      refine r_iload (pc := 260) (i := 10) dX10_weaveBound_260 rfl ?_
      obtain ⟨k12, h⟩ := h
      refine r_callV (pc := 262) (ci := 2) (as := [_]) (st := [_, _, _]) okX2_meet lkX10_63 inX2_meet seX2_meet ⟨_, rfl, rfl⟩ dX10_weaveBound_262 rfl k12 (Nat.le_of_ble_eq_true rfl) (Nat.zero_le _) (Nat.zero_le _) (Call.mono h (fun r13 M14 h => ?_))
      obtain ⟨v15, rfl, h⟩ := h
      obtain ⟨k16, h⟩ := h
      refine r_callV (pc := 265) (ci := 2) (as := [_, _, _]) (st := []) okX2_link lkX10_80 inX2_link seX2_link ⟨_, rfl, rfl⟩ dX10_weaveBound_265 rfl k16 (Nat.le_of_ble_eq_true rfl) (Nat.zero_le _) (Nat.zero_le _) (Call.mono h (fun r17 M18 h => ?_))
      obtain ⟨rfl, h⟩ := h
      refine r_iinc (pc := 268) (i := 9) (v := _ + 1) dX10_weaveBound_268 rfl rfl rfl ?_
      refine r_goto (pc := 271) (tgt := 220) dX10_weaveBound_271 (by decide) ?_
      exact h
    · replace h := h.2 c9
      refine r_iconst (pc := 246) (v := 0) dX10_weaveBound_246 (by decide) ?_
      exact r_zret (pc := 247) dX10_weaveBound_247 rfl (Or.inl rfl) h
abbrev LX10_takers_4 (G : GG) (d rc rs : Nat) (p0 : Nat) (l1 : Int64) (x3 : Int32) (M : Mem) (Q : Option Value → Mem → Prop) : Prop := Wk G (d + 1) rc rs mX10_takers 4 [some (.ref p0), some (.long l1), none, some (.int x3)] [] M Q
theorem eX10_takers {G : GG} {d rc rs : Nat} (a1 : Nat)  {M : Mem} {Q : Option Value → Mem → Prop} (h : LX10_takers_4 G d rc rs a1 0 0 M Q) : Call G (d + 1) rc rs mX10_takers [.ref a1] M Q := by
  refine call_of (by decide) (Nat.le_of_ble_eq_true rfl) ?_
  show Wk G (d + 1) rc rs mX10_takers 0 [some (.ref a1), none, none, none] [] M Q
  refine r_lconst (pc := 0) (v := 0) dX10_takers_0 (by decide) ?_
  refine r_lstore_n (pc := 1) (i := 1) dX10_takers_1 rfl rfl (Nat.le_of_ble_eq_true rfl) ?_
  refine r_iconst (pc := 2) (v := 0) dX10_takers_2 (by decide) ?_
  refine r_istore_n (pc := 3) (i := 3) dX10_takers_3 rfl rfl (Nat.le_of_ble_eq_true rfl) ?_
  exact h
theorem vX10_takers_4 {G : GG} {d rc rs : Nat} (p0 : Nat) (l1 : Int64) (x3 : Int32)  {M : Mem} {Q : Option Value → Mem → Prop} (h : (x_h M p0).1 = 17 ∧ ((x_i M p0 2) ≤ x3 → Q (some (.long l1)) M) ∧ (¬ (x_i M p0 2) ≤ x3 → Call G d 0 0 mX1_mark [.ref p0, .int x3] M (fun r3 M4 => ∃ v5 : Int32, r3 = some (.int v5) ∧ (¬ v5 = 1 → LX10_takers_4 G d rc rs p0 l1 (x3 + 1) M4 Q) ∧ (v5 = 1 → LX10_takers_4 G d rc rs p0 (l1 ||| (1 <<< (x3.toInt64 &&& 63))) (x3 + 1) M4 Q)))) : LX10_takers_4 G d rc rs p0 l1 x3 M Q := by
  show Wk G (d + 1) rc rs mX10_takers 4 _ _ M Q
  refine r_iload_n (pc := 4) (i := 3) dX10_takers_4 rfl rfl ?_
  refine r_aload_n (pc := 5) (i := 0) dX10_takers_5 rfl rfl ?_
  obtain ⟨k1, h⟩ := h
  refine r_geti (pc := 6) flX10_173 dX10_takers_6 (Or.inl rfl) k1 ?_
  refine r_icmp_ge (pc := 9) (tgt := 33) dX10_takers_9 (by decide) (fun c2 => ?_) (fun c2 => ?_)
  · replace h := h.1 c2
    refine r_lload_n (pc := 33) (i := 1) dX10_takers_33 rfl rfl ?_
    exact r_lret (pc := 34) dX10_takers_34 rfl h
  · replace h := h.2 c2
    refine r_aload_n (pc := 12) (i := 0) dX10_takers_12 rfl rfl ?_
    refine r_iload_n (pc := 13) (i := 3) dX10_takers_13 rfl rfl ?_
    refine r_callV (pc := 14) (ci := 1) (as := [_]) (st := []) okX1_mark lkX10_176 inX1_mark seX1_mark ⟨_, rfl, rfl⟩ dX10_takers_14 rfl k1 (Nat.le_of_ble_eq_true rfl) (Nat.zero_le _) (Nat.zero_le _) (Call.mono h (fun r3 M4 h => ?_))
    obtain ⟨v5, rfl, h⟩ := h
    refine r_iconst (pc := 17) (v := 1) dX10_takers_17 (by decide) ?_
    refine r_icmp_ne (pc := 18) (tgt := 27) dX10_takers_18 (by decide) (fun c6 => ?_) (fun c6 => ?_)
    · replace h := h.1 c6
      refine r_iinc (pc := 27) (i := 3) (v := _ + 1) dX10_takers_27 rfl rfl rfl ?_
      refine r_goto (pc := 30) (tgt := 4) dX10_takers_30 (by decide) ?_
      exact h
    · replace h := h.2 c6
      refine r_lload_n (pc := 21) (i := 1) dX10_takers_21 rfl rfl ?_
      refine r_lconst (pc := 22) (v := 1) dX10_takers_22 (by decide) ?_
      refine r_iload_n (pc := 23) (i := 3) dX10_takers_23 rfl rfl ?_
      refine r_lshl (pc := 24) dX10_takers_24 ?_
      refine r_lor (pc := 25) dX10_takers_25 ?_
      refine r_lstore_n (pc := 26) (i := 1) dX10_takers_26 rfl rfl (Nat.le_of_ble_eq_true rfl) ?_
      refine r_iinc (pc := 27) (i := 3) (v := _ + 1) dX10_takers_27 rfl rfl rfl ?_
      refine r_goto (pc := 30) (tgt := 4) dX10_takers_30 (by decide) ?_
      exact h
abbrev LX10_firstSet_5 (G : GG) (d rc rs : Nat) (p0 : Nat) (p1 : Nat) (l2 : Int64) (x4 : Int32) (z5 : Option Value) (z6 : Option Value) (M : Mem) (Q : Option Value → Mem → Prop) : Prop := Wk G (d + 1) rc rs mX10_firstSet 5 [some (.ref p0), some (.ref p1), some (.long l2), none, some (.int x4), z5, z6] [] M Q
theorem eX10_firstSet {G : GG} {d rc rs : Nat} (o : Nat) (a1 : Nat)  {M : Mem} {Q : Option Value → Mem → Prop} (h : LX10_firstSet_5 G d rc rs o a1 1 0 none none M Q) : Call G (d + 1) rc rs mX10_firstSet [.ref o, .ref a1] M Q := by
  refine call_of (by decide) (Nat.le_of_ble_eq_true rfl) ?_
  show Wk G (d + 1) rc rs mX10_firstSet 0 [some (.ref o), some (.ref a1), none, none, none, none, none] [] M Q
  refine r_lconst (pc := 0) (v := 1) dX10_firstSet_0 (by decide) ?_
  refine r_lstore_n (pc := 1) (i := 2) dX10_firstSet_1 rfl rfl (Nat.le_of_ble_eq_true rfl) ?_
  refine r_iconst (pc := 2) (v := 0) dX10_firstSet_2 (by decide) ?_
  refine r_istore (pc := 3) (i := 4) dX10_firstSet_3 rfl (Nat.le_of_ble_eq_true rfl) ?_
  exact h
theorem vX10_firstSet_5 {G : GG} {d rc rs : Nat} (p0 : Nat) (p1 : Nat) (l2 : Int64) (x4 : Int32) (z5 : Option Value) (z6 : Option Value) (hz5 : c1 z5 = true) (hz6 : c1 z6 = true) {M : Mem} {Q : Option Value → Mem → Prop} (h : (40 ≤ x4 → Q (some (.long l2)) M) ∧ (¬ 40 ≤ x4 → (x_h M p0).1 = 26 ∧ Call G d 0 0 mX10_spread [.ref p0, .ref p1, .long l2] M (fun r3 M4 => r3 = none ∧ (x_h M4 p0).1 = 26 ∧ (∃ b6, x_r M4 p0 9 = some b6 ∧ (x_h M4 b6).1 = 2 ∧ vp_in 0 (x_h M4 b6).2 ∧ (¬ (lg_cmp (l2 ||| (x_l M4 b6 (0 : Int32).toNatClampNeg)) l2) = 0 → LX10_firstSet_5 G d rc rs p0 p1 (l2 ||| (x_l M4 b6 (0 : Int32).toNatClampNeg)) (x4 + 1) (some (.long (l2 ||| (x_l M4 b6 (0 : Int32).toNatClampNeg)))) none M4 Q) ∧ ((lg_cmp (l2 ||| (x_l M4 b6 (0 : Int32).toNatClampNeg)) l2) = 0 → Q (some (.long l2)) M4))))) : LX10_firstSet_5 G d rc rs p0 p1 l2 x4 z5 z6 M Q := by
  show Wk G (d + 1) rc rs mX10_firstSet 5 _ _ M Q
  refine r_iload (pc := 5) (i := 4) dX10_firstSet_5 rfl ?_
  refine r_bipush (pc := 7) (v := 40) dX10_firstSet_7 (by decide) ?_
  refine r_icmp_ge (pc := 9) (tgt := 46) dX10_firstSet_9 (by decide) (fun c1 => ?_) (fun c1 => ?_)
  · replace h := h.1 c1
    refine r_lload_n (pc := 46) (i := 2) dX10_firstSet_46 rfl rfl ?_
    exact r_lret (pc := 47) dX10_firstSet_47 rfl h
  · replace h := h.2 c1
    refine r_aload_n (pc := 12) (i := 0) dX10_firstSet_12 rfl rfl ?_
    refine r_aload_n (pc := 13) (i := 1) dX10_firstSet_13 rfl rfl ?_
    refine r_lload_n (pc := 14) (i := 2) dX10_firstSet_14 rfl rfl ?_
    obtain ⟨k2, h⟩ := h
    refine r_callV (pc := 15) (ci := 10) (as := [_, _]) (st := []) okX10_spread lkX10_257 inX10_spread seX10_spread ⟨_, rfl, rfl⟩ dX10_firstSet_15 rfl k2 (Nat.le_of_ble_eq_true rfl) (Nat.zero_le _) (Nat.zero_le _) (Call.mono h (fun r3 M4 h => ?_))
    obtain ⟨rfl, h⟩ := h
    refine r_lload_n (pc := 18) (i := 2) dX10_firstSet_18 rfl rfl ?_
    refine r_aload_n (pc := 19) (i := 0) dX10_firstSet_19 rfl rfl ?_
    obtain ⟨k5, h⟩ := h
    obtain ⟨b6, hb6, h⟩ := h
    refine r_getr (pc := 20) flX10_50 dX10_firstSet_20 rfl k5 hb6 ?_
    refine r_iconst (pc := 23) (v := 0) dX10_firstSet_23 (by decide) ?_
    obtain ⟨k7, h⟩ := h
    obtain ⟨i8, h⟩ := h
    refine r_lald (pc := 24) dX10_firstSet_24 k7 i8 ?_
    refine r_lor (pc := 25) dX10_firstSet_25 ?_
    refine r_lstore (pc := 26) (i := 5) dX10_firstSet_26 rfl (Nat.le_of_ble_eq_true rfl) ?_
    refine r_lload (pc := 28) (i := 5) dX10_firstSet_28 rfl ?_
    refine r_lload_n (pc := 30) (i := 2) dX10_firstSet_30 rfl rfl ?_
    refine r_lcmp (pc := 31) dX10_firstSet_31 ?_
    refine r_if_ne (pc := 32) (tgt := 37) dX10_firstSet_32 (by decide) (fun c9 => ?_) (fun c9 => ?_)
    · replace h := h.1 c9
      refine r_lload (pc := 37) (i := 5) dX10_firstSet_37 rfl ?_
      refine r_lstore_n (pc := 39) (i := 2) dX10_firstSet_39 rfl rfl (Nat.le_of_ble_eq_true rfl) ?_
      refine r_iinc (pc := 40) (i := 4) (v := _ + 1) dX10_firstSet_40 rfl rfl rfl ?_
      refine r_goto (pc := 43) (tgt := 5) dX10_firstSet_43 (by decide) ?_
      exact h
    · replace h := h.2 c9
      refine r_lload_n (pc := 35) (i := 2) dX10_firstSet_35 rfl rfl ?_
      exact r_lret (pc := 36) dX10_firstSet_36 rfl h
abbrev LX10_spread_11 (G : GG) (d rc rs : Nat) (p0 : Nat) (p1 : Nat) (l2 : Int64) (x4 : Int32) (z5 : Option Value) (M : Mem) (Q : Option Value → Mem → Prop) : Prop := Wk G (d + 1) rc rs mX10_spread 11 [some (.ref p0), some (.ref p1), some (.long l2), none, some (.int x4), z5] [] M Q
abbrev LX10_spread_34 (G : GG) (d rc rs : Nat) (p0 : Nat) (p1 : Nat) (l2 : Int64) (x4 : Int32) (x5 : Int32) (M : Mem) (Q : Option Value → Mem → Prop) : Prop := Wk G (d + 1) rc rs mX10_spread 34 [some (.ref p0), some (.ref p1), some (.long l2), none, some (.int x4), some (.int x5)] [] M Q
theorem eX10_spread {G : GG} {d rc rs : Nat} (o : Nat) (a1 : Nat) (a2 : Int64)  {M : Mem} {Q : Option Value → Mem → Prop} (h : (x_h M o).1 = 26 ∧ (∃ b2, x_r M o 9 = some b2 ∧ Call G d 0 0 mJ7_fill_d0a16 [.ref b2, .long 0] M (fun r3 M4 => r3 = none ∧ LX10_spread_11 G d rc rs o a1 a2 0 none M4 Q))) : Call G (d + 1) rc rs mX10_spread [.ref o, .ref a1, .long a2] M Q := by
  refine call_of (by decide) (Nat.le_of_ble_eq_true rfl) ?_
  show Wk G (d + 1) rc rs mX10_spread 0 [some (.ref o), some (.ref a1), some (.long a2), none, none, none] [] M Q
  refine r_aload_n (pc := 0) (i := 0) dX10_spread_0 rfl rfl ?_
  obtain ⟨k1, h⟩ := h
  obtain ⟨b2, hb2, h⟩ := h
  refine r_getr (pc := 1) flX10_50 dX10_spread_1 rfl k1 hb2 ?_
  refine r_lconst (pc := 4) (v := 0) dX10_spread_4 (by decide) ?_
  refine r_callS (pc := 5) (as := [_, _]) (st := []) okJ7_fill_d0a16 lkX10_261 stJ7_fill_d0a16 dX10_spread_5 rfl (Nat.le_of_ble_eq_true rfl) (Nat.zero_le _) (Nat.zero_le _) (Call.mono h (fun r3 M4 h => ?_))
  obtain ⟨rfl, h⟩ := h
  refine r_iconst (pc := 8) (v := 0) dX10_spread_8 (by decide) ?_
  refine r_istore (pc := 9) (i := 4) dX10_spread_9 rfl (Nat.le_of_ble_eq_true rfl) ?_
  exact h
theorem vX10_spread_11 {G : GG} {d rc rs : Nat} (p0 : Nat) (p1 : Nat) (l2 : Int64) (x4 : Int32) (z5 : Option Value) (hz5 : c1 z5 = true) {M : Mem} {Q : Option Value → Mem → Prop} (h : (x_h M p1).1 = 17 ∧ ((x_i M p1 2) ≤ x4 → Q none M) ∧ (¬ (x_i M p1 2) ≤ x4 → ((lg_cmp ((l2 >>> (x4.toInt64 &&& 63)) &&& 1) 0) = 0 → LX10_spread_11 G d rc rs p0 p1 l2 (x4 + 1) z5 M Q) ∧ (¬ (lg_cmp ((l2 >>> (x4.toInt64 &&& 63)) &&& 1) 0) = 0 → LX10_spread_34 G d rc rs p0 p1 l2 x4 0 M Q))) : LX10_spread_11 G d rc rs p0 p1 l2 x4 z5 M Q := by
  show Wk G (d + 1) rc rs mX10_spread 11 _ _ M Q
  refine r_iload (pc := 11) (i := 4) dX10_spread_11 rfl ?_
  refine r_aload_n (pc := 13) (i := 1) dX10_spread_13 rfl rfl ?_
  obtain ⟨k1, h⟩ := h
  refine r_geti (pc := 14) flX10_173 dX10_spread_14 (Or.inl rfl) k1 ?_
  refine r_icmp_ge (pc := 17) (tgt := 90) dX10_spread_17 (by decide) (fun c2 => ?_) (fun c2 => ?_)
  · replace h := h.1 c2
    exact r_vret (pc := 90) dX10_spread_90 rfl h
  · replace h := h.2 c2
    refine r_lload_n (pc := 20) (i := 2) dX10_spread_20 rfl rfl ?_
    refine r_iload (pc := 21) (i := 4) dX10_spread_21 rfl ?_
    refine r_lshr (pc := 23) dX10_spread_23 ?_
    refine r_lconst (pc := 24) (v := 1) dX10_spread_24 (by decide) ?_
    refine r_land (pc := 25) dX10_spread_25 ?_
    refine r_lconst (pc := 26) (v := 0) dX10_spread_26 (by decide) ?_
    refine r_lcmp (pc := 27) dX10_spread_27 ?_
    refine r_if_eq (pc := 28) (tgt := 84) dX10_spread_28 (by decide) (fun c3 => ?_) (fun c3 => ?_)
    · replace h := h.1 c3
      refine r_iinc (pc := 84) (i := 4) (v := _ + 1) dX10_spread_84 rfl rfl rfl ?_
      refine r_goto (pc := 87) (tgt := 11) dX10_spread_87 (by decide) ?_
      exact h
    · replace h := h.2 c3
      refine r_iconst (pc := 31) (v := 0) dX10_spread_31 (by decide) ?_
      refine r_istore (pc := 32) (i := 5) dX10_spread_32 rfl (Nat.le_of_ble_eq_true rfl) ?_
      exact h
theorem vX10_spread_34 {G : GG} {d rc rs : Nat} (p0 : Nat) (p1 : Nat) (l2 : Int64) (x4 : Int32) (x5 : Int32)  {M : Mem} {Q : Option Value → Mem → Prop} (h : (x_h M p1).1 = 17 ∧ ((x_i M p1 3) ≤ x5 → LX10_spread_11 G d rc rs p0 p1 l2 (x4 + 1) (some (.int x5)) M Q) ∧ (¬ (x_i M p1 3) ≤ x5 → (x_h M p0).1 = 26 ∧ (∃ b4, x_r M p0 3 = some b4 ∧ (1 ≤ (x_h M b4).1 ∧ (x_h M b4).1 < 8) ∧ ((nI (x_h M b4).2) ≤ x5 → LX10_spread_11 G d rc rs p0 p1 l2 (x4 + 1) (some (.int x5)) M Q) ∧ (¬ (nI (x_h M b4).2) ≤ x5 → ∃ b7, x_r M p0 9 = some b7 ∧ (x_h M b4).1 = 1 ∧ vp_in x5 (x_h M b4).2 ∧ (x_h M b7).1 = 2 ∧ vp_in (x_i M b4 x5.toNatClampNeg) (x_h M b7).2 ∧ Call G d 0 0 mX1_after [.ref p1, .int x4, .int x5] M (fun r12 M13 => ∃ v14 : Int32, r12 = some (.int v14) ∧ (x_h M13 b7).1 = 2 ∧ vp_in (x_i M b4 x5.toNatClampNeg) (x_h M13 b7).2 ∧ (∀ M17, M17 = x_sl M13 b7 (x_i M b4 x5.toNatClampNeg).toNatClampNeg ((x_l M b7 (x_i M b4 x5.toNatClampNeg).toNatClampNeg) ||| (1 <<< (v14.toInt64 &&& 63))) → LX10_spread_34 G d rc rs p0 p1 l2 x4 (x5 + 1) M17 Q)))))) : LX10_spread_34 G d rc rs p0 p1 l2 x4 x5 M Q := by
  show Wk G (d + 1) rc rs mX10_spread 34 _ _ M Q
  refine r_iload (pc := 34) (i := 5) dX10_spread_34 rfl ?_
  refine r_aload_n (pc := 36) (i := 1) dX10_spread_36 rfl rfl ?_
  obtain ⟨k1, h⟩ := h
  refine r_geti (pc := 37) flX10_264 dX10_spread_37 (Or.inl rfl) k1 ?_
  refine r_icmp_ge (pc := 40) (tgt := 84) dX10_spread_40 (by decide) (fun c2 => ?_) (fun c2 => ?_)
  · replace h := h.1 c2
    refine r_iinc (pc := 84) (i := 4) (v := _ + 1) dX10_spread_84 rfl rfl rfl ?_
    refine r_goto (pc := 87) (tgt := 11) dX10_spread_87 (by decide) ?_
    exact h
  · replace h := h.2 c2
    refine r_iload (pc := 43) (i := 5) dX10_spread_43 rfl ?_
    refine r_aload_n (pc := 45) (i := 0) dX10_spread_45 rfl rfl ?_
    obtain ⟨k3, h⟩ := h
    obtain ⟨b4, hb4, h⟩ := h
    refine r_getr (pc := 46) flX10_30 dX10_spread_46 rfl k3 hb4 ?_
    obtain ⟨k5, h⟩ := h
    refine r_alen (pc := 49) dX10_spread_49 rfl k5 ?_
    refine r_icmp_ge (pc := 50) (tgt := 84) dX10_spread_50 (by decide) (fun c6 => ?_) (fun c6 => ?_)
    · replace h := h.1 c6
      refine r_iinc (pc := 84) (i := 4) (v := _ + 1) dX10_spread_84 rfl rfl rfl ?_
      refine r_goto (pc := 87) (tgt := 11) dX10_spread_87 (by decide) ?_
      exact h
    · replace h := h.2 c6
      refine r_aload_n (pc := 53) (i := 0) dX10_spread_53 rfl rfl ?_
      obtain ⟨b7, hb7, h⟩ := h
      refine r_getr (pc := 54) flX10_50 dX10_spread_54 rfl k3 hb7 ?_
      refine r_aload_n (pc := 57) (i := 0) dX10_spread_57 rfl rfl ?_
      refine r_getr (pc := 58) flX10_30 dX10_spread_58 rfl k3 hb4 ?_
      refine r_iload (pc := 61) (i := 5) dX10_spread_61 rfl ?_
      obtain ⟨k8, h⟩ := h
      obtain ⟨i9, h⟩ := h
      refine r_iald (pc := 63) dX10_spread_63 k8 i9 ?_
      refine r_dup2 (pc := 64) dX10_spread_64 rfl rfl ?_
      obtain ⟨k10, h⟩ := h
      obtain ⟨i11, h⟩ := h
      refine r_lald (pc := 65) dX10_spread_65 k10 i11 ?_
      refine r_lconst (pc := 66) (v := 1) dX10_spread_66 (by decide) ?_
      refine r_aload_n (pc := 67) (i := 1) dX10_spread_67 rfl rfl ?_
      refine r_iload (pc := 68) (i := 4) dX10_spread_68 rfl ?_
      refine r_iload (pc := 70) (i := 5) dX10_spread_70 rfl ?_
      refine r_callV (pc := 72) (ci := 1) (as := [_, _]) (st := [_, _, _, _]) okX1_after lkX10_182 inX1_after seX1_after ⟨_, rfl, rfl⟩ dX10_spread_72 rfl k1 (Nat.le_of_ble_eq_true rfl) (Nat.zero_le _) (Nat.zero_le _) (Call.mono h (fun r12 M13 h => ?_))
      obtain ⟨v14, rfl, h⟩ := h
      refine r_lshl (pc := 75) dX10_spread_75 ?_
      refine r_lor (pc := 76) dX10_spread_76 ?_
      obtain ⟨k15, h⟩ := h
      obtain ⟨i16, h⟩ := h
      refine r_last (pc := 77) dX10_spread_77 k15 i16 ?_
      replace h := h _ rfl
      refine r_iinc (pc := 78) (i := 5) (v := _ + 1) dX10_spread_78 rfl rfl rfl ?_
      refine r_goto (pc := 81) (tgt := 34) dX10_spread_81 (by decide) ?_
      exact h
abbrev LX10_meetSet_13 (G : GG) (d rc rs : Nat) (p0 : Nat) (l1 : Int64) (x3 : Int32) (x4 : Int32) (z5 : Option Value) (M : Mem) (Q : Option Value → Mem → Prop) : Prop := Wk G (d + 1) rc rs mX10_meetSet 13 [some (.ref p0), some (.long l1), none, some (.int x3), some (.int x4), z5] [] M Q
theorem eX10_meetSet {G : GG} {d rc rs : Nat} (o : Nat) (a1 : Int64)  {M : Mem} {Q : Option Value → Mem → Prop} (h : LX10_meetSet_13 G d rc rs o a1 ((((a1 * (-7046029254386353131)).toUInt64 >>> ((54 : Int32).toInt64.toUInt64 &&& Int64.toUInt64 63)).toInt64).toInt32) 0 none M Q) : Call G (d + 1) rc rs mX10_meetSet [.ref o, .long a1] M Q := by
  refine call_of (by decide) (Nat.le_of_ble_eq_true rfl) ?_
  show Wk G (d + 1) rc rs mX10_meetSet 0 [some (.ref o), some (.long a1), none, none, none, none] [] M Q
  refine r_lload_n (pc := 0) (i := 1) dX10_meetSet_0 rfl rfl ?_
  refine r_ldc2 (pc := 1) (v := (-7046029254386353131)) dX10_meetSet_1 ww_964 ?_
  refine r_lmul (pc := 4) dX10_meetSet_4 ?_
  refine r_bipush (pc := 5) (v := 54) dX10_meetSet_5 (by decide) ?_
  refine r_lushr (pc := 7) dX10_meetSet_7 ?_
  refine r_l2i (pc := 8) dX10_meetSet_8 ?_
  refine r_istore_n (pc := 9) (i := 3) dX10_meetSet_9 rfl rfl (Nat.le_of_ble_eq_true rfl) ?_
  refine r_iconst (pc := 10) (v := 0) dX10_meetSet_10 (by decide) ?_
  refine r_istore (pc := 11) (i := 4) dX10_meetSet_11 rfl (Nat.le_of_ble_eq_true rfl) ?_
  exact h
theorem vX10_meetSet_13 {G : GG} {d rc rs : Nat} (p0 : Nat) (l1 : Int64) (x3 : Int32) (x4 : Int32) (z5 : Option Value) (hz5 : c1 z5 = true) {M : Mem} {Q : Option Value → Mem → Prop} (h : (1024 ≤ x4 → Q (some (.int (-1))) M) ∧ (¬ 1024 ≤ x4 → (x_h M p0).1 = 26 ∧ (∃ b3, x_r M p0 8 = some b3 ∧ (x_h M b3).1 = 1 ∧ vp_in x3 (x_h M b3).2 ∧ (¬ (x_i M b3 x3.toNatClampNeg) = (-1) → ∃ b7, x_r M p0 7 = some b7 ∧ (x_h M b7).1 = 2 ∧ vp_in (x_i M b3 x3.toNatClampNeg) (x_h M b7).2 ∧ (¬ (lg_cmp (x_l M b7 (x_i M b3 x3.toNatClampNeg).toNatClampNeg) l1) = 0 → LX10_meetSet_13 G d rc rs p0 l1 ((x3 + 1) &&& 1023) (x4 + 1) (some (.int (x_i M b3 x3.toNatClampNeg))) M Q) ∧ ((lg_cmp (x_l M b7 (x_i M b3 x3.toNatClampNeg).toNatClampNeg) l1) = 0 → Q (some (.int (x_i M b3 x3.toNatClampNeg))) M)) ∧ ((x_i M b3 x3.toNatClampNeg) = (-1) → Call G d 0 0 mX10_addSet [.ref p0, .int x3, .long l1] M (fun r11 M12 => ∃ v13 : Int32, r11 = some (.int v13) ∧ Q (some (.int v13)) M12))))) : LX10_meetSet_13 G d rc rs p0 l1 x3 x4 z5 M Q := by
  show Wk G (d + 1) rc rs mX10_meetSet 13 _ _ M Q
  refine r_iload (pc := 13) (i := 4) dX10_meetSet_13 rfl ?_
  refine r_sipush (pc := 15) (v := 1024) dX10_meetSet_15 (by decide) ?_
  refine r_icmp_ge (pc := 18) (tgt := 71) dX10_meetSet_18 (by decide) (fun c1 => ?_) (fun c1 => ?_)
  · replace h := h.1 c1
    refine r_iconst (pc := 71) (v := (-1)) dX10_meetSet_71 (by decide) ?_
    exact r_iret (pc := 72) dX10_meetSet_72 rfl h
  · replace h := h.2 c1
    refine r_aload_n (pc := 21) (i := 0) dX10_meetSet_21 rfl rfl ?_
    obtain ⟨k2, h⟩ := h
    obtain ⟨b3, hb3, h⟩ := h
    refine r_getr (pc := 22) flX10_47 dX10_meetSet_22 rfl k2 hb3 ?_
    refine r_iload_n (pc := 25) (i := 3) dX10_meetSet_25 rfl rfl ?_
    obtain ⟨k4, h⟩ := h
    obtain ⟨i5, h⟩ := h
    refine r_iald (pc := 26) dX10_meetSet_26 k4 i5 ?_
    refine r_istore (pc := 27) (i := 5) dX10_meetSet_27 rfl (Nat.le_of_ble_eq_true rfl) ?_
    refine r_iload (pc := 29) (i := 5) dX10_meetSet_29 rfl ?_
    refine r_iconst (pc := 31) (v := (-1)) dX10_meetSet_31 (by decide) ?_
    refine r_icmp_ne (pc := 32) (tgt := 42) dX10_meetSet_32 (by decide) (fun c6 => ?_) (fun c6 => ?_)
    · replace h := h.1 c6
      refine r_aload_n (pc := 42) (i := 0) dX10_meetSet_42 rfl rfl ?_
      obtain ⟨b7, hb7, h⟩ := h
      refine r_getr (pc := 43) flX10_43 dX10_meetSet_43 rfl k2 hb7 ?_
      refine r_iload (pc := 46) (i := 5) dX10_meetSet_46 rfl ?_
      obtain ⟨k8, h⟩ := h
      obtain ⟨i9, h⟩ := h
      refine r_lald (pc := 48) dX10_meetSet_48 k8 i9 ?_
      refine r_lload_n (pc := 49) (i := 1) dX10_meetSet_49 rfl rfl ?_
      refine r_lcmp (pc := 50) dX10_meetSet_50 ?_
      refine r_if_ne (pc := 51) (tgt := 57) dX10_meetSet_51 (by decide) (fun c10 => ?_) (fun c10 => ?_)
      · replace h := h.1 c10
        refine r_iload_n (pc := 57) (i := 3) dX10_meetSet_57 rfl rfl ?_
        refine r_iconst (pc := 58) (v := 1) dX10_meetSet_58 (by decide) ?_
        refine r_iadd (pc := 59) dX10_meetSet_59 ?_
        refine r_sipush (pc := 60) (v := 1023) dX10_meetSet_60 (by decide) ?_
        refine r_iand (pc := 63) dX10_meetSet_63 ?_
        refine r_istore_n (pc := 64) (i := 3) dX10_meetSet_64 rfl rfl (Nat.le_of_ble_eq_true rfl) ?_
        refine r_iinc (pc := 65) (i := 4) (v := _ + 1) dX10_meetSet_65 rfl rfl rfl ?_
        refine r_goto (pc := 68) (tgt := 13) dX10_meetSet_68 (by decide) ?_
        exact h
      · replace h := h.2 c10
        refine r_iload (pc := 54) (i := 5) dX10_meetSet_54 rfl ?_
        exact r_iret (pc := 56) dX10_meetSet_56 rfl h
    · replace h := h.2 c6
      refine r_aload_n (pc := 35) (i := 0) dX10_meetSet_35 rfl rfl ?_
      refine r_iload_n (pc := 36) (i := 3) dX10_meetSet_36 rfl rfl ?_
      refine r_lload_n (pc := 37) (i := 1) dX10_meetSet_37 rfl rfl ?_
      refine r_callV (pc := 38) (ci := 10) (as := [_, _]) (st := []) okX10_addSet lkX10_268 inX10_addSet seX10_addSet ⟨_, rfl, rfl⟩ dX10_meetSet_38 rfl k2 (Nat.le_of_ble_eq_true rfl) (Nat.zero_le _) (Nat.zero_le _) (Call.mono h (fun r11 M12 h => ?_))
      obtain ⟨v13, rfl, h⟩ := h
      exact r_iret (pc := 41) dX10_meetSet_41 rfl h
theorem eX10_addSet {G : GG} {d rc rs : Nat} (o : Nat) (a1 : Int32) (a2 : Int64)  {M : Mem} {Q : Option Value → Mem → Prop} (h : (x_h M o).1 = 26 ∧ ((x_i M o 10) < 300 → ∃ b3, x_r M o 7 = some b3 ∧ (x_h M b3).1 = 2 ∧ vp_in (x_i M o 10) (x_h M b3).2 ∧ (∀ M6, M6 = x_sl M b3 (x_i M o 10).toNatClampNeg a2 → ∃ b7, x_r M6 o 8 = some b7 ∧ (x_h M b7).1 = 1 ∧ vp_in a1 (x_h M b7).2 ∧ (∀ M10, M10 = x_si M6 b7 a1.toNatClampNeg (x_i M6 o 10) → ∀ M11, M11 = x_si M10 o 10 ((x_i M10 o 10) + 1) → Q (some (.int ((x_i M11 o 10) - 1))) M11))) ∧ (¬ (x_i M o 10) < 300 → Q (some (.int (-1))) M)) : Call G (d + 1) rc rs mX10_addSet [.ref o, .int a1, .long a2] M Q := by
  refine call_of (by decide) (Nat.le_of_ble_eq_true rfl) ?_
  show Wk G (d + 1) rc rs mX10_addSet 0 [some (.ref o), some (.int a1), some (.long a2), none] [] M Q
  refine r_aload_n (pc := 0) (i := 0) dX10_addSet_0 rfl rfl ?_
  obtain ⟨k1, h⟩ := h
  refine r_geti (pc := 1) flX10_53 dX10_addSet_1 (Or.inl rfl) k1 ?_
  refine r_sipush (pc := 4) (v := 300) dX10_addSet_4 (by decide) ?_
  refine r_icmp_lt (pc := 7) (tgt := 12) dX10_addSet_7 (by decide) (fun c2 => ?_) (fun c2 => ?_)
  · replace h := h.1 c2
    refine r_aload_n (pc := 12) (i := 0) dX10_addSet_12 rfl rfl ?_
    obtain ⟨b3, hb3, h⟩ := h
    refine r_getr (pc := 13) flX10_43 dX10_addSet_13 rfl k1 hb3 ?_
    refine r_aload_n (pc := 16) (i := 0) dX10_addSet_16 rfl rfl ?_
    refine r_geti (pc := 17) flX10_53 dX10_addSet_17 (Or.inl rfl) k1 ?_
    refine r_lload_n (pc := 20) (i := 2) dX10_addSet_20 rfl rfl ?_
    obtain ⟨k4, h⟩ := h
    obtain ⟨i5, h⟩ := h
    refine r_last (pc := 21) dX10_addSet_21 k4 i5 ?_
    replace h := h _ rfl
    refine r_aload_n (pc := 22) (i := 0) dX10_addSet_22 rfl rfl ?_
    obtain ⟨b7, hb7, h⟩ := h
    refine r_getr (pc := 23) flX10_47 dX10_addSet_23 rfl k1 hb7 ?_
    refine r_iload_n (pc := 26) (i := 1) dX10_addSet_26 rfl rfl ?_
    refine r_aload_n (pc := 27) (i := 0) dX10_addSet_27 rfl rfl ?_
    refine r_geti (pc := 28) flX10_53 dX10_addSet_28 (Or.inl rfl) k1 ?_
    obtain ⟨k8, h⟩ := h
    obtain ⟨i9, h⟩ := h
    refine r_iast (pc := 31) dX10_addSet_31 k8 i9 ?_
    replace h := h _ rfl
    refine r_aload_n (pc := 32) (i := 0) dX10_addSet_32 rfl rfl ?_
    refine r_dup (pc := 33) dX10_addSet_33 rfl ?_
    refine r_geti (pc := 34) flX10_53 dX10_addSet_34 (Or.inl rfl) k1 ?_
    refine r_iconst (pc := 37) (v := 1) dX10_addSet_37 (by decide) ?_
    refine r_iadd (pc := 38) dX10_addSet_38 ?_
    refine r_puti (pc := 39) flX10_53 dX10_addSet_39 (Or.inl rfl) (fun q hq => by cases hq; rfl) k1 ?_
    replace h := h _ rfl
    refine r_aload_n (pc := 42) (i := 0) dX10_addSet_42 rfl rfl ?_
    refine r_geti (pc := 43) flX10_53 dX10_addSet_43 (Or.inl rfl) k1 ?_
    refine r_iconst (pc := 46) (v := 1) dX10_addSet_46 (by decide) ?_
    refine r_isub (pc := 47) dX10_addSet_47 ?_
    exact r_iret (pc := 48) dX10_addSet_48 rfl h
  · replace h := h.2 c2
    refine r_iconst (pc := 10) (v := (-1)) dX10_addSet_10 (by decide) ?_
    exact r_iret (pc := 11) dX10_addSet_11 rfl h
