/-! EndlessRows: decode rows and verification conditions, by program -/
theorem dX11_begin_0 : decode cX11_begin 0 = .ok (.iload_n 1, 1) := by decide +kernel
theorem dX11_begin_1 : decode cX11_begin 1 = .ok (.iconst 2, 1) := by decide +kernel
theorem dX11_begin_2 : decode cX11_begin 2 = .ok (.if_icmp .eq 14, 3) := by decide +kernel
theorem dX11_begin_5 : decode cX11_begin 5 = .ok (.iload_n 1, 1) := by decide +kernel
theorem dX11_begin_6 : decode cX11_begin 6 = .ok (.iconst 3, 1) := by decide +kernel
theorem dX11_begin_7 : decode cX11_begin 7 = .ok (.if_icmp .eq 9, 3) := by decide +kernel
theorem dX11_begin_10 : decode cX11_begin 10 = .ok (.aload_n 0, 1) := by decide +kernel
theorem dX11_begin_11 : decode cX11_begin 11 = .ok (.iconst 1, 1) := by decide +kernel
theorem dX11_begin_12 : decode cX11_begin 12 = .ok (.invokevirtual 91, 3) := by decide +kernel
theorem dX11_begin_15 : decode cX11_begin 15 = .ok (.ireturn, 1) := by decide +kernel
theorem dX11_begin_16 : decode cX11_begin 16 = .ok (.aload_n 0, 1) := by decide +kernel
theorem dX11_begin_17 : decode cX11_begin 17 = .ok (.iload_n 1, 1) := by decide +kernel
theorem dX11_begin_18 : decode cX11_begin 18 = .ok (.putfield 67, 3) := by decide +kernel
theorem dX11_begin_21 : decode cX11_begin 21 = .ok (.aload_n 0, 1) := by decide +kernel
theorem dX11_begin_22 : decode cX11_begin 22 = .ok (.iconst 0, 1) := by decide +kernel
theorem dX11_begin_23 : decode cX11_begin 23 = .ok (.putfield 71, 3) := by decide +kernel
theorem dX11_begin_26 : decode cX11_begin 26 = .ok (.aload_n 0, 1) := by decide +kernel
theorem dX11_begin_27 : decode cX11_begin 27 = .ok (.iconst 0, 1) := by decide +kernel
theorem dX11_begin_28 : decode cX11_begin 28 = .ok (.putfield 74, 3) := by decide +kernel
theorem dX11_begin_31 : decode cX11_begin 31 = .ok (.aload_n 0, 1) := by decide +kernel
theorem dX11_begin_32 : decode cX11_begin 32 = .ok (.iconst 1, 1) := by decide +kernel
theorem dX11_begin_33 : decode cX11_begin 33 = .ok (.invokevirtual 95, 3) := by decide +kernel
theorem dX11_begin_36 : decode cX11_begin 36 = .ok (.ireturn, 1) := by decide +kernel
theorem dX11_sheet_0 : decode cX11_sheet 0 = .ok (.iload_n 1, 1) := by decide +kernel
theorem dX11_sheet_1 : decode cX11_sheet 1 = .ok (.bipush 6, 2) := by decide +kernel
theorem dX11_sheet_3 : decode cX11_sheet 3 = .ok (.invokestatic 98, 3) := by decide +kernel
theorem dX11_sheet_6 : decode cX11_sheet 6 = .ok (.ifCond .eq 13, 3) := by decide +kernel
theorem dX11_sheet_9 : decode cX11_sheet 9 = .ok (.iload_n 2, 1) := by decide +kernel
theorem dX11_sheet_10 : decode cX11_sheet 10 = .ok (.iconst (-1), 1) := by decide +kernel
theorem dX11_sheet_11 : decode cX11_sheet 11 = .ok (.if_icmp .lt 8, 3) := by decide +kernel
theorem dX11_sheet_14 : decode cX11_sheet 14 = .ok (.iload_n 2, 1) := by decide +kernel
theorem dX11_sheet_15 : decode cX11_sheet 15 = .ok (.iconst 2, 1) := by decide +kernel
theorem dX11_sheet_16 : decode cX11_sheet 16 = .ok (.if_icmp .le 9, 3) := by decide +kernel
theorem dX11_sheet_19 : decode cX11_sheet 19 = .ok (.aload_n 0, 1) := by decide +kernel
theorem dX11_sheet_20 : decode cX11_sheet 20 = .ok (.iconst 1, 1) := by decide +kernel
theorem dX11_sheet_21 : decode cX11_sheet 21 = .ok (.invokevirtual 91, 3) := by decide +kernel
theorem dX11_sheet_24 : decode cX11_sheet 24 = .ok (.ireturn, 1) := by decide +kernel
theorem dX11_sheet_25 : decode cX11_sheet 25 = .ok (.iload_n 2, 1) := by decide +kernel
theorem dX11_sheet_26 : decode cX11_sheet 26 = .ok (.iconst (-1), 1) := by decide +kernel
theorem dX11_sheet_27 : decode cX11_sheet 27 = .ok (.if_icmp .eq 19, 3) := by decide +kernel
theorem dX11_sheet_30 : decode cX11_sheet 30 = .ok (.iload_n 3, 1) := by decide +kernel
theorem dX11_sheet_31 : decode cX11_sheet 31 = .ok (.ifCond .lt 9, 3) := by decide +kernel
theorem dX11_sheet_34 : decode cX11_sheet 34 = .ok (.iload_n 3, 1) := by decide +kernel
theorem dX11_sheet_35 : decode cX11_sheet 35 = .ok (.bipush 40, 2) := by decide +kernel
theorem dX11_sheet_37 : decode cX11_sheet 37 = .ok (.if_icmp .le 9, 3) := by decide +kernel
theorem dX11_sheet_40 : decode cX11_sheet 40 = .ok (.aload_n 0, 1) := by decide +kernel
theorem dX11_sheet_41 : decode cX11_sheet 41 = .ok (.iconst 1, 1) := by decide +kernel
theorem dX11_sheet_42 : decode cX11_sheet 42 = .ok (.invokevirtual 91, 3) := by decide +kernel
theorem dX11_sheet_45 : decode cX11_sheet 45 = .ok (.ireturn, 1) := by decide +kernel
theorem dX11_sheet_46 : decode cX11_sheet 46 = .ok (.aload_n 0, 1) := by decide +kernel
theorem dX11_sheet_47 : decode cX11_sheet 47 = .ok (.getfield 30, 3) := by decide +kernel
theorem dX11_sheet_50 : decode cX11_sheet 50 = .ok (.iload_n 1, 1) := by decide +kernel
theorem dX11_sheet_51 : decode cX11_sheet 51 = .ok (.iload_n 2, 1) := by decide +kernel
theorem dX11_sheet_52 : decode cX11_sheet 52 = .ok (.iastore, 1) := by decide +kernel
theorem dX11_sheet_53 : decode cX11_sheet 53 = .ok (.aload_n 0, 1) := by decide +kernel
theorem dX11_sheet_54 : decode cX11_sheet 54 = .ok (.getfield 33, 3) := by decide +kernel
theorem dX11_sheet_57 : decode cX11_sheet 57 = .ok (.iload_n 1, 1) := by decide +kernel
theorem dX11_sheet_58 : decode cX11_sheet 58 = .ok (.iload_n 2, 1) := by decide +kernel
theorem dX11_sheet_59 : decode cX11_sheet 59 = .ok (.iconst (-1), 1) := by decide +kernel
theorem dX11_sheet_60 : decode cX11_sheet 60 = .ok (.if_icmp .ne 7, 3) := by decide +kernel
theorem dX11_sheet_63 : decode cX11_sheet 63 = .ok (.iconst 0, 1) := by decide +kernel
theorem dX11_sheet_64 : decode cX11_sheet 64 = .ok (.goto 4, 3) := by decide +kernel
theorem dX11_sheet_67 : decode cX11_sheet 67 = .ok (.iload_n 3, 1) := by decide +kernel
theorem dX11_sheet_68 : decode cX11_sheet 68 = .ok (.iastore, 1) := by decide +kernel
theorem dX11_sheet_69 : decode cX11_sheet 69 = .ok (.aload_n 0, 1) := by decide +kernel
theorem dX11_sheet_70 : decode cX11_sheet 70 = .ok (.getfield 27, 3) := by decide +kernel
theorem dX11_sheet_73 : decode cX11_sheet 73 = .ok (.iload_n 1, 1) := by decide +kernel
theorem dX11_sheet_74 : decode cX11_sheet 74 = .ok (.aaload, 1) := by decide +kernel
theorem dX11_sheet_75 : decode cX11_sheet 75 = .ok (.iconst 0, 1) := by decide +kernel
theorem dX11_sheet_76 : decode cX11_sheet 76 = .ok (.invokestatic 85, 3) := by decide +kernel
theorem dX11_sheet_79 : decode cX11_sheet 79 = .ok (.aload_n 0, 1) := by decide +kernel
theorem dX11_sheet_80 : decode cX11_sheet 80 = .ok (.iconst 1, 1) := by decide +kernel
theorem dX11_sheet_81 : decode cX11_sheet 81 = .ok (.invokevirtual 95, 3) := by decide +kernel
theorem dX11_sheet_84 : decode cX11_sheet 84 = .ok (.ireturn, 1) := by decide +kernel
theorem dX11_cell_0 : decode cX11_cell 0 = .ok (.iload_n 1, 1) := by decide +kernel
theorem dX11_cell_1 : decode cX11_cell 1 = .ok (.bipush 6, 2) := by decide +kernel
theorem dX11_cell_3 : decode cX11_cell 3 = .ok (.invokestatic 98, 3) := by decide +kernel
theorem dX11_cell_6 : decode cX11_cell 6 = .ok (.ifCond .eq 13, 3) := by decide +kernel
theorem dX11_cell_9 : decode cX11_cell 9 = .ok (.iload_n 3, 1) := by decide +kernel
theorem dX11_cell_10 : decode cX11_cell 10 = .ok (.ifCond .lt 9, 3) := by decide +kernel
theorem dX11_cell_13 : decode cX11_cell 13 = .ok (.iload_n 3, 1) := by decide +kernel
theorem dX11_cell_14 : decode cX11_cell 14 = .ok (.bipush 100, 2) := by decide +kernel
theorem dX11_cell_16 : decode cX11_cell 16 = .ok (.if_icmp .le 9, 3) := by decide +kernel
theorem dX11_cell_19 : decode cX11_cell 19 = .ok (.aload_n 0, 1) := by decide +kernel
theorem dX11_cell_20 : decode cX11_cell 20 = .ok (.iconst 1, 1) := by decide +kernel
theorem dX11_cell_21 : decode cX11_cell 21 = .ok (.invokevirtual 91, 3) := by decide +kernel
theorem dX11_cell_24 : decode cX11_cell 24 = .ok (.ireturn, 1) := by decide +kernel
theorem dX11_cell_25 : decode cX11_cell 25 = .ok (.aload_n 0, 1) := by decide +kernel
theorem dX11_cell_26 : decode cX11_cell 26 = .ok (.getfield 30, 3) := by decide +kernel
theorem dX11_cell_29 : decode cX11_cell 29 = .ok (.iload_n 1, 1) := by decide +kernel
theorem dX11_cell_30 : decode cX11_cell 30 = .ok (.iaload, 1) := by decide +kernel
theorem dX11_cell_31 : decode cX11_cell 31 = .ok (.iconst (-1), 1) := by decide +kernel
theorem dX11_cell_32 : decode cX11_cell 32 = .ok (.if_icmp .ne 10, 3) := by decide +kernel
theorem dX11_cell_35 : decode cX11_cell 35 = .ok (.aload_n 0, 1) := by decide +kernel
theorem dX11_cell_36 : decode cX11_cell 36 = .ok (.bipush 10, 2) := by decide +kernel
theorem dX11_cell_38 : decode cX11_cell 38 = .ok (.invokevirtual 91, 3) := by decide +kernel
theorem dX11_cell_41 : decode cX11_cell 41 = .ok (.ireturn, 1) := by decide +kernel
theorem dX11_cell_42 : decode cX11_cell 42 = .ok (.iload_n 2, 1) := by decide +kernel
theorem dX11_cell_43 : decode cX11_cell 43 = .ok (.aload_n 0, 1) := by decide +kernel
theorem dX11_cell_44 : decode cX11_cell 44 = .ok (.getfield 33, 3) := by decide +kernel
theorem dX11_cell_47 : decode cX11_cell 47 = .ok (.iload_n 1, 1) := by decide +kernel
theorem dX11_cell_48 : decode cX11_cell 48 = .ok (.iaload, 1) := by decide +kernel
theorem dX11_cell_49 : decode cX11_cell 49 = .ok (.invokestatic 98, 3) := by decide +kernel
theorem dX11_cell_52 : decode cX11_cell 52 = .ok (.ifCond .ne 10, 3) := by decide +kernel
theorem dX11_cell_55 : decode cX11_cell 55 = .ok (.aload_n 0, 1) := by decide +kernel
theorem dX11_cell_56 : decode cX11_cell 56 = .ok (.bipush 12, 2) := by decide +kernel
theorem dX11_cell_58 : decode cX11_cell 58 = .ok (.invokevirtual 91, 3) := by decide +kernel
theorem dX11_cell_61 : decode cX11_cell 61 = .ok (.ireturn, 1) := by decide +kernel
theorem dX11_cell_62 : decode cX11_cell 62 = .ok (.aload_n 0, 1) := by decide +kernel
theorem dX11_cell_63 : decode cX11_cell 63 = .ok (.getfield 27, 3) := by decide +kernel
theorem dX11_cell_66 : decode cX11_cell 66 = .ok (.iload_n 1, 1) := by decide +kernel
theorem dX11_cell_67 : decode cX11_cell 67 = .ok (.aaload, 1) := by decide +kernel
theorem dX11_cell_68 : decode cX11_cell 68 = .ok (.iload_n 2, 1) := by decide +kernel
theorem dX11_cell_69 : decode cX11_cell 69 = .ok (.iload_n 3, 1) := by decide +kernel
theorem dX11_cell_70 : decode cX11_cell 70 = .ok (.iastore, 1) := by decide +kernel
theorem dX11_cell_71 : decode cX11_cell 71 = .ok (.aload_n 0, 1) := by decide +kernel
theorem dX11_cell_72 : decode cX11_cell 72 = .ok (.iconst 1, 1) := by decide +kernel
theorem dX11_cell_73 : decode cX11_cell 73 = .ok (.invokevirtual 95, 3) := by decide +kernel
theorem dX11_cell_76 : decode cX11_cell 76 = .ok (.ireturn, 1) := by decide +kernel
theorem dX11_machine_0 : decode cX11_machine 0 = .ok (.iload_n 1, 1) := by decide +kernel
theorem dX11_machine_1 : decode cX11_machine 1 = .ok (.bipush 6, 2) := by decide +kernel
theorem dX11_machine_3 : decode cX11_machine 3 = .ok (.invokestatic 98, 3) := by decide +kernel
theorem dX11_machine_6 : decode cX11_machine 6 = .ok (.ifCond .eq 33, 3) := by decide +kernel
theorem dX11_machine_9 : decode cX11_machine 9 = .ok (.iload_n 2, 1) := by decide +kernel
theorem dX11_machine_10 : decode cX11_machine 10 = .ok (.bipush 6, 2) := by decide +kernel
theorem dX11_machine_12 : decode cX11_machine 12 = .ok (.invokestatic 98, 3) := by decide +kernel
theorem dX11_machine_15 : decode cX11_machine 15 = .ok (.ifCond .eq 24, 3) := by decide +kernel
theorem dX11_machine_18 : decode cX11_machine 18 = .ok (.iload_n 3, 1) := by decide +kernel
theorem dX11_machine_19 : decode cX11_machine 19 = .ok (.iconst 3, 1) := by decide +kernel
theorem dX11_machine_20 : decode cX11_machine 20 = .ok (.invokestatic 98, 3) := by decide +kernel
theorem dX11_machine_23 : decode cX11_machine 23 = .ok (.ifCond .eq 16, 3) := by decide +kernel
theorem dX11_machine_26 : decode cX11_machine 26 = .ok (.iload 4, 2) := by decide +kernel
theorem dX11_machine_28 : decode cX11_machine 28 = .ok (.iconst 1, 1) := by decide +kernel
theorem dX11_machine_29 : decode cX11_machine 29 = .ok (.if_icmp .lt 10, 3) := by decide +kernel
theorem dX11_machine_32 : decode cX11_machine 32 = .ok (.iload 4, 2) := by decide +kernel
theorem dX11_machine_34 : decode cX11_machine 34 = .ok (.bipush 8, 2) := by decide +kernel
theorem dX11_machine_36 : decode cX11_machine 36 = .ok (.if_icmp .le 9, 3) := by decide +kernel
theorem dX11_machine_39 : decode cX11_machine 39 = .ok (.aload_n 0, 1) := by decide +kernel
theorem dX11_machine_40 : decode cX11_machine 40 = .ok (.iconst 1, 1) := by decide +kernel
theorem dX11_machine_41 : decode cX11_machine 41 = .ok (.invokevirtual 91, 3) := by decide +kernel
theorem dX11_machine_44 : decode cX11_machine 44 = .ok (.ireturn, 1) := by decide +kernel
theorem dX11_machine_45 : decode cX11_machine 45 = .ok (.aload_n 0, 1) := by decide +kernel
theorem dX11_machine_46 : decode cX11_machine 46 = .ok (.getfield 71, 3) := by decide +kernel
theorem dX11_machine_49 : decode cX11_machine 49 = .ok (.bipush 10, 2) := by decide +kernel
theorem dX11_machine_51 : decode cX11_machine 51 = .ok (.if_icmp .lt 9, 3) := by decide +kernel
theorem dX11_machine_54 : decode cX11_machine 54 = .ok (.aload_n 0, 1) := by decide +kernel
theorem dX11_machine_55 : decode cX11_machine 55 = .ok (.iconst 2, 1) := by decide +kernel
theorem dX11_machine_56 : decode cX11_machine 56 = .ok (.invokevirtual 91, 3) := by decide +kernel
theorem dX11_machine_59 : decode cX11_machine 59 = .ok (.ireturn, 1) := by decide +kernel
theorem dX11_machine_60 : decode cX11_machine 60 = .ok (.aload_n 0, 1) := by decide +kernel
theorem dX11_machine_61 : decode cX11_machine 61 = .ok (.iload_n 1, 1) := by decide +kernel
theorem dX11_machine_62 : decode cX11_machine 62 = .ok (.iload_n 3, 1) := by decide +kernel
theorem dX11_machine_63 : decode cX11_machine 63 = .ok (.invokevirtual 102, 3) := by decide +kernel
theorem dX11_machine_66 : decode cX11_machine 66 = .ok (.ifCond .ne 12, 3) := by decide +kernel
theorem dX11_machine_69 : decode cX11_machine 69 = .ok (.aload_n 0, 1) := by decide +kernel
theorem dX11_machine_70 : decode cX11_machine 70 = .ok (.iload_n 2, 1) := by decide +kernel
theorem dX11_machine_71 : decode cX11_machine 71 = .ok (.iload_n 3, 1) := by decide +kernel
theorem dX11_machine_72 : decode cX11_machine 72 = .ok (.invokevirtual 102, 3) := by decide +kernel
theorem dX11_machine_75 : decode cX11_machine 75 = .ok (.ifCond .eq 10, 3) := by decide +kernel
theorem dX11_machine_78 : decode cX11_machine 78 = .ok (.aload_n 0, 1) := by decide +kernel
theorem dX11_machine_79 : decode cX11_machine 79 = .ok (.bipush 11, 2) := by decide +kernel
theorem dX11_machine_81 : decode cX11_machine 81 = .ok (.invokevirtual 91, 3) := by decide +kernel
theorem dX11_machine_84 : decode cX11_machine 84 = .ok (.ireturn, 1) := by decide +kernel
theorem dX11_machine_85 : decode cX11_machine 85 = .ok (.aload_n 0, 1) := by decide +kernel
theorem dX11_machine_86 : decode cX11_machine 86 = .ok (.iload_n 1, 1) := by decide +kernel
theorem dX11_machine_87 : decode cX11_machine 87 = .ok (.iload 4, 2) := by decide +kernel
theorem dX11_machine_89 : decode cX11_machine 89 = .ok (.aload_n 0, 1) := by decide +kernel
theorem dX11_machine_90 : decode cX11_machine 90 = .ok (.getfield 67, 3) := by decide +kernel
theorem dX11_machine_93 : decode cX11_machine 93 = .ok (.imul, 1) := by decide +kernel
theorem dX11_machine_94 : decode cX11_machine 94 = .ok (.invokevirtual 105, 3) := by decide +kernel
theorem dX11_machine_97 : decode cX11_machine 97 = .ok (.ifCond .ne 13, 3) := by decide +kernel
theorem dX11_machine_100 : decode cX11_machine 100 = .ok (.aload_n 0, 1) := by decide +kernel
theorem dX11_machine_101 : decode cX11_machine 101 = .ok (.iload_n 2, 1) := by decide +kernel
theorem dX11_machine_102 : decode cX11_machine 102 = .ok (.iload 4, 2) := by decide +kernel
theorem dX11_machine_104 : decode cX11_machine 104 = .ok (.invokevirtual 105, 3) := by decide +kernel
theorem dX11_machine_107 : decode cX11_machine 107 = .ok (.ifCond .eq 10, 3) := by decide +kernel
theorem dX11_machine_110 : decode cX11_machine 110 = .ok (.aload_n 0, 1) := by decide +kernel
theorem dX11_machine_111 : decode cX11_machine 111 = .ok (.bipush 12, 2) := by decide +kernel
theorem dX11_machine_113 : decode cX11_machine 113 = .ok (.invokevirtual 91, 3) := by decide +kernel
theorem dX11_machine_116 : decode cX11_machine 116 = .ok (.ireturn, 1) := by decide +kernel
theorem dX11_machine_117 : decode cX11_machine 117 = .ok (.aload_n 0, 1) := by decide +kernel
theorem dX11_machine_118 : decode cX11_machine 118 = .ok (.iload_n 1, 1) := by decide +kernel
theorem dX11_machine_119 : decode cX11_machine 119 = .ok (.invokevirtual 108, 3) := by decide +kernel
theorem dX11_machine_122 : decode cX11_machine 122 = .ok (.iload 4, 2) := by decide +kernel
theorem dX11_machine_124 : decode cX11_machine 124 = .ok (.aload_n 0, 1) := by decide +kernel
theorem dX11_machine_125 : decode cX11_machine 125 = .ok (.getfield 67, 3) := by decide +kernel
theorem dX11_machine_128 : decode cX11_machine 128 = .ok (.imul, 1) := by decide +kernel
theorem dX11_machine_129 : decode cX11_machine 129 = .ok (.iload 4, 2) := by decide +kernel
theorem dX11_machine_131 : decode cX11_machine 131 = .ok (.invokestatic 112, 3) := by decide +kernel
theorem dX11_machine_134 : decode cX11_machine 134 = .ok (.ifCond .eq 18, 3) := by decide +kernel
theorem dX11_machine_137 : decode cX11_machine 137 = .ok (.aload_n 0, 1) := by decide +kernel
theorem dX11_machine_138 : decode cX11_machine 138 = .ok (.iload_n 2, 1) := by decide +kernel
theorem dX11_machine_139 : decode cX11_machine 139 = .ok (.invokevirtual 108, 3) := by decide +kernel
theorem dX11_machine_142 : decode cX11_machine 142 = .ok (.iload 4, 2) := by decide +kernel
theorem dX11_machine_144 : decode cX11_machine 144 = .ok (.bipush 8, 2) := by decide +kernel
theorem dX11_machine_146 : decode cX11_machine 146 = .ok (.invokestatic 112, 3) := by decide +kernel
theorem dX11_machine_149 : decode cX11_machine 149 = .ok (.ifCond .ne 9, 3) := by decide +kernel
theorem dX11_machine_152 : decode cX11_machine 152 = .ok (.aload_n 0, 1) := by decide +kernel
theorem dX11_machine_153 : decode cX11_machine 153 = .ok (.iconst 3, 1) := by decide +kernel
theorem dX11_machine_154 : decode cX11_machine 154 = .ok (.invokevirtual 91, 3) := by decide +kernel
theorem dX11_machine_157 : decode cX11_machine 157 = .ok (.ireturn, 1) := by decide +kernel
theorem dX11_machine_158 : decode cX11_machine 158 = .ok (.aload_n 0, 1) := by decide +kernel
theorem dX11_machine_159 : decode cX11_machine 159 = .ok (.getfield 49, 3) := by decide +kernel
theorem dX11_machine_162 : decode cX11_machine 162 = .ok (.aload_n 0, 1) := by decide +kernel
theorem dX11_machine_163 : decode cX11_machine 163 = .ok (.iload_n 1, 1) := by decide +kernel
theorem dX11_machine_164 : decode cX11_machine 164 = .ok (.invokevirtual 108, 3) := by decide +kernel
theorem dX11_machine_167 : decode cX11_machine 167 = .ok (.aload_n 0, 1) := by decide +kernel
theorem dX11_machine_168 : decode cX11_machine 168 = .ok (.iload_n 2, 1) := by decide +kernel
theorem dX11_machine_169 : decode cX11_machine 169 = .ok (.invokevirtual 108, 3) := by decide +kernel
theorem dX11_machine_172 : decode cX11_machine 172 = .ok (.iload 4, 2) := by decide +kernel
theorem dX11_machine_174 : decode cX11_machine 174 = .ok (.aload_n 0, 1) := by decide +kernel
theorem dX11_machine_175 : decode cX11_machine 175 = .ok (.getfield 67, 3) := by decide +kernel
theorem dX11_machine_178 : decode cX11_machine 178 = .ok (.aload_n 0, 1) := by decide +kernel
theorem dX11_machine_179 : decode cX11_machine 179 = .ok (.getfield 11, 3) := by decide +kernel
theorem dX11_machine_182 : decode cX11_machine 182 = .ok (.aload_n 0, 1) := by decide +kernel
theorem dX11_machine_183 : decode cX11_machine 183 = .ok (.getfield 71, 3) := by decide +kernel
theorem dX11_machine_186 : decode cX11_machine 186 = .ok (.aaload, 1) := by decide +kernel
theorem dX11_machine_187 : decode cX11_machine 187 = .ok (.getfield 116, 3) := by decide +kernel
theorem dX11_machine_190 : decode cX11_machine 190 = .ok (.invokevirtual 120, 3) := by decide +kernel
theorem dX11_machine_193 : decode cX11_machine 193 = .ok (.aload_n 0, 1) := by decide +kernel
theorem dX11_machine_194 : decode cX11_machine 194 = .ok (.iconst 0, 1) := by decide +kernel
theorem dX11_machine_195 : decode cX11_machine 195 = .ok (.iconst (-1), 1) := by decide +kernel
theorem dX11_machine_196 : decode cX11_machine 196 = .ok (.invokevirtual 124, 3) := by decide +kernel
theorem dX11_machine_199 : decode cX11_machine 199 = .ok (.ireturn, 1) := by decide +kernel
theorem dX11_grown_0 : decode cX11_grown 0 = .ok (.iload_n 1, 1) := by decide +kernel
theorem dX11_grown_1 : decode cX11_grown 1 = .ok (.bipush 6, 2) := by decide +kernel
theorem dX11_grown_3 : decode cX11_grown 3 = .ok (.invokestatic 98, 3) := by decide +kernel
theorem dX11_grown_6 : decode cX11_grown 6 = .ok (.ifCond .eq 22, 3) := by decide +kernel
theorem dX11_grown_9 : decode cX11_grown 9 = .ok (.iload_n 2, 1) := by decide +kernel
theorem dX11_grown_10 : decode cX11_grown 10 = .ok (.iconst 3, 1) := by decide +kernel
theorem dX11_grown_11 : decode cX11_grown 11 = .ok (.invokestatic 98, 3) := by decide +kernel
theorem dX11_grown_14 : decode cX11_grown 14 = .ok (.ifCond .eq 14, 3) := by decide +kernel
theorem dX11_grown_17 : decode cX11_grown 17 = .ok (.iload_n 3, 1) := by decide +kernel
theorem dX11_grown_18 : decode cX11_grown 18 = .ok (.iconst 1, 1) := by decide +kernel
theorem dX11_grown_19 : decode cX11_grown 19 = .ok (.if_icmp .lt 9, 3) := by decide +kernel
theorem dX11_grown_22 : decode cX11_grown 22 = .ok (.iload_n 3, 1) := by decide +kernel
theorem dX11_grown_23 : decode cX11_grown 23 = .ok (.bipush 8, 2) := by decide +kernel
theorem dX11_grown_25 : decode cX11_grown 25 = .ok (.if_icmp .le 9, 3) := by decide +kernel
theorem dX11_grown_28 : decode cX11_grown 28 = .ok (.aload_n 0, 1) := by decide +kernel
theorem dX11_grown_29 : decode cX11_grown 29 = .ok (.iconst 1, 1) := by decide +kernel
theorem dX11_grown_30 : decode cX11_grown 30 = .ok (.invokevirtual 91, 3) := by decide +kernel
theorem dX11_grown_33 : decode cX11_grown 33 = .ok (.ireturn, 1) := by decide +kernel
theorem dX11_grown_34 : decode cX11_grown 34 = .ok (.aload_n 0, 1) := by decide +kernel
theorem dX11_grown_35 : decode cX11_grown 35 = .ok (.iload_n 1, 1) := by decide +kernel
theorem dX11_grown_36 : decode cX11_grown 36 = .ok (.iload_n 2, 1) := by decide +kernel
theorem dX11_grown_37 : decode cX11_grown 37 = .ok (.iload_n 3, 1) := by decide +kernel
theorem dX11_grown_38 : decode cX11_grown 38 = .ok (.aload_n 0, 1) := by decide +kernel
theorem dX11_grown_39 : decode cX11_grown 39 = .ok (.getfield 67, 3) := by decide +kernel
theorem dX11_grown_42 : decode cX11_grown 42 = .ok (.imul, 1) := by decide +kernel
theorem dX11_grown_43 : decode cX11_grown 43 = .ok (.invokevirtual 128, 3) := by decide +kernel
theorem dX11_grown_46 : decode cX11_grown 46 = .ok (.istore 4, 2) := by decide +kernel
theorem dX11_grown_48 : decode cX11_grown 48 = .ok (.iload 4, 2) := by decide +kernel
theorem dX11_grown_50 : decode cX11_grown 50 = .ok (.ifCond .eq 10, 3) := by decide +kernel
theorem dX11_grown_53 : decode cX11_grown 53 = .ok (.aload_n 0, 1) := by decide +kernel
theorem dX11_grown_54 : decode cX11_grown 54 = .ok (.iload 4, 2) := by decide +kernel
theorem dX11_grown_56 : decode cX11_grown 56 = .ok (.invokevirtual 91, 3) := by decide +kernel
theorem dX11_grown_59 : decode cX11_grown 59 = .ok (.ireturn, 1) := by decide +kernel
theorem dX11_grown_60 : decode cX11_grown 60 = .ok (.aload_n 0, 1) := by decide +kernel
theorem dX11_grown_61 : decode cX11_grown 61 = .ok (.getfield 27, 3) := by decide +kernel
theorem dX11_grown_64 : decode cX11_grown 64 = .ok (.iload_n 1, 1) := by decide +kernel
theorem dX11_grown_65 : decode cX11_grown 65 = .ok (.aaload, 1) := by decide +kernel
theorem dX11_grown_66 : decode cX11_grown 66 = .ok (.astore 5, 2) := by decide +kernel
theorem dX11_grown_68 : decode cX11_grown 68 = .ok (.aload 5, 2) := by decide +kernel
theorem dX11_grown_70 : decode cX11_grown 70 = .ok (.iload_n 3, 1) := by decide +kernel
theorem dX11_grown_71 : decode cX11_grown 71 = .ok (.aload_n 0, 1) := by decide +kernel
theorem dX11_grown_72 : decode cX11_grown 72 = .ok (.getfield 67, 3) := by decide +kernel
theorem dX11_grown_75 : decode cX11_grown 75 = .ok (.imul, 1) := by decide +kernel
theorem dX11_grown_76 : decode cX11_grown 76 = .ok (.iload_n 3, 1) := by decide +kernel
theorem dX11_grown_77 : decode cX11_grown 77 = .ok (.invokestatic 112, 3) := by decide +kernel
theorem dX11_grown_80 : decode cX11_grown 80 = .ok (.ifCond .eq 10, 3) := by decide +kernel
theorem dX11_grown_83 : decode cX11_grown 83 = .ok (.aload 5, 2) := by decide +kernel
theorem dX11_grown_85 : decode cX11_grown 85 = .ok (.iconst 0, 1) := by decide +kernel
theorem dX11_grown_86 : decode cX11_grown 86 = .ok (.iaload, 1) := by decide +kernel
theorem dX11_grown_87 : decode cX11_grown 87 = .ok (.ifCond .eq 9, 3) := by decide +kernel
theorem dX11_grown_90 : decode cX11_grown 90 = .ok (.aload_n 0, 1) := by decide +kernel
theorem dX11_grown_91 : decode cX11_grown 91 = .ok (.iconst 3, 1) := by decide +kernel
theorem dX11_grown_92 : decode cX11_grown 92 = .ok (.invokevirtual 91, 3) := by decide +kernel
theorem dX11_grown_95 : decode cX11_grown 95 = .ok (.ireturn, 1) := by decide +kernel
theorem dX11_grown_96 : decode cX11_grown 96 = .ok (.aload_n 0, 1) := by decide +kernel
theorem dX11_grown_97 : decode cX11_grown 97 = .ok (.getfield 49, 3) := by decide +kernel
theorem dX11_grown_100 : decode cX11_grown 100 = .ok (.aload 5, 2) := by decide +kernel
theorem dX11_grown_102 : decode cX11_grown 102 = .ok (.iload_n 3, 1) := by decide +kernel
theorem dX11_grown_103 : decode cX11_grown 103 = .ok (.aload_n 0, 1) := by decide +kernel
theorem dX11_grown_104 : decode cX11_grown 104 = .ok (.getfield 67, 3) := by decide +kernel
theorem dX11_grown_107 : decode cX11_grown 107 = .ok (.aload_n 0, 1) := by decide +kernel
theorem dX11_grown_108 : decode cX11_grown 108 = .ok (.getfield 11, 3) := by decide +kernel
theorem dX11_grown_111 : decode cX11_grown 111 = .ok (.aload_n 0, 1) := by decide +kernel
theorem dX11_grown_112 : decode cX11_grown 112 = .ok (.getfield 71, 3) := by decide +kernel
theorem dX11_grown_115 : decode cX11_grown 115 = .ok (.aaload, 1) := by decide +kernel
theorem dX11_grown_116 : decode cX11_grown 116 = .ok (.getfield 116, 3) := by decide +kernel
theorem dX11_grown_119 : decode cX11_grown 119 = .ok (.invokevirtual 132, 3) := by decide +kernel
theorem dX11_grown_122 : decode cX11_grown 122 = .ok (.aload_n 0, 1) := by decide +kernel
theorem dX11_grown_123 : decode cX11_grown 123 = .ok (.iconst 1, 1) := by decide +kernel
theorem dX11_grown_124 : decode cX11_grown 124 = .ok (.iconst (-1), 1) := by decide +kernel
theorem dX11_grown_125 : decode cX11_grown 125 = .ok (.invokevirtual 124, 3) := by decide +kernel
theorem dX11_grown_128 : decode cX11_grown 128 = .ok (.ireturn, 1) := by decide +kernel
theorem dX11_ring_0 : decode cX11_ring 0 = .ok (.iload_n 1, 1) := by decide +kernel
theorem dX11_ring_1 : decode cX11_ring 1 = .ok (.bipush 6, 2) := by decide +kernel
theorem dX11_ring_3 : decode cX11_ring 3 = .ok (.invokestatic 98, 3) := by decide +kernel
theorem dX11_ring_6 : decode cX11_ring 6 = .ok (.ifCond .eq 33, 3) := by decide +kernel
theorem dX11_ring_9 : decode cX11_ring 9 = .ok (.iload_n 2, 1) := by decide +kernel
theorem dX11_ring_10 : decode cX11_ring 10 = .ok (.iconst 3, 1) := by decide +kernel
theorem dX11_ring_11 : decode cX11_ring 11 = .ok (.invokestatic 98, 3) := by decide +kernel
theorem dX11_ring_14 : decode cX11_ring 14 = .ok (.ifCond .eq 25, 3) := by decide +kernel
theorem dX11_ring_17 : decode cX11_ring 17 = .ok (.iload_n 3, 1) := by decide +kernel
theorem dX11_ring_18 : decode cX11_ring 18 = .ok (.bipush 7, 2) := by decide +kernel
theorem dX11_ring_20 : decode cX11_ring 20 = .ok (.invokestatic 98, 3) := by decide +kernel
theorem dX11_ring_23 : decode cX11_ring 23 = .ok (.ifCond .eq 16, 3) := by decide +kernel
theorem dX11_ring_26 : decode cX11_ring 26 = .ok (.iload 4, 2) := by decide +kernel
theorem dX11_ring_28 : decode cX11_ring 28 = .ok (.iconst 1, 1) := by decide +kernel
theorem dX11_ring_29 : decode cX11_ring 29 = .ok (.if_icmp .lt 10, 3) := by decide +kernel
theorem dX11_ring_32 : decode cX11_ring 32 = .ok (.iload 4, 2) := by decide +kernel
theorem dX11_ring_34 : decode cX11_ring 34 = .ok (.bipush 6, 2) := by decide +kernel
theorem dX11_ring_36 : decode cX11_ring 36 = .ok (.if_icmp .le 9, 3) := by decide +kernel
theorem dX11_ring_39 : decode cX11_ring 39 = .ok (.aload_n 0, 1) := by decide +kernel
theorem dX11_ring_40 : decode cX11_ring 40 = .ok (.iconst 1, 1) := by decide +kernel
theorem dX11_ring_41 : decode cX11_ring 41 = .ok (.invokevirtual 91, 3) := by decide +kernel
theorem dX11_ring_44 : decode cX11_ring 44 = .ok (.ireturn, 1) := by decide +kernel
theorem dX11_ring_45 : decode cX11_ring 45 = .ok (.aload_n 0, 1) := by decide +kernel
theorem dX11_ring_46 : decode cX11_ring 46 = .ok (.iload_n 1, 1) := by decide +kernel
theorem dX11_ring_47 : decode cX11_ring 47 = .ok (.iload_n 2, 1) := by decide +kernel
theorem dX11_ring_48 : decode cX11_ring 48 = .ok (.iload_n 3, 1) := by decide +kernel
theorem dX11_ring_49 : decode cX11_ring 49 = .ok (.iload 4, 2) := by decide +kernel
theorem dX11_ring_51 : decode cX11_ring 51 = .ok (.iadd, 1) := by decide +kernel
theorem dX11_ring_52 : decode cX11_ring 52 = .ok (.invokevirtual 128, 3) := by decide +kernel
theorem dX11_ring_55 : decode cX11_ring 55 = .ok (.istore 5, 2) := by decide +kernel
theorem dX11_ring_57 : decode cX11_ring 57 = .ok (.iload 5, 2) := by decide +kernel
theorem dX11_ring_59 : decode cX11_ring 59 = .ok (.ifCond .eq 10, 3) := by decide +kernel
theorem dX11_ring_62 : decode cX11_ring 62 = .ok (.aload_n 0, 1) := by decide +kernel
theorem dX11_ring_63 : decode cX11_ring 63 = .ok (.iload 5, 2) := by decide +kernel
theorem dX11_ring_65 : decode cX11_ring 65 = .ok (.invokevirtual 91, 3) := by decide +kernel
theorem dX11_ring_68 : decode cX11_ring 68 = .ok (.ireturn, 1) := by decide +kernel
theorem dX11_ring_69 : decode cX11_ring 69 = .ok (.aload_n 0, 1) := by decide +kernel
theorem dX11_ring_70 : decode cX11_ring 70 = .ok (.getfield 27, 3) := by decide +kernel
theorem dX11_ring_73 : decode cX11_ring 73 = .ok (.iload_n 1, 1) := by decide +kernel
theorem dX11_ring_74 : decode cX11_ring 74 = .ok (.aaload, 1) := by decide +kernel
theorem dX11_ring_75 : decode cX11_ring 75 = .ok (.iload_n 3, 1) := by decide +kernel
theorem dX11_ring_76 : decode cX11_ring 76 = .ok (.iload 4, 2) := by decide +kernel
theorem dX11_ring_78 : decode cX11_ring 78 = .ok (.iadd, 1) := by decide +kernel
theorem dX11_ring_79 : decode cX11_ring 79 = .ok (.bipush 8, 2) := by decide +kernel
theorem dX11_ring_81 : decode cX11_ring 81 = .ok (.invokestatic 112, 3) := by decide +kernel
theorem dX11_ring_84 : decode cX11_ring 84 = .ok (.ifCond .ne 9, 3) := by decide +kernel
theorem dX11_ring_87 : decode cX11_ring 87 = .ok (.aload_n 0, 1) := by decide +kernel
theorem dX11_ring_88 : decode cX11_ring 88 = .ok (.iconst 3, 1) := by decide +kernel
theorem dX11_ring_89 : decode cX11_ring 89 = .ok (.invokevirtual 91, 3) := by decide +kernel
theorem dX11_ring_92 : decode cX11_ring 92 = .ok (.ireturn, 1) := by decide +kernel
theorem dX11_ring_93 : decode cX11_ring 93 = .ok (.aload_n 0, 1) := by decide +kernel
theorem dX11_ring_94 : decode cX11_ring 94 = .ok (.getfield 49, 3) := by decide +kernel
theorem dX11_ring_97 : decode cX11_ring 97 = .ok (.aload_n 0, 1) := by decide +kernel
theorem dX11_ring_98 : decode cX11_ring 98 = .ok (.getfield 27, 3) := by decide +kernel
theorem dX11_ring_101 : decode cX11_ring 101 = .ok (.iload_n 1, 1) := by decide +kernel
theorem dX11_ring_102 : decode cX11_ring 102 = .ok (.aaload, 1) := by decide +kernel
theorem dX11_ring_103 : decode cX11_ring 103 = .ok (.iload_n 3, 1) := by decide +kernel
theorem dX11_ring_104 : decode cX11_ring 104 = .ok (.iload 4, 2) := by decide +kernel
theorem dX11_ring_106 : decode cX11_ring 106 = .ok (.aload_n 0, 1) := by decide +kernel
theorem dX11_ring_107 : decode cX11_ring 107 = .ok (.getfield 67, 3) := by decide +kernel
theorem dX11_ring_110 : decode cX11_ring 110 = .ok (.aload_n 0, 1) := by decide +kernel
theorem dX11_ring_111 : decode cX11_ring 111 = .ok (.getfield 11, 3) := by decide +kernel
theorem dX11_ring_114 : decode cX11_ring 114 = .ok (.aload_n 0, 1) := by decide +kernel
theorem dX11_ring_115 : decode cX11_ring 115 = .ok (.getfield 71, 3) := by decide +kernel
theorem dX11_ring_118 : decode cX11_ring 118 = .ok (.aaload, 1) := by decide +kernel
theorem dX11_ring_119 : decode cX11_ring 119 = .ok (.getfield 116, 3) := by decide +kernel
theorem dX11_ring_122 : decode cX11_ring 122 = .ok (.invokevirtual 136, 3) := by decide +kernel
theorem dX11_ring_125 : decode cX11_ring 125 = .ok (.aload_n 0, 1) := by decide +kernel
theorem dX11_ring_126 : decode cX11_ring 126 = .ok (.iconst 2, 1) := by decide +kernel
theorem dX11_ring_127 : decode cX11_ring 127 = .ok (.iconst (-1), 1) := by decide +kernel
theorem dX11_ring_128 : decode cX11_ring 128 = .ok (.invokevirtual 124, 3) := by decide +kernel
theorem dX11_ring_131 : decode cX11_ring 131 = .ok (.ireturn, 1) := by decide +kernel
theorem dX11_pair_0 : decode cX11_pair 0 = .ok (.iload_n 1, 1) := by decide +kernel
theorem dX11_pair_1 : decode cX11_pair 1 = .ok (.aload_n 0, 1) := by decide +kernel
theorem dX11_pair_2 : decode cX11_pair 2 = .ok (.getfield 71, 3) := by decide +kernel
theorem dX11_pair_5 : decode cX11_pair 5 = .ok (.invokestatic 98, 3) := by decide +kernel
theorem dX11_pair_8 : decode cX11_pair 8 = .ok (.ifCond .eq 22, 3) := by decide +kernel
theorem dX11_pair_11 : decode cX11_pair 11 = .ok (.iload_n 2, 1) := by decide +kernel
theorem dX11_pair_12 : decode cX11_pair 12 = .ok (.aload_n 0, 1) := by decide +kernel
theorem dX11_pair_13 : decode cX11_pair 13 = .ok (.getfield 71, 3) := by decide +kernel
theorem dX11_pair_16 : decode cX11_pair 16 = .ok (.invokestatic 98, 3) := by decide +kernel
theorem dX11_pair_19 : decode cX11_pair 19 = .ok (.ifCond .eq 11, 3) := by decide +kernel
theorem dX11_pair_22 : decode cX11_pair 22 = .ok (.iload_n 3, 1) := by decide +kernel
theorem dX11_pair_23 : decode cX11_pair 23 = .ok (.iconst 3, 1) := by decide +kernel
theorem dX11_pair_24 : decode cX11_pair 24 = .ok (.invokestatic 98, 3) := by decide +kernel
theorem dX11_pair_27 : decode cX11_pair 27 = .ok (.ifCond .ne 9, 3) := by decide +kernel
theorem dX11_pair_30 : decode cX11_pair 30 = .ok (.aload_n 0, 1) := by decide +kernel
theorem dX11_pair_31 : decode cX11_pair 31 = .ok (.iconst 1, 1) := by decide +kernel
theorem dX11_pair_32 : decode cX11_pair 32 = .ok (.invokevirtual 91, 3) := by decide +kernel
theorem dX11_pair_35 : decode cX11_pair 35 = .ok (.ireturn, 1) := by decide +kernel
theorem dX11_pair_36 : decode cX11_pair 36 = .ok (.aload_n 0, 1) := by decide +kernel
theorem dX11_pair_37 : decode cX11_pair 37 = .ok (.getfield 71, 3) := by decide +kernel
theorem dX11_pair_40 : decode cX11_pair 40 = .ok (.bipush 10, 2) := by decide +kernel
theorem dX11_pair_42 : decode cX11_pair 42 = .ok (.if_icmp .lt 9, 3) := by decide +kernel
theorem dX11_pair_45 : decode cX11_pair 45 = .ok (.aload_n 0, 1) := by decide +kernel
theorem dX11_pair_46 : decode cX11_pair 46 = .ok (.iconst 2, 1) := by decide +kernel
theorem dX11_pair_47 : decode cX11_pair 47 = .ok (.invokevirtual 91, 3) := by decide +kernel
theorem dX11_pair_50 : decode cX11_pair 50 = .ok (.ireturn, 1) := by decide +kernel
theorem dX11_pair_51 : decode cX11_pair 51 = .ok (.aload_n 0, 1) := by decide +kernel
theorem dX11_pair_52 : decode cX11_pair 52 = .ok (.getfield 49, 3) := by decide +kernel
theorem dX11_pair_55 : decode cX11_pair 55 = .ok (.aload_n 0, 1) := by decide +kernel
theorem dX11_pair_56 : decode cX11_pair 56 = .ok (.getfield 11, 3) := by decide +kernel
theorem dX11_pair_59 : decode cX11_pair 59 = .ok (.iload_n 1, 1) := by decide +kernel
theorem dX11_pair_60 : decode cX11_pair 60 = .ok (.aaload, 1) := by decide +kernel
theorem dX11_pair_61 : decode cX11_pair 61 = .ok (.getfield 116, 3) := by decide +kernel
theorem dX11_pair_64 : decode cX11_pair 64 = .ok (.aload_n 0, 1) := by decide +kernel
theorem dX11_pair_65 : decode cX11_pair 65 = .ok (.getfield 11, 3) := by decide +kernel
theorem dX11_pair_68 : decode cX11_pair 68 = .ok (.iload_n 2, 1) := by decide +kernel
theorem dX11_pair_69 : decode cX11_pair 69 = .ok (.aaload, 1) := by decide +kernel
theorem dX11_pair_70 : decode cX11_pair 70 = .ok (.getfield 116, 3) := by decide +kernel
theorem dX11_pair_73 : decode cX11_pair 73 = .ok (.iload_n 3, 1) := by decide +kernel
theorem dX11_pair_74 : decode cX11_pair 74 = .ok (.aload_n 0, 1) := by decide +kernel
theorem dX11_pair_75 : decode cX11_pair 75 = .ok (.getfield 67, 3) := by decide +kernel
theorem dX11_pair_78 : decode cX11_pair 78 = .ok (.aload_n 0, 1) := by decide +kernel
theorem dX11_pair_79 : decode cX11_pair 79 = .ok (.getfield 11, 3) := by decide +kernel
theorem dX11_pair_82 : decode cX11_pair 82 = .ok (.aload_n 0, 1) := by decide +kernel
theorem dX11_pair_83 : decode cX11_pair 83 = .ok (.getfield 71, 3) := by decide +kernel
theorem dX11_pair_86 : decode cX11_pair 86 = .ok (.aaload, 1) := by decide +kernel
theorem dX11_pair_87 : decode cX11_pair 87 = .ok (.getfield 116, 3) := by decide +kernel
theorem dX11_pair_90 : decode cX11_pair 90 = .ok (.invokevirtual 140, 3) := by decide +kernel
theorem dX11_pair_93 : decode cX11_pair 93 = .ok (.ifCond .ne 9, 3) := by decide +kernel
theorem dX11_pair_96 : decode cX11_pair 96 = .ok (.aload_n 0, 1) := by decide +kernel
theorem dX11_pair_97 : decode cX11_pair 97 = .ok (.iconst 3, 1) := by decide +kernel
theorem dX11_pair_98 : decode cX11_pair 98 = .ok (.invokevirtual 91, 3) := by decide +kernel
theorem dX11_pair_101 : decode cX11_pair 101 = .ok (.ireturn, 1) := by decide +kernel
theorem dX11_pair_102 : decode cX11_pair 102 = .ok (.aload_n 0, 1) := by decide +kernel
theorem dX11_pair_103 : decode cX11_pair 103 = .ok (.iconst 3, 1) := by decide +kernel
theorem dX11_pair_104 : decode cX11_pair 104 = .ok (.iconst (-1), 1) := by decide +kernel
theorem dX11_pair_105 : decode cX11_pair 105 = .ok (.invokevirtual 124, 3) := by decide +kernel
theorem dX11_pair_108 : decode cX11_pair 108 = .ok (.ireturn, 1) := by decide +kernel
theorem dX11_sought_0 : decode cX11_sought 0 = .ok (.iload_n 1, 1) := by decide +kernel
theorem dX11_sought_1 : decode cX11_sought 1 = .ok (.aload_n 0, 1) := by decide +kernel
theorem dX11_sought_2 : decode cX11_sought 2 = .ok (.getfield 74, 3) := by decide +kernel
theorem dX11_sought_5 : decode cX11_sought 5 = .ok (.invokestatic 98, 3) := by decide +kernel
theorem dX11_sought_8 : decode cX11_sought 8 = .ok (.ifCond .ne 9, 3) := by decide +kernel
theorem dX11_sought_11 : decode cX11_sought 11 = .ok (.aload_n 0, 1) := by decide +kernel
theorem dX11_sought_12 : decode cX11_sought 12 = .ok (.iconst 1, 1) := by decide +kernel
theorem dX11_sought_13 : decode cX11_sought 13 = .ok (.invokevirtual 91, 3) := by decide +kernel
theorem dX11_sought_16 : decode cX11_sought 16 = .ok (.ireturn, 1) := by decide +kernel
theorem dX11_sought_17 : decode cX11_sought 17 = .ok (.aload_n 0, 1) := by decide +kernel
theorem dX11_sought_18 : decode cX11_sought 18 = .ok (.getfield 71, 3) := by decide +kernel
theorem dX11_sought_21 : decode cX11_sought 21 = .ok (.bipush 10, 2) := by decide +kernel
theorem dX11_sought_23 : decode cX11_sought 23 = .ok (.if_icmp .lt 9, 3) := by decide +kernel
theorem dX11_sought_26 : decode cX11_sought 26 = .ok (.aload_n 0, 1) := by decide +kernel
theorem dX11_sought_27 : decode cX11_sought 27 = .ok (.iconst 2, 1) := by decide +kernel
theorem dX11_sought_28 : decode cX11_sought 28 = .ok (.invokevirtual 91, 3) := by decide +kernel
theorem dX11_sought_31 : decode cX11_sought 31 = .ok (.ireturn, 1) := by decide +kernel
theorem dX11_sought_32 : decode cX11_sought 32 = .ok (.aload_n 0, 1) := by decide +kernel
theorem dX11_sought_33 : decode cX11_sought 33 = .ok (.iload_n 1, 1) := by decide +kernel
theorem dX11_sought_34 : decode cX11_sought 34 = .ok (.iconst 1, 1) := by decide +kernel
theorem dX11_sought_35 : decode cX11_sought 35 = .ok (.invokevirtual 144, 3) := by decide +kernel
theorem dX11_sought_38 : decode cX11_sought 38 = .ok (.astore_n 2, 1) := by decide +kernel
theorem dX11_sought_39 : decode cX11_sought 39 = .ok (.aload_n 2, 1) := by decide +kernel
theorem dX11_sought_40 : decode cX11_sought 40 = .ok (.ifnonnull 9, 3) := by decide +kernel
theorem dX11_sought_43 : decode cX11_sought 43 = .ok (.aload_n 0, 1) := by decide +kernel
theorem dX11_sought_44 : decode cX11_sought 44 = .ok (.iconst 3, 1) := by decide +kernel
theorem dX11_sought_45 : decode cX11_sought 45 = .ok (.invokevirtual 91, 3) := by decide +kernel
theorem dX11_sought_48 : decode cX11_sought 48 = .ok (.ireturn, 1) := by decide +kernel
theorem dX11_sought_49 : decode cX11_sought 49 = .ok (.aload_n 0, 1) := by decide +kernel
theorem dX11_sought_50 : decode cX11_sought 50 = .ok (.getfield 11, 3) := by decide +kernel
theorem dX11_sought_53 : decode cX11_sought 53 = .ok (.aload_n 0, 1) := by decide +kernel
theorem dX11_sought_54 : decode cX11_sought 54 = .ok (.getfield 71, 3) := by decide +kernel
theorem dX11_sought_57 : decode cX11_sought 57 = .ok (.aaload, 1) := by decide +kernel
theorem dX11_sought_58 : decode cX11_sought 58 = .ok (.getfield 116, 3) := by decide +kernel
theorem dX11_sought_61 : decode cX11_sought 61 = .ok (.aload_n 2, 1) := by decide +kernel
theorem dX11_sought_62 : decode cX11_sought 62 = .ok (.invokevirtual 148, 3) := by decide +kernel
theorem dX11_sought_65 : decode cX11_sought 65 = .ok (.aload_n 0, 1) := by decide +kernel
theorem dX11_sought_66 : decode cX11_sought 66 = .ok (.iconst 4, 1) := by decide +kernel
theorem dX11_sought_67 : decode cX11_sought 67 = .ok (.iload_n 1, 1) := by decide +kernel
theorem dX11_sought_68 : decode cX11_sought 68 = .ok (.invokevirtual 124, 3) := by decide +kernel
theorem dX11_sought_71 : decode cX11_sought 71 = .ok (.ireturn, 1) := by decide +kernel
theorem dX11_feed_0 : decode cX11_feed 0 = .ok (.iload_n 1, 1) := by decide +kernel
theorem dX11_feed_1 : decode cX11_feed 1 = .ok (.iconst 1, 1) := by decide +kernel
theorem dX11_feed_2 : decode cX11_feed 2 = .ok (.if_icmp .lt 9, 3) := by decide +kernel
theorem dX11_feed_5 : decode cX11_feed 5 = .ok (.iload_n 1, 1) := by decide +kernel
theorem dX11_feed_6 : decode cX11_feed 6 = .ok (.bipush 8, 2) := by decide +kernel
theorem dX11_feed_8 : decode cX11_feed 8 = .ok (.if_icmp .le 9, 3) := by decide +kernel
theorem dX11_feed_11 : decode cX11_feed 11 = .ok (.aload_n 0, 1) := by decide +kernel
theorem dX11_feed_12 : decode cX11_feed 12 = .ok (.iconst 1, 1) := by decide +kernel
theorem dX11_feed_13 : decode cX11_feed 13 = .ok (.invokevirtual 91, 3) := by decide +kernel
theorem dX11_feed_16 : decode cX11_feed 16 = .ok (.ireturn, 1) := by decide +kernel
theorem dX11_feed_17 : decode cX11_feed 17 = .ok (.aload_n 0, 1) := by decide +kernel
theorem dX11_feed_18 : decode cX11_feed 18 = .ok (.getfield 77, 3) := by decide +kernel
theorem dX11_feed_21 : decode cX11_feed 21 = .ok (.iload_n 1, 1) := by decide +kernel
theorem dX11_feed_22 : decode cX11_feed 22 = .ok (.iadd, 1) := by decide +kernel
theorem dX11_feed_23 : decode cX11_feed 23 = .ok (.bipush 120, 2) := by decide +kernel
theorem dX11_feed_25 : decode cX11_feed 25 = .ok (.if_icmp .le 9, 3) := by decide +kernel
theorem dX11_feed_28 : decode cX11_feed 28 = .ok (.aload_n 0, 1) := by decide +kernel
theorem dX11_feed_29 : decode cX11_feed 29 = .ok (.iconst 2, 1) := by decide +kernel
theorem dX11_feed_30 : decode cX11_feed 30 = .ok (.invokevirtual 91, 3) := by decide +kernel
theorem dX11_feed_33 : decode cX11_feed 33 = .ok (.ireturn, 1) := by decide +kernel
theorem dX11_feed_34 : decode cX11_feed 34 = .ok (.iconst 0, 1) := by decide +kernel
theorem dX11_feed_35 : decode cX11_feed 35 = .ok (.istore 4, 2) := by decide +kernel
theorem dX11_feed_37 : decode cX11_feed 37 = .ok (.iload 4, 2) := by decide +kernel
theorem dX11_feed_39 : decode cX11_feed 39 = .ok (.iload_n 1, 1) := by decide +kernel
theorem dX11_feed_40 : decode cX11_feed 40 = .ok (.if_icmp .ge 33, 3) := by decide +kernel
theorem dX11_feed_43 : decode cX11_feed 43 = .ok (.aload_n 0, 1) := by decide +kernel
theorem dX11_feed_44 : decode cX11_feed 44 = .ok (.getfield 21, 3) := by decide +kernel
theorem dX11_feed_47 : decode cX11_feed 47 = .ok (.aload_n 0, 1) := by decide +kernel
theorem dX11_feed_48 : decode cX11_feed 48 = .ok (.getfield 77, 3) := by decide +kernel
theorem dX11_feed_51 : decode cX11_feed 51 = .ok (.iload 4, 2) := by decide +kernel
theorem dX11_feed_53 : decode cX11_feed 53 = .ok (.iadd, 1) := by decide +kernel
theorem dX11_feed_54 : decode cX11_feed 54 = .ok (.lload_n 2, 1) := by decide +kernel
theorem dX11_feed_55 : decode cX11_feed 55 = .ok (.bipush 8, 2) := by decide +kernel
theorem dX11_feed_57 : decode cX11_feed 57 = .ok (.iload 4, 2) := by decide +kernel
theorem dX11_feed_59 : decode cX11_feed 59 = .ok (.imul, 1) := by decide +kernel
theorem dX11_feed_60 : decode cX11_feed 60 = .ok (.lushr, 1) := by decide +kernel
theorem dX11_feed_61 : decode cX11_feed 61 = .ok (.l2i, 1) := by decide +kernel
theorem dX11_feed_62 : decode cX11_feed 62 = .ok (.sipush 255, 3) := by decide +kernel
theorem dX11_feed_65 : decode cX11_feed 65 = .ok (.iand, 1) := by decide +kernel
theorem dX11_feed_66 : decode cX11_feed 66 = .ok (.iastore, 1) := by decide +kernel
theorem dX11_feed_67 : decode cX11_feed 67 = .ok (.iinc 4 1, 3) := by decide +kernel
theorem dX11_feed_70 : decode cX11_feed 70 = .ok (.goto (-33), 3) := by decide +kernel
theorem dX11_feed_73 : decode cX11_feed 73 = .ok (.aload_n 0, 1) := by decide +kernel
theorem dX11_feed_74 : decode cX11_feed 74 = .ok (.dup, 1) := by decide +kernel
theorem dX11_feed_75 : decode cX11_feed 75 = .ok (.getfield 77, 3) := by decide +kernel
theorem dX11_feed_78 : decode cX11_feed 78 = .ok (.iload_n 1, 1) := by decide +kernel
theorem dX11_feed_79 : decode cX11_feed 79 = .ok (.iadd, 1) := by decide +kernel
theorem dX11_feed_80 : decode cX11_feed 80 = .ok (.putfield 77, 3) := by decide +kernel
theorem dX11_feed_83 : decode cX11_feed 83 = .ok (.aload_n 0, 1) := by decide +kernel
theorem dX11_feed_84 : decode cX11_feed 84 = .ok (.aload_n 0, 1) := by decide +kernel
theorem dX11_feed_85 : decode cX11_feed 85 = .ok (.getfield 77, 3) := by decide +kernel
theorem dX11_feed_88 : decode cX11_feed 88 = .ok (.invokevirtual 95, 3) := by decide +kernel
theorem dX11_feed_91 : decode cX11_feed 91 = .ok (.ireturn, 1) := by decide +kernel
theorem dX11_question_0 : decode cX11_question 0 = .ok (.aload_n 0, 1) := by decide +kernel
theorem dX11_question_1 : decode cX11_question 1 = .ok (.getfield 77, 3) := by decide +kernel
theorem dX11_question_4 : decode cX11_question 4 = .ok (.istore_n 1, 1) := by decide +kernel
theorem dX11_question_5 : decode cX11_question 5 = .ok (.aload_n 0, 1) := by decide +kernel
theorem dX11_question_6 : decode cX11_question 6 = .ok (.iconst 0, 1) := by decide +kernel
theorem dX11_question_7 : decode cX11_question 7 = .ok (.putfield 77, 3) := by decide +kernel
theorem dX11_question_10 : decode cX11_question 10 = .ok (.aload_n 0, 1) := by decide +kernel
theorem dX11_question_11 : decode cX11_question 11 = .ok (.getfield 74, 3) := by decide +kernel
theorem dX11_question_14 : decode cX11_question 14 = .ok (.bipush 10, 2) := by decide +kernel
theorem dX11_question_16 : decode cX11_question 16 = .ok (.if_icmp .lt 9, 3) := by decide +kernel
theorem dX11_question_19 : decode cX11_question 19 = .ok (.aload_n 0, 1) := by decide +kernel
theorem dX11_question_20 : decode cX11_question 20 = .ok (.iconst 2, 1) := by decide +kernel
theorem dX11_question_21 : decode cX11_question 21 = .ok (.invokevirtual 91, 3) := by decide +kernel
theorem dX11_question_24 : decode cX11_question 24 = .ok (.ireturn, 1) := by decide +kernel
theorem dX11_question_25 : decode cX11_question 25 = .ok (.aload_n 0, 1) := by decide +kernel
theorem dX11_question_26 : decode cX11_question 26 = .ok (.getfield 17, 3) := by decide +kernel
theorem dX11_question_29 : decode cX11_question 29 = .ok (.aload_n 0, 1) := by decide +kernel
theorem dX11_question_30 : decode cX11_question 30 = .ok (.getfield 74, 3) := by decide +kernel
theorem dX11_question_33 : decode cX11_question 33 = .ok (.aaload, 1) := by decide +kernel
theorem dX11_question_34 : decode cX11_question 34 = .ok (.astore_n 2, 1) := by decide +kernel
theorem dX11_question_35 : decode cX11_question 35 = .ok (.aload_n 0, 1) := by decide +kernel
theorem dX11_question_36 : decode cX11_question 36 = .ok (.getfield 42, 3) := by decide +kernel
theorem dX11_question_39 : decode cX11_question 39 = .ok (.aload_n 0, 1) := by decide +kernel
theorem dX11_question_40 : decode cX11_question 40 = .ok (.getfield 21, 3) := by decide +kernel
theorem dX11_question_43 : decode cX11_question 43 = .ok (.iload_n 1, 1) := by decide +kernel
theorem dX11_question_44 : decode cX11_question 44 = .ok (.aload_n 0, 1) := by decide +kernel
theorem dX11_question_45 : decode cX11_question 45 = .ok (.getfield 11, 3) := by decide +kernel
theorem dX11_question_48 : decode cX11_question 48 = .ok (.aload_n 0, 1) := by decide +kernel
theorem dX11_question_49 : decode cX11_question 49 = .ok (.getfield 71, 3) := by decide +kernel
theorem dX11_question_52 : decode cX11_question 52 = .ok (.aload_n 2, 1) := by decide +kernel
theorem dX11_question_53 : decode cX11_question 53 = .ok (.invokevirtual 154, 3) := by decide +kernel
theorem dX11_question_56 : decode cX11_question 56 = .ok (.aload_n 2, 1) := by decide +kernel
theorem dX11_question_57 : decode cX11_question 57 = .ok (.getfield 158, 3) := by decide +kernel
theorem dX11_question_60 : decode cX11_question 60 = .ok (.ifCond .ne 30, 3) := by decide +kernel
theorem dX11_question_63 : decode cX11_question 63 = .ok (.aload_n 0, 1) := by decide +kernel
theorem dX11_question_64 : decode cX11_question 64 = .ok (.getfield 49, 3) := by decide +kernel
theorem dX11_question_67 : decode cX11_question 67 = .ok (.aload_n 0, 1) := by decide +kernel
theorem dX11_question_68 : decode cX11_question 68 = .ok (.getfield 42, 3) := by decide +kernel
theorem dX11_question_71 : decode cX11_question 71 = .ok (.getfield 161, 3) := by decide +kernel
theorem dX11_question_74 : decode cX11_question 74 = .ok (.aload_n 2, 1) := by decide +kernel
theorem dX11_question_75 : decode cX11_question 75 = .ok (.aload_n 0, 1) := by decide +kernel
theorem dX11_question_76 : decode cX11_question 76 = .ok (.getfield 11, 3) := by decide +kernel
theorem dX11_question_79 : decode cX11_question 79 = .ok (.aload_n 0, 1) := by decide +kernel
theorem dX11_question_80 : decode cX11_question 80 = .ok (.getfield 71, 3) := by decide +kernel
theorem dX11_question_83 : decode cX11_question 83 = .ok (.aload_n 0, 1) := by decide +kernel
theorem dX11_question_84 : decode cX11_question 84 = .ok (.getfield 67, 3) := by decide +kernel
theorem dX11_question_87 : decode cX11_question 87 = .ok (.invokevirtual 165, 3) := by decide +kernel
theorem dX11_question_90 : decode cX11_question 90 = .ok (.aload_n 0, 1) := by decide +kernel
theorem dX11_question_91 : decode cX11_question 91 = .ok (.dup, 1) := by decide +kernel
theorem dX11_question_92 : decode cX11_question 92 = .ok (.getfield 74, 3) := by decide +kernel
theorem dX11_question_95 : decode cX11_question 95 = .ok (.iconst 1, 1) := by decide +kernel
theorem dX11_question_96 : decode cX11_question 96 = .ok (.iadd, 1) := by decide +kernel
theorem dX11_question_97 : decode cX11_question 97 = .ok (.putfield 74, 3) := by decide +kernel
theorem dX11_question_100 : decode cX11_question 100 = .ok (.aload_n 0, 1) := by decide +kernel
theorem dX11_question_101 : decode cX11_question 101 = .ok (.aload_n 0, 1) := by decide +kernel
theorem dX11_question_102 : decode cX11_question 102 = .ok (.getfield 74, 3) := by decide +kernel
theorem dX11_question_105 : decode cX11_question 105 = .ok (.iconst 1, 1) := by decide +kernel
theorem dX11_question_106 : decode cX11_question 106 = .ok (.isub, 1) := by decide +kernel
theorem dX11_question_107 : decode cX11_question 107 = .ok (.invokevirtual 95, 3) := by decide +kernel
theorem dX11_question_110 : decode cX11_question 110 = .ok (.ireturn, 1) := by decide +kernel
theorem dX11_drop_0 : decode cX11_drop 0 = .ok (.iload_n 1, 1) := by decide +kernel
theorem dX11_drop_1 : decode cX11_drop 1 = .ok (.ifCond .ne 8, 3) := by decide +kernel
theorem dX11_drop_4 : decode cX11_drop 4 = .ok (.aload_n 0, 1) := by decide +kernel
theorem dX11_drop_5 : decode cX11_drop 5 = .ok (.invokevirtual 169, 3) := by decide +kernel
theorem dX11_drop_8 : decode cX11_drop 8 = .ok (.ireturn, 1) := by decide +kernel
theorem dX11_drop_9 : decode cX11_drop 9 = .ok (.iload_n 1, 1) := by decide +kernel
theorem dX11_drop_10 : decode cX11_drop 10 = .ok (.iconst 1, 1) := by decide +kernel
theorem dX11_drop_11 : decode cX11_drop 11 = .ok (.if_icmp .ne 10, 3) := by decide +kernel
theorem dX11_drop_14 : decode cX11_drop 14 = .ok (.aload_n 0, 1) := by decide +kernel
theorem dX11_drop_15 : decode cX11_drop 15 = .ok (.invokevirtual 173, 3) := by decide +kernel
theorem dX11_drop_18 : decode cX11_drop 18 = .ok (.goto 8, 3) := by decide +kernel
theorem dX11_drop_21 : decode cX11_drop 21 = .ok (.aload_n 0, 1) := by decide +kernel
theorem dX11_drop_22 : decode cX11_drop 22 = .ok (.iconst 1, 1) := by decide +kernel
theorem dX11_drop_23 : decode cX11_drop 23 = .ok (.invokevirtual 91, 3) := by decide +kernel
theorem dX11_drop_26 : decode cX11_drop 26 = .ok (.ireturn, 1) := by decide +kernel
theorem dX11_count_0 : decode cX11_count 0 = .ok (.iload_n 1, 1) := by decide +kernel
theorem dX11_count_1 : decode cX11_count 1 = .ok (.tableswitch 63 0 4 #[35, 40, 45, 50, 55], 35) := by decide +kernel
theorem dX11_count_36 : decode cX11_count 36 = .ok (.aload_n 0, 1) := by decide +kernel
theorem dX11_count_37 : decode cX11_count 37 = .ok (.getfield 71, 3) := by decide +kernel
theorem dX11_count_40 : decode cX11_count 40 = .ok (.ireturn, 1) := by decide +kernel
theorem dX11_count_41 : decode cX11_count 41 = .ok (.aload_n 0, 1) := by decide +kernel
theorem dX11_count_42 : decode cX11_count 42 = .ok (.getfield 74, 3) := by decide +kernel
theorem dX11_count_45 : decode cX11_count 45 = .ok (.ireturn, 1) := by decide +kernel
theorem dX11_count_46 : decode cX11_count 46 = .ok (.aload_n 0, 1) := by decide +kernel
theorem dX11_count_47 : decode cX11_count 47 = .ok (.getfield 77, 3) := by decide +kernel
theorem dX11_count_50 : decode cX11_count 50 = .ok (.ireturn, 1) := by decide +kernel
theorem dX11_count_51 : decode cX11_count 51 = .ok (.aload_n 0, 1) := by decide +kernel
theorem dX11_count_52 : decode cX11_count 52 = .ok (.getfield 67, 3) := by decide +kernel
theorem dX11_count_55 : decode cX11_count 55 = .ok (.ireturn, 1) := by decide +kernel
theorem dX11_count_56 : decode cX11_count 56 = .ok (.aload_n 0, 1) := by decide +kernel
theorem dX11_count_57 : decode cX11_count 57 = .ok (.getfield 63, 3) := by decide +kernel
theorem dX11_count_60 : decode cX11_count 60 = .ok (.getfield 176, 3) := by decide +kernel
theorem dX11_count_63 : decode cX11_count 63 = .ok (.ireturn, 1) := by decide +kernel
theorem dX11_count_64 : decode cX11_count 64 = .ok (.iconst (-1), 1) := by decide +kernel
theorem dX11_count_65 : decode cX11_count 65 = .ok (.ireturn, 1) := by decide +kernel
theorem dX11_kind_0 : decode cX11_kind 0 = .ok (.iload_n 1, 1) := by decide +kernel
theorem dX11_kind_1 : decode cX11_kind 1 = .ok (.aload_n 0, 1) := by decide +kernel
theorem dX11_kind_2 : decode cX11_kind 2 = .ok (.getfield 71, 3) := by decide +kernel
theorem dX11_kind_5 : decode cX11_kind 5 = .ok (.invokestatic 98, 3) := by decide +kernel
theorem dX11_kind_8 : decode cX11_kind 8 = .ok (.ifCond .eq 15, 3) := by decide +kernel
theorem dX11_kind_11 : decode cX11_kind 11 = .ok (.aload_n 0, 1) := by decide +kernel
theorem dX11_kind_12 : decode cX11_kind 12 = .ok (.getfield 11, 3) := by decide +kernel
theorem dX11_kind_15 : decode cX11_kind 15 = .ok (.iload_n 1, 1) := by decide +kernel
theorem dX11_kind_16 : decode cX11_kind 16 = .ok (.aaload, 1) := by decide +kernel
theorem dX11_kind_17 : decode cX11_kind 17 = .ok (.getfield 179, 3) := by decide +kernel
theorem dX11_kind_20 : decode cX11_kind 20 = .ok (.goto 4, 3) := by decide +kernel
theorem dX11_kind_23 : decode cX11_kind 23 = .ok (.iconst (-1), 1) := by decide +kernel
theorem dX11_kind_24 : decode cX11_kind 24 = .ok (.ireturn, 1) := by decide +kernel
theorem dX11_letter_0 : decode cX11_letter 0 = .ok (.iload_n 1, 1) := by decide +kernel
theorem dX11_letter_1 : decode cX11_letter 1 = .ok (.aload_n 0, 1) := by decide +kernel
theorem dX11_letter_2 : decode cX11_letter 2 = .ok (.getfield 71, 3) := by decide +kernel
theorem dX11_letter_5 : decode cX11_letter 5 = .ok (.invokestatic 98, 3) := by decide +kernel
theorem dX11_letter_8 : decode cX11_letter 8 = .ok (.ifCond .eq 17, 3) := by decide +kernel
theorem dX11_letter_11 : decode cX11_letter 11 = .ok (.lload_n 2, 1) := by decide +kernel
theorem dX11_letter_12 : decode cX11_letter 12 = .ok (.lconst 0, 1) := by decide +kernel
theorem dX11_letter_13 : decode cX11_letter 13 = .ok (.lcmp, 1) := by decide +kernel
theorem dX11_letter_14 : decode cX11_letter 14 = .ok (.ifCond .lt 11, 3) := by decide +kernel
theorem dX11_letter_17 : decode cX11_letter 17 = .ok (.lload_n 2, 1) := by decide +kernel
theorem dX11_letter_18 : decode cX11_letter 18 = .ok (.ldc2_w 182, 3) := by decide +kernel
theorem dX11_letter_21 : decode cX11_letter 21 = .ok (.lcmp, 1) := by decide +kernel
theorem dX11_letter_22 : decode cX11_letter 22 = .ok (.ifCond .le 5, 3) := by decide +kernel
theorem dX11_letter_25 : decode cX11_letter 25 = .ok (.iconst (-1), 1) := by decide +kernel
theorem dX11_letter_26 : decode cX11_letter 26 = .ok (.ireturn, 1) := by decide +kernel
theorem dX11_letter_27 : decode cX11_letter 27 = .ok (.aload_n 0, 1) := by decide +kernel
theorem dX11_letter_28 : decode cX11_letter 28 = .ok (.getfield 11, 3) := by decide +kernel
theorem dX11_letter_31 : decode cX11_letter 31 = .ok (.iload_n 1, 1) := by decide +kernel
theorem dX11_letter_32 : decode cX11_letter 32 = .ok (.aaload, 1) := by decide +kernel
theorem dX11_letter_33 : decode cX11_letter 33 = .ok (.getfield 116, 3) := by decide +kernel
theorem dX11_letter_36 : decode cX11_letter 36 = .ok (.astore 4, 2) := by decide +kernel
theorem dX11_letter_38 : decode cX11_letter 38 = .ok (.aload 4, 2) := by decide +kernel
theorem dX11_letter_40 : decode cX11_letter 40 = .ok (.aload 4, 2) := by decide +kernel
theorem dX11_letter_42 : decode cX11_letter 42 = .ok (.lload_n 2, 1) := by decide +kernel
theorem dX11_letter_43 : decode cX11_letter 43 = .ok (.aload_n 0, 1) := by decide +kernel
theorem dX11_letter_44 : decode cX11_letter 44 = .ok (.getfield 67, 3) := by decide +kernel
theorem dX11_letter_47 : decode cX11_letter 47 = .ok (.invokevirtual 184, 3) := by decide +kernel
theorem dX11_letter_50 : decode cX11_letter 50 = .ok (.invokevirtual 188, 3) := by decide +kernel
theorem dX11_letter_53 : decode cX11_letter 53 = .ok (.ireturn, 1) := by decide +kernel
theorem dX11_width_0 : decode cX11_width 0 = .ok (.iload_n 1, 1) := by decide +kernel
theorem dX11_width_1 : decode cX11_width 1 = .ok (.aload_n 0, 1) := by decide +kernel
theorem dX11_width_2 : decode cX11_width 2 = .ok (.getfield 71, 3) := by decide +kernel
theorem dX11_width_5 : decode cX11_width 5 = .ok (.invokestatic 98, 3) := by decide +kernel
theorem dX11_width_8 : decode cX11_width 8 = .ok (.ifCond .eq 18, 3) := by decide +kernel
theorem dX11_width_11 : decode cX11_width 11 = .ok (.aload_n 0, 1) := by decide +kernel
theorem dX11_width_12 : decode cX11_width 12 = .ok (.getfield 11, 3) := by decide +kernel
theorem dX11_width_15 : decode cX11_width 15 = .ok (.iload_n 1, 1) := by decide +kernel
theorem dX11_width_16 : decode cX11_width 16 = .ok (.aaload, 1) := by decide +kernel
theorem dX11_width_17 : decode cX11_width 17 = .ok (.getfield 116, 3) := by decide +kernel
theorem dX11_width_20 : decode cX11_width 20 = .ok (.getfield 191, 3) := by decide +kernel
theorem dX11_width_23 : decode cX11_width 23 = .ok (.goto 4, 3) := by decide +kernel
theorem dX11_width_26 : decode cX11_width 26 = .ok (.iconst (-1), 1) := by decide +kernel
theorem dX11_width_27 : decode cX11_width 27 = .ok (.ireturn, 1) := by decide +kernel
theorem dX11_differ_0 : decode cX11_differ 0 = .ok (.iload_n 1, 1) := by decide +kernel
theorem dX11_differ_1 : decode cX11_differ 1 = .ok (.aload_n 0, 1) := by decide +kernel
theorem dX11_differ_2 : decode cX11_differ 2 = .ok (.getfield 71, 3) := by decide +kernel
theorem dX11_differ_5 : decode cX11_differ 5 = .ok (.invokestatic 98, 3) := by decide +kernel
theorem dX11_differ_8 : decode cX11_differ 8 = .ok (.ifCond .eq 14, 3) := by decide +kernel
theorem dX11_differ_11 : decode cX11_differ 11 = .ok (.iload_n 2, 1) := by decide +kernel
theorem dX11_differ_12 : decode cX11_differ 12 = .ok (.aload_n 0, 1) := by decide +kernel
theorem dX11_differ_13 : decode cX11_differ 13 = .ok (.getfield 71, 3) := by decide +kernel
theorem dX11_differ_16 : decode cX11_differ 16 = .ok (.invokestatic 98, 3) := by decide +kernel
theorem dX11_differ_19 : decode cX11_differ 19 = .ok (.ifCond .ne 7, 3) := by decide +kernel
theorem dX11_differ_22 : decode cX11_differ 22 = .ok (.ldc2_w 194, 3) := by decide +kernel
theorem dX11_differ_25 : decode cX11_differ 25 = .ok (.lreturn, 1) := by decide +kernel
theorem dX11_differ_26 : decode cX11_differ 26 = .ok (.aload_n 0, 1) := by decide +kernel
theorem dX11_differ_27 : decode cX11_differ 27 = .ok (.getfield 56, 3) := by decide +kernel
theorem dX11_differ_30 : decode cX11_differ 30 = .ok (.aload_n 0, 1) := by decide +kernel
theorem dX11_differ_31 : decode cX11_differ 31 = .ok (.getfield 11, 3) := by decide +kernel
theorem dX11_differ_34 : decode cX11_differ 34 = .ok (.iload_n 1, 1) := by decide +kernel
theorem dX11_differ_35 : decode cX11_differ 35 = .ok (.aaload, 1) := by decide +kernel
theorem dX11_differ_36 : decode cX11_differ 36 = .ok (.getfield 116, 3) := by decide +kernel
theorem dX11_differ_39 : decode cX11_differ 39 = .ok (.aload_n 0, 1) := by decide +kernel
theorem dX11_differ_40 : decode cX11_differ 40 = .ok (.getfield 11, 3) := by decide +kernel
theorem dX11_differ_43 : decode cX11_differ 43 = .ok (.iload_n 2, 1) := by decide +kernel
theorem dX11_differ_44 : decode cX11_differ 44 = .ok (.aaload, 1) := by decide +kernel
theorem dX11_differ_45 : decode cX11_differ 45 = .ok (.getfield 116, 3) := by decide +kernel
theorem dX11_differ_48 : decode cX11_differ 48 = .ok (.aload_n 0, 1) := by decide +kernel
theorem dX11_differ_49 : decode cX11_differ 49 = .ok (.getfield 67, 3) := by decide +kernel
theorem dX11_differ_52 : decode cX11_differ 52 = .ok (.invokevirtual 196, 3) := by decide +kernel
theorem dX11_differ_55 : decode cX11_differ 55 = .ok (.lreturn, 1) := by decide +kernel
theorem dX11_told_0 : decode cX11_told 0 = .ok (.iload_n 1, 1) := by decide +kernel
theorem dX11_told_1 : decode cX11_told 1 = .ok (.aload_n 0, 1) := by decide +kernel
theorem dX11_told_2 : decode cX11_told 2 = .ok (.getfield 74, 3) := by decide +kernel
theorem dX11_told_5 : decode cX11_told 5 = .ok (.invokestatic 98, 3) := by decide +kernel
theorem dX11_told_8 : decode cX11_told 8 = .ok (.ifCond .eq 13, 3) := by decide +kernel
theorem dX11_told_11 : decode cX11_told 11 = .ok (.iload_n 2, 1) := by decide +kernel
theorem dX11_told_12 : decode cX11_told 12 = .ok (.ifCond .lt 9, 3) := by decide +kernel
theorem dX11_told_15 : decode cX11_told 15 = .ok (.iload_n 2, 1) := by decide +kernel
theorem dX11_told_16 : decode cX11_told 16 = .ok (.bipush 8, 2) := by decide +kernel
theorem dX11_told_18 : decode cX11_told 18 = .ok (.if_icmp .le 5, 3) := by decide +kernel
theorem dX11_told_21 : decode cX11_told 21 = .ok (.iconst (-1), 1) := by decide +kernel
theorem dX11_told_22 : decode cX11_told 22 = .ok (.ireturn, 1) := by decide +kernel
theorem dX11_told_23 : decode cX11_told 23 = .ok (.aload_n 0, 1) := by decide +kernel
theorem dX11_told_24 : decode cX11_told 24 = .ok (.getfield 17, 3) := by decide +kernel
theorem dX11_told_27 : decode cX11_told 27 = .ok (.iload_n 1, 1) := by decide +kernel
theorem dX11_told_28 : decode cX11_told 28 = .ok (.aaload, 1) := by decide +kernel
theorem dX11_told_29 : decode cX11_told 29 = .ok (.astore_n 3, 1) := by decide +kernel
theorem dX11_told_30 : decode cX11_told 30 = .ok (.iload_n 2, 1) := by decide +kernel
theorem dX11_told_31 : decode cX11_told 31 = .ok (.tableswitch 40 0 2 #[25, 30, 35], 25) := by decide +kernel
theorem dX11_told_56 : decode cX11_told 56 = .ok (.aload_n 3, 1) := by decide +kernel
theorem dX11_told_57 : decode cX11_told 57 = .ok (.getfield 158, 3) := by decide +kernel
theorem dX11_told_60 : decode cX11_told 60 = .ok (.ireturn, 1) := by decide +kernel
theorem dX11_told_61 : decode cX11_told 61 = .ok (.aload_n 3, 1) := by decide +kernel
theorem dX11_told_62 : decode cX11_told 62 = .ok (.getfield 200, 3) := by decide +kernel
theorem dX11_told_65 : decode cX11_told 65 = .ok (.ireturn, 1) := by decide +kernel
theorem dX11_told_66 : decode cX11_told 66 = .ok (.aload_n 3, 1) := by decide +kernel
theorem dX11_told_67 : decode cX11_told 67 = .ok (.getfield 203, 3) := by decide +kernel
theorem dX11_told_70 : decode cX11_told 70 = .ok (.ireturn, 1) := by decide +kernel
theorem dX11_told_71 : decode cX11_told 71 = .ok (.aload_n 3, 1) := by decide +kernel
theorem dX11_told_72 : decode cX11_told 72 = .ok (.getfield 158, 3) := by decide +kernel
theorem dX11_told_75 : decode cX11_told 75 = .ok (.ifCond .eq 8, 3) := by decide +kernel
theorem dX11_told_78 : decode cX11_told 78 = .ok (.bipush (-2), 2) := by decide +kernel
theorem dX11_told_80 : decode cX11_told 80 = .ok (.goto 8, 3) := by decide +kernel
theorem dX11_told_83 : decode cX11_told 83 = .ok (.aload_n 3, 1) := by decide +kernel
theorem dX11_told_84 : decode cX11_told 84 = .ok (.iload_n 2, 1) := by decide +kernel
theorem dX11_told_85 : decode cX11_told 85 = .ok (.invokevirtual 206, 3) := by decide +kernel
theorem dX11_told_88 : decode cX11_told 88 = .ok (.ireturn, 1) := by decide +kernel
theorem dX11_step_0 : decode cX11_step 0 = .ok (.aload_n 0, 1) := by decide +kernel
theorem dX11_step_1 : decode cX11_step 1 = .ok (.iload_n 1, 1) := by decide +kernel
theorem dX11_step_2 : decode cX11_step 2 = .ok (.invokevirtual 209, 3) := by decide +kernel
theorem dX11_step_5 : decode cX11_step 5 = .ok (.astore 4, 2) := by decide +kernel
theorem dX11_step_7 : decode cX11_step 7 = .ok (.aload 4, 2) := by decide +kernel
theorem dX11_step_9 : decode cX11_step 9 = .ok (.ifnull 27, 3) := by decide +kernel
theorem dX11_step_12 : decode cX11_step 12 = .ok (.iload_n 2, 1) := by decide +kernel
theorem dX11_step_13 : decode cX11_step 13 = .ok (.aload 4, 2) := by decide +kernel
theorem dX11_step_15 : decode cX11_step 15 = .ok (.getfield 191, 3) := by decide +kernel
theorem dX11_step_18 : decode cX11_step 18 = .ok (.invokestatic 98, 3) := by decide +kernel
theorem dX11_step_21 : decode cX11_step 21 = .ok (.ifCond .eq 15, 3) := by decide +kernel
theorem dX11_step_24 : decode cX11_step 24 = .ok (.iload_n 3, 1) := by decide +kernel
theorem dX11_step_25 : decode cX11_step 25 = .ok (.aload 4, 2) := by decide +kernel
theorem dX11_step_27 : decode cX11_step 27 = .ok (.getfield 213, 3) := by decide +kernel
theorem dX11_step_30 : decode cX11_step 30 = .ok (.invokestatic 98, 3) := by decide +kernel
theorem dX11_step_33 : decode cX11_step 33 = .ok (.ifCond .ne 5, 3) := by decide +kernel
theorem dX11_step_36 : decode cX11_step 36 = .ok (.iconst (-1), 1) := by decide +kernel
theorem dX11_step_37 : decode cX11_step 37 = .ok (.ireturn, 1) := by decide +kernel
theorem dX11_step_38 : decode cX11_step 38 = .ok (.aload 4, 2) := by decide +kernel
theorem dX11_step_40 : decode cX11_step 40 = .ok (.iload_n 2, 1) := by decide +kernel
theorem dX11_step_41 : decode cX11_step 41 = .ok (.iload_n 3, 1) := by decide +kernel
theorem dX11_step_42 : decode cX11_step 42 = .ok (.invokevirtual 216, 3) := by decide +kernel
theorem dX11_step_45 : decode cX11_step 45 = .ok (.ireturn, 1) := by decide +kernel
theorem dX11_takes_0 : decode cX11_takes 0 = .ok (.aload_n 0, 1) := by decide +kernel
theorem dX11_takes_1 : decode cX11_takes 1 = .ok (.iload_n 1, 1) := by decide +kernel
theorem dX11_takes_2 : decode cX11_takes 2 = .ok (.invokevirtual 209, 3) := by decide +kernel
theorem dX11_takes_5 : decode cX11_takes 5 = .ok (.astore_n 3, 1) := by decide +kernel
theorem dX11_takes_6 : decode cX11_takes 6 = .ok (.aload_n 3, 1) := by decide +kernel
theorem dX11_takes_7 : decode cX11_takes 7 = .ok (.ifnull 14, 3) := by decide +kernel
theorem dX11_takes_10 : decode cX11_takes 10 = .ok (.iload_n 2, 1) := by decide +kernel
theorem dX11_takes_11 : decode cX11_takes 11 = .ok (.aload_n 3, 1) := by decide +kernel
theorem dX11_takes_12 : decode cX11_takes 12 = .ok (.getfield 191, 3) := by decide +kernel
theorem dX11_takes_15 : decode cX11_takes 15 = .ok (.invokestatic 98, 3) := by decide +kernel
theorem dX11_takes_18 : decode cX11_takes 18 = .ok (.ifCond .ne 5, 3) := by decide +kernel
theorem dX11_takes_21 : decode cX11_takes 21 = .ok (.iconst (-1), 1) := by decide +kernel
theorem dX11_takes_22 : decode cX11_takes 22 = .ok (.ireturn, 1) := by decide +kernel
theorem dX11_takes_23 : decode cX11_takes 23 = .ok (.aload_n 3, 1) := by decide +kernel
theorem dX11_takes_24 : decode cX11_takes 24 = .ok (.iload_n 2, 1) := by decide +kernel
theorem dX11_takes_25 : decode cX11_takes 25 = .ok (.invokevirtual 188, 3) := by decide +kernel
theorem dX11_takes_28 : decode cX11_takes 28 = .ok (.ireturn, 1) := by decide +kernel
theorem dX11_holds_0 : decode cX11_holds 0 = .ok (.aload_n 0, 1) := by decide +kernel
theorem dX11_holds_1 : decode cX11_holds 1 = .ok (.iload_n 1, 1) := by decide +kernel
theorem dX11_holds_2 : decode cX11_holds 2 = .ok (.invokevirtual 209, 3) := by decide +kernel
theorem dX11_holds_5 : decode cX11_holds 5 = .ok (.astore 8, 2) := by decide +kernel
theorem dX11_holds_7 : decode cX11_holds 7 = .ok (.aload 8, 2) := by decide +kernel
theorem dX11_holds_9 : decode cX11_holds 9 = .ok (.ifnonnull 5, 3) := by decide +kernel
theorem dX11_holds_12 : decode cX11_holds 12 = .ok (.iconst (-1), 1) := by decide +kernel
theorem dX11_holds_13 : decode cX11_holds 13 = .ok (.ireturn, 1) := by decide +kernel
theorem dX11_holds_14 : decode cX11_holds 14 = .ok (.aload_n 0, 1) := by decide +kernel
theorem dX11_holds_15 : decode cX11_holds 15 = .ok (.getfield 17, 3) := by decide +kernel
theorem dX11_holds_18 : decode cX11_holds 18 = .ok (.iload_n 1, 1) := by decide +kernel
theorem dX11_holds_19 : decode cX11_holds 19 = .ok (.aaload, 1) := by decide +kernel
theorem dX11_holds_20 : decode cX11_holds 20 = .ok (.getfield 219, 3) := by decide +kernel
theorem dX11_holds_23 : decode cX11_holds 23 = .ok (.invokestatic 222, 3) := by decide +kernel
theorem dX11_holds_26 : decode cX11_holds 26 = .ok (.istore 9, 2) := by decide +kernel
theorem dX11_holds_28 : decode cX11_holds 28 = .ok (.iload 9, 2) := by decide +kernel
theorem dX11_holds_30 : decode cX11_holds 30 = .ok (.ifCond .le 10, 3) := by decide +kernel
theorem dX11_holds_33 : decode cX11_holds 33 = .ok (.lload_n 2, 1) := by decide +kernel
theorem dX11_holds_34 : decode cX11_holds 34 = .ok (.invokestatic 227, 3) := by decide +kernel
theorem dX11_holds_37 : decode cX11_holds 37 = .ok (.ifCond .ne 31, 3) := by decide +kernel
theorem dX11_holds_40 : decode cX11_holds 40 = .ok (.iload 9, 2) := by decide +kernel
theorem dX11_holds_42 : decode cX11_holds 42 = .ok (.iconst 1, 1) := by decide +kernel
theorem dX11_holds_43 : decode cX11_holds 43 = .ok (.if_icmp .le 11, 3) := by decide +kernel
theorem dX11_holds_46 : decode cX11_holds 46 = .ok (.lload 4, 2) := by decide +kernel
theorem dX11_holds_48 : decode cX11_holds 48 = .ok (.invokestatic 227, 3) := by decide +kernel
theorem dX11_holds_51 : decode cX11_holds 51 = .ok (.ifCond .ne 17, 3) := by decide +kernel
theorem dX11_holds_54 : decode cX11_holds 54 = .ok (.iload 9, 2) := by decide +kernel
theorem dX11_holds_56 : decode cX11_holds 56 = .ok (.iconst 2, 1) := by decide +kernel
theorem dX11_holds_57 : decode cX11_holds 57 = .ok (.if_icmp .le 13, 3) := by decide +kernel
theorem dX11_holds_60 : decode cX11_holds 60 = .ok (.lload 6, 2) := by decide +kernel
theorem dX11_holds_62 : decode cX11_holds 62 = .ok (.invokestatic 227, 3) := by decide +kernel
theorem dX11_holds_65 : decode cX11_holds 65 = .ok (.ifCond .eq 5, 3) := by decide +kernel
theorem dX11_holds_68 : decode cX11_holds 68 = .ok (.iconst (-1), 1) := by decide +kernel
theorem dX11_holds_69 : decode cX11_holds 69 = .ok (.ireturn, 1) := by decide +kernel
theorem dX11_holds_70 : decode cX11_holds 70 = .ok (.aload 8, 2) := by decide +kernel
theorem dX11_holds_72 : decode cX11_holds 72 = .ok (.aload 8, 2) := by decide +kernel
theorem dX11_holds_74 : decode cX11_holds 74 = .ok (.iload 9, 2) := by decide +kernel
theorem dX11_holds_76 : decode cX11_holds 76 = .ok (.lload_n 2, 1) := by decide +kernel
theorem dX11_holds_77 : decode cX11_holds 77 = .ok (.lload 4, 2) := by decide +kernel
theorem dX11_holds_79 : decode cX11_holds 79 = .ok (.lload 6, 2) := by decide +kernel
theorem dX11_holds_81 : decode cX11_holds 81 = .ok (.aload_n 0, 1) := by decide +kernel
theorem dX11_holds_82 : decode cX11_holds 82 = .ok (.getfield 67, 3) := by decide +kernel
theorem dX11_holds_85 : decode cX11_holds 85 = .ok (.invokevirtual 231, 3) := by decide +kernel
theorem dX11_holds_88 : decode cX11_holds 88 = .ok (.invokevirtual 188, 3) := by decide +kernel
theorem dX11_holds_91 : decode cX11_holds 91 = .ok (.ireturn, 1) := by decide +kernel
theorem dX11_next_0 : decode cX11_next 0 = .ok (.aload_n 0, 1) := by decide +kernel
theorem dX11_next_1 : decode cX11_next 1 = .ok (.iload_n 1, 1) := by decide +kernel
theorem dX11_next_2 : decode cX11_next 2 = .ok (.iconst 1, 1) := by decide +kernel
theorem dX11_next_3 : decode cX11_next 3 = .ok (.invokevirtual 144, 3) := by decide +kernel
theorem dX11_next_6 : decode cX11_next 6 = .ok (.astore 4, 2) := by decide +kernel
theorem dX11_next_8 : decode cX11_next 8 = .ok (.aload 4, 2) := by decide +kernel
theorem dX11_next_10 : decode cX11_next 10 = .ok (.ifnull 19, 3) := by decide +kernel
theorem dX11_next_13 : decode cX11_next 13 = .ok (.lload_n 2, 1) := by decide +kernel
theorem dX11_next_14 : decode cX11_next 14 = .ok (.ldc2_w 235, 3) := by decide +kernel
theorem dX11_next_17 : decode cX11_next 17 = .ok (.lcmp, 1) := by decide +kernel
theorem dX11_next_18 : decode cX11_next 18 = .ok (.ifCond .lt 11, 3) := by decide +kernel
theorem dX11_next_21 : decode cX11_next 21 = .ok (.lload_n 2, 1) := by decide +kernel
theorem dX11_next_22 : decode cX11_next 22 = .ok (.ldc2_w 182, 3) := by decide +kernel
theorem dX11_next_25 : decode cX11_next 25 = .ok (.lcmp, 1) := by decide +kernel
theorem dX11_next_26 : decode cX11_next 26 = .ok (.ifCond .le 7, 3) := by decide +kernel
theorem dX11_next_29 : decode cX11_next 29 = .ok (.ldc2_w 194, 3) := by decide +kernel
theorem dX11_next_32 : decode cX11_next 32 = .ok (.lreturn, 1) := by decide +kernel
theorem dX11_next_33 : decode cX11_next 33 = .ok (.aload_n 0, 1) := by decide +kernel
theorem dX11_next_34 : decode cX11_next 34 = .ok (.getfield 56, 3) := by decide +kernel
theorem dX11_next_37 : decode cX11_next 37 = .ok (.aload 4, 2) := by decide +kernel
theorem dX11_next_39 : decode cX11_next 39 = .ok (.lload_n 2, 1) := by decide +kernel
theorem dX11_next_40 : decode cX11_next 40 = .ok (.aload_n 0, 1) := by decide +kernel
theorem dX11_next_41 : decode cX11_next 41 = .ok (.getfield 67, 3) := by decide +kernel
theorem dX11_next_44 : decode cX11_next 44 = .ok (.invokevirtual 237, 3) := by decide +kernel
theorem dX11_next_47 : decode cX11_next 47 = .ok (.lreturn, 1) := by decide +kernel
theorem dX11_many_0 : decode cX11_many 0 = .ok (.aload_n 0, 1) := by decide +kernel
theorem dX11_many_1 : decode cX11_many 1 = .ok (.iload_n 1, 1) := by decide +kernel
theorem dX11_many_2 : decode cX11_many 2 = .ok (.iconst 1, 1) := by decide +kernel
theorem dX11_many_3 : decode cX11_many 3 = .ok (.invokevirtual 144, 3) := by decide +kernel
theorem dX11_many_6 : decode cX11_many 6 = .ok (.astore_n 2, 1) := by decide +kernel
theorem dX11_many_7 : decode cX11_many 7 = .ok (.aload_n 2, 1) := by decide +kernel
theorem dX11_many_8 : decode cX11_many 8 = .ok (.ifnonnull 9, 3) := by decide +kernel
theorem dX11_many_11 : decode cX11_many 11 = .ok (.ldc2_w 194, 3) := by decide +kernel
theorem dX11_many_14 : decode cX11_many 14 = .ok (.goto 15, 3) := by decide +kernel
theorem dX11_many_17 : decode cX11_many 17 = .ok (.aload_n 0, 1) := by decide +kernel
theorem dX11_many_18 : decode cX11_many 18 = .ok (.getfield 56, 3) := by decide +kernel
theorem dX11_many_21 : decode cX11_many 21 = .ok (.aload_n 2, 1) := by decide +kernel
theorem dX11_many_22 : decode cX11_many 22 = .ok (.aload_n 0, 1) := by decide +kernel
theorem dX11_many_23 : decode cX11_many 23 = .ok (.getfield 67, 3) := by decide +kernel
theorem dX11_many_26 : decode cX11_many 26 = .ok (.invokevirtual 241, 3) := by decide +kernel
theorem dX11_many_29 : decode cX11_many 29 = .ok (.lreturn, 1) := by decide +kernel
theorem dX11_values_0 : decode cX11_values 0 = .ok (.aload_n 0, 1) := by decide +kernel
theorem dX11_values_1 : decode cX11_values 1 = .ok (.iload_n 1, 1) := by decide +kernel
theorem dX11_values_2 : decode cX11_values 2 = .ok (.iconst 2, 1) := by decide +kernel
theorem dX11_values_3 : decode cX11_values 3 = .ok (.invokevirtual 144, 3) := by decide +kernel
theorem dX11_values_6 : decode cX11_values 6 = .ok (.astore 4, 2) := by decide +kernel
theorem dX11_values_8 : decode cX11_values 8 = .ok (.aload 4, 2) := by decide +kernel
theorem dX11_values_10 : decode cX11_values 10 = .ok (.ifnull 17, 3) := by decide +kernel
theorem dX11_values_13 : decode cX11_values 13 = .ok (.lload_n 2, 1) := by decide +kernel
theorem dX11_values_14 : decode cX11_values 14 = .ok (.lconst 0, 1) := by decide +kernel
theorem dX11_values_15 : decode cX11_values 15 = .ok (.lcmp, 1) := by decide +kernel
theorem dX11_values_16 : decode cX11_values 16 = .ok (.ifCond .lt 11, 3) := by decide +kernel
theorem dX11_values_19 : decode cX11_values 19 = .ok (.lload_n 2, 1) := by decide +kernel
theorem dX11_values_20 : decode cX11_values 20 = .ok (.ldc2_w 245, 3) := by decide +kernel
theorem dX11_values_23 : decode cX11_values 23 = .ok (.lcmp, 1) := by decide +kernel
theorem dX11_values_24 : decode cX11_values 24 = .ok (.ifCond .le 7, 3) := by decide +kernel
theorem dX11_values_27 : decode cX11_values 27 = .ok (.ldc2_w 194, 3) := by decide +kernel
theorem dX11_values_30 : decode cX11_values 30 = .ok (.lreturn, 1) := by decide +kernel
theorem dX11_values_31 : decode cX11_values 31 = .ok (.aload_n 0, 1) := by decide +kernel
theorem dX11_values_32 : decode cX11_values 32 = .ok (.getfield 56, 3) := by decide +kernel
theorem dX11_values_35 : decode cX11_values 35 = .ok (.aload 4, 2) := by decide +kernel
theorem dX11_values_37 : decode cX11_values 37 = .ok (.lload_n 2, 1) := by decide +kernel
theorem dX11_values_38 : decode cX11_values 38 = .ok (.aload_n 0, 1) := by decide +kernel
theorem dX11_values_39 : decode cX11_values 39 = .ok (.getfield 67, 3) := by decide +kernel
theorem dX11_values_42 : decode cX11_values 42 = .ok (.invokevirtual 247, 3) := by decide +kernel
theorem dX11_values_45 : decode cX11_values 45 = .ok (.lreturn, 1) := by decide +kernel
theorem dX11_alike_0 : decode cX11_alike 0 = .ok (.aload_n 0, 1) := by decide +kernel
theorem dX11_alike_1 : decode cX11_alike 1 = .ok (.iload_n 1, 1) := by decide +kernel
theorem dX11_alike_2 : decode cX11_alike 2 = .ok (.invokevirtual 209, 3) := by decide +kernel
theorem dX11_alike_5 : decode cX11_alike 5 = .ok (.astore_n 3, 1) := by decide +kernel
theorem dX11_alike_6 : decode cX11_alike 6 = .ok (.aload_n 0, 1) := by decide +kernel
theorem dX11_alike_7 : decode cX11_alike 7 = .ok (.iload_n 2, 1) := by decide +kernel
theorem dX11_alike_8 : decode cX11_alike 8 = .ok (.invokevirtual 209, 3) := by decide +kernel
theorem dX11_alike_11 : decode cX11_alike 11 = .ok (.astore 4, 2) := by decide +kernel
theorem dX11_alike_13 : decode cX11_alike 13 = .ok (.aload_n 3, 1) := by decide +kernel
theorem dX11_alike_14 : decode cX11_alike 14 = .ok (.ifnull 8, 3) := by decide +kernel
theorem dX11_alike_17 : decode cX11_alike 17 = .ok (.aload 4, 2) := by decide +kernel
theorem dX11_alike_19 : decode cX11_alike 19 = .ok (.ifnonnull 5, 3) := by decide +kernel
theorem dX11_alike_22 : decode cX11_alike 22 = .ok (.iconst (-1), 1) := by decide +kernel
theorem dX11_alike_23 : decode cX11_alike 23 = .ok (.ireturn, 1) := by decide +kernel
theorem dX11_alike_24 : decode cX11_alike 24 = .ok (.aload_n 0, 1) := by decide +kernel
theorem dX11_alike_25 : decode cX11_alike 25 = .ok (.getfield 17, 3) := by decide +kernel
theorem dX11_alike_28 : decode cX11_alike 28 = .ok (.iload_n 1, 1) := by decide +kernel
theorem dX11_alike_29 : decode cX11_alike 29 = .ok (.aaload, 1) := by decide +kernel
theorem dX11_alike_30 : decode cX11_alike 30 = .ok (.getfield 219, 3) := by decide +kernel
theorem dX11_alike_33 : decode cX11_alike 33 = .ok (.invokestatic 222, 3) := by decide +kernel
theorem dX11_alike_36 : decode cX11_alike 36 = .ok (.aload_n 0, 1) := by decide +kernel
theorem dX11_alike_37 : decode cX11_alike 37 = .ok (.getfield 17, 3) := by decide +kernel
theorem dX11_alike_40 : decode cX11_alike 40 = .ok (.iload_n 2, 1) := by decide +kernel
theorem dX11_alike_41 : decode cX11_alike 41 = .ok (.aaload, 1) := by decide +kernel
theorem dX11_alike_42 : decode cX11_alike 42 = .ok (.getfield 219, 3) := by decide +kernel
theorem dX11_alike_45 : decode cX11_alike 45 = .ok (.invokestatic 222, 3) := by decide +kernel
theorem dX11_alike_48 : decode cX11_alike 48 = .ok (.if_icmp .ne 7, 3) := by decide +kernel
theorem dX11_alike_51 : decode cX11_alike 51 = .ok (.iconst 1, 1) := by decide +kernel
theorem dX11_alike_52 : decode cX11_alike 52 = .ok (.goto 4, 3) := by decide +kernel
theorem dX11_alike_55 : decode cX11_alike 55 = .ok (.iconst 0, 1) := by decide +kernel
theorem dX11_alike_56 : decode cX11_alike 56 = .ok (.istore 5, 2) := by decide +kernel
theorem dX11_alike_58 : decode cX11_alike 58 = .ok (.iload 5, 2) := by decide +kernel
theorem dX11_alike_60 : decode cX11_alike 60 = .ok (.ifCond .eq 16, 3) := by decide +kernel
theorem dX11_alike_63 : decode cX11_alike 63 = .ok (.aload_n 3, 1) := by decide +kernel
theorem dX11_alike_64 : decode cX11_alike 64 = .ok (.aload 4, 2) := by decide +kernel
theorem dX11_alike_66 : decode cX11_alike 66 = .ok (.invokevirtual 250, 3) := by decide +kernel
theorem dX11_alike_69 : decode cX11_alike 69 = .ok (.ifCond .eq 7, 3) := by decide +kernel
theorem dX11_alike_72 : decode cX11_alike 72 = .ok (.iconst 1, 1) := by decide +kernel
theorem dX11_alike_73 : decode cX11_alike 73 = .ok (.goto 4, 3) := by decide +kernel
theorem dX11_alike_76 : decode cX11_alike 76 = .ok (.iconst 0, 1) := by decide +kernel
theorem dX11_alike_77 : decode cX11_alike 77 = .ok (.ireturn, 1) := by decide +kernel
theorem dX11_act_0 : decode cX11_act 0 = .ok (.iload_n 1, 1) := by decide +kernel
theorem dX11_act_1 : decode cX11_act 1 = .ok (.aload_n 0, 1) := by decide +kernel
theorem dX11_act_2 : decode cX11_act 2 = .ok (.getfield 71, 3) := by decide +kernel
theorem dX11_act_5 : decode cX11_act 5 = .ok (.invokestatic 98, 3) := by decide +kernel
theorem dX11_act_8 : decode cX11_act 8 = .ok (.ifCond .eq 11, 3) := by decide +kernel
theorem dX11_act_11 : decode cX11_act 11 = .ok (.iload_n 2, 1) := by decide +kernel
theorem dX11_act_12 : decode cX11_act 12 = .ok (.iconst 4, 1) := by decide +kernel
theorem dX11_act_13 : decode cX11_act 13 = .ok (.invokestatic 98, 3) := by decide +kernel
theorem dX11_act_16 : decode cX11_act 16 = .ok (.ifCond .ne 9, 3) := by decide +kernel
theorem dX11_act_19 : decode cX11_act 19 = .ok (.aload_n 0, 1) := by decide +kernel
theorem dX11_act_20 : decode cX11_act 20 = .ok (.iconst 1, 1) := by decide +kernel
theorem dX11_act_21 : decode cX11_act 21 = .ok (.invokevirtual 91, 3) := by decide +kernel
theorem dX11_act_24 : decode cX11_act 24 = .ok (.ireturn, 1) := by decide +kernel
theorem dX11_act_25 : decode cX11_act 25 = .ok (.aload_n 0, 1) := by decide +kernel
theorem dX11_act_26 : decode cX11_act 26 = .ok (.aload_n 0, 1) := by decide +kernel
theorem dX11_act_27 : decode cX11_act 27 = .ok (.getfield 63, 3) := by decide +kernel
theorem dX11_act_30 : decode cX11_act 30 = .ok (.aload_n 0, 1) := by decide +kernel
theorem dX11_act_31 : decode cX11_act 31 = .ok (.getfield 11, 3) := by decide +kernel
theorem dX11_act_34 : decode cX11_act 34 = .ok (.iload_n 1, 1) := by decide +kernel
theorem dX11_act_35 : decode cX11_act 35 = .ok (.aaload, 1) := by decide +kernel
theorem dX11_act_36 : decode cX11_act 36 = .ok (.getfield 179, 3) := by decide +kernel
theorem dX11_act_39 : decode cX11_act 39 = .ok (.iload_n 1, 1) := by decide +kernel
theorem dX11_act_40 : decode cX11_act 40 = .ok (.aload_n 0, 1) := by decide +kernel
theorem dX11_act_41 : decode cX11_act 41 = .ok (.getfield 11, 3) := by decide +kernel
theorem dX11_act_44 : decode cX11_act 44 = .ok (.iload_n 1, 1) := by decide +kernel
theorem dX11_act_45 : decode cX11_act 45 = .ok (.aaload, 1) := by decide +kernel
theorem dX11_act_46 : decode cX11_act 46 = .ok (.getfield 116, 3) := by decide +kernel
theorem dX11_act_49 : decode cX11_act 49 = .ok (.getfield 191, 3) := by decide +kernel
theorem dX11_act_52 : decode cX11_act 52 = .ok (.iload_n 2, 1) := by decide +kernel
theorem dX11_act_53 : decode cX11_act 53 = .ok (.iload_n 3, 1) := by decide +kernel
theorem dX11_act_54 : decode cX11_act 54 = .ok (.invokevirtual 254, 3) := by decide +kernel
theorem dX11_act_57 : decode cX11_act 57 = .ok (.invokevirtual 95, 3) := by decide +kernel
theorem dX11_act_60 : decode cX11_act 60 = .ok (.ireturn, 1) := by decide +kernel
theorem dX11_trace_0 : decode cX11_trace 0 = .ok (.iload_n 1, 1) := by decide +kernel
theorem dX11_trace_1 : decode cX11_trace 1 = .ok (.aload_n 0, 1) := by decide +kernel
theorem dX11_trace_2 : decode cX11_trace 2 = .ok (.getfield 63, 3) := by decide +kernel
theorem dX11_trace_5 : decode cX11_trace 5 = .ok (.getfield 176, 3) := by decide +kernel
theorem dX11_trace_8 : decode cX11_trace 8 = .ok (.invokestatic 98, 3) := by decide +kernel
theorem dX11_trace_11 : decode cX11_trace 11 = .ok (.ifCond .eq 15, 3) := by decide +kernel
theorem dX11_trace_14 : decode cX11_trace 14 = .ok (.aload_n 0, 1) := by decide +kernel
theorem dX11_trace_15 : decode cX11_trace 15 = .ok (.getfield 63, 3) := by decide +kernel
theorem dX11_trace_18 : decode cX11_trace 18 = .ok (.getfield 258, 3) := by decide +kernel
theorem dX11_trace_21 : decode cX11_trace 21 = .ok (.iload_n 1, 1) := by decide +kernel
theorem dX11_trace_22 : decode cX11_trace 22 = .ok (.iaload, 1) := by decide +kernel
theorem dX11_trace_23 : decode cX11_trace 23 = .ok (.goto 4, 3) := by decide +kernel
theorem dX11_trace_26 : decode cX11_trace 26 = .ok (.iconst (-1), 1) := by decide +kernel
theorem dX11_trace_27 : decode cX11_trace 27 = .ok (.ireturn, 1) := by decide +kernel
theorem dX11_forge_0 : decode cX11_forge 0 = .ok (.iload_n 1, 1) := by decide +kernel
theorem dX11_forge_1 : decode cX11_forge 1 = .ok (.ifCond .lt 33, 3) := by decide +kernel
theorem dX11_forge_4 : decode cX11_forge 4 = .ok (.iload_n 1, 1) := by decide +kernel
theorem dX11_forge_5 : decode cX11_forge 5 = .ok (.bipush 6, 2) := by decide +kernel
theorem dX11_forge_7 : decode cX11_forge 7 = .ok (.if_icmp .gt 27, 3) := by decide +kernel
theorem dX11_forge_10 : decode cX11_forge 10 = .ok (.iload_n 2, 1) := by decide +kernel
theorem dX11_forge_11 : decode cX11_forge 11 = .ok (.bipush (-100), 2) := by decide +kernel
theorem dX11_forge_13 : decode cX11_forge 13 = .ok (.if_icmp .lt 21, 3) := by decide +kernel
theorem dX11_forge_16 : decode cX11_forge 16 = .ok (.iload_n 2, 1) := by decide +kernel
theorem dX11_forge_17 : decode cX11_forge 17 = .ok (.bipush 100, 2) := by decide +kernel
theorem dX11_forge_19 : decode cX11_forge 19 = .ok (.if_icmp .gt 15, 3) := by decide +kernel
theorem dX11_forge_22 : decode cX11_forge 22 = .ok (.iload_n 3, 1) := by decide +kernel
theorem dX11_forge_23 : decode cX11_forge 23 = .ok (.bipush (-100), 2) := by decide +kernel
theorem dX11_forge_25 : decode cX11_forge 25 = .ok (.if_icmp .lt 9, 3) := by decide +kernel
theorem dX11_forge_28 : decode cX11_forge 28 = .ok (.iload_n 3, 1) := by decide +kernel
theorem dX11_forge_29 : decode cX11_forge 29 = .ok (.bipush 100, 2) := by decide +kernel
theorem dX11_forge_31 : decode cX11_forge 31 = .ok (.if_icmp .le 9, 3) := by decide +kernel
theorem dX11_forge_34 : decode cX11_forge 34 = .ok (.aload_n 0, 1) := by decide +kernel
theorem dX11_forge_35 : decode cX11_forge 35 = .ok (.iconst 1, 1) := by decide +kernel
theorem dX11_forge_36 : decode cX11_forge 36 = .ok (.invokevirtual 91, 3) := by decide +kernel
theorem dX11_forge_39 : decode cX11_forge 39 = .ok (.ireturn, 1) := by decide +kernel
theorem dX11_forge_40 : decode cX11_forge 40 = .ok (.iload_n 3, 1) := by decide +kernel
theorem dX11_forge_41 : decode cX11_forge 41 = .ok (.bipush 10, 2) := by decide +kernel
theorem dX11_forge_43 : decode cX11_forge 43 = .ok (.invokestatic 261, 3) := by decide +kernel
theorem dX11_forge_46 : decode cX11_forge 46 = .ok (.istore 4, 2) := by decide +kernel
theorem dX11_forge_48 : decode cX11_forge 48 = .ok (.iload_n 3, 1) := by decide +kernel
theorem dX11_forge_49 : decode cX11_forge 49 = .ok (.bipush 6, 2) := by decide +kernel
theorem dX11_forge_51 : decode cX11_forge 51 = .ok (.invokestatic 261, 3) := by decide +kernel
theorem dX11_forge_54 : decode cX11_forge 54 = .ok (.istore 5, 2) := by decide +kernel
theorem dX11_forge_56 : decode cX11_forge 56 = .ok (.iload_n 1, 1) := by decide +kernel
theorem dX11_forge_57 : decode cX11_forge 57 = .ok (.tableswitch 116 0 5 #[39, 51, 70, 78, 86, 93], 39) := by decide +kernel
theorem dX11_forge_96 : decode cX11_forge 96 = .ok (.aload_n 0, 1) := by decide +kernel
theorem dX11_forge_97 : decode cX11_forge 97 = .ok (.iload 4, 2) := by decide +kernel
theorem dX11_forge_99 : decode cX11_forge 99 = .ok (.iload_n 2, 1) := by decide +kernel
theorem dX11_forge_100 : decode cX11_forge 100 = .ok (.iconst 5, 1) := by decide +kernel
theorem dX11_forge_101 : decode cX11_forge 101 = .ok (.invokestatic 261, 3) := by decide +kernel
theorem dX11_forge_104 : decode cX11_forge 104 = .ok (.invokevirtual 266, 3) := by decide +kernel
theorem dX11_forge_107 : decode cX11_forge 107 = .ok (.ireturn, 1) := by decide +kernel
theorem dX11_forge_108 : decode cX11_forge 108 = .ok (.iload_n 2, 1) := by decide +kernel
theorem dX11_forge_109 : decode cX11_forge 109 = .ok (.ifCond .ge 12, 3) := by decide +kernel
theorem dX11_forge_112 : decode cX11_forge 112 = .ok (.aload_n 0, 1) := by decide +kernel
theorem dX11_forge_113 : decode cX11_forge 113 = .ok (.bipush 13, 2) := by decide +kernel
theorem dX11_forge_115 : decode cX11_forge 115 = .ok (.invokevirtual 91, 3) := by decide +kernel
theorem dX11_forge_118 : decode cX11_forge 118 = .ok (.goto 8, 3) := by decide +kernel
theorem dX11_forge_121 : decode cX11_forge 121 = .ok (.aload_n 0, 1) := by decide +kernel
theorem dX11_forge_122 : decode cX11_forge 122 = .ok (.iload_n 2, 1) := by decide +kernel
theorem dX11_forge_123 : decode cX11_forge 123 = .ok (.invokevirtual 95, 3) := by decide +kernel
theorem dX11_forge_126 : decode cX11_forge 126 = .ok (.ireturn, 1) := by decide +kernel
theorem dX11_forge_127 : decode cX11_forge 127 = .ok (.aload_n 0, 1) := by decide +kernel
theorem dX11_forge_128 : decode cX11_forge 128 = .ok (.iload 5, 2) := by decide +kernel
theorem dX11_forge_130 : decode cX11_forge 130 = .ok (.iload_n 2, 1) := by decide +kernel
theorem dX11_forge_131 : decode cX11_forge 131 = .ok (.invokevirtual 269, 3) := by decide +kernel
theorem dX11_forge_134 : decode cX11_forge 134 = .ok (.ireturn, 1) := by decide +kernel
theorem dX11_forge_135 : decode cX11_forge 135 = .ok (.aload_n 0, 1) := by decide +kernel
theorem dX11_forge_136 : decode cX11_forge 136 = .ok (.iload 5, 2) := by decide +kernel
theorem dX11_forge_138 : decode cX11_forge 138 = .ok (.iload_n 2, 1) := by decide +kernel
theorem dX11_forge_139 : decode cX11_forge 139 = .ok (.invokevirtual 272, 3) := by decide +kernel
theorem dX11_forge_142 : decode cX11_forge 142 = .ok (.ireturn, 1) := by decide +kernel
theorem dX11_forge_143 : decode cX11_forge 143 = .ok (.aload_n 0, 1) := by decide +kernel
theorem dX11_forge_144 : decode cX11_forge 144 = .ok (.iload 4, 2) := by decide +kernel
theorem dX11_forge_146 : decode cX11_forge 146 = .ok (.invokevirtual 275, 3) := by decide +kernel
theorem dX11_forge_149 : decode cX11_forge 149 = .ok (.ireturn, 1) := by decide +kernel
theorem dX11_forge_150 : decode cX11_forge 150 = .ok (.iload_n 2, 1) := by decide +kernel
theorem dX11_forge_151 : decode cX11_forge 151 = .ok (.ifCond .ne 12, 3) := by decide +kernel
theorem dX11_forge_154 : decode cX11_forge 154 = .ok (.aload_n 0, 1) := by decide +kernel
theorem dX11_forge_155 : decode cX11_forge 155 = .ok (.bipush 15, 2) := by decide +kernel
theorem dX11_forge_157 : decode cX11_forge 157 = .ok (.invokevirtual 91, 3) := by decide +kernel
theorem dX11_forge_160 : decode cX11_forge 160 = .ok (.goto 12, 3) := by decide +kernel
theorem dX11_forge_163 : decode cX11_forge 163 = .ok (.aload_n 0, 1) := by decide +kernel
theorem dX11_forge_164 : decode cX11_forge 164 = .ok (.sipush 1000, 3) := by decide +kernel
theorem dX11_forge_167 : decode cX11_forge 167 = .ok (.iload_n 2, 1) := by decide +kernel
theorem dX11_forge_168 : decode cX11_forge 168 = .ok (.idiv, 1) := by decide +kernel
theorem dX11_forge_169 : decode cX11_forge 169 = .ok (.invokevirtual 95, 3) := by decide +kernel
theorem dX11_forge_172 : decode cX11_forge 172 = .ok (.ireturn, 1) := by decide +kernel
theorem dX11_forge_173 : decode cX11_forge 173 = .ok (.iload_n 2, 1) := by decide +kernel
theorem dX11_forge_174 : decode cX11_forge 174 = .ok (.iconst 2, 1) := by decide +kernel
theorem dX11_forge_175 : decode cX11_forge 175 = .ok (.invokestatic 261, 3) := by decide +kernel
theorem dX11_forge_178 : decode cX11_forge 178 = .ok (.ifCond .ne 12, 3) := by decide +kernel
theorem dX11_forge_181 : decode cX11_forge 181 = .ok (.aload_n 0, 1) := by decide +kernel
theorem dX11_forge_182 : decode cX11_forge 182 = .ok (.bipush 10, 2) := by decide +kernel
theorem dX11_forge_184 : decode cX11_forge 184 = .ok (.invokevirtual 91, 3) := by decide +kernel
theorem dX11_forge_187 : decode cX11_forge 187 = .ok (.goto 8, 3) := by decide +kernel
theorem dX11_forge_190 : decode cX11_forge 190 = .ok (.aload_n 0, 1) := by decide +kernel
theorem dX11_forge_191 : decode cX11_forge 191 = .ok (.iconst 1, 1) := by decide +kernel
theorem dX11_forge_192 : decode cX11_forge 192 = .ok (.invokevirtual 95, 3) := by decide +kernel
theorem dX11_forge_195 : decode cX11_forge 195 = .ok (.ireturn, 1) := by decide +kernel
theorem dX11_status_0 : decode cX11_status 0 = .ok (.aload_n 0, 1) := by decide +kernel
theorem dX11_status_1 : decode cX11_status 1 = .ok (.getfield 80, 3) := by decide +kernel
theorem dX11_status_4 : decode cX11_status 4 = .ok (.ireturn, 1) := by decide +kernel
theorem dX11_refuse_0 : decode cX11_refuse 0 = .ok (.aload_n 0, 1) := by decide +kernel
theorem dX11_refuse_1 : decode cX11_refuse 1 = .ok (.iload_n 1, 1) := by decide +kernel
theorem dX11_refuse_2 : decode cX11_refuse 2 = .ok (.putfield 80, 3) := by decide +kernel
theorem dX11_refuse_5 : decode cX11_refuse 5 = .ok (.iconst (-1), 1) := by decide +kernel
theorem dX11_refuse_6 : decode cX11_refuse 6 = .ok (.ireturn, 1) := by decide +kernel
theorem dX11_done_0 : decode cX11_done 0 = .ok (.aload_n 0, 1) := by decide +kernel
theorem dX11_done_1 : decode cX11_done 1 = .ok (.iconst 0, 1) := by decide +kernel
theorem dX11_done_2 : decode cX11_done 2 = .ok (.putfield 80, 3) := by decide +kernel
theorem dX11_done_5 : decode cX11_done 5 = .ok (.iload_n 1, 1) := by decide +kernel
theorem dX11_done_6 : decode cX11_done 6 = .ok (.ireturn, 1) := by decide +kernel
theorem dX11_within_0 : decode cX11_within 0 = .ok (.iload_n 0, 1) := by decide +kernel
theorem dX11_within_1 : decode cX11_within 1 = .ok (.ifCond .lt 12, 3) := by decide +kernel
theorem dX11_within_4 : decode cX11_within 4 = .ok (.iload_n 0, 1) := by decide +kernel
theorem dX11_within_5 : decode cX11_within 5 = .ok (.iload_n 1, 1) := by decide +kernel
theorem dX11_within_6 : decode cX11_within 6 = .ok (.if_icmp .ge 7, 3) := by decide +kernel
theorem dX11_within_9 : decode cX11_within 9 = .ok (.iconst 1, 1) := by decide +kernel
theorem dX11_within_10 : decode cX11_within 10 = .ok (.goto 4, 3) := by decide +kernel
theorem dX11_within_13 : decode cX11_within 13 = .ok (.iconst 0, 1) := by decide +kernel
theorem dX11_within_14 : decode cX11_within 14 = .ok (.ireturn, 1) := by decide +kernel
theorem dX11_outside_0 : decode cX11_outside 0 = .ok (.lload_n 0, 1) := by decide +kernel
theorem dX11_outside_1 : decode cX11_outside 1 = .ok (.lconst 0, 1) := by decide +kernel
theorem dX11_outside_2 : decode cX11_outside 2 = .ok (.lcmp, 1) := by decide +kernel
theorem dX11_outside_3 : decode cX11_outside 3 = .ok (.ifCond .lt 11, 3) := by decide +kernel
theorem dX11_outside_6 : decode cX11_outside 6 = .ok (.lload_n 0, 1) := by decide +kernel
theorem dX11_outside_7 : decode cX11_outside 7 = .ok (.ldc2_w 182, 3) := by decide +kernel
theorem dX11_outside_10 : decode cX11_outside 10 = .ok (.lcmp, 1) := by decide +kernel
theorem dX11_outside_11 : decode cX11_outside 11 = .ok (.ifCond .le 7, 3) := by decide +kernel
theorem dX11_outside_14 : decode cX11_outside 14 = .ok (.iconst 1, 1) := by decide +kernel
theorem dX11_outside_15 : decode cX11_outside 15 = .ok (.goto 4, 3) := by decide +kernel
theorem dX11_outside_18 : decode cX11_outside 18 = .ok (.iconst 0, 1) := by decide +kernel
theorem dX11_outside_19 : decode cX11_outside 19 = .ok (.ireturn, 1) := by decide +kernel
theorem dX11_otherSort_0 : decode cX11_otherSort 0 = .ok (.aload_n 0, 1) := by decide +kernel
theorem dX11_otherSort_1 : decode cX11_otherSort 1 = .ok (.getfield 30, 3) := by decide +kernel
theorem dX11_otherSort_4 : decode cX11_otherSort 4 = .ok (.iload_n 1, 1) := by decide +kernel
theorem dX11_otherSort_5 : decode cX11_otherSort 5 = .ok (.iaload, 1) := by decide +kernel
theorem dX11_otherSort_6 : decode cX11_otherSort 6 = .ok (.iconst (-1), 1) := by decide +kernel
theorem dX11_otherSort_7 : decode cX11_otherSort 7 = .ok (.if_icmp .eq 17, 3) := by decide +kernel
theorem dX11_otherSort_10 : decode cX11_otherSort 10 = .ok (.aload_n 0, 1) := by decide +kernel
theorem dX11_otherSort_11 : decode cX11_otherSort 11 = .ok (.getfield 30, 3) := by decide +kernel
theorem dX11_otherSort_14 : decode cX11_otherSort 14 = .ok (.iload_n 1, 1) := by decide +kernel
theorem dX11_otherSort_15 : decode cX11_otherSort 15 = .ok (.iaload, 1) := by decide +kernel
theorem dX11_otherSort_16 : decode cX11_otherSort 16 = .ok (.iload_n 2, 1) := by decide +kernel
theorem dX11_otherSort_17 : decode cX11_otherSort 17 = .ok (.if_icmp .eq 7, 3) := by decide +kernel
theorem dX11_otherSort_20 : decode cX11_otherSort 20 = .ok (.iconst 1, 1) := by decide +kernel
theorem dX11_otherSort_21 : decode cX11_otherSort 21 = .ok (.goto 4, 3) := by decide +kernel
theorem dX11_otherSort_24 : decode cX11_otherSort 24 = .ok (.iconst 0, 1) := by decide +kernel
theorem dX11_otherSort_25 : decode cX11_otherSort 25 = .ok (.ireturn, 1) := by decide +kernel
theorem dX11_tooShort_0 : decode cX11_tooShort 0 = .ok (.aload_n 0, 1) := by decide +kernel
theorem dX11_tooShort_1 : decode cX11_tooShort 1 = .ok (.getfield 30, 3) := by decide +kernel
theorem dX11_tooShort_4 : decode cX11_tooShort 4 = .ok (.iload_n 1, 1) := by decide +kernel
theorem dX11_tooShort_5 : decode cX11_tooShort 5 = .ok (.iaload, 1) := by decide +kernel
theorem dX11_tooShort_6 : decode cX11_tooShort 6 = .ok (.iconst (-1), 1) := by decide +kernel
theorem dX11_tooShort_7 : decode cX11_tooShort 7 = .ok (.if_icmp .eq 17, 3) := by decide +kernel
theorem dX11_tooShort_10 : decode cX11_tooShort 10 = .ok (.aload_n 0, 1) := by decide +kernel
theorem dX11_tooShort_11 : decode cX11_tooShort 11 = .ok (.getfield 33, 3) := by decide +kernel
theorem dX11_tooShort_14 : decode cX11_tooShort 14 = .ok (.iload_n 1, 1) := by decide +kernel
theorem dX11_tooShort_15 : decode cX11_tooShort 15 = .ok (.iaload, 1) := by decide +kernel
theorem dX11_tooShort_16 : decode cX11_tooShort 16 = .ok (.iload_n 2, 1) := by decide +kernel
theorem dX11_tooShort_17 : decode cX11_tooShort 17 = .ok (.if_icmp .ge 7, 3) := by decide +kernel
theorem dX11_tooShort_20 : decode cX11_tooShort 20 = .ok (.iconst 1, 1) := by decide +kernel
theorem dX11_tooShort_21 : decode cX11_tooShort 21 = .ok (.goto 4, 3) := by decide +kernel
theorem dX11_tooShort_24 : decode cX11_tooShort 24 = .ok (.iconst 0, 1) := by decide +kernel
theorem dX11_tooShort_25 : decode cX11_tooShort 25 = .ok (.ireturn, 1) := by decide +kernel
theorem dX11_numbers_0 : decode cX11_numbers 0 = .ok (.aload_n 0, 1) := by decide +kernel
theorem dX11_numbers_1 : decode cX11_numbers 1 = .ok (.getfield 30, 3) := by decide +kernel
theorem dX11_numbers_4 : decode cX11_numbers 4 = .ok (.iload_n 1, 1) := by decide +kernel
theorem dX11_numbers_5 : decode cX11_numbers 5 = .ok (.iaload, 1) := by decide +kernel
theorem dX11_numbers_6 : decode cX11_numbers 6 = .ok (.iconst (-1), 1) := by decide +kernel
theorem dX11_numbers_7 : decode cX11_numbers 7 = .ok (.if_icmp .ne 10, 3) := by decide +kernel
theorem dX11_numbers_10 : decode cX11_numbers 10 = .ok (.aload_n 0, 1) := by decide +kernel
theorem dX11_numbers_11 : decode cX11_numbers 11 = .ok (.getfield 36, 3) := by decide +kernel
theorem dX11_numbers_14 : decode cX11_numbers 14 = .ok (.goto 9, 3) := by decide +kernel
theorem dX11_numbers_17 : decode cX11_numbers 17 = .ok (.aload_n 0, 1) := by decide +kernel
theorem dX11_numbers_18 : decode cX11_numbers 18 = .ok (.getfield 27, 3) := by decide +kernel
theorem dX11_numbers_21 : decode cX11_numbers 21 = .ok (.iload_n 1, 1) := by decide +kernel
theorem dX11_numbers_22 : decode cX11_numbers 22 = .ok (.aaload, 1) := by decide +kernel
theorem dX11_numbers_23 : decode cX11_numbers 23 = .ok (.areturn, 1) := by decide +kernel
theorem dX11_allBelow_0 : decode cX11_allBelow 0 = .ok (.iconst 0, 1) := by decide +kernel
theorem dX11_allBelow_1 : decode cX11_allBelow 1 = .ok (.istore_n 3, 1) := by decide +kernel
theorem dX11_allBelow_2 : decode cX11_allBelow 2 = .ok (.iload_n 3, 1) := by decide +kernel
theorem dX11_allBelow_3 : decode cX11_allBelow 3 = .ok (.iload_n 1, 1) := by decide +kernel
theorem dX11_allBelow_4 : decode cX11_allBelow 4 = .ok (.if_icmp .ge 24, 3) := by decide +kernel
theorem dX11_allBelow_7 : decode cX11_allBelow 7 = .ok (.iload_n 3, 1) := by decide +kernel
theorem dX11_allBelow_8 : decode cX11_allBelow 8 = .ok (.aload_n 0, 1) := by decide +kernel
theorem dX11_allBelow_9 : decode cX11_allBelow 9 = .ok (.arraylength, 1) := by decide +kernel
theorem dX11_allBelow_10 : decode cX11_allBelow 10 = .ok (.if_icmp .ge 18, 3) := by decide +kernel
theorem dX11_allBelow_13 : decode cX11_allBelow 13 = .ok (.aload_n 0, 1) := by decide +kernel
theorem dX11_allBelow_14 : decode cX11_allBelow 14 = .ok (.iload_n 3, 1) := by decide +kernel
theorem dX11_allBelow_15 : decode cX11_allBelow 15 = .ok (.iaload, 1) := by decide +kernel
theorem dX11_allBelow_16 : decode cX11_allBelow 16 = .ok (.iload_n 2, 1) := by decide +kernel
theorem dX11_allBelow_17 : decode cX11_allBelow 17 = .ok (.if_icmp .lt 5, 3) := by decide +kernel
theorem dX11_allBelow_20 : decode cX11_allBelow 20 = .ok (.iconst 0, 1) := by decide +kernel
theorem dX11_allBelow_21 : decode cX11_allBelow 21 = .ok (.ireturn, 1) := by decide +kernel
theorem dX11_allBelow_22 : decode cX11_allBelow 22 = .ok (.iinc 3 1, 3) := by decide +kernel
theorem dX11_allBelow_25 : decode cX11_allBelow 25 = .ok (.goto (-23), 3) := by decide +kernel
theorem dX11_allBelow_28 : decode cX11_allBelow 28 = .ok (.iconst 1, 1) := by decide +kernel
theorem dX11_allBelow_29 : decode cX11_allBelow 29 = .ok (.ireturn, 1) := by decide +kernel
theorem dX11_sheetFault_0 : decode cX11_sheetFault 0 = .ok (.aload_n 0, 1) := by decide +kernel
theorem dX11_sheetFault_1 : decode cX11_sheetFault 1 = .ok (.getfield 71, 3) := by decide +kernel
theorem dX11_sheetFault_4 : decode cX11_sheetFault 4 = .ok (.bipush 10, 2) := by decide +kernel
theorem dX11_sheetFault_6 : decode cX11_sheetFault 6 = .ok (.if_icmp .lt 5, 3) := by decide +kernel
theorem dX11_sheetFault_9 : decode cX11_sheetFault 9 = .ok (.iconst 2, 1) := by decide +kernel
theorem dX11_sheetFault_10 : decode cX11_sheetFault 10 = .ok (.ireturn, 1) := by decide +kernel
theorem dX11_sheetFault_11 : decode cX11_sheetFault 11 = .ok (.aload_n 0, 1) := by decide +kernel
theorem dX11_sheetFault_12 : decode cX11_sheetFault 12 = .ok (.getfield 30, 3) := by decide +kernel
theorem dX11_sheetFault_15 : decode cX11_sheetFault 15 = .ok (.iload_n 1, 1) := by decide +kernel
theorem dX11_sheetFault_16 : decode cX11_sheetFault 16 = .ok (.iaload, 1) := by decide +kernel
theorem dX11_sheetFault_17 : decode cX11_sheetFault 17 = .ok (.iconst (-1), 1) := by decide +kernel
theorem dX11_sheetFault_18 : decode cX11_sheetFault 18 = .ok (.if_icmp .ne 6, 3) := by decide +kernel
theorem dX11_sheetFault_21 : decode cX11_sheetFault 21 = .ok (.bipush 10, 2) := by decide +kernel
theorem dX11_sheetFault_23 : decode cX11_sheetFault 23 = .ok (.ireturn, 1) := by decide +kernel
theorem dX11_sheetFault_24 : decode cX11_sheetFault 24 = .ok (.aload_n 0, 1) := by decide +kernel
theorem dX11_sheetFault_25 : decode cX11_sheetFault 25 = .ok (.getfield 30, 3) := by decide +kernel
theorem dX11_sheetFault_28 : decode cX11_sheetFault 28 = .ok (.iload_n 1, 1) := by decide +kernel
theorem dX11_sheetFault_29 : decode cX11_sheetFault 29 = .ok (.iaload, 1) := by decide +kernel
theorem dX11_sheetFault_30 : decode cX11_sheetFault 30 = .ok (.iload_n 2, 1) := by decide +kernel
theorem dX11_sheetFault_31 : decode cX11_sheetFault 31 = .ok (.if_icmp .eq 6, 3) := by decide +kernel
theorem dX11_sheetFault_34 : decode cX11_sheetFault 34 = .ok (.bipush 11, 2) := by decide +kernel
theorem dX11_sheetFault_36 : decode cX11_sheetFault 36 = .ok (.ireturn, 1) := by decide +kernel
theorem dX11_sheetFault_37 : decode cX11_sheetFault 37 = .ok (.aload_n 0, 1) := by decide +kernel
theorem dX11_sheetFault_38 : decode cX11_sheetFault 38 = .ok (.getfield 33, 3) := by decide +kernel
theorem dX11_sheetFault_41 : decode cX11_sheetFault 41 = .ok (.iload_n 1, 1) := by decide +kernel
theorem dX11_sheetFault_42 : decode cX11_sheetFault 42 = .ok (.iaload, 1) := by decide +kernel
theorem dX11_sheetFault_43 : decode cX11_sheetFault 43 = .ok (.iload_n 3, 1) := by decide +kernel
theorem dX11_sheetFault_44 : decode cX11_sheetFault 44 = .ok (.if_icmp .ge 8, 3) := by decide +kernel
theorem dX11_sheetFault_47 : decode cX11_sheetFault 47 = .ok (.bipush 12, 2) := by decide +kernel
theorem dX11_sheetFault_49 : decode cX11_sheetFault 49 = .ok (.goto 4, 3) := by decide +kernel
theorem dX11_sheetFault_52 : decode cX11_sheetFault 52 = .ok (.iconst 0, 1) := by decide +kernel
theorem dX11_sheetFault_53 : decode cX11_sheetFault 53 = .ok (.ireturn, 1) := by decide +kernel
theorem dX11_made_0 : decode cX11_made 0 = .ok (.aload_n 0, 1) := by decide +kernel
theorem dX11_made_1 : decode cX11_made 1 = .ok (.getfield 11, 3) := by decide +kernel
theorem dX11_made_4 : decode cX11_made 4 = .ok (.aload_n 0, 1) := by decide +kernel
theorem dX11_made_5 : decode cX11_made 5 = .ok (.getfield 71, 3) := by decide +kernel
theorem dX11_made_8 : decode cX11_made 8 = .ok (.aaload, 1) := by decide +kernel
theorem dX11_made_9 : decode cX11_made 9 = .ok (.iload_n 1, 1) := by decide +kernel
theorem dX11_made_10 : decode cX11_made 10 = .ok (.putfield 179, 3) := by decide +kernel
theorem dX11_made_13 : decode cX11_made 13 = .ok (.aload_n 0, 1) := by decide +kernel
theorem dX11_made_14 : decode cX11_made 14 = .ok (.getfield 11, 3) := by decide +kernel
theorem dX11_made_17 : decode cX11_made 17 = .ok (.aload_n 0, 1) := by decide +kernel
theorem dX11_made_18 : decode cX11_made 18 = .ok (.getfield 71, 3) := by decide +kernel
theorem dX11_made_21 : decode cX11_made 21 = .ok (.aaload, 1) := by decide +kernel
theorem dX11_made_22 : decode cX11_made 22 = .ok (.iload_n 2, 1) := by decide +kernel
theorem dX11_made_23 : decode cX11_made 23 = .ok (.putfield 278, 3) := by decide +kernel
theorem dX11_made_26 : decode cX11_made 26 = .ok (.aload_n 0, 1) := by decide +kernel
theorem dX11_made_27 : decode cX11_made 27 = .ok (.dup, 1) := by decide +kernel
theorem dX11_made_28 : decode cX11_made 28 = .ok (.getfield 71, 3) := by decide +kernel
theorem dX11_made_31 : decode cX11_made 31 = .ok (.iconst 1, 1) := by decide +kernel
theorem dX11_made_32 : decode cX11_made 32 = .ok (.iadd, 1) := by decide +kernel
theorem dX11_made_33 : decode cX11_made 33 = .ok (.putfield 71, 3) := by decide +kernel
theorem dX11_made_36 : decode cX11_made 36 = .ok (.aload_n 0, 1) := by decide +kernel
theorem dX11_made_37 : decode cX11_made 37 = .ok (.aload_n 0, 1) := by decide +kernel
theorem dX11_made_38 : decode cX11_made 38 = .ok (.getfield 71, 3) := by decide +kernel
theorem dX11_made_41 : decode cX11_made 41 = .ok (.iconst 1, 1) := by decide +kernel
theorem dX11_made_42 : decode cX11_made 42 = .ok (.isub, 1) := by decide +kernel
theorem dX11_made_43 : decode cX11_made 43 = .ok (.invokevirtual 95, 3) := by decide +kernel
theorem dX11_made_46 : decode cX11_made 46 = .ok (.ireturn, 1) := by decide +kernel
theorem dX11_asked_0 : decode cX11_asked 0 = .ok (.iload_n 1, 1) := by decide +kernel
theorem dX11_asked_1 : decode cX11_asked 1 = .ok (.aload_n 0, 1) := by decide +kernel
theorem dX11_asked_2 : decode cX11_asked 2 = .ok (.getfield 74, 3) := by decide +kernel
theorem dX11_asked_5 : decode cX11_asked 5 = .ok (.invokestatic 98, 3) := by decide +kernel
theorem dX11_asked_8 : decode cX11_asked 8 = .ok (.ifCond .ne 5, 3) := by decide +kernel
theorem dX11_asked_11 : decode cX11_asked 11 = .ok (.aconst_null, 1) := by decide +kernel
theorem dX11_asked_12 : decode cX11_asked 12 = .ok (.areturn, 1) := by decide +kernel
theorem dX11_asked_13 : decode cX11_asked 13 = .ok (.aload_n 0, 1) := by decide +kernel
theorem dX11_asked_14 : decode cX11_asked 14 = .ok (.getfield 17, 3) := by decide +kernel
theorem dX11_asked_17 : decode cX11_asked 17 = .ok (.iload_n 1, 1) := by decide +kernel
theorem dX11_asked_18 : decode cX11_asked 18 = .ok (.aaload, 1) := by decide +kernel
theorem dX11_asked_19 : decode cX11_asked 19 = .ok (.astore_n 2, 1) := by decide +kernel
theorem dX11_asked_20 : decode cX11_asked 20 = .ok (.aload_n 2, 1) := by decide +kernel
theorem dX11_asked_21 : decode cX11_asked 21 = .ok (.getfield 158, 3) := by decide +kernel
theorem dX11_asked_24 : decode cX11_asked 24 = .ok (.ifCond .ne 11, 3) := by decide +kernel
theorem dX11_asked_27 : decode cX11_asked 27 = .ok (.aload_n 2, 1) := by decide +kernel
theorem dX11_asked_28 : decode cX11_asked 28 = .ok (.getfield 203, 3) := by decide +kernel
theorem dX11_asked_31 : decode cX11_asked 31 = .ok (.iconst (-1), 1) := by decide +kernel
theorem dX11_asked_32 : decode cX11_asked 32 = .ok (.if_icmp .eq 7, 3) := by decide +kernel
theorem dX11_asked_35 : decode cX11_asked 35 = .ok (.aconst_null, 1) := by decide +kernel
theorem dX11_asked_36 : decode cX11_asked 36 = .ok (.goto 7, 3) := by decide +kernel
theorem dX11_asked_39 : decode cX11_asked 39 = .ok (.aload_n 2, 1) := by decide +kernel
theorem dX11_asked_40 : decode cX11_asked 40 = .ok (.getfield 281, 3) := by decide +kernel
theorem dX11_asked_43 : decode cX11_asked 43 = .ok (.areturn, 1) := by decide +kernel
theorem dX11_askedOf_0 : decode cX11_askedOf 0 = .ok (.aload_n 0, 1) := by decide +kernel
theorem dX11_askedOf_1 : decode cX11_askedOf 1 = .ok (.iload_n 1, 1) := by decide +kernel
theorem dX11_askedOf_2 : decode cX11_askedOf 2 = .ok (.invokevirtual 209, 3) := by decide +kernel
theorem dX11_askedOf_5 : decode cX11_askedOf 5 = .ok (.astore_n 3, 1) := by decide +kernel
theorem dX11_askedOf_6 : decode cX11_askedOf 6 = .ok (.aload_n 3, 1) := by decide +kernel
theorem dX11_askedOf_7 : decode cX11_askedOf 7 = .ok (.ifnull 23, 3) := by decide +kernel
theorem dX11_askedOf_10 : decode cX11_askedOf 10 = .ok (.aload_n 0, 1) := by decide +kernel
theorem dX11_askedOf_11 : decode cX11_askedOf 11 = .ok (.getfield 17, 3) := by decide +kernel
theorem dX11_askedOf_14 : decode cX11_askedOf 14 = .ok (.iload_n 1, 1) := by decide +kernel
theorem dX11_askedOf_15 : decode cX11_askedOf 15 = .ok (.aaload, 1) := by decide +kernel
theorem dX11_askedOf_16 : decode cX11_askedOf 16 = .ok (.getfield 219, 3) := by decide +kernel
theorem dX11_askedOf_19 : decode cX11_askedOf 19 = .ok (.invokestatic 222, 3) := by decide +kernel
theorem dX11_askedOf_22 : decode cX11_askedOf 22 = .ok (.iload_n 2, 1) := by decide +kernel
theorem dX11_askedOf_23 : decode cX11_askedOf 23 = .ok (.if_icmp .ne 7, 3) := by decide +kernel
theorem dX11_askedOf_26 : decode cX11_askedOf 26 = .ok (.aload_n 3, 1) := by decide +kernel
theorem dX11_askedOf_27 : decode cX11_askedOf 27 = .ok (.goto 4, 3) := by decide +kernel
theorem dX11_askedOf_30 : decode cX11_askedOf 30 = .ok (.aconst_null, 1) := by decide +kernel
theorem dX11_askedOf_31 : decode cX11_askedOf 31 = .ok (.areturn, 1) := by decide +kernel
theorem dX11_dropRow_0 : decode cX11_dropRow 0 = .ok (.aload_n 0, 1) := by decide +kernel
theorem dX11_dropRow_1 : decode cX11_dropRow 1 = .ok (.getfield 71, 3) := by decide +kernel
theorem dX11_dropRow_4 : decode cX11_dropRow 4 = .ok (.iconst 1, 1) := by decide +kernel
theorem dX11_dropRow_5 : decode cX11_dropRow 5 = .ok (.isub, 1) := by decide +kernel
theorem dX11_dropRow_6 : decode cX11_dropRow 6 = .ok (.istore_n 1, 1) := by decide +kernel
theorem dX11_dropRow_7 : decode cX11_dropRow 7 = .ok (.iload_n 1, 1) := by decide +kernel
theorem dX11_dropRow_8 : decode cX11_dropRow 8 = .ok (.ifCond .ge 9, 3) := by decide +kernel
theorem dX11_dropRow_11 : decode cX11_dropRow 11 = .ok (.aload_n 0, 1) := by decide +kernel
theorem dX11_dropRow_12 : decode cX11_dropRow 12 = .ok (.iconst 3, 1) := by decide +kernel
theorem dX11_dropRow_13 : decode cX11_dropRow 13 = .ok (.invokevirtual 91, 3) := by decide +kernel
theorem dX11_dropRow_16 : decode cX11_dropRow 16 = .ok (.ireturn, 1) := by decide +kernel
theorem dX11_dropRow_17 : decode cX11_dropRow 17 = .ok (.iconst 0, 1) := by decide +kernel
theorem dX11_dropRow_18 : decode cX11_dropRow 18 = .ok (.istore_n 2, 1) := by decide +kernel
theorem dX11_dropRow_19 : decode cX11_dropRow 19 = .ok (.iload_n 2, 1) := by decide +kernel
theorem dX11_dropRow_20 : decode cX11_dropRow 20 = .ok (.aload_n 0, 1) := by decide +kernel
theorem dX11_dropRow_21 : decode cX11_dropRow 21 = .ok (.getfield 74, 3) := by decide +kernel
theorem dX11_dropRow_24 : decode cX11_dropRow 24 = .ok (.if_icmp .ge 43, 3) := by decide +kernel
theorem dX11_dropRow_27 : decode cX11_dropRow 27 = .ok (.aload_n 0, 1) := by decide +kernel
theorem dX11_dropRow_28 : decode cX11_dropRow 28 = .ok (.getfield 17, 3) := by decide +kernel
theorem dX11_dropRow_31 : decode cX11_dropRow 31 = .ok (.iload_n 2, 1) := by decide +kernel
theorem dX11_dropRow_32 : decode cX11_dropRow 32 = .ok (.aaload, 1) := by decide +kernel
theorem dX11_dropRow_33 : decode cX11_dropRow 33 = .ok (.getfield 158, 3) := by decide +kernel
theorem dX11_dropRow_36 : decode cX11_dropRow 36 = .ok (.ifCond .ne 25, 3) := by decide +kernel
theorem dX11_dropRow_39 : decode cX11_dropRow 39 = .ok (.aload_n 0, 1) := by decide +kernel
theorem dX11_dropRow_40 : decode cX11_dropRow 40 = .ok (.getfield 17, 3) := by decide +kernel
theorem dX11_dropRow_43 : decode cX11_dropRow 43 = .ok (.iload_n 2, 1) := by decide +kernel
theorem dX11_dropRow_44 : decode cX11_dropRow 44 = .ok (.aaload, 1) := by decide +kernel
theorem dX11_dropRow_45 : decode cX11_dropRow 45 = .ok (.getfield 282, 3) := by decide +kernel
theorem dX11_dropRow_48 : decode cX11_dropRow 48 = .ok (.iload_n 1, 1) := by decide +kernel
theorem dX11_dropRow_49 : decode cX11_dropRow 49 = .ok (.ishr, 1) := by decide +kernel
theorem dX11_dropRow_50 : decode cX11_dropRow 50 = .ok (.iconst 1, 1) := by decide +kernel
theorem dX11_dropRow_51 : decode cX11_dropRow 51 = .ok (.iand, 1) := by decide +kernel
theorem dX11_dropRow_52 : decode cX11_dropRow 52 = .ok (.ifCond .eq 9, 3) := by decide +kernel
theorem dX11_dropRow_55 : decode cX11_dropRow 55 = .ok (.aload_n 0, 1) := by decide +kernel
theorem dX11_dropRow_56 : decode cX11_dropRow 56 = .ok (.iconst 3, 1) := by decide +kernel
theorem dX11_dropRow_57 : decode cX11_dropRow 57 = .ok (.invokevirtual 91, 3) := by decide +kernel
theorem dX11_dropRow_60 : decode cX11_dropRow 60 = .ok (.ireturn, 1) := by decide +kernel
theorem dX11_dropRow_61 : decode cX11_dropRow 61 = .ok (.iinc 2 1, 3) := by decide +kernel
theorem dX11_dropRow_64 : decode cX11_dropRow 64 = .ok (.goto (-45), 3) := by decide +kernel
theorem dX11_dropRow_67 : decode cX11_dropRow 67 = .ok (.aload_n 0, 1) := by decide +kernel
theorem dX11_dropRow_68 : decode cX11_dropRow 68 = .ok (.iload_n 1, 1) := by decide +kernel
theorem dX11_dropRow_69 : decode cX11_dropRow 69 = .ok (.putfield 71, 3) := by decide +kernel
theorem dX11_dropRow_72 : decode cX11_dropRow 72 = .ok (.aload_n 0, 1) := by decide +kernel
theorem dX11_dropRow_73 : decode cX11_dropRow 73 = .ok (.iload_n 1, 1) := by decide +kernel
theorem dX11_dropRow_74 : decode cX11_dropRow 74 = .ok (.invokevirtual 95, 3) := by decide +kernel
theorem dX11_dropRow_77 : decode cX11_dropRow 77 = .ok (.ireturn, 1) := by decide +kernel
theorem dX11_dropQuestion_0 : decode cX11_dropQuestion 0 = .ok (.aload_n 0, 1) := by decide +kernel
theorem dX11_dropQuestion_1 : decode cX11_dropQuestion 1 = .ok (.getfield 74, 3) := by decide +kernel
theorem dX11_dropQuestion_4 : decode cX11_dropQuestion 4 = .ok (.iconst 1, 1) := by decide +kernel
theorem dX11_dropQuestion_5 : decode cX11_dropQuestion 5 = .ok (.isub, 1) := by decide +kernel
theorem dX11_dropQuestion_6 : decode cX11_dropQuestion 6 = .ok (.istore_n 1, 1) := by decide +kernel
theorem dX11_dropQuestion_7 : decode cX11_dropQuestion 7 = .ok (.iload_n 1, 1) := by decide +kernel
theorem dX11_dropQuestion_8 : decode cX11_dropQuestion 8 = .ok (.ifCond .ge 9, 3) := by decide +kernel
theorem dX11_dropQuestion_11 : decode cX11_dropQuestion 11 = .ok (.aload_n 0, 1) := by decide +kernel
theorem dX11_dropQuestion_12 : decode cX11_dropQuestion 12 = .ok (.iconst 3, 1) := by decide +kernel
theorem dX11_dropQuestion_13 : decode cX11_dropQuestion 13 = .ok (.invokevirtual 91, 3) := by decide +kernel
theorem dX11_dropQuestion_16 : decode cX11_dropQuestion 16 = .ok (.ireturn, 1) := by decide +kernel
theorem dX11_dropQuestion_17 : decode cX11_dropQuestion 17 = .ok (.iconst 0, 1) := by decide +kernel
theorem dX11_dropQuestion_18 : decode cX11_dropQuestion 18 = .ok (.istore_n 2, 1) := by decide +kernel
theorem dX11_dropQuestion_19 : decode cX11_dropQuestion 19 = .ok (.iload_n 2, 1) := by decide +kernel
theorem dX11_dropQuestion_20 : decode cX11_dropQuestion 20 = .ok (.aload_n 0, 1) := by decide +kernel
theorem dX11_dropQuestion_21 : decode cX11_dropQuestion 21 = .ok (.getfield 71, 3) := by decide +kernel
theorem dX11_dropQuestion_24 : decode cX11_dropQuestion 24 = .ok (.if_icmp .ge 41, 3) := by decide +kernel
theorem dX11_dropQuestion_27 : decode cX11_dropQuestion 27 = .ok (.aload_n 0, 1) := by decide +kernel
theorem dX11_dropQuestion_28 : decode cX11_dropQuestion 28 = .ok (.getfield 11, 3) := by decide +kernel
theorem dX11_dropQuestion_31 : decode cX11_dropQuestion 31 = .ok (.iload_n 2, 1) := by decide +kernel
theorem dX11_dropQuestion_32 : decode cX11_dropQuestion 32 = .ok (.aaload, 1) := by decide +kernel
theorem dX11_dropQuestion_33 : decode cX11_dropQuestion 33 = .ok (.getfield 179, 3) := by decide +kernel
theorem dX11_dropQuestion_36 : decode cX11_dropQuestion 36 = .ok (.iconst 4, 1) := by decide +kernel
theorem dX11_dropQuestion_37 : decode cX11_dropQuestion 37 = .ok (.if_icmp .ne 22, 3) := by decide +kernel
theorem dX11_dropQuestion_40 : decode cX11_dropQuestion 40 = .ok (.aload_n 0, 1) := by decide +kernel
theorem dX11_dropQuestion_41 : decode cX11_dropQuestion 41 = .ok (.getfield 11, 3) := by decide +kernel
theorem dX11_dropQuestion_44 : decode cX11_dropQuestion 44 = .ok (.iload_n 2, 1) := by decide +kernel
theorem dX11_dropQuestion_45 : decode cX11_dropQuestion 45 = .ok (.aaload, 1) := by decide +kernel
theorem dX11_dropQuestion_46 : decode cX11_dropQuestion 46 = .ok (.getfield 278, 3) := by decide +kernel
theorem dX11_dropQuestion_49 : decode cX11_dropQuestion 49 = .ok (.iload_n 1, 1) := by decide +kernel
theorem dX11_dropQuestion_50 : decode cX11_dropQuestion 50 = .ok (.if_icmp .ne 9, 3) := by decide +kernel
theorem dX11_dropQuestion_53 : decode cX11_dropQuestion 53 = .ok (.aload_n 0, 1) := by decide +kernel
theorem dX11_dropQuestion_54 : decode cX11_dropQuestion 54 = .ok (.iconst 3, 1) := by decide +kernel
theorem dX11_dropQuestion_55 : decode cX11_dropQuestion 55 = .ok (.invokevirtual 91, 3) := by decide +kernel
theorem dX11_dropQuestion_58 : decode cX11_dropQuestion 58 = .ok (.ireturn, 1) := by decide +kernel
theorem dX11_dropQuestion_59 : decode cX11_dropQuestion 59 = .ok (.iinc 2 1, 3) := by decide +kernel
theorem dX11_dropQuestion_62 : decode cX11_dropQuestion 62 = .ok (.goto (-43), 3) := by decide +kernel
theorem dX11_dropQuestion_65 : decode cX11_dropQuestion 65 = .ok (.aload_n 0, 1) := by decide +kernel
theorem dX11_dropQuestion_66 : decode cX11_dropQuestion 66 = .ok (.iload_n 1, 1) := by decide +kernel
theorem dX11_dropQuestion_67 : decode cX11_dropQuestion 67 = .ok (.putfield 74, 3) := by decide +kernel
theorem dX11_dropQuestion_70 : decode cX11_dropQuestion 70 = .ok (.aload_n 0, 1) := by decide +kernel
theorem dX11_dropQuestion_71 : decode cX11_dropQuestion 71 = .ok (.iload_n 1, 1) := by decide +kernel
theorem dX11_dropQuestion_72 : decode cX11_dropQuestion 72 = .ok (.invokevirtual 95, 3) := by decide +kernel
theorem dX11_dropQuestion_75 : decode cX11_dropQuestion 75 = .ok (.ireturn, 1) := by decide +kernel
theorem dX11_forgeKind_0 : decode cX11_forgeKind 0 = .ok (.iload_n 1, 1) := by decide +kernel
theorem dX11_forgeKind_1 : decode cX11_forgeKind 1 = .ok (.aload_n 0, 1) := by decide +kernel
theorem dX11_forgeKind_2 : decode cX11_forgeKind 2 = .ok (.getfield 71, 3) := by decide +kernel
theorem dX11_forgeKind_5 : decode cX11_forgeKind 5 = .ok (.if_icmp .lt 10, 3) := by decide +kernel
theorem dX11_forgeKind_8 : decode cX11_forgeKind 8 = .ok (.aload_n 0, 1) := by decide +kernel
theorem dX11_forgeKind_9 : decode cX11_forgeKind 9 = .ok (.bipush 10, 2) := by decide +kernel
theorem dX11_forgeKind_11 : decode cX11_forgeKind 11 = .ok (.invokevirtual 91, 3) := by decide +kernel
theorem dX11_forgeKind_14 : decode cX11_forgeKind 14 = .ok (.ireturn, 1) := by decide +kernel
theorem dX11_forgeKind_15 : decode cX11_forgeKind 15 = .ok (.aload_n 0, 1) := by decide +kernel
theorem dX11_forgeKind_16 : decode cX11_forgeKind 16 = .ok (.getfield 11, 3) := by decide +kernel
theorem dX11_forgeKind_19 : decode cX11_forgeKind 19 = .ok (.iload_n 1, 1) := by decide +kernel
theorem dX11_forgeKind_20 : decode cX11_forgeKind 20 = .ok (.aaload, 1) := by decide +kernel
theorem dX11_forgeKind_21 : decode cX11_forgeKind 21 = .ok (.getfield 179, 3) := by decide +kernel
theorem dX11_forgeKind_24 : decode cX11_forgeKind 24 = .ok (.istore_n 3, 1) := by decide +kernel
theorem dX11_forgeKind_25 : decode cX11_forgeKind 25 = .ok (.iload_n 2, 1) := by decide +kernel
theorem dX11_forgeKind_26 : decode cX11_forgeKind 26 = .ok (.ifCond .eq 13, 3) := by decide +kernel
theorem dX11_forgeKind_29 : decode cX11_forgeKind 29 = .ok (.iload_n 2, 1) := by decide +kernel
theorem dX11_forgeKind_30 : decode cX11_forgeKind 30 = .ok (.iconst 1, 1) := by decide +kernel
theorem dX11_forgeKind_31 : decode cX11_forgeKind 31 = .ok (.if_icmp .ne 12, 3) := by decide +kernel
theorem dX11_forgeKind_34 : decode cX11_forgeKind 34 = .ok (.iload_n 3, 1) := by decide +kernel
theorem dX11_forgeKind_35 : decode cX11_forgeKind 35 = .ok (.iconst 2, 1) := by decide +kernel
theorem dX11_forgeKind_36 : decode cX11_forgeKind 36 = .ok (.if_icmp .ne 7, 3) := by decide +kernel
theorem dX11_forgeKind_39 : decode cX11_forgeKind 39 = .ok (.iconst 1, 1) := by decide +kernel
theorem dX11_forgeKind_40 : decode cX11_forgeKind 40 = .ok (.goto 4, 3) := by decide +kernel
theorem dX11_forgeKind_43 : decode cX11_forgeKind 43 = .ok (.iconst 0, 1) := by decide +kernel
theorem dX11_forgeKind_44 : decode cX11_forgeKind 44 = .ok (.istore 4, 2) := by decide +kernel
theorem dX11_forgeKind_46 : decode cX11_forgeKind 46 = .ok (.iload_n 3, 1) := by decide +kernel
theorem dX11_forgeKind_47 : decode cX11_forgeKind 47 = .ok (.iload_n 2, 1) := by decide +kernel
theorem dX11_forgeKind_48 : decode cX11_forgeKind 48 = .ok (.if_icmp .eq 8, 3) := by decide +kernel
theorem dX11_forgeKind_51 : decode cX11_forgeKind 51 = .ok (.iload 4, 2) := by decide +kernel
theorem dX11_forgeKind_53 : decode cX11_forgeKind 53 = .ok (.ifCond .eq 11, 3) := by decide +kernel
theorem dX11_forgeKind_56 : decode cX11_forgeKind 56 = .ok (.aload_n 0, 1) := by decide +kernel
theorem dX11_forgeKind_57 : decode cX11_forgeKind 57 = .ok (.iload_n 3, 1) := by decide +kernel
theorem dX11_forgeKind_58 : decode cX11_forgeKind 58 = .ok (.invokevirtual 95, 3) := by decide +kernel
theorem dX11_forgeKind_61 : decode cX11_forgeKind 61 = .ok (.goto 9, 3) := by decide +kernel
theorem dX11_forgeKind_64 : decode cX11_forgeKind 64 = .ok (.aload_n 0, 1) := by decide +kernel
theorem dX11_forgeKind_65 : decode cX11_forgeKind 65 = .ok (.bipush 11, 2) := by decide +kernel
theorem dX11_forgeKind_67 : decode cX11_forgeKind 67 = .ok (.invokevirtual 91, 3) := by decide +kernel
theorem dX11_forgeKind_70 : decode cX11_forgeKind 70 = .ok (.ireturn, 1) := by decide +kernel
theorem dX11_forgeNumber_0 : decode cX11_forgeNumber 0 = .ok (.aload_n 0, 1) := by decide +kernel
theorem dX11_forgeNumber_1 : decode cX11_forgeNumber 1 = .ok (.getfield 30, 3) := by decide +kernel
theorem dX11_forgeNumber_4 : decode cX11_forgeNumber 4 = .ok (.iload_n 1, 1) := by decide +kernel
theorem dX11_forgeNumber_5 : decode cX11_forgeNumber 5 = .ok (.iaload, 1) := by decide +kernel
theorem dX11_forgeNumber_6 : decode cX11_forgeNumber 6 = .ok (.iconst (-1), 1) := by decide +kernel
theorem dX11_forgeNumber_7 : decode cX11_forgeNumber 7 = .ok (.if_icmp .ne 10, 3) := by decide +kernel
theorem dX11_forgeNumber_10 : decode cX11_forgeNumber 10 = .ok (.aload_n 0, 1) := by decide +kernel
theorem dX11_forgeNumber_11 : decode cX11_forgeNumber 11 = .ok (.bipush 10, 2) := by decide +kernel
theorem dX11_forgeNumber_13 : decode cX11_forgeNumber 13 = .ok (.invokevirtual 91, 3) := by decide +kernel
theorem dX11_forgeNumber_16 : decode cX11_forgeNumber 16 = .ok (.ireturn, 1) := by decide +kernel
theorem dX11_forgeNumber_17 : decode cX11_forgeNumber 17 = .ok (.aload_n 0, 1) := by decide +kernel
theorem dX11_forgeNumber_18 : decode cX11_forgeNumber 18 = .ok (.getfield 30, 3) := by decide +kernel
theorem dX11_forgeNumber_21 : decode cX11_forgeNumber 21 = .ok (.iload_n 1, 1) := by decide +kernel
theorem dX11_forgeNumber_22 : decode cX11_forgeNumber 22 = .ok (.iaload, 1) := by decide +kernel
theorem dX11_forgeNumber_23 : decode cX11_forgeNumber 23 = .ok (.iconst 1, 1) := by decide +kernel
theorem dX11_forgeNumber_24 : decode cX11_forgeNumber 24 = .ok (.if_icmp .eq 10, 3) := by decide +kernel
theorem dX11_forgeNumber_27 : decode cX11_forgeNumber 27 = .ok (.aload_n 0, 1) := by decide +kernel
theorem dX11_forgeNumber_28 : decode cX11_forgeNumber 28 = .ok (.bipush 11, 2) := by decide +kernel
theorem dX11_forgeNumber_30 : decode cX11_forgeNumber 30 = .ok (.invokevirtual 91, 3) := by decide +kernel
theorem dX11_forgeNumber_33 : decode cX11_forgeNumber 33 = .ok (.ireturn, 1) := by decide +kernel
theorem dX11_forgeNumber_34 : decode cX11_forgeNumber 34 = .ok (.iload_n 2, 1) := by decide +kernel
theorem dX11_forgeNumber_35 : decode cX11_forgeNumber 35 = .ok (.aload_n 0, 1) := by decide +kernel
theorem dX11_forgeNumber_36 : decode cX11_forgeNumber 36 = .ok (.getfield 33, 3) := by decide +kernel
theorem dX11_forgeNumber_39 : decode cX11_forgeNumber 39 = .ok (.iload_n 1, 1) := by decide +kernel
theorem dX11_forgeNumber_40 : decode cX11_forgeNumber 40 = .ok (.iaload, 1) := by decide +kernel
theorem dX11_forgeNumber_41 : decode cX11_forgeNumber 41 = .ok (.invokestatic 98, 3) := by decide +kernel
theorem dX11_forgeNumber_44 : decode cX11_forgeNumber 44 = .ok (.ifCond .eq 18, 3) := by decide +kernel
theorem dX11_forgeNumber_47 : decode cX11_forgeNumber 47 = .ok (.aload_n 0, 1) := by decide +kernel
theorem dX11_forgeNumber_48 : decode cX11_forgeNumber 48 = .ok (.aload_n 0, 1) := by decide +kernel
theorem dX11_forgeNumber_49 : decode cX11_forgeNumber 49 = .ok (.getfield 27, 3) := by decide +kernel
theorem dX11_forgeNumber_52 : decode cX11_forgeNumber 52 = .ok (.iload_n 1, 1) := by decide +kernel
theorem dX11_forgeNumber_53 : decode cX11_forgeNumber 53 = .ok (.aaload, 1) := by decide +kernel
theorem dX11_forgeNumber_54 : decode cX11_forgeNumber 54 = .ok (.iload_n 2, 1) := by decide +kernel
theorem dX11_forgeNumber_55 : decode cX11_forgeNumber 55 = .ok (.iaload, 1) := by decide +kernel
theorem dX11_forgeNumber_56 : decode cX11_forgeNumber 56 = .ok (.invokevirtual 95, 3) := by decide +kernel
theorem dX11_forgeNumber_59 : decode cX11_forgeNumber 59 = .ok (.goto 9, 3) := by decide +kernel
theorem dX11_forgeNumber_62 : decode cX11_forgeNumber 62 = .ok (.aload_n 0, 1) := by decide +kernel
theorem dX11_forgeNumber_63 : decode cX11_forgeNumber 63 = .ok (.bipush 12, 2) := by decide +kernel
theorem dX11_forgeNumber_65 : decode cX11_forgeNumber 65 = .ok (.invokevirtual 91, 3) := by decide +kernel
theorem dX11_forgeNumber_68 : decode cX11_forgeNumber 68 = .ok (.ireturn, 1) := by decide +kernel
theorem dX11_forgeCopy_0 : decode cX11_forgeCopy 0 = .ok (.aload_n 0, 1) := by decide +kernel
theorem dX11_forgeCopy_1 : decode cX11_forgeCopy 1 = .ok (.getfield 30, 3) := by decide +kernel
theorem dX11_forgeCopy_4 : decode cX11_forgeCopy 4 = .ok (.iload_n 1, 1) := by decide +kernel
theorem dX11_forgeCopy_5 : decode cX11_forgeCopy 5 = .ok (.iaload, 1) := by decide +kernel
theorem dX11_forgeCopy_6 : decode cX11_forgeCopy 6 = .ok (.iconst (-1), 1) := by decide +kernel
theorem dX11_forgeCopy_7 : decode cX11_forgeCopy 7 = .ok (.if_icmp .ne 10, 3) := by decide +kernel
theorem dX11_forgeCopy_10 : decode cX11_forgeCopy 10 = .ok (.aload_n 0, 1) := by decide +kernel
theorem dX11_forgeCopy_11 : decode cX11_forgeCopy 11 = .ok (.bipush 10, 2) := by decide +kernel
theorem dX11_forgeCopy_13 : decode cX11_forgeCopy 13 = .ok (.invokevirtual 91, 3) := by decide +kernel
theorem dX11_forgeCopy_16 : decode cX11_forgeCopy 16 = .ok (.ireturn, 1) := by decide +kernel
theorem dX11_forgeCopy_17 : decode cX11_forgeCopy 17 = .ok (.aload_n 0, 1) := by decide +kernel
theorem dX11_forgeCopy_18 : decode cX11_forgeCopy 18 = .ok (.getfield 30, 3) := by decide +kernel
theorem dX11_forgeCopy_21 : decode cX11_forgeCopy 21 = .ok (.iload_n 1, 1) := by decide +kernel
theorem dX11_forgeCopy_22 : decode cX11_forgeCopy 22 = .ok (.iaload, 1) := by decide +kernel
theorem dX11_forgeCopy_23 : decode cX11_forgeCopy 23 = .ok (.ifCond .eq 10, 3) := by decide +kernel
theorem dX11_forgeCopy_26 : decode cX11_forgeCopy 26 = .ok (.aload_n 0, 1) := by decide +kernel
theorem dX11_forgeCopy_27 : decode cX11_forgeCopy 27 = .ok (.bipush 11, 2) := by decide +kernel
theorem dX11_forgeCopy_29 : decode cX11_forgeCopy 29 = .ok (.invokevirtual 91, 3) := by decide +kernel
theorem dX11_forgeCopy_32 : decode cX11_forgeCopy 32 = .ok (.ireturn, 1) := by decide +kernel
theorem dX11_forgeCopy_33 : decode cX11_forgeCopy 33 = .ok (.iload_n 2, 1) := by decide +kernel
theorem dX11_forgeCopy_34 : decode cX11_forgeCopy 34 = .ok (.ifCond .lt 22, 3) := by decide +kernel
theorem dX11_forgeCopy_37 : decode cX11_forgeCopy 37 = .ok (.iload_n 2, 1) := by decide +kernel
theorem dX11_forgeCopy_38 : decode cX11_forgeCopy 38 = .ok (.iconst 2, 1) := by decide +kernel
theorem dX11_forgeCopy_39 : decode cX11_forgeCopy 39 = .ok (.iadd, 1) := by decide +kernel
theorem dX11_forgeCopy_40 : decode cX11_forgeCopy 40 = .ok (.aload_n 0, 1) := by decide +kernel
theorem dX11_forgeCopy_41 : decode cX11_forgeCopy 41 = .ok (.getfield 33, 3) := by decide +kernel
theorem dX11_forgeCopy_44 : decode cX11_forgeCopy 44 = .ok (.iload_n 1, 1) := by decide +kernel
theorem dX11_forgeCopy_45 : decode cX11_forgeCopy 45 = .ok (.iaload, 1) := by decide +kernel
theorem dX11_forgeCopy_46 : decode cX11_forgeCopy 46 = .ok (.if_icmp .gt 10, 3) := by decide +kernel
theorem dX11_forgeCopy_49 : decode cX11_forgeCopy 49 = .ok (.iload_n 2, 1) := by decide +kernel
theorem dX11_forgeCopy_50 : decode cX11_forgeCopy 50 = .ok (.iload_n 2, 1) := by decide +kernel
theorem dX11_forgeCopy_51 : decode cX11_forgeCopy 51 = .ok (.iadd, 1) := by decide +kernel
theorem dX11_forgeCopy_52 : decode cX11_forgeCopy 52 = .ok (.iconst 5, 1) := by decide +kernel
theorem dX11_forgeCopy_53 : decode cX11_forgeCopy 53 = .ok (.if_icmp .le 10, 3) := by decide +kernel
theorem dX11_forgeCopy_56 : decode cX11_forgeCopy 56 = .ok (.aload_n 0, 1) := by decide +kernel
theorem dX11_forgeCopy_57 : decode cX11_forgeCopy 57 = .ok (.bipush 12, 2) := by decide +kernel
theorem dX11_forgeCopy_59 : decode cX11_forgeCopy 59 = .ok (.invokevirtual 91, 3) := by decide +kernel
theorem dX11_forgeCopy_62 : decode cX11_forgeCopy 62 = .ok (.ireturn, 1) := by decide +kernel
theorem dX11_forgeCopy_63 : decode cX11_forgeCopy 63 = .ok (.iconst 0, 1) := by decide +kernel
theorem dX11_forgeCopy_64 : decode cX11_forgeCopy 64 = .ok (.istore_n 3, 1) := by decide +kernel
theorem dX11_forgeCopy_65 : decode cX11_forgeCopy 65 = .ok (.iconst 2, 1) := by decide +kernel
theorem dX11_forgeCopy_66 : decode cX11_forgeCopy 66 = .ok (.istore 4, 2) := by decide +kernel
theorem dX11_forgeCopy_68 : decode cX11_forgeCopy 68 = .ok (.iload 4, 2) := by decide +kernel
theorem dX11_forgeCopy_70 : decode cX11_forgeCopy 70 = .ok (.iload_n 2, 1) := by decide +kernel
theorem dX11_forgeCopy_71 : decode cX11_forgeCopy 71 = .ok (.iconst 2, 1) := by decide +kernel
theorem dX11_forgeCopy_72 : decode cX11_forgeCopy 72 = .ok (.iadd, 1) := by decide +kernel
theorem dX11_forgeCopy_73 : decode cX11_forgeCopy 73 = .ok (.if_icmp .ge 21, 3) := by decide +kernel
theorem dX11_forgeCopy_76 : decode cX11_forgeCopy 76 = .ok (.iload_n 3, 1) := by decide +kernel
theorem dX11_forgeCopy_77 : decode cX11_forgeCopy 77 = .ok (.aload_n 0, 1) := by decide +kernel
theorem dX11_forgeCopy_78 : decode cX11_forgeCopy 78 = .ok (.getfield 27, 3) := by decide +kernel
theorem dX11_forgeCopy_81 : decode cX11_forgeCopy 81 = .ok (.iload_n 1, 1) := by decide +kernel
theorem dX11_forgeCopy_82 : decode cX11_forgeCopy 82 = .ok (.aaload, 1) := by decide +kernel
theorem dX11_forgeCopy_83 : decode cX11_forgeCopy 83 = .ok (.iload 4, 2) := by decide +kernel
theorem dX11_forgeCopy_85 : decode cX11_forgeCopy 85 = .ok (.iaload, 1) := by decide +kernel
theorem dX11_forgeCopy_86 : decode cX11_forgeCopy 86 = .ok (.iadd, 1) := by decide +kernel
theorem dX11_forgeCopy_87 : decode cX11_forgeCopy 87 = .ok (.istore_n 3, 1) := by decide +kernel
theorem dX11_forgeCopy_88 : decode cX11_forgeCopy 88 = .ok (.iinc 4 1, 3) := by decide +kernel
theorem dX11_forgeCopy_91 : decode cX11_forgeCopy 91 = .ok (.goto (-23), 3) := by decide +kernel
theorem dX11_forgeCopy_94 : decode cX11_forgeCopy 94 = .ok (.aload_n 0, 1) := by decide +kernel
theorem dX11_forgeCopy_95 : decode cX11_forgeCopy 95 = .ok (.iload_n 3, 1) := by decide +kernel
theorem dX11_forgeCopy_96 : decode cX11_forgeCopy 96 = .ok (.invokevirtual 95, 3) := by decide +kernel
theorem dX11_forgeCopy_99 : decode cX11_forgeCopy 99 = .ok (.ireturn, 1) := by decide +kernel
theorem dX11_forgeStore_0 : decode cX11_forgeStore 0 = .ok (.iload_n 1, 1) := by decide +kernel
theorem dX11_forgeStore_1 : decode cX11_forgeStore 1 = .ok (.aload_n 0, 1) := by decide +kernel
theorem dX11_forgeStore_2 : decode cX11_forgeStore 2 = .ok (.getfield 71, 3) := by decide +kernel
theorem dX11_forgeStore_5 : decode cX11_forgeStore 5 = .ok (.if_icmp .lt 9, 3) := by decide +kernel
theorem dX11_forgeStore_8 : decode cX11_forgeStore 8 = .ok (.aload_n 0, 1) := by decide +kernel
theorem dX11_forgeStore_9 : decode cX11_forgeStore 9 = .ok (.iconst 0, 1) := by decide +kernel
theorem dX11_forgeStore_10 : decode cX11_forgeStore 10 = .ok (.invokevirtual 95, 3) := by decide +kernel
theorem dX11_forgeStore_13 : decode cX11_forgeStore 13 = .ok (.ireturn, 1) := by decide +kernel
theorem dX11_forgeStore_14 : decode cX11_forgeStore 14 = .ok (.aload_n 0, 1) := by decide +kernel
theorem dX11_forgeStore_15 : decode cX11_forgeStore 15 = .ok (.getfield 11, 3) := by decide +kernel
theorem dX11_forgeStore_18 : decode cX11_forgeStore 18 = .ok (.iload_n 1, 1) := by decide +kernel
theorem dX11_forgeStore_19 : decode cX11_forgeStore 19 = .ok (.aaload, 1) := by decide +kernel
theorem dX11_forgeStore_20 : decode cX11_forgeStore 20 = .ok (.getfield 179, 3) := by decide +kernel
theorem dX11_forgeStore_23 : decode cX11_forgeStore 23 = .ok (.istore_n 2, 1) := by decide +kernel
theorem dX11_forgeStore_24 : decode cX11_forgeStore 24 = .ok (.iload_n 2, 1) := by decide +kernel
theorem dX11_forgeStore_25 : decode cX11_forgeStore 25 = .ok (.iconst 1, 1) := by decide +kernel
theorem dX11_forgeStore_26 : decode cX11_forgeStore 26 = .ok (.if_icmp .eq 8, 3) := by decide +kernel
theorem dX11_forgeStore_29 : decode cX11_forgeStore 29 = .ok (.iload_n 2, 1) := by decide +kernel
theorem dX11_forgeStore_30 : decode cX11_forgeStore 30 = .ok (.iconst 2, 1) := by decide +kernel
theorem dX11_forgeStore_31 : decode cX11_forgeStore 31 = .ok (.if_icmp .ne 11, 3) := by decide +kernel
theorem dX11_forgeStore_34 : decode cX11_forgeStore 34 = .ok (.aload_n 0, 1) := by decide +kernel
theorem dX11_forgeStore_35 : decode cX11_forgeStore 35 = .ok (.iload_n 2, 1) := by decide +kernel
theorem dX11_forgeStore_36 : decode cX11_forgeStore 36 = .ok (.invokevirtual 95, 3) := by decide +kernel
theorem dX11_forgeStore_39 : decode cX11_forgeStore 39 = .ok (.goto 9, 3) := by decide +kernel
theorem dX11_forgeStore_42 : decode cX11_forgeStore 42 = .ok (.aload_n 0, 1) := by decide +kernel
theorem dX11_forgeStore_43 : decode cX11_forgeStore 43 = .ok (.bipush 14, 2) := by decide +kernel
theorem dX11_forgeStore_45 : decode cX11_forgeStore 45 = .ok (.invokevirtual 91, 3) := by decide +kernel
theorem dX11_forgeStore_48 : decode cX11_forgeStore 48 = .ok (.ireturn, 1) := by decide +kernel
theorem eX11_begin {G : GG} {d rc rs : Nat} (o : Nat) (a1 : Int32)  {M : Mem} {Q : Option Value → Mem → Prop} (h : (a1 = 2 → (x_h M o).1 = 27 ∧ (∀ M3, M3 = x_si M o 11 a1 → ∀ M4, M4 = x_si M3 o 12 0 → ∀ M5, M5 = x_si M4 o 13 0 → Call G d 0 0 mX11_done [.ref o, .int 1] M5 (fun r6 M7 => ∃ v8 : Int32, r6 = some (.int v8) ∧ Q (some (.int v8)) M7))) ∧ (¬ a1 = 2 → (a1 = 3 → (x_h M o).1 = 27 ∧ (∀ M11, M11 = x_si M o 11 a1 → ∀ M12, M12 = x_si M11 o 12 0 → ∀ M13, M13 = x_si M12 o 13 0 → Call G d 0 0 mX11_done [.ref o, .int 1] M13 (fun r14 M15 => ∃ v16 : Int32, r14 = some (.int v16) ∧ Q (some (.int v16)) M15))) ∧ (¬ a1 = 3 → (x_h M o).1 = 27 ∧ Call G d 0 0 mX11_refuse [.ref o, .int 1] M (fun r18 M19 => ∃ v20 : Int32, r18 = some (.int v20) ∧ Q (some (.int v20)) M19)))) : Call G (d + 1) rc rs mX11_begin [.ref o, .int a1] M Q := by
  refine call_of (by decide) (Nat.le_of_ble_eq_true rfl) ?_
  show Wk G (d + 1) rc rs mX11_begin 0 [some (.ref o), some (.int a1)] [] M Q
  refine r_iload_n (pc := 0) (i := 1) dX11_begin_0 rfl rfl ?_
  refine r_iconst (pc := 1) (v := 2) dX11_begin_1 (by decide) ?_
  refine r_icmp_eq (pc := 2) (tgt := 16) dX11_begin_2 (by decide) (fun c1 => ?_) (fun c1 => ?_)
  · replace h := h.1 c1
    refine r_aload_n (pc := 16) (i := 0) dX11_begin_16 rfl rfl ?_
    refine r_iload_n (pc := 17) (i := 1) dX11_begin_17 rfl rfl ?_
    obtain ⟨k2, h⟩ := h
    refine r_puti (pc := 18) flX11_67 dX11_begin_18 (Or.inl rfl) (fun q hq => by cases hq; rfl) k2 ?_
    replace h := h _ rfl
    refine r_aload_n (pc := 21) (i := 0) dX11_begin_21 rfl rfl ?_
    refine r_iconst (pc := 22) (v := 0) dX11_begin_22 (by decide) ?_
    refine r_puti (pc := 23) flX11_71 dX11_begin_23 (Or.inl rfl) (fun q hq => by cases hq; rfl) k2 ?_
    replace h := h _ rfl
    refine r_aload_n (pc := 26) (i := 0) dX11_begin_26 rfl rfl ?_
    refine r_iconst (pc := 27) (v := 0) dX11_begin_27 (by decide) ?_
    refine r_puti (pc := 28) flX11_74 dX11_begin_28 (Or.inl rfl) (fun q hq => by cases hq; rfl) k2 ?_
    replace h := h _ rfl
    refine r_aload_n (pc := 31) (i := 0) dX11_begin_31 rfl rfl ?_
    refine r_iconst (pc := 32) (v := 1) dX11_begin_32 (by decide) ?_
    refine r_callV (pc := 33) (ci := 11) (as := [_]) (st := []) okX11_done lkX11_95 inX11_done seX11_done ⟨_, rfl, rfl⟩ dX11_begin_33 rfl k2 (Nat.le_of_ble_eq_true rfl) (Nat.zero_le _) (Nat.zero_le _) (Call.mono h (fun r6 M7 h => ?_))
    obtain ⟨v8, rfl, h⟩ := h
    exact r_iret (pc := 36) dX11_begin_36 rfl h
  · replace h := h.2 c1
    refine r_iload_n (pc := 5) (i := 1) dX11_begin_5 rfl rfl ?_
    refine r_iconst (pc := 6) (v := 3) dX11_begin_6 (by decide) ?_
    refine r_icmp_eq (pc := 7) (tgt := 16) dX11_begin_7 (by decide) (fun c9 => ?_) (fun c9 => ?_)
    · replace h := h.1 c9
      refine r_aload_n (pc := 16) (i := 0) dX11_begin_16 rfl rfl ?_
      refine r_iload_n (pc := 17) (i := 1) dX11_begin_17 rfl rfl ?_
      obtain ⟨k10, h⟩ := h
      refine r_puti (pc := 18) flX11_67 dX11_begin_18 (Or.inl rfl) (fun q hq => by cases hq; rfl) k10 ?_
      replace h := h _ rfl
      refine r_aload_n (pc := 21) (i := 0) dX11_begin_21 rfl rfl ?_
      refine r_iconst (pc := 22) (v := 0) dX11_begin_22 (by decide) ?_
      refine r_puti (pc := 23) flX11_71 dX11_begin_23 (Or.inl rfl) (fun q hq => by cases hq; rfl) k10 ?_
      replace h := h _ rfl
      refine r_aload_n (pc := 26) (i := 0) dX11_begin_26 rfl rfl ?_
      refine r_iconst (pc := 27) (v := 0) dX11_begin_27 (by decide) ?_
      refine r_puti (pc := 28) flX11_74 dX11_begin_28 (Or.inl rfl) (fun q hq => by cases hq; rfl) k10 ?_
      replace h := h _ rfl
      refine r_aload_n (pc := 31) (i := 0) dX11_begin_31 rfl rfl ?_
      refine r_iconst (pc := 32) (v := 1) dX11_begin_32 (by decide) ?_
      refine r_callV (pc := 33) (ci := 11) (as := [_]) (st := []) okX11_done lkX11_95 inX11_done seX11_done ⟨_, rfl, rfl⟩ dX11_begin_33 rfl k10 (Nat.le_of_ble_eq_true rfl) (Nat.zero_le _) (Nat.zero_le _) (Call.mono h (fun r14 M15 h => ?_))
      obtain ⟨v16, rfl, h⟩ := h
      exact r_iret (pc := 36) dX11_begin_36 rfl h
    · replace h := h.2 c9
      refine r_aload_n (pc := 10) (i := 0) dX11_begin_10 rfl rfl ?_
      refine r_iconst (pc := 11) (v := 1) dX11_begin_11 (by decide) ?_
      obtain ⟨k17, h⟩ := h
      refine r_callV (pc := 12) (ci := 11) (as := [_]) (st := []) okX11_refuse lkX11_91 inX11_refuse seX11_refuse ⟨_, rfl, rfl⟩ dX11_begin_12 rfl k17 (Nat.le_of_ble_eq_true rfl) (Nat.zero_le _) (Nat.zero_le _) (Call.mono h (fun r18 M19 h => ?_))
      obtain ⟨v20, rfl, h⟩ := h
      exact r_iret (pc := 15) dX11_begin_15 rfl h
abbrev LX11_sheet_46 (G : GG) (d rc rs : Nat) (p0 : Nat) (x1 : Int32) (x2 : Int32) (x3 : Int32) (M : Mem) (Q : Option Value → Mem → Prop) : Prop := Wk G (d + 1) rc rs mX11_sheet 46 [some (.ref p0), some (.int x1), some (.int x2), some (.int x3)] [] M Q
theorem eX11_sheet {G : GG} {d rc rs : Nat} (o : Nat) (a1 : Int32) (a2 : Int32) (a3 : Int32)  {M : Mem} {Q : Option Value → Mem → Prop} (h : Call G d 0 0 mX11_within [.int a1, .int 6] M (fun r1 M2 => ∃ v3 : Int32, r1 = some (.int v3) ∧ (v3 = 0 → (x_h M2 o).1 = 27 ∧ Call G d 0 0 mX11_refuse [.ref o, .int 1] M2 (fun r6 M7 => ∃ v8 : Int32, r6 = some (.int v8) ∧ Q (some (.int v8)) M7)) ∧ (¬ v3 = 0 → (a2 < (-1) → (x_h M2 o).1 = 27 ∧ Call G d 0 0 mX11_refuse [.ref o, .int 1] M2 (fun r11 M12 => ∃ v13 : Int32, r11 = some (.int v13) ∧ Q (some (.int v13)) M12)) ∧ (¬ a2 < (-1) → (a2 ≤ 2 → (a2 = (-1) → LX11_sheet_46 G d rc rs o a1 a2 a3 M2 Q) ∧ (¬ a2 = (-1) → (a3 < 0 → (x_h M2 o).1 = 27 ∧ Call G d 0 0 mX11_refuse [.ref o, .int 1] M2 (fun r18 M19 => ∃ v20 : Int32, r18 = some (.int v20) ∧ Q (some (.int v20)) M19)) ∧ (¬ a3 < 0 → (a3 ≤ 40 → LX11_sheet_46 G d rc rs o a1 a2 a3 M2 Q) ∧ (¬ a3 ≤ 40 → (x_h M2 o).1 = 27 ∧ Call G d 0 0 mX11_refuse [.ref o, .int 1] M2 (fun r23 M24 => ∃ v25 : Int32, r23 = some (.int v25) ∧ Q (some (.int v25)) M24))))) ∧ (¬ a2 ≤ 2 → (x_h M2 o).1 = 27 ∧ Call G d 0 0 mX11_refuse [.ref o, .int 1] M2 (fun r27 M28 => ∃ v29 : Int32, r27 = some (.int v29) ∧ Q (some (.int v29)) M28)))))) : Call G (d + 1) rc rs mX11_sheet [.ref o, .int a1, .int a2, .int a3] M Q := by
  refine call_of (by decide) (Nat.le_of_ble_eq_true rfl) ?_
  show Wk G (d + 1) rc rs mX11_sheet 0 [some (.ref o), some (.int a1), some (.int a2), some (.int a3)] [] M Q
  refine r_iload_n (pc := 0) (i := 1) dX11_sheet_0 rfl rfl ?_
  refine r_bipush (pc := 1) (v := 6) dX11_sheet_1 (by decide) ?_
  refine r_callS (pc := 3) (as := [_, _]) (st := []) okX11_within lkX11_98 stX11_within dX11_sheet_3 rfl (Nat.le_of_ble_eq_true rfl) (Nat.zero_le _) (Nat.zero_le _) (Call.mono h (fun r1 M2 h => ?_))
  obtain ⟨v3, rfl, h⟩ := h
  refine r_if_eq (pc := 6) (tgt := 19) dX11_sheet_6 (by decide) (fun c4 => ?_) (fun c4 => ?_)
  · replace h := h.1 c4
    refine r_aload_n (pc := 19) (i := 0) dX11_sheet_19 rfl rfl ?_
    refine r_iconst (pc := 20) (v := 1) dX11_sheet_20 (by decide) ?_
    obtain ⟨k5, h⟩ := h
    refine r_callV (pc := 21) (ci := 11) (as := [_]) (st := []) okX11_refuse lkX11_91 inX11_refuse seX11_refuse ⟨_, rfl, rfl⟩ dX11_sheet_21 rfl k5 (Nat.le_of_ble_eq_true rfl) (Nat.zero_le _) (Nat.zero_le _) (Call.mono h (fun r6 M7 h => ?_))
    obtain ⟨v8, rfl, h⟩ := h
    exact r_iret (pc := 24) dX11_sheet_24 rfl h
  · replace h := h.2 c4
    refine r_iload_n (pc := 9) (i := 2) dX11_sheet_9 rfl rfl ?_
    refine r_iconst (pc := 10) (v := (-1)) dX11_sheet_10 (by decide) ?_
    refine r_icmp_lt (pc := 11) (tgt := 19) dX11_sheet_11 (by decide) (fun c9 => ?_) (fun c9 => ?_)
    · replace h := h.1 c9
      refine r_aload_n (pc := 19) (i := 0) dX11_sheet_19 rfl rfl ?_
      refine r_iconst (pc := 20) (v := 1) dX11_sheet_20 (by decide) ?_
      obtain ⟨k10, h⟩ := h
      refine r_callV (pc := 21) (ci := 11) (as := [_]) (st := []) okX11_refuse lkX11_91 inX11_refuse seX11_refuse ⟨_, rfl, rfl⟩ dX11_sheet_21 rfl k10 (Nat.le_of_ble_eq_true rfl) (Nat.zero_le _) (Nat.zero_le _) (Call.mono h (fun r11 M12 h => ?_))
      obtain ⟨v13, rfl, h⟩ := h
      exact r_iret (pc := 24) dX11_sheet_24 rfl h
    · replace h := h.2 c9
      refine r_iload_n (pc := 14) (i := 2) dX11_sheet_14 rfl rfl ?_
      refine r_iconst (pc := 15) (v := 2) dX11_sheet_15 (by decide) ?_
      refine r_icmp_le (pc := 16) (tgt := 25) dX11_sheet_16 (by decide) (fun c14 => ?_) (fun c14 => ?_)
      · replace h := h.1 c14
        refine r_iload_n (pc := 25) (i := 2) dX11_sheet_25 rfl rfl ?_
        refine r_iconst (pc := 26) (v := (-1)) dX11_sheet_26 (by decide) ?_
        refine r_icmp_eq (pc := 27) (tgt := 46) dX11_sheet_27 (by decide) (fun c15 => ?_) (fun c15 => ?_)
        · replace h := h.1 c15
          exact h
        · replace h := h.2 c15
          refine r_iload_n (pc := 30) (i := 3) dX11_sheet_30 rfl rfl ?_
          refine r_if_lt (pc := 31) (tgt := 40) dX11_sheet_31 (by decide) (fun c16 => ?_) (fun c16 => ?_)
          · replace h := h.1 c16
            refine r_aload_n (pc := 40) (i := 0) dX11_sheet_40 rfl rfl ?_
            refine r_iconst (pc := 41) (v := 1) dX11_sheet_41 (by decide) ?_
            obtain ⟨k17, h⟩ := h
            refine r_callV (pc := 42) (ci := 11) (as := [_]) (st := []) okX11_refuse lkX11_91 inX11_refuse seX11_refuse ⟨_, rfl, rfl⟩ dX11_sheet_42 rfl k17 (Nat.le_of_ble_eq_true rfl) (Nat.zero_le _) (Nat.zero_le _) (Call.mono h (fun r18 M19 h => ?_))
            obtain ⟨v20, rfl, h⟩ := h
            exact r_iret (pc := 45) dX11_sheet_45 rfl h
          · replace h := h.2 c16
            refine r_iload_n (pc := 34) (i := 3) dX11_sheet_34 rfl rfl ?_
            refine r_bipush (pc := 35) (v := 40) dX11_sheet_35 (by decide) ?_
            refine r_icmp_le (pc := 37) (tgt := 46) dX11_sheet_37 (by decide) (fun c21 => ?_) (fun c21 => ?_)
            · replace h := h.1 c21
              exact h
            · replace h := h.2 c21
              refine r_aload_n (pc := 40) (i := 0) dX11_sheet_40 rfl rfl ?_
              refine r_iconst (pc := 41) (v := 1) dX11_sheet_41 (by decide) ?_
              obtain ⟨k22, h⟩ := h
              refine r_callV (pc := 42) (ci := 11) (as := [_]) (st := []) okX11_refuse lkX11_91 inX11_refuse seX11_refuse ⟨_, rfl, rfl⟩ dX11_sheet_42 rfl k22 (Nat.le_of_ble_eq_true rfl) (Nat.zero_le _) (Nat.zero_le _) (Call.mono h (fun r23 M24 h => ?_))
              obtain ⟨v25, rfl, h⟩ := h
              exact r_iret (pc := 45) dX11_sheet_45 rfl h
      · replace h := h.2 c14
        refine r_aload_n (pc := 19) (i := 0) dX11_sheet_19 rfl rfl ?_
        refine r_iconst (pc := 20) (v := 1) dX11_sheet_20 (by decide) ?_
        obtain ⟨k26, h⟩ := h
        refine r_callV (pc := 21) (ci := 11) (as := [_]) (st := []) okX11_refuse lkX11_91 inX11_refuse seX11_refuse ⟨_, rfl, rfl⟩ dX11_sheet_21 rfl k26 (Nat.le_of_ble_eq_true rfl) (Nat.zero_le _) (Nat.zero_le _) (Call.mono h (fun r27 M28 h => ?_))
        obtain ⟨v29, rfl, h⟩ := h
        exact r_iret (pc := 24) dX11_sheet_24 rfl h
theorem vX11_sheet_46 {G : GG} {d rc rs : Nat} (p0 : Nat) (x1 : Int32) (x2 : Int32) (x3 : Int32)  {M : Mem} {Q : Option Value → Mem → Prop} (h : (x_h M p0).1 = 27 ∧ (∃ b2, x_r M p0 4 = some b2 ∧ (x_h M b2).1 = 1 ∧ vp_in x1 (x_h M b2).2 ∧ (∀ M5, M5 = x_si M b2 x1.toNatClampNeg x2 → ∃ b6, x_r M5 p0 5 = some b6 ∧ (¬ x2 = (-1) → (x_h M b6).1 = 1 ∧ vp_in x1 (x_h M b6).2 ∧ (∀ M10, M10 = x_si M5 b6 x1.toNatClampNeg x3 → ∃ b11, x_r M10 p0 3 = some b11 ∧ (4 ≤ (x_h M b11).1 ∧ (x_h M b11).1 < 8) ∧ vp_in x1 (x_h M b11).2 ∧ (∃ b14, x_r M10 b11 x1.toNatClampNeg = some b14 ∧ Call G d 0 0 mJ7_fill_53178 [.ref b14, .int 0] M10 (fun r15 M16 => r15 = none ∧ (x_h M16 p0).1 = 27 ∧ Call G d 0 0 mX11_done [.ref p0, .int 1] M16 (fun r18 M19 => ∃ v20 : Int32, r18 = some (.int v20) ∧ Q (some (.int v20)) M19))))) ∧ (x2 = (-1) → (x_h M b6).1 = 1 ∧ vp_in x1 (x_h M b6).2 ∧ (∀ M23, M23 = x_si M5 b6 x1.toNatClampNeg 0 → ∃ b24, x_r M23 p0 3 = some b24 ∧ (4 ≤ (x_h M b24).1 ∧ (x_h M b24).1 < 8) ∧ vp_in x1 (x_h M b24).2 ∧ (∃ b27, x_r M23 b24 x1.toNatClampNeg = some b27 ∧ Call G d 0 0 mJ7_fill_53178 [.ref b27, .int 0] M23 (fun r28 M29 => r28 = none ∧ (x_h M29 p0).1 = 27 ∧ Call G d 0 0 mX11_done [.ref p0, .int 1] M29 (fun r31 M32 => ∃ v33 : Int32, r31 = some (.int v33) ∧ Q (some (.int v33)) M32)))))))) : LX11_sheet_46 G d rc rs p0 x1 x2 x3 M Q := by
  show Wk G (d + 1) rc rs mX11_sheet 46 _ _ M Q
  refine r_aload_n (pc := 46) (i := 0) dX11_sheet_46 rfl rfl ?_
  obtain ⟨k1, h⟩ := h
  obtain ⟨b2, hb2, h⟩ := h
  refine r_getr (pc := 47) flX11_30 dX11_sheet_47 rfl k1 hb2 ?_
  refine r_iload_n (pc := 50) (i := 1) dX11_sheet_50 rfl rfl ?_
  refine r_iload_n (pc := 51) (i := 2) dX11_sheet_51 rfl rfl ?_
  obtain ⟨k3, h⟩ := h
  obtain ⟨i4, h⟩ := h
  refine r_iast (pc := 52) dX11_sheet_52 k3 i4 ?_
  replace h := h _ rfl
  refine r_aload_n (pc := 53) (i := 0) dX11_sheet_53 rfl rfl ?_
  obtain ⟨b6, hb6, h⟩ := h
  refine r_getr (pc := 54) flX11_33 dX11_sheet_54 rfl k1 hb6 ?_
  refine r_iload_n (pc := 57) (i := 1) dX11_sheet_57 rfl rfl ?_
  refine r_iload_n (pc := 58) (i := 2) dX11_sheet_58 rfl rfl ?_
  refine r_iconst (pc := 59) (v := (-1)) dX11_sheet_59 (by decide) ?_
  refine r_icmp_ne (pc := 60) (tgt := 67) dX11_sheet_60 (by decide) (fun c7 => ?_) (fun c7 => ?_)
  · replace h := h.1 c7
    refine r_iload_n (pc := 67) (i := 3) dX11_sheet_67 rfl rfl ?_
    obtain ⟨k8, h⟩ := h
    obtain ⟨i9, h⟩ := h
    refine r_iast (pc := 68) dX11_sheet_68 k8 i9 ?_
    replace h := h _ rfl
    refine r_aload_n (pc := 69) (i := 0) dX11_sheet_69 rfl rfl ?_
    obtain ⟨b11, hb11, h⟩ := h
    refine r_getr (pc := 70) flX11_27 dX11_sheet_70 rfl k1 hb11 ?_
    refine r_iload_n (pc := 73) (i := 1) dX11_sheet_73 rfl rfl ?_
    obtain ⟨k12, h⟩ := h
    obtain ⟨i13, h⟩ := h
    obtain ⟨b14, hb14, h⟩ := h
    refine r_aald (pc := 74) dX11_sheet_74 rfl k12 i13 hb14 ?_
    refine r_iconst (pc := 75) (v := 0) dX11_sheet_75 (by decide) ?_
    refine r_callS (pc := 76) (as := [_, _]) (st := []) okJ7_fill_53178 lkX11_85 stJ7_fill_53178 dX11_sheet_76 rfl (Nat.le_of_ble_eq_true rfl) (Nat.zero_le _) (Nat.zero_le _) (Call.mono h (fun r15 M16 h => ?_))
    obtain ⟨rfl, h⟩ := h
    refine r_aload_n (pc := 79) (i := 0) dX11_sheet_79 rfl rfl ?_
    refine r_iconst (pc := 80) (v := 1) dX11_sheet_80 (by decide) ?_
    obtain ⟨k17, h⟩ := h
    refine r_callV (pc := 81) (ci := 11) (as := [_]) (st := []) okX11_done lkX11_95 inX11_done seX11_done ⟨_, rfl, rfl⟩ dX11_sheet_81 rfl k17 (Nat.le_of_ble_eq_true rfl) (Nat.zero_le _) (Nat.zero_le _) (Call.mono h (fun r18 M19 h => ?_))
    obtain ⟨v20, rfl, h⟩ := h
    exact r_iret (pc := 84) dX11_sheet_84 rfl h
  · replace h := h.2 c7
    refine r_iconst (pc := 63) (v := 0) dX11_sheet_63 (by decide) ?_
    refine r_goto (pc := 64) (tgt := 68) dX11_sheet_64 (by decide) ?_
    obtain ⟨k21, h⟩ := h
    obtain ⟨i22, h⟩ := h
    refine r_iast (pc := 68) dX11_sheet_68 k21 i22 ?_
    replace h := h _ rfl
    refine r_aload_n (pc := 69) (i := 0) dX11_sheet_69 rfl rfl ?_
    obtain ⟨b24, hb24, h⟩ := h
    refine r_getr (pc := 70) flX11_27 dX11_sheet_70 rfl k1 hb24 ?_
    refine r_iload_n (pc := 73) (i := 1) dX11_sheet_73 rfl rfl ?_
    obtain ⟨k25, h⟩ := h
    obtain ⟨i26, h⟩ := h
    obtain ⟨b27, hb27, h⟩ := h
    refine r_aald (pc := 74) dX11_sheet_74 rfl k25 i26 hb27 ?_
    refine r_iconst (pc := 75) (v := 0) dX11_sheet_75 (by decide) ?_
    refine r_callS (pc := 76) (as := [_, _]) (st := []) okJ7_fill_53178 lkX11_85 stJ7_fill_53178 dX11_sheet_76 rfl (Nat.le_of_ble_eq_true rfl) (Nat.zero_le _) (Nat.zero_le _) (Call.mono h (fun r28 M29 h => ?_))
    obtain ⟨rfl, h⟩ := h
    refine r_aload_n (pc := 79) (i := 0) dX11_sheet_79 rfl rfl ?_
    refine r_iconst (pc := 80) (v := 1) dX11_sheet_80 (by decide) ?_
    obtain ⟨k30, h⟩ := h
    refine r_callV (pc := 81) (ci := 11) (as := [_]) (st := []) okX11_done lkX11_95 inX11_done seX11_done ⟨_, rfl, rfl⟩ dX11_sheet_81 rfl k30 (Nat.le_of_ble_eq_true rfl) (Nat.zero_le _) (Nat.zero_le _) (Call.mono h (fun r31 M32 h => ?_))
    obtain ⟨v33, rfl, h⟩ := h
    exact r_iret (pc := 84) dX11_sheet_84 rfl h
theorem eX11_cell {G : GG} {d rc rs : Nat} (o : Nat) (a1 : Int32) (a2 : Int32) (a3 : Int32)  {M : Mem} {Q : Option Value → Mem → Prop} (h : Call G d 0 0 mX11_within [.int a1, .int 6] M (fun r1 M2 => ∃ v3 : Int32, r1 = some (.int v3) ∧ (v3 = 0 → (x_h M2 o).1 = 27 ∧ Call G d 0 0 mX11_refuse [.ref o, .int 1] M2 (fun r6 M7 => ∃ v8 : Int32, r6 = some (.int v8) ∧ Q (some (.int v8)) M7)) ∧ (¬ v3 = 0 → (a3 < 0 → (x_h M2 o).1 = 27 ∧ Call G d 0 0 mX11_refuse [.ref o, .int 1] M2 (fun r11 M12 => ∃ v13 : Int32, r11 = some (.int v13) ∧ Q (some (.int v13)) M12)) ∧ (¬ a3 < 0 → (a3 ≤ 100 → (x_h M2 o).1 = 27 ∧ (∃ b16, x_r M2 o 4 = some b16 ∧ (x_h M2 b16).1 = 1 ∧ vp_in a1 (x_h M2 b16).2 ∧ (¬ (x_i M2 b16 a1.toNatClampNeg) = (-1) → ∃ b20, x_r M2 o 5 = some b20 ∧ (x_h M2 b20).1 = 1 ∧ vp_in a1 (x_h M2 b20).2 ∧ Call G d 0 0 mX11_within [.int a2, .int (x_i M2 b20 a1.toNatClampNeg)] M2 (fun r23 M24 => ∃ v25 : Int32, r23 = some (.int v25) ∧ (¬ v25 = 0 → (x_h M24 o).1 = 27 ∧ (∃ b28, x_r M24 o 3 = some b28 ∧ (4 ≤ (x_h M24 b28).1 ∧ (x_h M24 b28).1 < 8) ∧ vp_in a1 (x_h M24 b28).2 ∧ (∃ b31, x_r M24 b28 a1.toNatClampNeg = some b31 ∧ (x_h M24 b31).1 = 1 ∧ vp_in a2 (x_h M24 b31).2 ∧ (∀ M34, M34 = x_si M24 b31 a2.toNatClampNeg a3 → Call G d 0 0 mX11_done [.ref o, .int 1] M34 (fun r35 M36 => ∃ v37 : Int32, r35 = some (.int v37) ∧ Q (some (.int v37)) M36))))) ∧ (v25 = 0 → (x_h M24 o).1 = 27 ∧ Call G d 0 0 mX11_refuse [.ref o, .int 12] M24 (fun r39 M40 => ∃ v41 : Int32, r39 = some (.int v41) ∧ Q (some (.int v41)) M40)))) ∧ ((x_i M2 b16 a1.toNatClampNeg) = (-1) → Call G d 0 0 mX11_refuse [.ref o, .int 10] M2 (fun r42 M43 => ∃ v44 : Int32, r42 = some (.int v44) ∧ Q (some (.int v44)) M43)))) ∧ (¬ a3 ≤ 100 → (x_h M2 o).1 = 27 ∧ Call G d 0 0 mX11_refuse [.ref o, .int 1] M2 (fun r46 M47 => ∃ v48 : Int32, r46 = some (.int v48) ∧ Q (some (.int v48)) M47)))))) : Call G (d + 1) rc rs mX11_cell [.ref o, .int a1, .int a2, .int a3] M Q := by
  refine call_of (by decide) (Nat.le_of_ble_eq_true rfl) ?_
  show Wk G (d + 1) rc rs mX11_cell 0 [some (.ref o), some (.int a1), some (.int a2), some (.int a3)] [] M Q
  refine r_iload_n (pc := 0) (i := 1) dX11_cell_0 rfl rfl ?_
  refine r_bipush (pc := 1) (v := 6) dX11_cell_1 (by decide) ?_
  refine r_callS (pc := 3) (as := [_, _]) (st := []) okX11_within lkX11_98 stX11_within dX11_cell_3 rfl (Nat.le_of_ble_eq_true rfl) (Nat.zero_le _) (Nat.zero_le _) (Call.mono h (fun r1 M2 h => ?_))
  obtain ⟨v3, rfl, h⟩ := h
  refine r_if_eq (pc := 6) (tgt := 19) dX11_cell_6 (by decide) (fun c4 => ?_) (fun c4 => ?_)
  · replace h := h.1 c4
    refine r_aload_n (pc := 19) (i := 0) dX11_cell_19 rfl rfl ?_
    refine r_iconst (pc := 20) (v := 1) dX11_cell_20 (by decide) ?_
    obtain ⟨k5, h⟩ := h
    refine r_callV (pc := 21) (ci := 11) (as := [_]) (st := []) okX11_refuse lkX11_91 inX11_refuse seX11_refuse ⟨_, rfl, rfl⟩ dX11_cell_21 rfl k5 (Nat.le_of_ble_eq_true rfl) (Nat.zero_le _) (Nat.zero_le _) (Call.mono h (fun r6 M7 h => ?_))
    obtain ⟨v8, rfl, h⟩ := h
    exact r_iret (pc := 24) dX11_cell_24 rfl h
  · replace h := h.2 c4
    refine r_iload_n (pc := 9) (i := 3) dX11_cell_9 rfl rfl ?_
    refine r_if_lt (pc := 10) (tgt := 19) dX11_cell_10 (by decide) (fun c9 => ?_) (fun c9 => ?_)
    · replace h := h.1 c9
      refine r_aload_n (pc := 19) (i := 0) dX11_cell_19 rfl rfl ?_
      refine r_iconst (pc := 20) (v := 1) dX11_cell_20 (by decide) ?_
      obtain ⟨k10, h⟩ := h
      refine r_callV (pc := 21) (ci := 11) (as := [_]) (st := []) okX11_refuse lkX11_91 inX11_refuse seX11_refuse ⟨_, rfl, rfl⟩ dX11_cell_21 rfl k10 (Nat.le_of_ble_eq_true rfl) (Nat.zero_le _) (Nat.zero_le _) (Call.mono h (fun r11 M12 h => ?_))
      obtain ⟨v13, rfl, h⟩ := h
      exact r_iret (pc := 24) dX11_cell_24 rfl h
    · replace h := h.2 c9
      refine r_iload_n (pc := 13) (i := 3) dX11_cell_13 rfl rfl ?_
      refine r_bipush (pc := 14) (v := 100) dX11_cell_14 (by decide) ?_
      refine r_icmp_le (pc := 16) (tgt := 25) dX11_cell_16 (by decide) (fun c14 => ?_) (fun c14 => ?_)
      · replace h := h.1 c14
        refine r_aload_n (pc := 25) (i := 0) dX11_cell_25 rfl rfl ?_
        obtain ⟨k15, h⟩ := h
        obtain ⟨b16, hb16, h⟩ := h
        refine r_getr (pc := 26) flX11_30 dX11_cell_26 rfl k15 hb16 ?_
        refine r_iload_n (pc := 29) (i := 1) dX11_cell_29 rfl rfl ?_
        obtain ⟨k17, h⟩ := h
        obtain ⟨i18, h⟩ := h
        refine r_iald (pc := 30) dX11_cell_30 k17 i18 ?_
        refine r_iconst (pc := 31) (v := (-1)) dX11_cell_31 (by decide) ?_
        refine r_icmp_ne (pc := 32) (tgt := 42) dX11_cell_32 (by decide) (fun c19 => ?_) (fun c19 => ?_)
        · replace h := h.1 c19
          refine r_iload_n (pc := 42) (i := 2) dX11_cell_42 rfl rfl ?_
          refine r_aload_n (pc := 43) (i := 0) dX11_cell_43 rfl rfl ?_
          obtain ⟨b20, hb20, h⟩ := h
          refine r_getr (pc := 44) flX11_33 dX11_cell_44 rfl k15 hb20 ?_
          refine r_iload_n (pc := 47) (i := 1) dX11_cell_47 rfl rfl ?_
          obtain ⟨k21, h⟩ := h
          obtain ⟨i22, h⟩ := h
          refine r_iald (pc := 48) dX11_cell_48 k21 i22 ?_
          refine r_callS (pc := 49) (as := [_, _]) (st := []) okX11_within lkX11_98 stX11_within dX11_cell_49 rfl (Nat.le_of_ble_eq_true rfl) (Nat.zero_le _) (Nat.zero_le _) (Call.mono h (fun r23 M24 h => ?_))
          obtain ⟨v25, rfl, h⟩ := h
          refine r_if_ne (pc := 52) (tgt := 62) dX11_cell_52 (by decide) (fun c26 => ?_) (fun c26 => ?_)
          · replace h := h.1 c26
            refine r_aload_n (pc := 62) (i := 0) dX11_cell_62 rfl rfl ?_
            obtain ⟨k27, h⟩ := h
            obtain ⟨b28, hb28, h⟩ := h
            refine r_getr (pc := 63) flX11_27 dX11_cell_63 rfl k27 hb28 ?_
            refine r_iload_n (pc := 66) (i := 1) dX11_cell_66 rfl rfl ?_
            obtain ⟨k29, h⟩ := h
            obtain ⟨i30, h⟩ := h
            obtain ⟨b31, hb31, h⟩ := h
            refine r_aald (pc := 67) dX11_cell_67 rfl k29 i30 hb31 ?_
            refine r_iload_n (pc := 68) (i := 2) dX11_cell_68 rfl rfl ?_
            refine r_iload_n (pc := 69) (i := 3) dX11_cell_69 rfl rfl ?_
            obtain ⟨k32, h⟩ := h
            obtain ⟨i33, h⟩ := h
            refine r_iast (pc := 70) dX11_cell_70 k32 i33 ?_
            replace h := h _ rfl
            refine r_aload_n (pc := 71) (i := 0) dX11_cell_71 rfl rfl ?_
            refine r_iconst (pc := 72) (v := 1) dX11_cell_72 (by decide) ?_
            refine r_callV (pc := 73) (ci := 11) (as := [_]) (st := []) okX11_done lkX11_95 inX11_done seX11_done ⟨_, rfl, rfl⟩ dX11_cell_73 rfl k27 (Nat.le_of_ble_eq_true rfl) (Nat.zero_le _) (Nat.zero_le _) (Call.mono h (fun r35 M36 h => ?_))
            obtain ⟨v37, rfl, h⟩ := h
            exact r_iret (pc := 76) dX11_cell_76 rfl h
          · replace h := h.2 c26
            refine r_aload_n (pc := 55) (i := 0) dX11_cell_55 rfl rfl ?_
            refine r_bipush (pc := 56) (v := 12) dX11_cell_56 (by decide) ?_
            obtain ⟨k38, h⟩ := h
            refine r_callV (pc := 58) (ci := 11) (as := [_]) (st := []) okX11_refuse lkX11_91 inX11_refuse seX11_refuse ⟨_, rfl, rfl⟩ dX11_cell_58 rfl k38 (Nat.le_of_ble_eq_true rfl) (Nat.zero_le _) (Nat.zero_le _) (Call.mono h (fun r39 M40 h => ?_))
            obtain ⟨v41, rfl, h⟩ := h
            exact r_iret (pc := 61) dX11_cell_61 rfl h
        · replace h := h.2 c19
          refine r_aload_n (pc := 35) (i := 0) dX11_cell_35 rfl rfl ?_
          refine r_bipush (pc := 36) (v := 10) dX11_cell_36 (by decide) ?_
          refine r_callV (pc := 38) (ci := 11) (as := [_]) (st := []) okX11_refuse lkX11_91 inX11_refuse seX11_refuse ⟨_, rfl, rfl⟩ dX11_cell_38 rfl k15 (Nat.le_of_ble_eq_true rfl) (Nat.zero_le _) (Nat.zero_le _) (Call.mono h (fun r42 M43 h => ?_))
          obtain ⟨v44, rfl, h⟩ := h
          exact r_iret (pc := 41) dX11_cell_41 rfl h
      · replace h := h.2 c14
        refine r_aload_n (pc := 19) (i := 0) dX11_cell_19 rfl rfl ?_
        refine r_iconst (pc := 20) (v := 1) dX11_cell_20 (by decide) ?_
        obtain ⟨k45, h⟩ := h
        refine r_callV (pc := 21) (ci := 11) (as := [_]) (st := []) okX11_refuse lkX11_91 inX11_refuse seX11_refuse ⟨_, rfl, rfl⟩ dX11_cell_21 rfl k45 (Nat.le_of_ble_eq_true rfl) (Nat.zero_le _) (Nat.zero_le _) (Call.mono h (fun r46 M47 h => ?_))
        obtain ⟨v48, rfl, h⟩ := h
        exact r_iret (pc := 24) dX11_cell_24 rfl h
theorem eX11_machine {G : GG} {d rc rs : Nat} (o : Nat) (a1 : Int32) (a2 : Int32) (a3 : Int32) (a4 : Int32)  {M : Mem} {Q : Option Value → Mem → Prop} (h : Call G d 0 0 mX11_within [.int a1, .int 6] M (fun r1 M2 => ∃ v3 : Int32, r1 = some (.int v3) ∧ (v3 = 0 → (x_h M2 o).1 = 27 ∧ Call G d 0 0 mX11_refuse [.ref o, .int 1] M2 (fun r6 M7 => ∃ v8 : Int32, r6 = some (.int v8) ∧ Q (some (.int v8)) M7)) ∧ (¬ v3 = 0 → Call G d 0 0 mX11_within [.int a2, .int 6] M2 (fun r9 M10 => ∃ v11 : Int32, r9 = some (.int v11) ∧ (v11 = 0 → (x_h M10 o).1 = 27 ∧ Call G d 0 0 mX11_refuse [.ref o, .int 1] M10 (fun r14 M15 => ∃ v16 : Int32, r14 = some (.int v16) ∧ Q (some (.int v16)) M15)) ∧ (¬ v11 = 0 → Call G d 0 0 mX11_within [.int a3, .int 3] M10 (fun r17 M18 => ∃ v19 : Int32, r17 = some (.int v19) ∧ (v19 = 0 → (x_h M18 o).1 = 27 ∧ Call G d 0 0 mX11_refuse [.ref o, .int 1] M18 (fun r22 M23 => ∃ v24 : Int32, r22 = some (.int v24) ∧ Q (some (.int v24)) M23)) ∧ (¬ v19 = 0 → (a4 < 1 → (x_h M18 o).1 = 27 ∧ Call G d 0 0 mX11_refuse [.ref o, .int 1] M18 (fun r27 M28 => ∃ v29 : Int32, r27 = some (.int v29) ∧ Q (some (.int v29)) M28)) ∧ (¬ a4 < 1 → (a4 ≤ 8 → (x_h M18 o).1 = 27 ∧ ((x_i M18 o 12) < 10 → Call G d 0 0 mX11_otherSort [.ref o, .int a1, .int a3] M18 (fun r33 M34 => ∃ v35 : Int32, r33 = some (.int v35) ∧ (¬ v35 = 0 → (x_h M34 o).1 = 27 ∧ Call G d 0 0 mX11_refuse [.ref o, .int 11] M34 (fun r38 M39 => ∃ v40 : Int32, r38 = some (.int v40) ∧ Q (some (.int v40)) M39)) ∧ (v35 = 0 → (x_h M34 o).1 = 27 ∧ Call G d 0 0 mX11_otherSort [.ref o, .int a2, .int a3] M34 (fun r42 M43 => ∃ v44 : Int32, r42 = some (.int v44) ∧ (v44 = 0 → (x_h M43 o).1 = 27 ∧ Call G d 0 0 mX11_tooShort [.ref o, .int a1, .int (a4 * (x_i M43 o 11))] M43 (fun r47 M48 => ∃ v49 : Int32, r47 = some (.int v49) ∧ (¬ v49 = 0 → (x_h M48 o).1 = 27 ∧ Call G d 0 0 mX11_refuse [.ref o, .int 12] M48 (fun r52 M53 => ∃ v54 : Int32, r52 = some (.int v54) ∧ Q (some (.int v54)) M53)) ∧ (v49 = 0 → (x_h M48 o).1 = 27 ∧ Call G d 0 0 mX11_tooShort [.ref o, .int a2, .int a4] M48 (fun r56 M57 => ∃ v58 : Int32, r56 = some (.int v58) ∧ (v58 = 0 → (x_h M57 o).1 = 27 ∧ Call G d 0 0 mX11_numbers [.ref o, .int a1] M57 (fun r61 M62 => ∃ v63 : Nat, r61 = some (.ref v63) ∧ (x_h M62 o).1 = 27 ∧ Call G d 0 0 mX11_allBelow [.ref v63, .int (a4 * (x_i M62 o 11)), .int a4] M62 (fun r65 M66 => ∃ v67 : Int32, r65 = some (.int v67) ∧ (v67 = 0 → (x_h M66 o).1 = 27 ∧ Call G d 0 0 mX11_refuse [.ref o, .int 3] M66 (fun r70 M71 => ∃ v72 : Int32, r70 = some (.int v72) ∧ Q (some (.int v72)) M71)) ∧ (¬ v67 = 0 → (x_h M66 o).1 = 27 ∧ Call G d 0 0 mX11_numbers [.ref o, .int a2] M66 (fun r74 M75 => ∃ v76 : Nat, r74 = some (.ref v76) ∧ Call G d 0 0 mX11_allBelow [.ref v76, .int a4, .int 8] M75 (fun r77 M78 => ∃ v79 : Int32, r77 = some (.int v79) ∧ (¬ v79 = 0 → (x_h M78 o).1 = 27 ∧ (∃ b82, x_r M78 o 8 = some b82 ∧ Call G d 0 0 mX11_numbers [.ref o, .int a1] M78 (fun r83 M84 => ∃ v85 : Nat, r83 = some (.ref v85) ∧ (x_h M84 o).1 = 27 ∧ Call G d 0 0 mX11_numbers [.ref o, .int a2] M84 (fun r87 M88 => ∃ v89 : Nat, r87 = some (.ref v89) ∧ (x_h M88 o).1 = 27 ∧ (∃ b91, x_r M88 o 0 = some b91 ∧ (4 ≤ (x_h M88 b91).1 ∧ (x_h M88 b91).1 < 8) ∧ vp_in (x_i M88 o 12) (x_h M88 b91).2 ∧ (∃ b94, x_r M88 b91 (x_i M88 o 12).toNatClampNeg = some b94 ∧ (x_h M88 b94).1 = 23 ∧ (∃ b96, x_r M88 b94 0 = some b96 ∧ (x_h M88 b82).1 = 26 ∧ Call G d 0 0 mX10_weaveMachine [.ref b82, .ref v85, .ref v89, .int a4, .int (x_i M88 o 11), .ref b96] M88 (fun r98 M99 => r98 = none ∧ (x_h M99 o).1 = 27 ∧ Call G d 0 0 mX11_made [.ref o, .int 0, .int (-1)] M99 (fun r101 M102 => ∃ v103 : Int32, r101 = some (.int v103) ∧ Q (some (.int v103)) M102))))))))) ∧ (v79 = 0 → (x_h M78 o).1 = 27 ∧ Call G d 0 0 mX11_refuse [.ref o, .int 3] M78 (fun r105 M106 => ∃ v107 : Int32, r105 = some (.int v107) ∧ Q (some (.int v107)) M106)))))))) ∧ (¬ v58 = 0 → (x_h M57 o).1 = 27 ∧ Call G d 0 0 mX11_refuse [.ref o, .int 12] M57 (fun r109 M110 => ∃ v111 : Int32, r109 = some (.int v111) ∧ Q (some (.int v111)) M110)))))) ∧ (¬ v44 = 0 → (x_h M43 o).1 = 27 ∧ Call G d 0 0 mX11_refuse [.ref o, .int 11] M43 (fun r113 M114 => ∃ v115 : Int32, r113 = some (.int v115) ∧ Q (some (.int v115)) M114)))))) ∧ (¬ (x_i M18 o 12) < 10 → Call G d 0 0 mX11_refuse [.ref o, .int 2] M18 (fun r116 M117 => ∃ v118 : Int32, r116 = some (.int v118) ∧ Q (some (.int v118)) M117))) ∧ (¬ a4 ≤ 8 → (x_h M18 o).1 = 27 ∧ Call G d 0 0 mX11_refuse [.ref o, .int 1] M18 (fun r120 M121 => ∃ v122 : Int32, r120 = some (.int v122) ∧ Q (some (.int v122)) M121)))))))))) : Call G (d + 1) rc rs mX11_machine [.ref o, .int a1, .int a2, .int a3, .int a4] M Q := by
  refine call_of (by decide) (Nat.le_of_ble_eq_true rfl) ?_
  show Wk G (d + 1) rc rs mX11_machine 0 [some (.ref o), some (.int a1), some (.int a2), some (.int a3), some (.int a4)] [] M Q
  refine r_iload_n (pc := 0) (i := 1) dX11_machine_0 rfl rfl ?_
  refine r_bipush (pc := 1) (v := 6) dX11_machine_1 (by decide) ?_
  refine r_callS (pc := 3) (as := [_, _]) (st := []) okX11_within lkX11_98 stX11_within dX11_machine_3 rfl (Nat.le_of_ble_eq_true rfl) (Nat.zero_le _) (Nat.zero_le _) (Call.mono h (fun r1 M2 h => ?_))
  obtain ⟨v3, rfl, h⟩ := h
  refine r_if_eq (pc := 6) (tgt := 39) dX11_machine_6 (by decide) (fun c4 => ?_) (fun c4 => ?_)
  · replace h := h.1 c4
    refine r_aload_n (pc := 39) (i := 0) dX11_machine_39 rfl rfl ?_
    refine r_iconst (pc := 40) (v := 1) dX11_machine_40 (by decide) ?_
    obtain ⟨k5, h⟩ := h
    refine r_callV (pc := 41) (ci := 11) (as := [_]) (st := []) okX11_refuse lkX11_91 inX11_refuse seX11_refuse ⟨_, rfl, rfl⟩ dX11_machine_41 rfl k5 (Nat.le_of_ble_eq_true rfl) (Nat.zero_le _) (Nat.zero_le _) (Call.mono h (fun r6 M7 h => ?_))
    obtain ⟨v8, rfl, h⟩ := h
    exact r_iret (pc := 44) dX11_machine_44 rfl h
  · replace h := h.2 c4
    refine r_iload_n (pc := 9) (i := 2) dX11_machine_9 rfl rfl ?_
    refine r_bipush (pc := 10) (v := 6) dX11_machine_10 (by decide) ?_
    refine r_callS (pc := 12) (as := [_, _]) (st := []) okX11_within lkX11_98 stX11_within dX11_machine_12 rfl (Nat.le_of_ble_eq_true rfl) (Nat.zero_le _) (Nat.zero_le _) (Call.mono h (fun r9 M10 h => ?_))
    obtain ⟨v11, rfl, h⟩ := h
    refine r_if_eq (pc := 15) (tgt := 39) dX11_machine_15 (by decide) (fun c12 => ?_) (fun c12 => ?_)
    · replace h := h.1 c12
      refine r_aload_n (pc := 39) (i := 0) dX11_machine_39 rfl rfl ?_
      refine r_iconst (pc := 40) (v := 1) dX11_machine_40 (by decide) ?_
      obtain ⟨k13, h⟩ := h
      refine r_callV (pc := 41) (ci := 11) (as := [_]) (st := []) okX11_refuse lkX11_91 inX11_refuse seX11_refuse ⟨_, rfl, rfl⟩ dX11_machine_41 rfl k13 (Nat.le_of_ble_eq_true rfl) (Nat.zero_le _) (Nat.zero_le _) (Call.mono h (fun r14 M15 h => ?_))
      obtain ⟨v16, rfl, h⟩ := h
      exact r_iret (pc := 44) dX11_machine_44 rfl h
    · replace h := h.2 c12
      refine r_iload_n (pc := 18) (i := 3) dX11_machine_18 rfl rfl ?_
      refine r_iconst (pc := 19) (v := 3) dX11_machine_19 (by decide) ?_
      refine r_callS (pc := 20) (as := [_, _]) (st := []) okX11_within lkX11_98 stX11_within dX11_machine_20 rfl (Nat.le_of_ble_eq_true rfl) (Nat.zero_le _) (Nat.zero_le _) (Call.mono h (fun r17 M18 h => ?_))
      obtain ⟨v19, rfl, h⟩ := h
      refine r_if_eq (pc := 23) (tgt := 39) dX11_machine_23 (by decide) (fun c20 => ?_) (fun c20 => ?_)
      · replace h := h.1 c20
        refine r_aload_n (pc := 39) (i := 0) dX11_machine_39 rfl rfl ?_
        refine r_iconst (pc := 40) (v := 1) dX11_machine_40 (by decide) ?_
        obtain ⟨k21, h⟩ := h
        refine r_callV (pc := 41) (ci := 11) (as := [_]) (st := []) okX11_refuse lkX11_91 inX11_refuse seX11_refuse ⟨_, rfl, rfl⟩ dX11_machine_41 rfl k21 (Nat.le_of_ble_eq_true rfl) (Nat.zero_le _) (Nat.zero_le _) (Call.mono h (fun r22 M23 h => ?_))
        obtain ⟨v24, rfl, h⟩ := h
        exact r_iret (pc := 44) dX11_machine_44 rfl h
      · replace h := h.2 c20
        refine r_iload (pc := 26) (i := 4) dX11_machine_26 rfl ?_
        refine r_iconst (pc := 28) (v := 1) dX11_machine_28 (by decide) ?_
        refine r_icmp_lt (pc := 29) (tgt := 39) dX11_machine_29 (by decide) (fun c25 => ?_) (fun c25 => ?_)
        · replace h := h.1 c25
          refine r_aload_n (pc := 39) (i := 0) dX11_machine_39 rfl rfl ?_
          refine r_iconst (pc := 40) (v := 1) dX11_machine_40 (by decide) ?_
          obtain ⟨k26, h⟩ := h
          refine r_callV (pc := 41) (ci := 11) (as := [_]) (st := []) okX11_refuse lkX11_91 inX11_refuse seX11_refuse ⟨_, rfl, rfl⟩ dX11_machine_41 rfl k26 (Nat.le_of_ble_eq_true rfl) (Nat.zero_le _) (Nat.zero_le _) (Call.mono h (fun r27 M28 h => ?_))
          obtain ⟨v29, rfl, h⟩ := h
          exact r_iret (pc := 44) dX11_machine_44 rfl h
        · replace h := h.2 c25
          refine r_iload (pc := 32) (i := 4) dX11_machine_32 rfl ?_
          refine r_bipush (pc := 34) (v := 8) dX11_machine_34 (by decide) ?_
          refine r_icmp_le (pc := 36) (tgt := 45) dX11_machine_36 (by decide) (fun c30 => ?_) (fun c30 => ?_)
          · replace h := h.1 c30
            refine r_aload_n (pc := 45) (i := 0) dX11_machine_45 rfl rfl ?_
            obtain ⟨k31, h⟩ := h
            refine r_geti (pc := 46) flX11_71 dX11_machine_46 (Or.inl rfl) k31 ?_
            refine r_bipush (pc := 49) (v := 10) dX11_machine_49 (by decide) ?_
            refine r_icmp_lt (pc := 51) (tgt := 60) dX11_machine_51 (by decide) (fun c32 => ?_) (fun c32 => ?_)
            · replace h := h.1 c32
              refine r_aload_n (pc := 60) (i := 0) dX11_machine_60 rfl rfl ?_
              refine r_iload_n (pc := 61) (i := 1) dX11_machine_61 rfl rfl ?_
              refine r_iload_n (pc := 62) (i := 3) dX11_machine_62 rfl rfl ?_
              refine r_callV (pc := 63) (ci := 11) (as := [_, _]) (st := []) okX11_otherSort lkX11_102 inX11_otherSort seX11_otherSort ⟨_, rfl, rfl⟩ dX11_machine_63 rfl k31 (Nat.le_of_ble_eq_true rfl) (Nat.zero_le _) (Nat.zero_le _) (Call.mono h (fun r33 M34 h => ?_))
              obtain ⟨v35, rfl, h⟩ := h
              refine r_if_ne (pc := 66) (tgt := 78) dX11_machine_66 (by decide) (fun c36 => ?_) (fun c36 => ?_)
              · replace h := h.1 c36
                refine r_aload_n (pc := 78) (i := 0) dX11_machine_78 rfl rfl ?_
                refine r_bipush (pc := 79) (v := 11) dX11_machine_79 (by decide) ?_
                obtain ⟨k37, h⟩ := h
                refine r_callV (pc := 81) (ci := 11) (as := [_]) (st := []) okX11_refuse lkX11_91 inX11_refuse seX11_refuse ⟨_, rfl, rfl⟩ dX11_machine_81 rfl k37 (Nat.le_of_ble_eq_true rfl) (Nat.zero_le _) (Nat.zero_le _) (Call.mono h (fun r38 M39 h => ?_))
                obtain ⟨v40, rfl, h⟩ := h
                exact r_iret (pc := 84) dX11_machine_84 rfl h
              · replace h := h.2 c36
                refine r_aload_n (pc := 69) (i := 0) dX11_machine_69 rfl rfl ?_
                refine r_iload_n (pc := 70) (i := 2) dX11_machine_70 rfl rfl ?_
                refine r_iload_n (pc := 71) (i := 3) dX11_machine_71 rfl rfl ?_
                obtain ⟨k41, h⟩ := h
                refine r_callV (pc := 72) (ci := 11) (as := [_, _]) (st := []) okX11_otherSort lkX11_102 inX11_otherSort seX11_otherSort ⟨_, rfl, rfl⟩ dX11_machine_72 rfl k41 (Nat.le_of_ble_eq_true rfl) (Nat.zero_le _) (Nat.zero_le _) (Call.mono h (fun r42 M43 h => ?_))
                obtain ⟨v44, rfl, h⟩ := h
                refine r_if_eq (pc := 75) (tgt := 85) dX11_machine_75 (by decide) (fun c45 => ?_) (fun c45 => ?_)
                · replace h := h.1 c45
                  refine r_aload_n (pc := 85) (i := 0) dX11_machine_85 rfl rfl ?_
                  refine r_iload_n (pc := 86) (i := 1) dX11_machine_86 rfl rfl ?_
                  refine r_iload (pc := 87) (i := 4) dX11_machine_87 rfl ?_
                  refine r_aload_n (pc := 89) (i := 0) dX11_machine_89 rfl rfl ?_
                  obtain ⟨k46, h⟩ := h
                  refine r_geti (pc := 90) flX11_67 dX11_machine_90 (Or.inl rfl) k46 ?_
                  refine r_imul (pc := 93) dX11_machine_93 ?_
                  refine r_callV (pc := 94) (ci := 11) (as := [_, _]) (st := []) okX11_tooShort lkX11_105 inX11_tooShort seX11_tooShort ⟨_, rfl, rfl⟩ dX11_machine_94 rfl k46 (Nat.le_of_ble_eq_true rfl) (Nat.zero_le _) (Nat.zero_le _) (Call.mono h (fun r47 M48 h => ?_))
                  obtain ⟨v49, rfl, h⟩ := h
                  refine r_if_ne (pc := 97) (tgt := 110) dX11_machine_97 (by decide) (fun c50 => ?_) (fun c50 => ?_)
                  · replace h := h.1 c50
                    refine r_aload_n (pc := 110) (i := 0) dX11_machine_110 rfl rfl ?_
                    refine r_bipush (pc := 111) (v := 12) dX11_machine_111 (by decide) ?_
                    obtain ⟨k51, h⟩ := h
                    refine r_callV (pc := 113) (ci := 11) (as := [_]) (st := []) okX11_refuse lkX11_91 inX11_refuse seX11_refuse ⟨_, rfl, rfl⟩ dX11_machine_113 rfl k51 (Nat.le_of_ble_eq_true rfl) (Nat.zero_le _) (Nat.zero_le _) (Call.mono h (fun r52 M53 h => ?_))
                    obtain ⟨v54, rfl, h⟩ := h
                    exact r_iret (pc := 116) dX11_machine_116 rfl h
                  · replace h := h.2 c50
                    refine r_aload_n (pc := 100) (i := 0) dX11_machine_100 rfl rfl ?_
                    refine r_iload_n (pc := 101) (i := 2) dX11_machine_101 rfl rfl ?_
                    refine r_iload (pc := 102) (i := 4) dX11_machine_102 rfl ?_
                    obtain ⟨k55, h⟩ := h
                    refine r_callV (pc := 104) (ci := 11) (as := [_, _]) (st := []) okX11_tooShort lkX11_105 inX11_tooShort seX11_tooShort ⟨_, rfl, rfl⟩ dX11_machine_104 rfl k55 (Nat.le_of_ble_eq_true rfl) (Nat.zero_le _) (Nat.zero_le _) (Call.mono h (fun r56 M57 h => ?_))
                    obtain ⟨v58, rfl, h⟩ := h
                    refine r_if_eq (pc := 107) (tgt := 117) dX11_machine_107 (by decide) (fun c59 => ?_) (fun c59 => ?_)
                    · replace h := h.1 c59
                      refine r_aload_n (pc := 117) (i := 0) dX11_machine_117 rfl rfl ?_
                      refine r_iload_n (pc := 118) (i := 1) dX11_machine_118 rfl rfl ?_
                      obtain ⟨k60, h⟩ := h
                      refine r_callV (pc := 119) (ci := 11) (as := [_]) (st := []) okX11_numbers lkX11_108 inX11_numbers seX11_numbers ⟨_, rfl, rfl⟩ dX11_machine_119 rfl k60 (Nat.le_of_ble_eq_true rfl) (Nat.zero_le _) (Nat.zero_le _) (Call.mono h (fun r61 M62 h => ?_))
                      obtain ⟨v63, rfl, h⟩ := h
                      refine r_iload (pc := 122) (i := 4) dX11_machine_122 rfl ?_
                      refine r_aload_n (pc := 124) (i := 0) dX11_machine_124 rfl rfl ?_
                      obtain ⟨k64, h⟩ := h
                      refine r_geti (pc := 125) flX11_67 dX11_machine_125 (Or.inl rfl) k64 ?_
                      refine r_imul (pc := 128) dX11_machine_128 ?_
                      refine r_iload (pc := 129) (i := 4) dX11_machine_129 rfl ?_
                      refine r_callS (pc := 131) (as := [_, _, _]) (st := []) okX11_allBelow lkX11_112 stX11_allBelow dX11_machine_131 rfl (Nat.le_of_ble_eq_true rfl) (Nat.zero_le _) (Nat.zero_le _) (Call.mono h (fun r65 M66 h => ?_))
                      obtain ⟨v67, rfl, h⟩ := h
                      refine r_if_eq (pc := 134) (tgt := 152) dX11_machine_134 (by decide) (fun c68 => ?_) (fun c68 => ?_)
                      · replace h := h.1 c68
                        refine r_aload_n (pc := 152) (i := 0) dX11_machine_152 rfl rfl ?_
                        refine r_iconst (pc := 153) (v := 3) dX11_machine_153 (by decide) ?_
                        obtain ⟨k69, h⟩ := h
                        refine r_callV (pc := 154) (ci := 11) (as := [_]) (st := []) okX11_refuse lkX11_91 inX11_refuse seX11_refuse ⟨_, rfl, rfl⟩ dX11_machine_154 rfl k69 (Nat.le_of_ble_eq_true rfl) (Nat.zero_le _) (Nat.zero_le _) (Call.mono h (fun r70 M71 h => ?_))
                        obtain ⟨v72, rfl, h⟩ := h
                        exact r_iret (pc := 157) dX11_machine_157 rfl h
                      · replace h := h.2 c68
                        refine r_aload_n (pc := 137) (i := 0) dX11_machine_137 rfl rfl ?_
                        refine r_iload_n (pc := 138) (i := 2) dX11_machine_138 rfl rfl ?_
                        obtain ⟨k73, h⟩ := h
                        refine r_callV (pc := 139) (ci := 11) (as := [_]) (st := []) okX11_numbers lkX11_108 inX11_numbers seX11_numbers ⟨_, rfl, rfl⟩ dX11_machine_139 rfl k73 (Nat.le_of_ble_eq_true rfl) (Nat.zero_le _) (Nat.zero_le _) (Call.mono h (fun r74 M75 h => ?_))
                        obtain ⟨v76, rfl, h⟩ := h
                        refine r_iload (pc := 142) (i := 4) dX11_machine_142 rfl ?_
                        refine r_bipush (pc := 144) (v := 8) dX11_machine_144 (by decide) ?_
                        refine r_callS (pc := 146) (as := [_, _, _]) (st := []) okX11_allBelow lkX11_112 stX11_allBelow dX11_machine_146 rfl (Nat.le_of_ble_eq_true rfl) (Nat.zero_le _) (Nat.zero_le _) (Call.mono h (fun r77 M78 h => ?_))
                        obtain ⟨v79, rfl, h⟩ := h
                        refine r_if_ne (pc := 149) (tgt := 158) dX11_machine_149 (by decide) (fun c80 => ?_) (fun c80 => ?_)
                        · replace h := h.1 c80
                          refine r_aload_n (pc := 158) (i := 0) dX11_machine_158 rfl rfl ?_
                          obtain ⟨k81, h⟩ := h
                          obtain ⟨b82, hb82, h⟩ := h
                          refine r_getr (pc := 159) flX11_49 dX11_machine_159 rfl k81 hb82 ?_
                          refine r_aload_n (pc := 162) (i := 0) dX11_machine_162 rfl rfl ?_
                          refine r_iload_n (pc := 163) (i := 1) dX11_machine_163 rfl rfl ?_
                          refine r_callV (pc := 164) (ci := 11) (as := [_]) (st := [_]) okX11_numbers lkX11_108 inX11_numbers seX11_numbers ⟨_, rfl, rfl⟩ dX11_machine_164 rfl k81 (Nat.le_of_ble_eq_true rfl) (Nat.zero_le _) (Nat.zero_le _) (Call.mono h (fun r83 M84 h => ?_))
                          obtain ⟨v85, rfl, h⟩ := h
                          refine r_aload_n (pc := 167) (i := 0) dX11_machine_167 rfl rfl ?_
                          refine r_iload_n (pc := 168) (i := 2) dX11_machine_168 rfl rfl ?_
                          obtain ⟨k86, h⟩ := h
                          refine r_callV (pc := 169) (ci := 11) (as := [_]) (st := [_, _]) okX11_numbers lkX11_108 inX11_numbers seX11_numbers ⟨_, rfl, rfl⟩ dX11_machine_169 rfl k86 (Nat.le_of_ble_eq_true rfl) (Nat.zero_le _) (Nat.zero_le _) (Call.mono h (fun r87 M88 h => ?_))
                          obtain ⟨v89, rfl, h⟩ := h
                          refine r_iload (pc := 172) (i := 4) dX11_machine_172 rfl ?_
                          refine r_aload_n (pc := 174) (i := 0) dX11_machine_174 rfl rfl ?_
                          obtain ⟨k90, h⟩ := h
                          refine r_geti (pc := 175) flX11_67 dX11_machine_175 (Or.inl rfl) k90 ?_
                          refine r_aload_n (pc := 178) (i := 0) dX11_machine_178 rfl rfl ?_
                          obtain ⟨b91, hb91, h⟩ := h
                          refine r_getr (pc := 179) flX11_11 dX11_machine_179 rfl k90 hb91 ?_
                          refine r_aload_n (pc := 182) (i := 0) dX11_machine_182 rfl rfl ?_
                          refine r_geti (pc := 183) flX11_71 dX11_machine_183 (Or.inl rfl) k90 ?_
                          obtain ⟨k92, h⟩ := h
                          obtain ⟨i93, h⟩ := h
                          obtain ⟨b94, hb94, h⟩ := h
                          refine r_aald (pc := 186) dX11_machine_186 rfl k92 i93 hb94 ?_
                          obtain ⟨k95, h⟩ := h
                          obtain ⟨b96, hb96, h⟩ := h
                          refine r_getr (pc := 187) flX11_116 dX11_machine_187 rfl k95 hb96 ?_
                          obtain ⟨k97, h⟩ := h
                          refine r_callV (pc := 190) (ci := 10) (as := [_, _, _, _, _]) (st := []) okX10_weaveMachine lkX11_120 inX10_weaveMachine seX10_weaveMachine ⟨_, rfl, rfl⟩ dX11_machine_190 rfl k97 (Nat.le_of_ble_eq_true rfl) (Nat.zero_le _) (Nat.zero_le _) (Call.mono h (fun r98 M99 h => ?_))
                          obtain ⟨rfl, h⟩ := h
                          refine r_aload_n (pc := 193) (i := 0) dX11_machine_193 rfl rfl ?_
                          refine r_iconst (pc := 194) (v := 0) dX11_machine_194 (by decide) ?_
                          refine r_iconst (pc := 195) (v := (-1)) dX11_machine_195 (by decide) ?_
                          obtain ⟨k100, h⟩ := h
                          refine r_callV (pc := 196) (ci := 11) (as := [_, _]) (st := []) okX11_made lkX11_124 inX11_made seX11_made ⟨_, rfl, rfl⟩ dX11_machine_196 rfl k100 (Nat.le_of_ble_eq_true rfl) (Nat.zero_le _) (Nat.zero_le _) (Call.mono h (fun r101 M102 h => ?_))
                          obtain ⟨v103, rfl, h⟩ := h
                          exact r_iret (pc := 199) dX11_machine_199 rfl h
                        · replace h := h.2 c80
                          refine r_aload_n (pc := 152) (i := 0) dX11_machine_152 rfl rfl ?_
                          refine r_iconst (pc := 153) (v := 3) dX11_machine_153 (by decide) ?_
                          obtain ⟨k104, h⟩ := h
                          refine r_callV (pc := 154) (ci := 11) (as := [_]) (st := []) okX11_refuse lkX11_91 inX11_refuse seX11_refuse ⟨_, rfl, rfl⟩ dX11_machine_154 rfl k104 (Nat.le_of_ble_eq_true rfl) (Nat.zero_le _) (Nat.zero_le _) (Call.mono h (fun r105 M106 h => ?_))
                          obtain ⟨v107, rfl, h⟩ := h
                          exact r_iret (pc := 157) dX11_machine_157 rfl h
                    · replace h := h.2 c59
                      refine r_aload_n (pc := 110) (i := 0) dX11_machine_110 rfl rfl ?_
                      refine r_bipush (pc := 111) (v := 12) dX11_machine_111 (by decide) ?_
                      obtain ⟨k108, h⟩ := h
                      refine r_callV (pc := 113) (ci := 11) (as := [_]) (st := []) okX11_refuse lkX11_91 inX11_refuse seX11_refuse ⟨_, rfl, rfl⟩ dX11_machine_113 rfl k108 (Nat.le_of_ble_eq_true rfl) (Nat.zero_le _) (Nat.zero_le _) (Call.mono h (fun r109 M110 h => ?_))
                      obtain ⟨v111, rfl, h⟩ := h
                      exact r_iret (pc := 116) dX11_machine_116 rfl h
                · replace h := h.2 c45
                  refine r_aload_n (pc := 78) (i := 0) dX11_machine_78 rfl rfl ?_
                  refine r_bipush (pc := 79) (v := 11) dX11_machine_79 (by decide) ?_
                  obtain ⟨k112, h⟩ := h
                  refine r_callV (pc := 81) (ci := 11) (as := [_]) (st := []) okX11_refuse lkX11_91 inX11_refuse seX11_refuse ⟨_, rfl, rfl⟩ dX11_machine_81 rfl k112 (Nat.le_of_ble_eq_true rfl) (Nat.zero_le _) (Nat.zero_le _) (Call.mono h (fun r113 M114 h => ?_))
                  obtain ⟨v115, rfl, h⟩ := h
                  exact r_iret (pc := 84) dX11_machine_84 rfl h
            · replace h := h.2 c32
              refine r_aload_n (pc := 54) (i := 0) dX11_machine_54 rfl rfl ?_
              refine r_iconst (pc := 55) (v := 2) dX11_machine_55 (by decide) ?_
              refine r_callV (pc := 56) (ci := 11) (as := [_]) (st := []) okX11_refuse lkX11_91 inX11_refuse seX11_refuse ⟨_, rfl, rfl⟩ dX11_machine_56 rfl k31 (Nat.le_of_ble_eq_true rfl) (Nat.zero_le _) (Nat.zero_le _) (Call.mono h (fun r116 M117 h => ?_))
              obtain ⟨v118, rfl, h⟩ := h
              exact r_iret (pc := 59) dX11_machine_59 rfl h
          · replace h := h.2 c30
            refine r_aload_n (pc := 39) (i := 0) dX11_machine_39 rfl rfl ?_
            refine r_iconst (pc := 40) (v := 1) dX11_machine_40 (by decide) ?_
            obtain ⟨k119, h⟩ := h
            refine r_callV (pc := 41) (ci := 11) (as := [_]) (st := []) okX11_refuse lkX11_91 inX11_refuse seX11_refuse ⟨_, rfl, rfl⟩ dX11_machine_41 rfl k119 (Nat.le_of_ble_eq_true rfl) (Nat.zero_le _) (Nat.zero_le _) (Call.mono h (fun r120 M121 h => ?_))
            obtain ⟨v122, rfl, h⟩ := h
            exact r_iret (pc := 44) dX11_machine_44 rfl h
theorem eX11_grown {G : GG} {d rc rs : Nat} (o : Nat) (a1 : Int32) (a2 : Int32) (a3 : Int32)  {M : Mem} {Q : Option Value → Mem → Prop} (h : Call G d 0 0 mX11_within [.int a1, .int 6] M (fun r1 M2 => ∃ v3 : Int32, r1 = some (.int v3) ∧ (v3 = 0 → (x_h M2 o).1 = 27 ∧ Call G d 0 0 mX11_refuse [.ref o, .int 1] M2 (fun r6 M7 => ∃ v8 : Int32, r6 = some (.int v8) ∧ Q (some (.int v8)) M7)) ∧ (¬ v3 = 0 → Call G d 0 0 mX11_within [.int a2, .int 3] M2 (fun r9 M10 => ∃ v11 : Int32, r9 = some (.int v11) ∧ (v11 = 0 → (x_h M10 o).1 = 27 ∧ Call G d 0 0 mX11_refuse [.ref o, .int 1] M10 (fun r14 M15 => ∃ v16 : Int32, r14 = some (.int v16) ∧ Q (some (.int v16)) M15)) ∧ (¬ v11 = 0 → (a3 < 1 → (x_h M10 o).1 = 27 ∧ Call G d 0 0 mX11_refuse [.ref o, .int 1] M10 (fun r19 M20 => ∃ v21 : Int32, r19 = some (.int v21) ∧ Q (some (.int v21)) M20)) ∧ (¬ a3 < 1 → (a3 ≤ 8 → (x_h M10 o).1 = 27 ∧ Call G d 0 0 mX11_sheetFault [.ref o, .int a1, .int a2, .int (a3 * (x_i M10 o 11))] M10 (fun r24 M25 => ∃ v26 : Int32, r24 = some (.int v26) ∧ (v26 = 0 → (x_h M25 o).1 = 27 ∧ (∃ b29, x_r M25 o 3 = some b29 ∧ (4 ≤ (x_h M25 b29).1 ∧ (x_h M25 b29).1 < 8) ∧ vp_in a1 (x_h M25 b29).2 ∧ (∃ b32, x_r M25 b29 a1.toNatClampNeg = some b32 ∧ Call G d 0 0 mX11_allBelow [.ref b32, .int (a3 * (x_i M25 o 11)), .int a3] M25 (fun r33 M34 => ∃ v35 : Int32, r33 = some (.int v35) ∧ (v35 = 0 → (x_h M34 o).1 = 27 ∧ Call G d 0 0 mX11_refuse [.ref o, .int 3] M34 (fun r38 M39 => ∃ v40 : Int32, r38 = some (.int v40) ∧ Q (some (.int v40)) M39)) ∧ (¬ v35 = 0 → (x_h M34 b32).1 = 1 ∧ vp_in 0 (x_h M34 b32).2 ∧ ((x_i M34 b32 (0 : Int32).toNatClampNeg) = 0 → (x_h M34 o).1 = 27 ∧ (∃ b45, x_r M34 o 8 = some b45 ∧ ∃ b46, x_r M34 o 0 = some b46 ∧ (4 ≤ (x_h M34 b46).1 ∧ (x_h M34 b46).1 < 8) ∧ vp_in (x_i M34 o 12) (x_h M34 b46).2 ∧ (∃ b49, x_r M34 b46 (x_i M34 o 12).toNatClampNeg = some b49 ∧ (x_h M34 b49).1 = 23 ∧ (∃ b51, x_r M34 b49 0 = some b51 ∧ (x_h M34 b45).1 = 26 ∧ Call G d 0 0 mX10_weaveGrown [.ref b45, .ref b32, .int a3, .int (x_i M34 o 11), .ref b51] M34 (fun r53 M54 => r53 = none ∧ (x_h M54 o).1 = 27 ∧ Call G d 0 0 mX11_made [.ref o, .int 1, .int (-1)] M54 (fun r56 M57 => ∃ v58 : Int32, r56 = some (.int v58) ∧ Q (some (.int v58)) M57)))))) ∧ (¬ (x_i M34 b32 (0 : Int32).toNatClampNeg) = 0 → (x_h M34 o).1 = 27 ∧ Call G d 0 0 mX11_refuse [.ref o, .int 3] M34 (fun r60 M61 => ∃ v62 : Int32, r60 = some (.int v62) ∧ Q (some (.int v62)) M61))))))) ∧ (¬ v26 = 0 → (x_h M25 o).1 = 27 ∧ Call G d 0 0 mX11_refuse [.ref o, .int v26] M25 (fun r64 M65 => ∃ v66 : Int32, r64 = some (.int v66) ∧ Q (some (.int v66)) M65)))) ∧ (¬ a3 ≤ 8 → (x_h M10 o).1 = 27 ∧ Call G d 0 0 mX11_refuse [.ref o, .int 1] M10 (fun r68 M69 => ∃ v70 : Int32, r68 = some (.int v70) ∧ Q (some (.int v70)) M69)))))))) : Call G (d + 1) rc rs mX11_grown [.ref o, .int a1, .int a2, .int a3] M Q := by
  refine call_of (by decide) (Nat.le_of_ble_eq_true rfl) ?_
  show Wk G (d + 1) rc rs mX11_grown 0 [some (.ref o), some (.int a1), some (.int a2), some (.int a3), none, none] [] M Q
  refine r_iload_n (pc := 0) (i := 1) dX11_grown_0 rfl rfl ?_
  refine r_bipush (pc := 1) (v := 6) dX11_grown_1 (by decide) ?_
  refine r_callS (pc := 3) (as := [_, _]) (st := []) okX11_within lkX11_98 stX11_within dX11_grown_3 rfl (Nat.le_of_ble_eq_true rfl) (Nat.zero_le _) (Nat.zero_le _) (Call.mono h (fun r1 M2 h => ?_))
  obtain ⟨v3, rfl, h⟩ := h
  refine r_if_eq (pc := 6) (tgt := 28) dX11_grown_6 (by decide) (fun c4 => ?_) (fun c4 => ?_)
  · replace h := h.1 c4
    refine r_aload_n (pc := 28) (i := 0) dX11_grown_28 rfl rfl ?_
    refine r_iconst (pc := 29) (v := 1) dX11_grown_29 (by decide) ?_
    obtain ⟨k5, h⟩ := h
    refine r_callV (pc := 30) (ci := 11) (as := [_]) (st := []) okX11_refuse lkX11_91 inX11_refuse seX11_refuse ⟨_, rfl, rfl⟩ dX11_grown_30 rfl k5 (Nat.le_of_ble_eq_true rfl) (Nat.zero_le _) (Nat.zero_le _) (Call.mono h (fun r6 M7 h => ?_))
    obtain ⟨v8, rfl, h⟩ := h
    exact r_iret (pc := 33) dX11_grown_33 rfl h
  · replace h := h.2 c4
    refine r_iload_n (pc := 9) (i := 2) dX11_grown_9 rfl rfl ?_
    refine r_iconst (pc := 10) (v := 3) dX11_grown_10 (by decide) ?_
    refine r_callS (pc := 11) (as := [_, _]) (st := []) okX11_within lkX11_98 stX11_within dX11_grown_11 rfl (Nat.le_of_ble_eq_true rfl) (Nat.zero_le _) (Nat.zero_le _) (Call.mono h (fun r9 M10 h => ?_))
    obtain ⟨v11, rfl, h⟩ := h
    refine r_if_eq (pc := 14) (tgt := 28) dX11_grown_14 (by decide) (fun c12 => ?_) (fun c12 => ?_)
    · replace h := h.1 c12
      refine r_aload_n (pc := 28) (i := 0) dX11_grown_28 rfl rfl ?_
      refine r_iconst (pc := 29) (v := 1) dX11_grown_29 (by decide) ?_
      obtain ⟨k13, h⟩ := h
      refine r_callV (pc := 30) (ci := 11) (as := [_]) (st := []) okX11_refuse lkX11_91 inX11_refuse seX11_refuse ⟨_, rfl, rfl⟩ dX11_grown_30 rfl k13 (Nat.le_of_ble_eq_true rfl) (Nat.zero_le _) (Nat.zero_le _) (Call.mono h (fun r14 M15 h => ?_))
      obtain ⟨v16, rfl, h⟩ := h
      exact r_iret (pc := 33) dX11_grown_33 rfl h
    · replace h := h.2 c12
      refine r_iload_n (pc := 17) (i := 3) dX11_grown_17 rfl rfl ?_
      refine r_iconst (pc := 18) (v := 1) dX11_grown_18 (by decide) ?_
      refine r_icmp_lt (pc := 19) (tgt := 28) dX11_grown_19 (by decide) (fun c17 => ?_) (fun c17 => ?_)
      · replace h := h.1 c17
        refine r_aload_n (pc := 28) (i := 0) dX11_grown_28 rfl rfl ?_
        refine r_iconst (pc := 29) (v := 1) dX11_grown_29 (by decide) ?_
        obtain ⟨k18, h⟩ := h
        refine r_callV (pc := 30) (ci := 11) (as := [_]) (st := []) okX11_refuse lkX11_91 inX11_refuse seX11_refuse ⟨_, rfl, rfl⟩ dX11_grown_30 rfl k18 (Nat.le_of_ble_eq_true rfl) (Nat.zero_le _) (Nat.zero_le _) (Call.mono h (fun r19 M20 h => ?_))
        obtain ⟨v21, rfl, h⟩ := h
        exact r_iret (pc := 33) dX11_grown_33 rfl h
      · replace h := h.2 c17
        refine r_iload_n (pc := 22) (i := 3) dX11_grown_22 rfl rfl ?_
        refine r_bipush (pc := 23) (v := 8) dX11_grown_23 (by decide) ?_
        refine r_icmp_le (pc := 25) (tgt := 34) dX11_grown_25 (by decide) (fun c22 => ?_) (fun c22 => ?_)
        · replace h := h.1 c22
          refine r_aload_n (pc := 34) (i := 0) dX11_grown_34 rfl rfl ?_
          refine r_iload_n (pc := 35) (i := 1) dX11_grown_35 rfl rfl ?_
          refine r_iload_n (pc := 36) (i := 2) dX11_grown_36 rfl rfl ?_
          refine r_iload_n (pc := 37) (i := 3) dX11_grown_37 rfl rfl ?_
          refine r_aload_n (pc := 38) (i := 0) dX11_grown_38 rfl rfl ?_
          obtain ⟨k23, h⟩ := h
          refine r_geti (pc := 39) flX11_67 dX11_grown_39 (Or.inl rfl) k23 ?_
          refine r_imul (pc := 42) dX11_grown_42 ?_
          refine r_callV (pc := 43) (ci := 11) (as := [_, _, _]) (st := []) okX11_sheetFault lkX11_128 inX11_sheetFault seX11_sheetFault ⟨_, rfl, rfl⟩ dX11_grown_43 rfl k23 (Nat.le_of_ble_eq_true rfl) (Nat.zero_le _) (Nat.zero_le _) (Call.mono h (fun r24 M25 h => ?_))
          obtain ⟨v26, rfl, h⟩ := h
          refine r_istore (pc := 46) (i := 4) dX11_grown_46 rfl (Nat.le_of_ble_eq_true rfl) ?_
          refine r_iload (pc := 48) (i := 4) dX11_grown_48 rfl ?_
          refine r_if_eq (pc := 50) (tgt := 60) dX11_grown_50 (by decide) (fun c27 => ?_) (fun c27 => ?_)
          · replace h := h.1 c27
            refine r_aload_n (pc := 60) (i := 0) dX11_grown_60 rfl rfl ?_
            obtain ⟨k28, h⟩ := h
            obtain ⟨b29, hb29, h⟩ := h
            refine r_getr (pc := 61) flX11_27 dX11_grown_61 rfl k28 hb29 ?_
            refine r_iload_n (pc := 64) (i := 1) dX11_grown_64 rfl rfl ?_
            obtain ⟨k30, h⟩ := h
            obtain ⟨i31, h⟩ := h
            obtain ⟨b32, hb32, h⟩ := h
            refine r_aald (pc := 65) dX11_grown_65 rfl k30 i31 hb32 ?_
            refine r_astore (pc := 66) (i := 5) dX11_grown_66 rfl (Nat.le_of_ble_eq_true rfl) ?_
            refine r_aload (pc := 68) (i := 5) dX11_grown_68 rfl ?_
            refine r_iload_n (pc := 70) (i := 3) dX11_grown_70 rfl rfl ?_
            refine r_aload_n (pc := 71) (i := 0) dX11_grown_71 rfl rfl ?_
            refine r_geti (pc := 72) flX11_67 dX11_grown_72 (Or.inl rfl) k28 ?_
            refine r_imul (pc := 75) dX11_grown_75 ?_
            refine r_iload_n (pc := 76) (i := 3) dX11_grown_76 rfl rfl ?_
            refine r_callS (pc := 77) (as := [_, _, _]) (st := []) okX11_allBelow lkX11_112 stX11_allBelow dX11_grown_77 rfl (Nat.le_of_ble_eq_true rfl) (Nat.zero_le _) (Nat.zero_le _) (Call.mono h (fun r33 M34 h => ?_))
            obtain ⟨v35, rfl, h⟩ := h
            refine r_if_eq (pc := 80) (tgt := 90) dX11_grown_80 (by decide) (fun c36 => ?_) (fun c36 => ?_)
            · replace h := h.1 c36
              refine r_aload_n (pc := 90) (i := 0) dX11_grown_90 rfl rfl ?_
              refine r_iconst (pc := 91) (v := 3) dX11_grown_91 (by decide) ?_
              obtain ⟨k37, h⟩ := h
              refine r_callV (pc := 92) (ci := 11) (as := [_]) (st := []) okX11_refuse lkX11_91 inX11_refuse seX11_refuse ⟨_, rfl, rfl⟩ dX11_grown_92 rfl k37 (Nat.le_of_ble_eq_true rfl) (Nat.zero_le _) (Nat.zero_le _) (Call.mono h (fun r38 M39 h => ?_))
              obtain ⟨v40, rfl, h⟩ := h
              exact r_iret (pc := 95) dX11_grown_95 rfl h
            · replace h := h.2 c36
              refine r_aload (pc := 83) (i := 5) dX11_grown_83 rfl ?_
              refine r_iconst (pc := 85) (v := 0) dX11_grown_85 (by decide) ?_
              obtain ⟨k41, h⟩ := h
              obtain ⟨i42, h⟩ := h
              refine r_iald (pc := 86) dX11_grown_86 k41 i42 ?_
              refine r_if_eq (pc := 87) (tgt := 96) dX11_grown_87 (by decide) (fun c43 => ?_) (fun c43 => ?_)
              · replace h := h.1 c43
                refine r_aload_n (pc := 96) (i := 0) dX11_grown_96 rfl rfl ?_
                obtain ⟨k44, h⟩ := h
                obtain ⟨b45, hb45, h⟩ := h
                refine r_getr (pc := 97) flX11_49 dX11_grown_97 rfl k44 hb45 ?_
                refine r_aload (pc := 100) (i := 5) dX11_grown_100 rfl ?_
                refine r_iload_n (pc := 102) (i := 3) dX11_grown_102 rfl rfl ?_
                refine r_aload_n (pc := 103) (i := 0) dX11_grown_103 rfl rfl ?_
                refine r_geti (pc := 104) flX11_67 dX11_grown_104 (Or.inl rfl) k44 ?_
                refine r_aload_n (pc := 107) (i := 0) dX11_grown_107 rfl rfl ?_
                obtain ⟨b46, hb46, h⟩ := h
                refine r_getr (pc := 108) flX11_11 dX11_grown_108 rfl k44 hb46 ?_
                refine r_aload_n (pc := 111) (i := 0) dX11_grown_111 rfl rfl ?_
                refine r_geti (pc := 112) flX11_71 dX11_grown_112 (Or.inl rfl) k44 ?_
                obtain ⟨k47, h⟩ := h
                obtain ⟨i48, h⟩ := h
                obtain ⟨b49, hb49, h⟩ := h
                refine r_aald (pc := 115) dX11_grown_115 rfl k47 i48 hb49 ?_
                obtain ⟨k50, h⟩ := h
                obtain ⟨b51, hb51, h⟩ := h
                refine r_getr (pc := 116) flX11_116 dX11_grown_116 rfl k50 hb51 ?_
                obtain ⟨k52, h⟩ := h
                refine r_callV (pc := 119) (ci := 10) (as := [_, _, _, _]) (st := []) okX10_weaveGrown lkX11_132 inX10_weaveGrown seX10_weaveGrown ⟨_, rfl, rfl⟩ dX11_grown_119 rfl k52 (Nat.le_of_ble_eq_true rfl) (Nat.zero_le _) (Nat.zero_le _) (Call.mono h (fun r53 M54 h => ?_))
                obtain ⟨rfl, h⟩ := h
                refine r_aload_n (pc := 122) (i := 0) dX11_grown_122 rfl rfl ?_
                refine r_iconst (pc := 123) (v := 1) dX11_grown_123 (by decide) ?_
                refine r_iconst (pc := 124) (v := (-1)) dX11_grown_124 (by decide) ?_
                obtain ⟨k55, h⟩ := h
                refine r_callV (pc := 125) (ci := 11) (as := [_, _]) (st := []) okX11_made lkX11_124 inX11_made seX11_made ⟨_, rfl, rfl⟩ dX11_grown_125 rfl k55 (Nat.le_of_ble_eq_true rfl) (Nat.zero_le _) (Nat.zero_le _) (Call.mono h (fun r56 M57 h => ?_))
                obtain ⟨v58, rfl, h⟩ := h
                exact r_iret (pc := 128) dX11_grown_128 rfl h
              · replace h := h.2 c43
                refine r_aload_n (pc := 90) (i := 0) dX11_grown_90 rfl rfl ?_
                refine r_iconst (pc := 91) (v := 3) dX11_grown_91 (by decide) ?_
                obtain ⟨k59, h⟩ := h
                refine r_callV (pc := 92) (ci := 11) (as := [_]) (st := []) okX11_refuse lkX11_91 inX11_refuse seX11_refuse ⟨_, rfl, rfl⟩ dX11_grown_92 rfl k59 (Nat.le_of_ble_eq_true rfl) (Nat.zero_le _) (Nat.zero_le _) (Call.mono h (fun r60 M61 h => ?_))
                obtain ⟨v62, rfl, h⟩ := h
                exact r_iret (pc := 95) dX11_grown_95 rfl h
          · replace h := h.2 c27
            refine r_aload_n (pc := 53) (i := 0) dX11_grown_53 rfl rfl ?_
            refine r_iload (pc := 54) (i := 4) dX11_grown_54 rfl ?_
            obtain ⟨k63, h⟩ := h
            refine r_callV (pc := 56) (ci := 11) (as := [_]) (st := []) okX11_refuse lkX11_91 inX11_refuse seX11_refuse ⟨_, rfl, rfl⟩ dX11_grown_56 rfl k63 (Nat.le_of_ble_eq_true rfl) (Nat.zero_le _) (Nat.zero_le _) (Call.mono h (fun r64 M65 h => ?_))
            obtain ⟨v66, rfl, h⟩ := h
            exact r_iret (pc := 59) dX11_grown_59 rfl h
        · replace h := h.2 c22
          refine r_aload_n (pc := 28) (i := 0) dX11_grown_28 rfl rfl ?_
          refine r_iconst (pc := 29) (v := 1) dX11_grown_29 (by decide) ?_
          obtain ⟨k67, h⟩ := h
          refine r_callV (pc := 30) (ci := 11) (as := [_]) (st := []) okX11_refuse lkX11_91 inX11_refuse seX11_refuse ⟨_, rfl, rfl⟩ dX11_grown_30 rfl k67 (Nat.le_of_ble_eq_true rfl) (Nat.zero_le _) (Nat.zero_le _) (Call.mono h (fun r68 M69 h => ?_))
          obtain ⟨v70, rfl, h⟩ := h
          exact r_iret (pc := 33) dX11_grown_33 rfl h
theorem eX11_ring {G : GG} {d rc rs : Nat} (o : Nat) (a1 : Int32) (a2 : Int32) (a3 : Int32) (a4 : Int32)  {M : Mem} {Q : Option Value → Mem → Prop} (h : Call G d 0 0 mX11_within [.int a1, .int 6] M (fun r1 M2 => ∃ v3 : Int32, r1 = some (.int v3) ∧ (v3 = 0 → (x_h M2 o).1 = 27 ∧ Call G d 0 0 mX11_refuse [.ref o, .int 1] M2 (fun r6 M7 => ∃ v8 : Int32, r6 = some (.int v8) ∧ Q (some (.int v8)) M7)) ∧ (¬ v3 = 0 → Call G d 0 0 mX11_within [.int a2, .int 3] M2 (fun r9 M10 => ∃ v11 : Int32, r9 = some (.int v11) ∧ (v11 = 0 → (x_h M10 o).1 = 27 ∧ Call G d 0 0 mX11_refuse [.ref o, .int 1] M10 (fun r14 M15 => ∃ v16 : Int32, r14 = some (.int v16) ∧ Q (some (.int v16)) M15)) ∧ (¬ v11 = 0 → Call G d 0 0 mX11_within [.int a3, .int 7] M10 (fun r17 M18 => ∃ v19 : Int32, r17 = some (.int v19) ∧ (v19 = 0 → (x_h M18 o).1 = 27 ∧ Call G d 0 0 mX11_refuse [.ref o, .int 1] M18 (fun r22 M23 => ∃ v24 : Int32, r22 = some (.int v24) ∧ Q (some (.int v24)) M23)) ∧ (¬ v19 = 0 → (a4 < 1 → (x_h M18 o).1 = 27 ∧ Call G d 0 0 mX11_refuse [.ref o, .int 1] M18 (fun r27 M28 => ∃ v29 : Int32, r27 = some (.int v29) ∧ Q (some (.int v29)) M28)) ∧ (¬ a4 < 1 → (a4 ≤ 6 → (x_h M18 o).1 = 27 ∧ Call G d 0 0 mX11_sheetFault [.ref o, .int a1, .int a2, .int (a3 + a4)] M18 (fun r32 M33 => ∃ v34 : Int32, r32 = some (.int v34) ∧ (v34 = 0 → (x_h M33 o).1 = 27 ∧ (∃ b37, x_r M33 o 3 = some b37 ∧ (4 ≤ (x_h M33 b37).1 ∧ (x_h M33 b37).1 < 8) ∧ vp_in a1 (x_h M33 b37).2 ∧ (∃ b40, x_r M33 b37 a1.toNatClampNeg = some b40 ∧ Call G d 0 0 mX11_allBelow [.ref b40, .int (a3 + a4), .int 8] M33 (fun r41 M42 => ∃ v43 : Int32, r41 = some (.int v43) ∧ (¬ v43 = 0 → (x_h M42 o).1 = 27 ∧ (∃ b46, x_r M42 o 8 = some b46 ∧ ∃ b47, x_r M42 o 3 = some b47 ∧ (4 ≤ (x_h M42 b47).1 ∧ (x_h M42 b47).1 < 8) ∧ vp_in a1 (x_h M42 b47).2 ∧ (∃ b50, x_r M42 b47 a1.toNatClampNeg = some b50 ∧ ∃ b51, x_r M42 o 0 = some b51 ∧ (4 ≤ (x_h M42 b51).1 ∧ (x_h M42 b51).1 < 8) ∧ vp_in (x_i M42 o 12) (x_h M42 b51).2 ∧ (∃ b54, x_r M42 b51 (x_i M42 o 12).toNatClampNeg = some b54 ∧ (x_h M42 b54).1 = 23 ∧ (∃ b56, x_r M42 b54 0 = some b56 ∧ (x_h M42 b46).1 = 26 ∧ Call G d 0 0 mX10_weaveRing [.ref b46, .ref b50, .int a3, .int a4, .int (x_i M42 o 11), .ref b56] M42 (fun r58 M59 => r58 = none ∧ (x_h M59 o).1 = 27 ∧ Call G d 0 0 mX11_made [.ref o, .int 2, .int (-1)] M59 (fun r61 M62 => ∃ v63 : Int32, r61 = some (.int v63) ∧ Q (some (.int v63)) M62))))))) ∧ (v43 = 0 → (x_h M42 o).1 = 27 ∧ Call G d 0 0 mX11_refuse [.ref o, .int 3] M42 (fun r65 M66 => ∃ v67 : Int32, r65 = some (.int v67) ∧ Q (some (.int v67)) M66)))))) ∧ (¬ v34 = 0 → (x_h M33 o).1 = 27 ∧ Call G d 0 0 mX11_refuse [.ref o, .int v34] M33 (fun r69 M70 => ∃ v71 : Int32, r69 = some (.int v71) ∧ Q (some (.int v71)) M70)))) ∧ (¬ a4 ≤ 6 → (x_h M18 o).1 = 27 ∧ Call G d 0 0 mX11_refuse [.ref o, .int 1] M18 (fun r73 M74 => ∃ v75 : Int32, r73 = some (.int v75) ∧ Q (some (.int v75)) M74)))))))))) : Call G (d + 1) rc rs mX11_ring [.ref o, .int a1, .int a2, .int a3, .int a4] M Q := by
  refine call_of (by decide) (Nat.le_of_ble_eq_true rfl) ?_
  show Wk G (d + 1) rc rs mX11_ring 0 [some (.ref o), some (.int a1), some (.int a2), some (.int a3), some (.int a4), none] [] M Q
  refine r_iload_n (pc := 0) (i := 1) dX11_ring_0 rfl rfl ?_
  refine r_bipush (pc := 1) (v := 6) dX11_ring_1 (by decide) ?_
  refine r_callS (pc := 3) (as := [_, _]) (st := []) okX11_within lkX11_98 stX11_within dX11_ring_3 rfl (Nat.le_of_ble_eq_true rfl) (Nat.zero_le _) (Nat.zero_le _) (Call.mono h (fun r1 M2 h => ?_))
  obtain ⟨v3, rfl, h⟩ := h
  refine r_if_eq (pc := 6) (tgt := 39) dX11_ring_6 (by decide) (fun c4 => ?_) (fun c4 => ?_)
  · replace h := h.1 c4
    refine r_aload_n (pc := 39) (i := 0) dX11_ring_39 rfl rfl ?_
    refine r_iconst (pc := 40) (v := 1) dX11_ring_40 (by decide) ?_
    obtain ⟨k5, h⟩ := h
    refine r_callV (pc := 41) (ci := 11) (as := [_]) (st := []) okX11_refuse lkX11_91 inX11_refuse seX11_refuse ⟨_, rfl, rfl⟩ dX11_ring_41 rfl k5 (Nat.le_of_ble_eq_true rfl) (Nat.zero_le _) (Nat.zero_le _) (Call.mono h (fun r6 M7 h => ?_))
    obtain ⟨v8, rfl, h⟩ := h
    exact r_iret (pc := 44) dX11_ring_44 rfl h
  · replace h := h.2 c4
    refine r_iload_n (pc := 9) (i := 2) dX11_ring_9 rfl rfl ?_
    refine r_iconst (pc := 10) (v := 3) dX11_ring_10 (by decide) ?_
    refine r_callS (pc := 11) (as := [_, _]) (st := []) okX11_within lkX11_98 stX11_within dX11_ring_11 rfl (Nat.le_of_ble_eq_true rfl) (Nat.zero_le _) (Nat.zero_le _) (Call.mono h (fun r9 M10 h => ?_))
    obtain ⟨v11, rfl, h⟩ := h
    refine r_if_eq (pc := 14) (tgt := 39) dX11_ring_14 (by decide) (fun c12 => ?_) (fun c12 => ?_)
    · replace h := h.1 c12
      refine r_aload_n (pc := 39) (i := 0) dX11_ring_39 rfl rfl ?_
      refine r_iconst (pc := 40) (v := 1) dX11_ring_40 (by decide) ?_
      obtain ⟨k13, h⟩ := h
      refine r_callV (pc := 41) (ci := 11) (as := [_]) (st := []) okX11_refuse lkX11_91 inX11_refuse seX11_refuse ⟨_, rfl, rfl⟩ dX11_ring_41 rfl k13 (Nat.le_of_ble_eq_true rfl) (Nat.zero_le _) (Nat.zero_le _) (Call.mono h (fun r14 M15 h => ?_))
      obtain ⟨v16, rfl, h⟩ := h
      exact r_iret (pc := 44) dX11_ring_44 rfl h
    · replace h := h.2 c12
      refine r_iload_n (pc := 17) (i := 3) dX11_ring_17 rfl rfl ?_
      refine r_bipush (pc := 18) (v := 7) dX11_ring_18 (by decide) ?_
      refine r_callS (pc := 20) (as := [_, _]) (st := []) okX11_within lkX11_98 stX11_within dX11_ring_20 rfl (Nat.le_of_ble_eq_true rfl) (Nat.zero_le _) (Nat.zero_le _) (Call.mono h (fun r17 M18 h => ?_))
      obtain ⟨v19, rfl, h⟩ := h
      refine r_if_eq (pc := 23) (tgt := 39) dX11_ring_23 (by decide) (fun c20 => ?_) (fun c20 => ?_)
      · replace h := h.1 c20
        refine r_aload_n (pc := 39) (i := 0) dX11_ring_39 rfl rfl ?_
        refine r_iconst (pc := 40) (v := 1) dX11_ring_40 (by decide) ?_
        obtain ⟨k21, h⟩ := h
        refine r_callV (pc := 41) (ci := 11) (as := [_]) (st := []) okX11_refuse lkX11_91 inX11_refuse seX11_refuse ⟨_, rfl, rfl⟩ dX11_ring_41 rfl k21 (Nat.le_of_ble_eq_true rfl) (Nat.zero_le _) (Nat.zero_le _) (Call.mono h (fun r22 M23 h => ?_))
        obtain ⟨v24, rfl, h⟩ := h
        exact r_iret (pc := 44) dX11_ring_44 rfl h
      · replace h := h.2 c20
        refine r_iload (pc := 26) (i := 4) dX11_ring_26 rfl ?_
        refine r_iconst (pc := 28) (v := 1) dX11_ring_28 (by decide) ?_
        refine r_icmp_lt (pc := 29) (tgt := 39) dX11_ring_29 (by decide) (fun c25 => ?_) (fun c25 => ?_)
        · replace h := h.1 c25
          refine r_aload_n (pc := 39) (i := 0) dX11_ring_39 rfl rfl ?_
          refine r_iconst (pc := 40) (v := 1) dX11_ring_40 (by decide) ?_
          obtain ⟨k26, h⟩ := h
          refine r_callV (pc := 41) (ci := 11) (as := [_]) (st := []) okX11_refuse lkX11_91 inX11_refuse seX11_refuse ⟨_, rfl, rfl⟩ dX11_ring_41 rfl k26 (Nat.le_of_ble_eq_true rfl) (Nat.zero_le _) (Nat.zero_le _) (Call.mono h (fun r27 M28 h => ?_))
          obtain ⟨v29, rfl, h⟩ := h
          exact r_iret (pc := 44) dX11_ring_44 rfl h
        · replace h := h.2 c25
          refine r_iload (pc := 32) (i := 4) dX11_ring_32 rfl ?_
          refine r_bipush (pc := 34) (v := 6) dX11_ring_34 (by decide) ?_
          refine r_icmp_le (pc := 36) (tgt := 45) dX11_ring_36 (by decide) (fun c30 => ?_) (fun c30 => ?_)
          · replace h := h.1 c30
            refine r_aload_n (pc := 45) (i := 0) dX11_ring_45 rfl rfl ?_
            refine r_iload_n (pc := 46) (i := 1) dX11_ring_46 rfl rfl ?_
            refine r_iload_n (pc := 47) (i := 2) dX11_ring_47 rfl rfl ?_
            refine r_iload_n (pc := 48) (i := 3) dX11_ring_48 rfl rfl ?_
            refine r_iload (pc := 49) (i := 4) dX11_ring_49 rfl ?_
            refine r_iadd (pc := 51) dX11_ring_51 ?_
            obtain ⟨k31, h⟩ := h
            refine r_callV (pc := 52) (ci := 11) (as := [_, _, _]) (st := []) okX11_sheetFault lkX11_128 inX11_sheetFault seX11_sheetFault ⟨_, rfl, rfl⟩ dX11_ring_52 rfl k31 (Nat.le_of_ble_eq_true rfl) (Nat.zero_le _) (Nat.zero_le _) (Call.mono h (fun r32 M33 h => ?_))
            obtain ⟨v34, rfl, h⟩ := h
            refine r_istore (pc := 55) (i := 5) dX11_ring_55 rfl (Nat.le_of_ble_eq_true rfl) ?_
            refine r_iload (pc := 57) (i := 5) dX11_ring_57 rfl ?_
            refine r_if_eq (pc := 59) (tgt := 69) dX11_ring_59 (by decide) (fun c35 => ?_) (fun c35 => ?_)
            · replace h := h.1 c35
              refine r_aload_n (pc := 69) (i := 0) dX11_ring_69 rfl rfl ?_
              obtain ⟨k36, h⟩ := h
              obtain ⟨b37, hb37, h⟩ := h
              refine r_getr (pc := 70) flX11_27 dX11_ring_70 rfl k36 hb37 ?_
              refine r_iload_n (pc := 73) (i := 1) dX11_ring_73 rfl rfl ?_
              obtain ⟨k38, h⟩ := h
              obtain ⟨i39, h⟩ := h
              obtain ⟨b40, hb40, h⟩ := h
              refine r_aald (pc := 74) dX11_ring_74 rfl k38 i39 hb40 ?_
              refine r_iload_n (pc := 75) (i := 3) dX11_ring_75 rfl rfl ?_
              refine r_iload (pc := 76) (i := 4) dX11_ring_76 rfl ?_
              refine r_iadd (pc := 78) dX11_ring_78 ?_
              refine r_bipush (pc := 79) (v := 8) dX11_ring_79 (by decide) ?_
              refine r_callS (pc := 81) (as := [_, _, _]) (st := []) okX11_allBelow lkX11_112 stX11_allBelow dX11_ring_81 rfl (Nat.le_of_ble_eq_true rfl) (Nat.zero_le _) (Nat.zero_le _) (Call.mono h (fun r41 M42 h => ?_))
              obtain ⟨v43, rfl, h⟩ := h
              refine r_if_ne (pc := 84) (tgt := 93) dX11_ring_84 (by decide) (fun c44 => ?_) (fun c44 => ?_)
              · replace h := h.1 c44
                refine r_aload_n (pc := 93) (i := 0) dX11_ring_93 rfl rfl ?_
                obtain ⟨k45, h⟩ := h
                obtain ⟨b46, hb46, h⟩ := h
                refine r_getr (pc := 94) flX11_49 dX11_ring_94 rfl k45 hb46 ?_
                refine r_aload_n (pc := 97) (i := 0) dX11_ring_97 rfl rfl ?_
                obtain ⟨b47, hb47, h⟩ := h
                refine r_getr (pc := 98) flX11_27 dX11_ring_98 rfl k45 hb47 ?_
                refine r_iload_n (pc := 101) (i := 1) dX11_ring_101 rfl rfl ?_
                obtain ⟨k48, h⟩ := h
                obtain ⟨i49, h⟩ := h
                obtain ⟨b50, hb50, h⟩ := h
                refine r_aald (pc := 102) dX11_ring_102 rfl k48 i49 hb50 ?_
                refine r_iload_n (pc := 103) (i := 3) dX11_ring_103 rfl rfl ?_
                refine r_iload (pc := 104) (i := 4) dX11_ring_104 rfl ?_
                refine r_aload_n (pc := 106) (i := 0) dX11_ring_106 rfl rfl ?_
                refine r_geti (pc := 107) flX11_67 dX11_ring_107 (Or.inl rfl) k45 ?_
                refine r_aload_n (pc := 110) (i := 0) dX11_ring_110 rfl rfl ?_
                obtain ⟨b51, hb51, h⟩ := h
                refine r_getr (pc := 111) flX11_11 dX11_ring_111 rfl k45 hb51 ?_
                refine r_aload_n (pc := 114) (i := 0) dX11_ring_114 rfl rfl ?_
                refine r_geti (pc := 115) flX11_71 dX11_ring_115 (Or.inl rfl) k45 ?_
                obtain ⟨k52, h⟩ := h
                obtain ⟨i53, h⟩ := h
                obtain ⟨b54, hb54, h⟩ := h
                refine r_aald (pc := 118) dX11_ring_118 rfl k52 i53 hb54 ?_
                obtain ⟨k55, h⟩ := h
                obtain ⟨b56, hb56, h⟩ := h
                refine r_getr (pc := 119) flX11_116 dX11_ring_119 rfl k55 hb56 ?_
                obtain ⟨k57, h⟩ := h
                refine r_callV (pc := 122) (ci := 10) (as := [_, _, _, _, _]) (st := []) okX10_weaveRing lkX11_136 inX10_weaveRing seX10_weaveRing ⟨_, rfl, rfl⟩ dX11_ring_122 rfl k57 (Nat.le_of_ble_eq_true rfl) (Nat.zero_le _) (Nat.zero_le _) (Call.mono h (fun r58 M59 h => ?_))
                obtain ⟨rfl, h⟩ := h
                refine r_aload_n (pc := 125) (i := 0) dX11_ring_125 rfl rfl ?_
                refine r_iconst (pc := 126) (v := 2) dX11_ring_126 (by decide) ?_
                refine r_iconst (pc := 127) (v := (-1)) dX11_ring_127 (by decide) ?_
                obtain ⟨k60, h⟩ := h
                refine r_callV (pc := 128) (ci := 11) (as := [_, _]) (st := []) okX11_made lkX11_124 inX11_made seX11_made ⟨_, rfl, rfl⟩ dX11_ring_128 rfl k60 (Nat.le_of_ble_eq_true rfl) (Nat.zero_le _) (Nat.zero_le _) (Call.mono h (fun r61 M62 h => ?_))
                obtain ⟨v63, rfl, h⟩ := h
                exact r_iret (pc := 131) dX11_ring_131 rfl h
              · replace h := h.2 c44
                refine r_aload_n (pc := 87) (i := 0) dX11_ring_87 rfl rfl ?_
                refine r_iconst (pc := 88) (v := 3) dX11_ring_88 (by decide) ?_
                obtain ⟨k64, h⟩ := h
                refine r_callV (pc := 89) (ci := 11) (as := [_]) (st := []) okX11_refuse lkX11_91 inX11_refuse seX11_refuse ⟨_, rfl, rfl⟩ dX11_ring_89 rfl k64 (Nat.le_of_ble_eq_true rfl) (Nat.zero_le _) (Nat.zero_le _) (Call.mono h (fun r65 M66 h => ?_))
                obtain ⟨v67, rfl, h⟩ := h
                exact r_iret (pc := 92) dX11_ring_92 rfl h
            · replace h := h.2 c35
              refine r_aload_n (pc := 62) (i := 0) dX11_ring_62 rfl rfl ?_
              refine r_iload (pc := 63) (i := 5) dX11_ring_63 rfl ?_
              obtain ⟨k68, h⟩ := h
              refine r_callV (pc := 65) (ci := 11) (as := [_]) (st := []) okX11_refuse lkX11_91 inX11_refuse seX11_refuse ⟨_, rfl, rfl⟩ dX11_ring_65 rfl k68 (Nat.le_of_ble_eq_true rfl) (Nat.zero_le _) (Nat.zero_le _) (Call.mono h (fun r69 M70 h => ?_))
              obtain ⟨v71, rfl, h⟩ := h
              exact r_iret (pc := 68) dX11_ring_68 rfl h
          · replace h := h.2 c30
            refine r_aload_n (pc := 39) (i := 0) dX11_ring_39 rfl rfl ?_
            refine r_iconst (pc := 40) (v := 1) dX11_ring_40 (by decide) ?_
            obtain ⟨k72, h⟩ := h
            refine r_callV (pc := 41) (ci := 11) (as := [_]) (st := []) okX11_refuse lkX11_91 inX11_refuse seX11_refuse ⟨_, rfl, rfl⟩ dX11_ring_41 rfl k72 (Nat.le_of_ble_eq_true rfl) (Nat.zero_le _) (Nat.zero_le _) (Call.mono h (fun r73 M74 h => ?_))
            obtain ⟨v75, rfl, h⟩ := h
            exact r_iret (pc := 44) dX11_ring_44 rfl h
theorem eX11_pair {G : GG} {d rc rs : Nat} (o : Nat) (a1 : Int32) (a2 : Int32) (a3 : Int32)  {M : Mem} {Q : Option Value → Mem → Prop} (h : (x_h M o).1 = 27 ∧ Call G d 0 0 mX11_within [.int a1, .int (x_i M o 12)] M (fun r2 M3 => ∃ v4 : Int32, r2 = some (.int v4) ∧ (v4 = 0 → (x_h M3 o).1 = 27 ∧ Call G d 0 0 mX11_refuse [.ref o, .int 1] M3 (fun r7 M8 => ∃ v9 : Int32, r7 = some (.int v9) ∧ Q (some (.int v9)) M8)) ∧ (¬ v4 = 0 → (x_h M3 o).1 = 27 ∧ Call G d 0 0 mX11_within [.int a2, .int (x_i M3 o 12)] M3 (fun r11 M12 => ∃ v13 : Int32, r11 = some (.int v13) ∧ (v13 = 0 → (x_h M12 o).1 = 27 ∧ Call G d 0 0 mX11_refuse [.ref o, .int 1] M12 (fun r16 M17 => ∃ v18 : Int32, r16 = some (.int v18) ∧ Q (some (.int v18)) M17)) ∧ (¬ v13 = 0 → Call G d 0 0 mX11_within [.int a3, .int 3] M12 (fun r19 M20 => ∃ v21 : Int32, r19 = some (.int v21) ∧ (¬ v21 = 0 → (x_h M20 o).1 = 27 ∧ ((x_i M20 o 12) < 10 → ∃ b25, x_r M20 o 8 = some b25 ∧ ∃ b26, x_r M20 o 0 = some b26 ∧ (4 ≤ (x_h M20 b26).1 ∧ (x_h M20 b26).1 < 8) ∧ vp_in a1 (x_h M20 b26).2 ∧ (∃ b29, x_r M20 b26 a1.toNatClampNeg = some b29 ∧ (x_h M20 b29).1 = 23 ∧ (∃ b31, x_r M20 b29 0 = some b31 ∧ vp_in a2 (x_h M20 b26).2 ∧ (∃ b33, x_r M20 b26 a2.toNatClampNeg = some b33 ∧ (x_h M20 b33).1 = 23 ∧ (∃ b35, x_r M20 b33 0 = some b35 ∧ vp_in (x_i M20 o 12) (x_h M20 b26).2 ∧ (∃ b37, x_r M20 b26 (x_i M20 o 12).toNatClampNeg = some b37 ∧ (x_h M20 b37).1 = 23 ∧ (∃ b39, x_r M20 b37 0 = some b39 ∧ (x_h M20 b25).1 = 26 ∧ Call G d 0 0 mX10_weavePair [.ref b25, .ref b31, .ref b35, .int a3, .int (x_i M20 o 11), .ref b39] M20 (fun r41 M42 => ∃ v43 : Int32, r41 = some (.int v43) ∧ (¬ v43 = 0 → (x_h M42 o).1 = 27 ∧ Call G d 0 0 mX11_made [.ref o, .int 3, .int (-1)] M42 (fun r46 M47 => ∃ v48 : Int32, r46 = some (.int v48) ∧ Q (some (.int v48)) M47)) ∧ (v43 = 0 → (x_h M42 o).1 = 27 ∧ Call G d 0 0 mX11_refuse [.ref o, .int 3] M42 (fun r50 M51 => ∃ v52 : Int32, r50 = some (.int v52) ∧ Q (some (.int v52)) M51)))))))))) ∧ (¬ (x_i M20 o 12) < 10 → Call G d 0 0 mX11_refuse [.ref o, .int 2] M20 (fun r53 M54 => ∃ v55 : Int32, r53 = some (.int v55) ∧ Q (some (.int v55)) M54))) ∧ (v21 = 0 → (x_h M20 o).1 = 27 ∧ Call G d 0 0 mX11_refuse [.ref o, .int 1] M20 (fun r57 M58 => ∃ v59 : Int32, r57 = some (.int v59) ∧ Q (some (.int v59)) M58)))))))) : Call G (d + 1) rc rs mX11_pair [.ref o, .int a1, .int a2, .int a3] M Q := by
  refine call_of (by decide) (Nat.le_of_ble_eq_true rfl) ?_
  show Wk G (d + 1) rc rs mX11_pair 0 [some (.ref o), some (.int a1), some (.int a2), some (.int a3)] [] M Q
  refine r_iload_n (pc := 0) (i := 1) dX11_pair_0 rfl rfl ?_
  refine r_aload_n (pc := 1) (i := 0) dX11_pair_1 rfl rfl ?_
  obtain ⟨k1, h⟩ := h
  refine r_geti (pc := 2) flX11_71 dX11_pair_2 (Or.inl rfl) k1 ?_
  refine r_callS (pc := 5) (as := [_, _]) (st := []) okX11_within lkX11_98 stX11_within dX11_pair_5 rfl (Nat.le_of_ble_eq_true rfl) (Nat.zero_le _) (Nat.zero_le _) (Call.mono h (fun r2 M3 h => ?_))
  obtain ⟨v4, rfl, h⟩ := h
  refine r_if_eq (pc := 8) (tgt := 30) dX11_pair_8 (by decide) (fun c5 => ?_) (fun c5 => ?_)
  · replace h := h.1 c5
    refine r_aload_n (pc := 30) (i := 0) dX11_pair_30 rfl rfl ?_
    refine r_iconst (pc := 31) (v := 1) dX11_pair_31 (by decide) ?_
    obtain ⟨k6, h⟩ := h
    refine r_callV (pc := 32) (ci := 11) (as := [_]) (st := []) okX11_refuse lkX11_91 inX11_refuse seX11_refuse ⟨_, rfl, rfl⟩ dX11_pair_32 rfl k6 (Nat.le_of_ble_eq_true rfl) (Nat.zero_le _) (Nat.zero_le _) (Call.mono h (fun r7 M8 h => ?_))
    obtain ⟨v9, rfl, h⟩ := h
    exact r_iret (pc := 35) dX11_pair_35 rfl h
  · replace h := h.2 c5
    refine r_iload_n (pc := 11) (i := 2) dX11_pair_11 rfl rfl ?_
    refine r_aload_n (pc := 12) (i := 0) dX11_pair_12 rfl rfl ?_
    obtain ⟨k10, h⟩ := h
    refine r_geti (pc := 13) flX11_71 dX11_pair_13 (Or.inl rfl) k10 ?_
    refine r_callS (pc := 16) (as := [_, _]) (st := []) okX11_within lkX11_98 stX11_within dX11_pair_16 rfl (Nat.le_of_ble_eq_true rfl) (Nat.zero_le _) (Nat.zero_le _) (Call.mono h (fun r11 M12 h => ?_))
    obtain ⟨v13, rfl, h⟩ := h
    refine r_if_eq (pc := 19) (tgt := 30) dX11_pair_19 (by decide) (fun c14 => ?_) (fun c14 => ?_)
    · replace h := h.1 c14
      refine r_aload_n (pc := 30) (i := 0) dX11_pair_30 rfl rfl ?_
      refine r_iconst (pc := 31) (v := 1) dX11_pair_31 (by decide) ?_
      obtain ⟨k15, h⟩ := h
      refine r_callV (pc := 32) (ci := 11) (as := [_]) (st := []) okX11_refuse lkX11_91 inX11_refuse seX11_refuse ⟨_, rfl, rfl⟩ dX11_pair_32 rfl k15 (Nat.le_of_ble_eq_true rfl) (Nat.zero_le _) (Nat.zero_le _) (Call.mono h (fun r16 M17 h => ?_))
      obtain ⟨v18, rfl, h⟩ := h
      exact r_iret (pc := 35) dX11_pair_35 rfl h
    · replace h := h.2 c14
      refine r_iload_n (pc := 22) (i := 3) dX11_pair_22 rfl rfl ?_
      refine r_iconst (pc := 23) (v := 3) dX11_pair_23 (by decide) ?_
      refine r_callS (pc := 24) (as := [_, _]) (st := []) okX11_within lkX11_98 stX11_within dX11_pair_24 rfl (Nat.le_of_ble_eq_true rfl) (Nat.zero_le _) (Nat.zero_le _) (Call.mono h (fun r19 M20 h => ?_))
      obtain ⟨v21, rfl, h⟩ := h
      refine r_if_ne (pc := 27) (tgt := 36) dX11_pair_27 (by decide) (fun c22 => ?_) (fun c22 => ?_)
      · replace h := h.1 c22
        refine r_aload_n (pc := 36) (i := 0) dX11_pair_36 rfl rfl ?_
        obtain ⟨k23, h⟩ := h
        refine r_geti (pc := 37) flX11_71 dX11_pair_37 (Or.inl rfl) k23 ?_
        refine r_bipush (pc := 40) (v := 10) dX11_pair_40 (by decide) ?_
        refine r_icmp_lt (pc := 42) (tgt := 51) dX11_pair_42 (by decide) (fun c24 => ?_) (fun c24 => ?_)
        · replace h := h.1 c24
          refine r_aload_n (pc := 51) (i := 0) dX11_pair_51 rfl rfl ?_
          obtain ⟨b25, hb25, h⟩ := h
          refine r_getr (pc := 52) flX11_49 dX11_pair_52 rfl k23 hb25 ?_
          refine r_aload_n (pc := 55) (i := 0) dX11_pair_55 rfl rfl ?_
          obtain ⟨b26, hb26, h⟩ := h
          refine r_getr (pc := 56) flX11_11 dX11_pair_56 rfl k23 hb26 ?_
          refine r_iload_n (pc := 59) (i := 1) dX11_pair_59 rfl rfl ?_
          obtain ⟨k27, h⟩ := h
          obtain ⟨i28, h⟩ := h
          obtain ⟨b29, hb29, h⟩ := h
          refine r_aald (pc := 60) dX11_pair_60 rfl k27 i28 hb29 ?_
          obtain ⟨k30, h⟩ := h
          obtain ⟨b31, hb31, h⟩ := h
          refine r_getr (pc := 61) flX11_116 dX11_pair_61 rfl k30 hb31 ?_
          refine r_aload_n (pc := 64) (i := 0) dX11_pair_64 rfl rfl ?_
          refine r_getr (pc := 65) flX11_11 dX11_pair_65 rfl k23 hb26 ?_
          refine r_iload_n (pc := 68) (i := 2) dX11_pair_68 rfl rfl ?_
          obtain ⟨i32, h⟩ := h
          obtain ⟨b33, hb33, h⟩ := h
          refine r_aald (pc := 69) dX11_pair_69 rfl k27 i32 hb33 ?_
          obtain ⟨k34, h⟩ := h
          obtain ⟨b35, hb35, h⟩ := h
          refine r_getr (pc := 70) flX11_116 dX11_pair_70 rfl k34 hb35 ?_
          refine r_iload_n (pc := 73) (i := 3) dX11_pair_73 rfl rfl ?_
          refine r_aload_n (pc := 74) (i := 0) dX11_pair_74 rfl rfl ?_
          refine r_geti (pc := 75) flX11_67 dX11_pair_75 (Or.inl rfl) k23 ?_
          refine r_aload_n (pc := 78) (i := 0) dX11_pair_78 rfl rfl ?_
          refine r_getr (pc := 79) flX11_11 dX11_pair_79 rfl k23 hb26 ?_
          refine r_aload_n (pc := 82) (i := 0) dX11_pair_82 rfl rfl ?_
          refine r_geti (pc := 83) flX11_71 dX11_pair_83 (Or.inl rfl) k23 ?_
          obtain ⟨i36, h⟩ := h
          obtain ⟨b37, hb37, h⟩ := h
          refine r_aald (pc := 86) dX11_pair_86 rfl k27 i36 hb37 ?_
          obtain ⟨k38, h⟩ := h
          obtain ⟨b39, hb39, h⟩ := h
          refine r_getr (pc := 87) flX11_116 dX11_pair_87 rfl k38 hb39 ?_
          obtain ⟨k40, h⟩ := h
          refine r_callV (pc := 90) (ci := 10) (as := [_, _, _, _, _]) (st := []) okX10_weavePair lkX11_140 inX10_weavePair seX10_weavePair ⟨_, rfl, rfl⟩ dX11_pair_90 rfl k40 (Nat.le_of_ble_eq_true rfl) (Nat.zero_le _) (Nat.zero_le _) (Call.mono h (fun r41 M42 h => ?_))
          obtain ⟨v43, rfl, h⟩ := h
          refine r_if_ne (pc := 93) (tgt := 102) dX11_pair_93 (by decide) (fun c44 => ?_) (fun c44 => ?_)
          · replace h := h.1 c44
            refine r_aload_n (pc := 102) (i := 0) dX11_pair_102 rfl rfl ?_
            refine r_iconst (pc := 103) (v := 3) dX11_pair_103 (by decide) ?_
            refine r_iconst (pc := 104) (v := (-1)) dX11_pair_104 (by decide) ?_
            obtain ⟨k45, h⟩ := h
            refine r_callV (pc := 105) (ci := 11) (as := [_, _]) (st := []) okX11_made lkX11_124 inX11_made seX11_made ⟨_, rfl, rfl⟩ dX11_pair_105 rfl k45 (Nat.le_of_ble_eq_true rfl) (Nat.zero_le _) (Nat.zero_le _) (Call.mono h (fun r46 M47 h => ?_))
            obtain ⟨v48, rfl, h⟩ := h
            exact r_iret (pc := 108) dX11_pair_108 rfl h
          · replace h := h.2 c44
            refine r_aload_n (pc := 96) (i := 0) dX11_pair_96 rfl rfl ?_
            refine r_iconst (pc := 97) (v := 3) dX11_pair_97 (by decide) ?_
            obtain ⟨k49, h⟩ := h
            refine r_callV (pc := 98) (ci := 11) (as := [_]) (st := []) okX11_refuse lkX11_91 inX11_refuse seX11_refuse ⟨_, rfl, rfl⟩ dX11_pair_98 rfl k49 (Nat.le_of_ble_eq_true rfl) (Nat.zero_le _) (Nat.zero_le _) (Call.mono h (fun r50 M51 h => ?_))
            obtain ⟨v52, rfl, h⟩ := h
            exact r_iret (pc := 101) dX11_pair_101 rfl h
        · replace h := h.2 c24
          refine r_aload_n (pc := 45) (i := 0) dX11_pair_45 rfl rfl ?_
          refine r_iconst (pc := 46) (v := 2) dX11_pair_46 (by decide) ?_
          refine r_callV (pc := 47) (ci := 11) (as := [_]) (st := []) okX11_refuse lkX11_91 inX11_refuse seX11_refuse ⟨_, rfl, rfl⟩ dX11_pair_47 rfl k23 (Nat.le_of_ble_eq_true rfl) (Nat.zero_le _) (Nat.zero_le _) (Call.mono h (fun r53 M54 h => ?_))
          obtain ⟨v55, rfl, h⟩ := h
          exact r_iret (pc := 50) dX11_pair_50 rfl h
      · replace h := h.2 c22
        refine r_aload_n (pc := 30) (i := 0) dX11_pair_30 rfl rfl ?_
        refine r_iconst (pc := 31) (v := 1) dX11_pair_31 (by decide) ?_
        obtain ⟨k56, h⟩ := h
        refine r_callV (pc := 32) (ci := 11) (as := [_]) (st := []) okX11_refuse lkX11_91 inX11_refuse seX11_refuse ⟨_, rfl, rfl⟩ dX11_pair_32 rfl k56 (Nat.le_of_ble_eq_true rfl) (Nat.zero_le _) (Nat.zero_le _) (Call.mono h (fun r57 M58 h => ?_))
        obtain ⟨v59, rfl, h⟩ := h
        exact r_iret (pc := 35) dX11_pair_35 rfl h
theorem eX11_sought {G : GG} {d rc rs : Nat} (o : Nat) (a1 : Int32)  {M : Mem} {Q : Option Value → Mem → Prop} (h : (x_h M o).1 = 27 ∧ Call G d 0 0 mX11_within [.int a1, .int (x_i M o 13)] M (fun r2 M3 => ∃ v4 : Int32, r2 = some (.int v4) ∧ (¬ v4 = 0 → (x_h M3 o).1 = 27 ∧ ((x_i M3 o 12) < 10 → Call G d 0 0 mX11_askedOf [.ref o, .int a1, .int 1] M3 (fun r8 M9 => ∃ o10 : Option Nat, r8 = some (va_rf o10) ∧ (o10 = none → (x_h M9 o).1 = 27 ∧ Call G d 0 0 mX11_refuse [.ref o, .int 3] M9 (fun r13 M14 => ∃ v15 : Int32, r13 = some (.int v15) ∧ Q (some (.int v15)) M14)) ∧ (∀ v11, o10 = some v11 → (x_h M9 o).1 = 27 ∧ (∃ b17, x_r M9 o 0 = some b17 ∧ (4 ≤ (x_h M9 b17).1 ∧ (x_h M9 b17).1 < 8) ∧ vp_in (x_i M9 o 12) (x_h M9 b17).2 ∧ (∃ b20, x_r M9 b17 (x_i M9 o 12).toNatClampNeg = some b20 ∧ (x_h M9 b20).1 = 23 ∧ (∃ b22, x_r M9 b20 0 = some b22 ∧ (x_h M9 b22).1 = 17 ∧ Call G d 0 0 mX1_become [.ref b22, .ref v11] M9 (fun r24 M25 => r24 = none ∧ (x_h M25 o).1 = 27 ∧ Call G d 0 0 mX11_made [.ref o, .int 4, .int a1] M25 (fun r27 M28 => ∃ v29 : Int32, r27 = some (.int v29) ∧ Q (some (.int v29)) M28)))))))) ∧ (¬ (x_i M3 o 12) < 10 → Call G d 0 0 mX11_refuse [.ref o, .int 2] M3 (fun r30 M31 => ∃ v32 : Int32, r30 = some (.int v32) ∧ Q (some (.int v32)) M31))) ∧ (v4 = 0 → (x_h M3 o).1 = 27 ∧ Call G d 0 0 mX11_refuse [.ref o, .int 1] M3 (fun r34 M35 => ∃ v36 : Int32, r34 = some (.int v36) ∧ Q (some (.int v36)) M35)))) : Call G (d + 1) rc rs mX11_sought [.ref o, .int a1] M Q := by
  refine call_of (by decide) (Nat.le_of_ble_eq_true rfl) ?_
  show Wk G (d + 1) rc rs mX11_sought 0 [some (.ref o), some (.int a1), none] [] M Q
  refine r_iload_n (pc := 0) (i := 1) dX11_sought_0 rfl rfl ?_
  refine r_aload_n (pc := 1) (i := 0) dX11_sought_1 rfl rfl ?_
  obtain ⟨k1, h⟩ := h
  refine r_geti (pc := 2) flX11_74 dX11_sought_2 (Or.inl rfl) k1 ?_
  refine r_callS (pc := 5) (as := [_, _]) (st := []) okX11_within lkX11_98 stX11_within dX11_sought_5 rfl (Nat.le_of_ble_eq_true rfl) (Nat.zero_le _) (Nat.zero_le _) (Call.mono h (fun r2 M3 h => ?_))
  obtain ⟨v4, rfl, h⟩ := h
  refine r_if_ne (pc := 8) (tgt := 17) dX11_sought_8 (by decide) (fun c5 => ?_) (fun c5 => ?_)
  · replace h := h.1 c5
    refine r_aload_n (pc := 17) (i := 0) dX11_sought_17 rfl rfl ?_
    obtain ⟨k6, h⟩ := h
    refine r_geti (pc := 18) flX11_71 dX11_sought_18 (Or.inl rfl) k6 ?_
    refine r_bipush (pc := 21) (v := 10) dX11_sought_21 (by decide) ?_
    refine r_icmp_lt (pc := 23) (tgt := 32) dX11_sought_23 (by decide) (fun c7 => ?_) (fun c7 => ?_)
    · replace h := h.1 c7
      refine r_aload_n (pc := 32) (i := 0) dX11_sought_32 rfl rfl ?_
      refine r_iload_n (pc := 33) (i := 1) dX11_sought_33 rfl rfl ?_
      refine r_iconst (pc := 34) (v := 1) dX11_sought_34 (by decide) ?_
      refine r_callV (pc := 35) (ci := 11) (as := [_, _]) (st := []) okX11_askedOf lkX11_144 inX11_askedOf seX11_askedOf ⟨_, rfl, rfl⟩ dX11_sought_35 rfl k6 (Nat.le_of_ble_eq_true rfl) (Nat.zero_le _) (Nat.zero_le _) (Call.mono h (fun r8 M9 h => ?_))
      obtain ⟨o10, rfl, h⟩ := h
      cases o10 with
      | none =>
        replace h := h.1 rfl
        refine r_astore_nN (pc := 38) (i := 2) dX11_sought_38 rfl rfl (Nat.le_of_ble_eq_true rfl) ?_
        refine r_aload_nN (pc := 39) (i := 2) dX11_sought_39 rfl rfl ?_
        refine r_ifnonnullN (pc := 40) dX11_sought_40 ?_
        refine r_aload_n (pc := 43) (i := 0) dX11_sought_43 rfl rfl ?_
        refine r_iconst (pc := 44) (v := 3) dX11_sought_44 (by decide) ?_
        obtain ⟨k12, h⟩ := h
        refine r_callV (pc := 45) (ci := 11) (as := [_]) (st := []) okX11_refuse lkX11_91 inX11_refuse seX11_refuse ⟨_, rfl, rfl⟩ dX11_sought_45 rfl k12 (Nat.le_of_ble_eq_true rfl) (Nat.zero_le _) (Nat.zero_le _) (Call.mono h (fun r13 M14 h => ?_))
        obtain ⟨v15, rfl, h⟩ := h
        exact r_iret (pc := 48) dX11_sought_48 rfl h
      | some v11 =>
        replace h := h.2 v11 rfl
        refine r_astore_n (pc := 38) (i := 2) dX11_sought_38 rfl rfl (Nat.le_of_ble_eq_true rfl) ?_
        refine r_aload_n (pc := 39) (i := 2) dX11_sought_39 rfl rfl ?_
        refine r_ifnonnull (pc := 40) (tgt := 49) dX11_sought_40 (by decide) ?_
        refine r_aload_n (pc := 49) (i := 0) dX11_sought_49 rfl rfl ?_
        obtain ⟨k16, h⟩ := h
        obtain ⟨b17, hb17, h⟩ := h
        refine r_getr (pc := 50) flX11_11 dX11_sought_50 rfl k16 hb17 ?_
        refine r_aload_n (pc := 53) (i := 0) dX11_sought_53 rfl rfl ?_
        refine r_geti (pc := 54) flX11_71 dX11_sought_54 (Or.inl rfl) k16 ?_
        obtain ⟨k18, h⟩ := h
        obtain ⟨i19, h⟩ := h
        obtain ⟨b20, hb20, h⟩ := h
        refine r_aald (pc := 57) dX11_sought_57 rfl k18 i19 hb20 ?_
        obtain ⟨k21, h⟩ := h
        obtain ⟨b22, hb22, h⟩ := h
        refine r_getr (pc := 58) flX11_116 dX11_sought_58 rfl k21 hb22 ?_
        refine r_aload_n (pc := 61) (i := 2) dX11_sought_61 rfl rfl ?_
        obtain ⟨k23, h⟩ := h
        refine r_callV (pc := 62) (ci := 1) (as := [_]) (st := []) okX1_become lkX11_148 inX1_become seX1_become ⟨_, rfl, rfl⟩ dX11_sought_62 rfl k23 (Nat.le_of_ble_eq_true rfl) (Nat.zero_le _) (Nat.zero_le _) (Call.mono h (fun r24 M25 h => ?_))
        obtain ⟨rfl, h⟩ := h
        refine r_aload_n (pc := 65) (i := 0) dX11_sought_65 rfl rfl ?_
        refine r_iconst (pc := 66) (v := 4) dX11_sought_66 (by decide) ?_
        refine r_iload_n (pc := 67) (i := 1) dX11_sought_67 rfl rfl ?_
        obtain ⟨k26, h⟩ := h
        refine r_callV (pc := 68) (ci := 11) (as := [_, _]) (st := []) okX11_made lkX11_124 inX11_made seX11_made ⟨_, rfl, rfl⟩ dX11_sought_68 rfl k26 (Nat.le_of_ble_eq_true rfl) (Nat.zero_le _) (Nat.zero_le _) (Call.mono h (fun r27 M28 h => ?_))
        obtain ⟨v29, rfl, h⟩ := h
        exact r_iret (pc := 71) dX11_sought_71 rfl h
    · replace h := h.2 c7
      refine r_aload_n (pc := 26) (i := 0) dX11_sought_26 rfl rfl ?_
      refine r_iconst (pc := 27) (v := 2) dX11_sought_27 (by decide) ?_
      refine r_callV (pc := 28) (ci := 11) (as := [_]) (st := []) okX11_refuse lkX11_91 inX11_refuse seX11_refuse ⟨_, rfl, rfl⟩ dX11_sought_28 rfl k6 (Nat.le_of_ble_eq_true rfl) (Nat.zero_le _) (Nat.zero_le _) (Call.mono h (fun r30 M31 h => ?_))
      obtain ⟨v32, rfl, h⟩ := h
      exact r_iret (pc := 31) dX11_sought_31 rfl h
  · replace h := h.2 c5
    refine r_aload_n (pc := 11) (i := 0) dX11_sought_11 rfl rfl ?_
    refine r_iconst (pc := 12) (v := 1) dX11_sought_12 (by decide) ?_
    obtain ⟨k33, h⟩ := h
    refine r_callV (pc := 13) (ci := 11) (as := [_]) (st := []) okX11_refuse lkX11_91 inX11_refuse seX11_refuse ⟨_, rfl, rfl⟩ dX11_sought_13 rfl k33 (Nat.le_of_ble_eq_true rfl) (Nat.zero_le _) (Nat.zero_le _) (Call.mono h (fun r34 M35 h => ?_))
    obtain ⟨v36, rfl, h⟩ := h
    exact r_iret (pc := 16) dX11_sought_16 rfl h
abbrev LX11_feed_37 (G : GG) (d rc rs : Nat) (p0 : Nat) (x1 : Int32) (l2 : Int64) (x4 : Int32) (M : Mem) (Q : Option Value → Mem → Prop) : Prop := Wk G (d + 1) rc rs mX11_feed 37 [some (.ref p0), some (.int x1), some (.long l2), none, some (.int x4)] [] M Q
theorem eX11_feed {G : GG} {d rc rs : Nat} (o : Nat) (a1 : Int32) (a2 : Int64)  {M : Mem} {Q : Option Value → Mem → Prop} (h : (a1 < 1 → (x_h M o).1 = 27 ∧ Call G d 0 0 mX11_refuse [.ref o, .int 1] M (fun r3 M4 => ∃ v5 : Int32, r3 = some (.int v5) ∧ Q (some (.int v5)) M4)) ∧ (¬ a1 < 1 → (a1 ≤ 8 → (x_h M o).1 = 27 ∧ (((x_i M o 14) + a1) ≤ 120 → LX11_feed_37 G d rc rs o a1 a2 0 M Q) ∧ (¬ ((x_i M o 14) + a1) ≤ 120 → Call G d 0 0 mX11_refuse [.ref o, .int 2] M (fun r9 M10 => ∃ v11 : Int32, r9 = some (.int v11) ∧ Q (some (.int v11)) M10))) ∧ (¬ a1 ≤ 8 → (x_h M o).1 = 27 ∧ Call G d 0 0 mX11_refuse [.ref o, .int 1] M (fun r13 M14 => ∃ v15 : Int32, r13 = some (.int v15) ∧ Q (some (.int v15)) M14)))) : Call G (d + 1) rc rs mX11_feed [.ref o, .int a1, .long a2] M Q := by
  refine call_of (by decide) (Nat.le_of_ble_eq_true rfl) ?_
  show Wk G (d + 1) rc rs mX11_feed 0 [some (.ref o), some (.int a1), some (.long a2), none, none] [] M Q
  refine r_iload_n (pc := 0) (i := 1) dX11_feed_0 rfl rfl ?_
  refine r_iconst (pc := 1) (v := 1) dX11_feed_1 (by decide) ?_
  refine r_icmp_lt (pc := 2) (tgt := 11) dX11_feed_2 (by decide) (fun c1 => ?_) (fun c1 => ?_)
  · replace h := h.1 c1
    refine r_aload_n (pc := 11) (i := 0) dX11_feed_11 rfl rfl ?_
    refine r_iconst (pc := 12) (v := 1) dX11_feed_12 (by decide) ?_
    obtain ⟨k2, h⟩ := h
    refine r_callV (pc := 13) (ci := 11) (as := [_]) (st := []) okX11_refuse lkX11_91 inX11_refuse seX11_refuse ⟨_, rfl, rfl⟩ dX11_feed_13 rfl k2 (Nat.le_of_ble_eq_true rfl) (Nat.zero_le _) (Nat.zero_le _) (Call.mono h (fun r3 M4 h => ?_))
    obtain ⟨v5, rfl, h⟩ := h
    exact r_iret (pc := 16) dX11_feed_16 rfl h
  · replace h := h.2 c1
    refine r_iload_n (pc := 5) (i := 1) dX11_feed_5 rfl rfl ?_
    refine r_bipush (pc := 6) (v := 8) dX11_feed_6 (by decide) ?_
    refine r_icmp_le (pc := 8) (tgt := 17) dX11_feed_8 (by decide) (fun c6 => ?_) (fun c6 => ?_)
    · replace h := h.1 c6
      refine r_aload_n (pc := 17) (i := 0) dX11_feed_17 rfl rfl ?_
      obtain ⟨k7, h⟩ := h
      refine r_geti (pc := 18) flX11_77 dX11_feed_18 (Or.inl rfl) k7 ?_
      refine r_iload_n (pc := 21) (i := 1) dX11_feed_21 rfl rfl ?_
      refine r_iadd (pc := 22) dX11_feed_22 ?_
      refine r_bipush (pc := 23) (v := 120) dX11_feed_23 (by decide) ?_
      refine r_icmp_le (pc := 25) (tgt := 34) dX11_feed_25 (by decide) (fun c8 => ?_) (fun c8 => ?_)
      · replace h := h.1 c8
        refine r_iconst (pc := 34) (v := 0) dX11_feed_34 (by decide) ?_
        refine r_istore (pc := 35) (i := 4) dX11_feed_35 rfl (Nat.le_of_ble_eq_true rfl) ?_
        exact h
      · replace h := h.2 c8
        refine r_aload_n (pc := 28) (i := 0) dX11_feed_28 rfl rfl ?_
        refine r_iconst (pc := 29) (v := 2) dX11_feed_29 (by decide) ?_
        refine r_callV (pc := 30) (ci := 11) (as := [_]) (st := []) okX11_refuse lkX11_91 inX11_refuse seX11_refuse ⟨_, rfl, rfl⟩ dX11_feed_30 rfl k7 (Nat.le_of_ble_eq_true rfl) (Nat.zero_le _) (Nat.zero_le _) (Call.mono h (fun r9 M10 h => ?_))
        obtain ⟨v11, rfl, h⟩ := h
        exact r_iret (pc := 33) dX11_feed_33 rfl h
    · replace h := h.2 c6
      refine r_aload_n (pc := 11) (i := 0) dX11_feed_11 rfl rfl ?_
      refine r_iconst (pc := 12) (v := 1) dX11_feed_12 (by decide) ?_
      obtain ⟨k12, h⟩ := h
      refine r_callV (pc := 13) (ci := 11) (as := [_]) (st := []) okX11_refuse lkX11_91 inX11_refuse seX11_refuse ⟨_, rfl, rfl⟩ dX11_feed_13 rfl k12 (Nat.le_of_ble_eq_true rfl) (Nat.zero_le _) (Nat.zero_le _) (Call.mono h (fun r13 M14 h => ?_))
      obtain ⟨v15, rfl, h⟩ := h
      exact r_iret (pc := 16) dX11_feed_16 rfl h
theorem vX11_feed_37 {G : GG} {d rc rs : Nat} (p0 : Nat) (x1 : Int32) (l2 : Int64) (x4 : Int32)  {M : Mem} {Q : Option Value → Mem → Prop} (h : (x1 ≤ x4 → (x_h M p0).1 = 27 ∧ (∀ M3, M3 = x_si M p0 14 ((x_i M p0 14) + x1) → Call G d 0 0 mX11_done [.ref p0, .int (x_i M3 p0 14)] M3 (fun r4 M5 => ∃ v6 : Int32, r4 = some (.int v6) ∧ Q (some (.int v6)) M5))) ∧ (¬ x1 ≤ x4 → (x_h M p0).1 = 27 ∧ (∃ b8, x_r M p0 2 = some b8 ∧ (x_h M b8).1 = 1 ∧ vp_in ((x_i M p0 14) + x4) (x_h M b8).2 ∧ (∀ M11, M11 = x_si M b8 ((x_i M p0 14) + x4).toNatClampNeg ((((l2.toUInt64 >>> ((8 * x4).toInt64.toUInt64 &&& Int64.toUInt64 63)).toInt64).toInt32) &&& 255) → LX11_feed_37 G d rc rs p0 x1 l2 (x4 + 1) M11 Q)))) : LX11_feed_37 G d rc rs p0 x1 l2 x4 M Q := by
  show Wk G (d + 1) rc rs mX11_feed 37 _ _ M Q
  refine r_iload (pc := 37) (i := 4) dX11_feed_37 rfl ?_
  refine r_iload_n (pc := 39) (i := 1) dX11_feed_39 rfl rfl ?_
  refine r_icmp_ge (pc := 40) (tgt := 73) dX11_feed_40 (by decide) (fun c1 => ?_) (fun c1 => ?_)
  · replace h := h.1 c1
    refine r_aload_n (pc := 73) (i := 0) dX11_feed_73 rfl rfl ?_
    refine r_dup (pc := 74) dX11_feed_74 rfl ?_
    obtain ⟨k2, h⟩ := h
    refine r_geti (pc := 75) flX11_77 dX11_feed_75 (Or.inl rfl) k2 ?_
    refine r_iload_n (pc := 78) (i := 1) dX11_feed_78 rfl rfl ?_
    refine r_iadd (pc := 79) dX11_feed_79 ?_
    refine r_puti (pc := 80) flX11_77 dX11_feed_80 (Or.inl rfl) (fun q hq => by cases hq; rfl) k2 ?_
    replace h := h _ rfl
    refine r_aload_n (pc := 83) (i := 0) dX11_feed_83 rfl rfl ?_
    refine r_aload_n (pc := 84) (i := 0) dX11_feed_84 rfl rfl ?_
    refine r_geti (pc := 85) flX11_77 dX11_feed_85 (Or.inl rfl) k2 ?_
    refine r_callV (pc := 88) (ci := 11) (as := [_]) (st := []) okX11_done lkX11_95 inX11_done seX11_done ⟨_, rfl, rfl⟩ dX11_feed_88 rfl k2 (Nat.le_of_ble_eq_true rfl) (Nat.zero_le _) (Nat.zero_le _) (Call.mono h (fun r4 M5 h => ?_))
    obtain ⟨v6, rfl, h⟩ := h
    exact r_iret (pc := 91) dX11_feed_91 rfl h
  · replace h := h.2 c1
    refine r_aload_n (pc := 43) (i := 0) dX11_feed_43 rfl rfl ?_
    obtain ⟨k7, h⟩ := h
    obtain ⟨b8, hb8, h⟩ := h
    refine r_getr (pc := 44) flX11_21 dX11_feed_44 rfl k7 hb8 ?_
    refine r_aload_n (pc := 47) (i := 0) dX11_feed_47 rfl rfl ?_
    refine r_geti (pc := 48) flX11_77 dX11_feed_48 (Or.inl rfl) k7 ?_
    refine r_iload (pc := 51) (i := 4) dX11_feed_51 rfl ?_
    refine r_iadd (pc := 53) dX11_feed_53 ?_
    refine r_lload_n (pc := 54) (i := 2) dX11_feed_54 rfl rfl ?_
    refine r_bipush (pc := 55) (v := 8) dX11_feed_55 (by decide) ?_
    refine r_iload (pc := 57) (i := 4) dX11_feed_57 rfl ?_
    refine r_imul (pc := 59) dX11_feed_59 ?_
    refine r_lushr (pc := 60) dX11_feed_60 ?_
    refine r_l2i (pc := 61) dX11_feed_61 ?_
    refine r_sipush (pc := 62) (v := 255) dX11_feed_62 (by decide) ?_
    refine r_iand (pc := 65) dX11_feed_65 ?_
    obtain ⟨k9, h⟩ := h
    obtain ⟨i10, h⟩ := h
    refine r_iast (pc := 66) dX11_feed_66 k9 i10 ?_
    replace h := h _ rfl
    refine r_iinc (pc := 67) (i := 4) (v := _ + 1) dX11_feed_67 rfl rfl rfl ?_
    refine r_goto (pc := 70) (tgt := 37) dX11_feed_70 (by decide) ?_
    exact h
theorem eX11_question {G : GG} {d rc rs : Nat} (o : Nat)  {M : Mem} {Q : Option Value → Mem → Prop} (h : (x_h M o).1 = 27 ∧ (∀ M2, M2 = x_si M o 14 0 → ((x_i M2 o 13) < 10 → ∃ b4, x_r M2 o 1 = some b4 ∧ (4 ≤ (x_h M b4).1 ∧ (x_h M b4).1 < 8) ∧ vp_in (x_i M2 o 13) (x_h M b4).2 ∧ (∃ b7, x_r M2 b4 (x_i M2 o 13).toNatClampNeg = some b7 ∧ ∃ b8, x_r M2 o 7 = some b8 ∧ ∃ b9, x_r M2 o 2 = some b9 ∧ ∃ b10, x_r M2 o 0 = some b10 ∧ (x_h M b8).1 = 21 ∧ Call G d 0 0 mX5_readText [.ref b8, .ref b9, .int (x_i M o 14), .ref b10, .int (x_i M2 o 12), .ref b7] M2 (fun r12 M13 => r12 = none ∧ (x_h M13 b7).1 = 20 ∧ (¬ (x_i M13 b7 1) = 0 → (x_h M13 o).1 = 27 ∧ (∀ M17, M17 = x_si M13 o 13 ((x_i M13 o 13) + 1) → Call G d 0 0 mX11_done [.ref o, .int ((x_i M17 o 13) - 1)] M17 (fun r18 M19 => ∃ v20 : Int32, r18 = some (.int v20) ∧ Q (some (.int v20)) M19))) ∧ ((x_i M13 b7 1) = 0 → (x_h M13 o).1 = 27 ∧ (∃ b22, x_r M13 o 8 = some b22 ∧ ∃ b23, x_r M13 o 7 = some b23 ∧ (x_h M13 b23).1 = 21 ∧ (∃ b25, x_r M13 b23 1 = some b25 ∧ ∃ b26, x_r M13 o 0 = some b26 ∧ (x_h M13 b22).1 = 26 ∧ Call G d 0 0 mX10_decide [.ref b22, .ref b25, .ref b7, .ref b26, .int (x_i M13 o 12), .int (x_i M13 o 11)] M13 (fun r28 M29 => r28 = none ∧ (x_h M29 o).1 = 27 ∧ (∀ M31, M31 = x_si M29 o 13 ((x_i M29 o 13) + 1) → Call G d 0 0 mX11_done [.ref o, .int ((x_i M31 o 13) - 1)] M31 (fun r32 M33 => ∃ v34 : Int32, r32 = some (.int v34) ∧ Q (some (.int v34)) M33))))))))) ∧ (¬ (x_i M2 o 13) < 10 → Call G d 0 0 mX11_refuse [.ref o, .int 2] M2 (fun r35 M36 => ∃ v37 : Int32, r35 = some (.int v37) ∧ Q (some (.int v37)) M36)))) : Call G (d + 1) rc rs mX11_question [.ref o] M Q := by
  refine call_of (by decide) (Nat.le_of_ble_eq_true rfl) ?_
  show Wk G (d + 1) rc rs mX11_question 0 [some (.ref o), none, none] [] M Q
  refine r_aload_n (pc := 0) (i := 0) dX11_question_0 rfl rfl ?_
  obtain ⟨k1, h⟩ := h
  refine r_geti (pc := 1) flX11_77 dX11_question_1 (Or.inl rfl) k1 ?_
  refine r_istore_n (pc := 4) (i := 1) dX11_question_4 rfl rfl (Nat.le_of_ble_eq_true rfl) ?_
  refine r_aload_n (pc := 5) (i := 0) dX11_question_5 rfl rfl ?_
  refine r_iconst (pc := 6) (v := 0) dX11_question_6 (by decide) ?_
  refine r_puti (pc := 7) flX11_77 dX11_question_7 (Or.inl rfl) (fun q hq => by cases hq; rfl) k1 ?_
  replace h := h _ rfl
  refine r_aload_n (pc := 10) (i := 0) dX11_question_10 rfl rfl ?_
  refine r_geti (pc := 11) flX11_74 dX11_question_11 (Or.inl rfl) k1 ?_
  refine r_bipush (pc := 14) (v := 10) dX11_question_14 (by decide) ?_
  refine r_icmp_lt (pc := 16) (tgt := 25) dX11_question_16 (by decide) (fun c3 => ?_) (fun c3 => ?_)
  · replace h := h.1 c3
    refine r_aload_n (pc := 25) (i := 0) dX11_question_25 rfl rfl ?_
    obtain ⟨b4, hb4, h⟩ := h
    refine r_getr (pc := 26) flX11_17 dX11_question_26 rfl k1 hb4 ?_
    refine r_aload_n (pc := 29) (i := 0) dX11_question_29 rfl rfl ?_
    refine r_geti (pc := 30) flX11_74 dX11_question_30 (Or.inl rfl) k1 ?_
    obtain ⟨k5, h⟩ := h
    obtain ⟨i6, h⟩ := h
    obtain ⟨b7, hb7, h⟩ := h
    refine r_aald (pc := 33) dX11_question_33 rfl k5 i6 hb7 ?_
    refine r_astore_n (pc := 34) (i := 2) dX11_question_34 rfl rfl (Nat.le_of_ble_eq_true rfl) ?_
    refine r_aload_n (pc := 35) (i := 0) dX11_question_35 rfl rfl ?_
    obtain ⟨b8, hb8, h⟩ := h
    refine r_getr (pc := 36) flX11_42 dX11_question_36 rfl k1 hb8 ?_
    refine r_aload_n (pc := 39) (i := 0) dX11_question_39 rfl rfl ?_
    obtain ⟨b9, hb9, h⟩ := h
    refine r_getr (pc := 40) flX11_21 dX11_question_40 rfl k1 hb9 ?_
    refine r_iload_n (pc := 43) (i := 1) dX11_question_43 rfl rfl ?_
    refine r_aload_n (pc := 44) (i := 0) dX11_question_44 rfl rfl ?_
    obtain ⟨b10, hb10, h⟩ := h
    refine r_getr (pc := 45) flX11_11 dX11_question_45 rfl k1 hb10 ?_
    refine r_aload_n (pc := 48) (i := 0) dX11_question_48 rfl rfl ?_
    refine r_geti (pc := 49) flX11_71 dX11_question_49 (Or.inl rfl) k1 ?_
    refine r_aload_n (pc := 52) (i := 2) dX11_question_52 rfl rfl ?_
    obtain ⟨k11, h⟩ := h
    refine r_callV (pc := 53) (ci := 5) (as := [_, _, _, _, _]) (st := []) okX5_readText lkX11_154 inX5_readText seX5_readText ⟨_, rfl, rfl⟩ dX11_question_53 rfl k11 (Nat.le_of_ble_eq_true rfl) (Nat.zero_le _) (Nat.zero_le _) (Call.mono h (fun r12 M13 h => ?_))
    obtain ⟨rfl, h⟩ := h
    refine r_aload_n (pc := 56) (i := 2) dX11_question_56 rfl rfl ?_
    obtain ⟨k14, h⟩ := h
    refine r_geti (pc := 57) flX11_158 dX11_question_57 (Or.inl rfl) k14 ?_
    refine r_if_ne (pc := 60) (tgt := 90) dX11_question_60 (by decide) (fun c15 => ?_) (fun c15 => ?_)
    · replace h := h.1 c15
      refine r_aload_n (pc := 90) (i := 0) dX11_question_90 rfl rfl ?_
      refine r_dup (pc := 91) dX11_question_91 rfl ?_
      obtain ⟨k16, h⟩ := h
      refine r_geti (pc := 92) flX11_74 dX11_question_92 (Or.inl rfl) k16 ?_
      refine r_iconst (pc := 95) (v := 1) dX11_question_95 (by decide) ?_
      refine r_iadd (pc := 96) dX11_question_96 ?_
      refine r_puti (pc := 97) flX11_74 dX11_question_97 (Or.inl rfl) (fun q hq => by cases hq; rfl) k16 ?_
      replace h := h _ rfl
      refine r_aload_n (pc := 100) (i := 0) dX11_question_100 rfl rfl ?_
      refine r_aload_n (pc := 101) (i := 0) dX11_question_101 rfl rfl ?_
      refine r_geti (pc := 102) flX11_74 dX11_question_102 (Or.inl rfl) k16 ?_
      refine r_iconst (pc := 105) (v := 1) dX11_question_105 (by decide) ?_
      refine r_isub (pc := 106) dX11_question_106 ?_
      refine r_callV (pc := 107) (ci := 11) (as := [_]) (st := []) okX11_done lkX11_95 inX11_done seX11_done ⟨_, rfl, rfl⟩ dX11_question_107 rfl k16 (Nat.le_of_ble_eq_true rfl) (Nat.zero_le _) (Nat.zero_le _) (Call.mono h (fun r18 M19 h => ?_))
      obtain ⟨v20, rfl, h⟩ := h
      exact r_iret (pc := 110) dX11_question_110 rfl h
    · replace h := h.2 c15
      refine r_aload_n (pc := 63) (i := 0) dX11_question_63 rfl rfl ?_
      obtain ⟨k21, h⟩ := h
      obtain ⟨b22, hb22, h⟩ := h
      refine r_getr (pc := 64) flX11_49 dX11_question_64 rfl k21 hb22 ?_
      refine r_aload_n (pc := 67) (i := 0) dX11_question_67 rfl rfl ?_
      obtain ⟨b23, hb23, h⟩ := h
      refine r_getr (pc := 68) flX11_42 dX11_question_68 rfl k21 hb23 ?_
      obtain ⟨k24, h⟩ := h
      obtain ⟨b25, hb25, h⟩ := h
      refine r_getr (pc := 71) flX11_161 dX11_question_71 rfl k24 hb25 ?_
      refine r_aload_n (pc := 74) (i := 2) dX11_question_74 rfl rfl ?_
      refine r_aload_n (pc := 75) (i := 0) dX11_question_75 rfl rfl ?_
      obtain ⟨b26, hb26, h⟩ := h
      refine r_getr (pc := 76) flX11_11 dX11_question_76 rfl k21 hb26 ?_
      refine r_aload_n (pc := 79) (i := 0) dX11_question_79 rfl rfl ?_
      refine r_geti (pc := 80) flX11_71 dX11_question_80 (Or.inl rfl) k21 ?_
      refine r_aload_n (pc := 83) (i := 0) dX11_question_83 rfl rfl ?_
      refine r_geti (pc := 84) flX11_67 dX11_question_84 (Or.inl rfl) k21 ?_
      obtain ⟨k27, h⟩ := h
      refine r_callV (pc := 87) (ci := 10) (as := [_, _, _, _, _]) (st := []) okX10_decide lkX11_165 inX10_decide seX10_decide ⟨_, rfl, rfl⟩ dX11_question_87 rfl k27 (Nat.le_of_ble_eq_true rfl) (Nat.zero_le _) (Nat.zero_le _) (Call.mono h (fun r28 M29 h => ?_))
      obtain ⟨rfl, h⟩ := h
      refine r_aload_n (pc := 90) (i := 0) dX11_question_90 rfl rfl ?_
      refine r_dup (pc := 91) dX11_question_91 rfl ?_
      obtain ⟨k30, h⟩ := h
      refine r_geti (pc := 92) flX11_74 dX11_question_92 (Or.inl rfl) k30 ?_
      refine r_iconst (pc := 95) (v := 1) dX11_question_95 (by decide) ?_
      refine r_iadd (pc := 96) dX11_question_96 ?_
      refine r_puti (pc := 97) flX11_74 dX11_question_97 (Or.inl rfl) (fun q hq => by cases hq; rfl) k30 ?_
      replace h := h _ rfl
      refine r_aload_n (pc := 100) (i := 0) dX11_question_100 rfl rfl ?_
      refine r_aload_n (pc := 101) (i := 0) dX11_question_101 rfl rfl ?_
      refine r_geti (pc := 102) flX11_74 dX11_question_102 (Or.inl rfl) k30 ?_
      refine r_iconst (pc := 105) (v := 1) dX11_question_105 (by decide) ?_
      refine r_isub (pc := 106) dX11_question_106 ?_
      refine r_callV (pc := 107) (ci := 11) (as := [_]) (st := []) okX11_done lkX11_95 inX11_done seX11_done ⟨_, rfl, rfl⟩ dX11_question_107 rfl k30 (Nat.le_of_ble_eq_true rfl) (Nat.zero_le _) (Nat.zero_le _) (Call.mono h (fun r32 M33 h => ?_))
      obtain ⟨v34, rfl, h⟩ := h
      exact r_iret (pc := 110) dX11_question_110 rfl h
  · replace h := h.2 c3
    refine r_aload_n (pc := 19) (i := 0) dX11_question_19 rfl rfl ?_
    refine r_iconst (pc := 20) (v := 2) dX11_question_20 (by decide) ?_
    refine r_callV (pc := 21) (ci := 11) (as := [_]) (st := []) okX11_refuse lkX11_91 inX11_refuse seX11_refuse ⟨_, rfl, rfl⟩ dX11_question_21 rfl k1 (Nat.le_of_ble_eq_true rfl) (Nat.zero_le _) (Nat.zero_le _) (Call.mono h (fun r35 M36 h => ?_))
    obtain ⟨v37, rfl, h⟩ := h
    exact r_iret (pc := 24) dX11_question_24 rfl h
theorem eX11_drop {G : GG} {d rc rs : Nat} (o : Nat) (a1 : Int32)  {M : Mem} {Q : Option Value → Mem → Prop} (h : (¬ a1 = 0 → (¬ a1 = 1 → (x_h M o).1 = 27 ∧ Call G d 0 0 mX11_refuse [.ref o, .int 1] M (fun r4 M5 => ∃ v6 : Int32, r4 = some (.int v6) ∧ Q (some (.int v6)) M5)) ∧ (a1 = 1 → (x_h M o).1 = 27 ∧ Call G d 0 0 mX11_dropQuestion [.ref o] M (fun r8 M9 => ∃ v10 : Int32, r8 = some (.int v10) ∧ Q (some (.int v10)) M9))) ∧ (a1 = 0 → (x_h M o).1 = 27 ∧ Call G d 0 0 mX11_dropRow [.ref o] M (fun r12 M13 => ∃ v14 : Int32, r12 = some (.int v14) ∧ Q (some (.int v14)) M13))) : Call G (d + 1) rc rs mX11_drop [.ref o, .int a1] M Q := by
  refine call_of (by decide) (Nat.le_of_ble_eq_true rfl) ?_
  show Wk G (d + 1) rc rs mX11_drop 0 [some (.ref o), some (.int a1)] [] M Q
  refine r_iload_n (pc := 0) (i := 1) dX11_drop_0 rfl rfl ?_
  refine r_if_ne (pc := 1) (tgt := 9) dX11_drop_1 (by decide) (fun c1 => ?_) (fun c1 => ?_)
  · replace h := h.1 c1
    refine r_iload_n (pc := 9) (i := 1) dX11_drop_9 rfl rfl ?_
    refine r_iconst (pc := 10) (v := 1) dX11_drop_10 (by decide) ?_
    refine r_icmp_ne (pc := 11) (tgt := 21) dX11_drop_11 (by decide) (fun c2 => ?_) (fun c2 => ?_)
    · replace h := h.1 c2
      refine r_aload_n (pc := 21) (i := 0) dX11_drop_21 rfl rfl ?_
      refine r_iconst (pc := 22) (v := 1) dX11_drop_22 (by decide) ?_
      obtain ⟨k3, h⟩ := h
      refine r_callV (pc := 23) (ci := 11) (as := [_]) (st := []) okX11_refuse lkX11_91 inX11_refuse seX11_refuse ⟨_, rfl, rfl⟩ dX11_drop_23 rfl k3 (Nat.le_of_ble_eq_true rfl) (Nat.zero_le _) (Nat.zero_le _) (Call.mono h (fun r4 M5 h => ?_))
      obtain ⟨v6, rfl, h⟩ := h
      exact r_iret (pc := 26) dX11_drop_26 rfl h
    · replace h := h.2 c2
      refine r_aload_n (pc := 14) (i := 0) dX11_drop_14 rfl rfl ?_
      obtain ⟨k7, h⟩ := h
      refine r_callV (pc := 15) (ci := 11) (as := []) (st := []) okX11_dropQuestion lkX11_173 inX11_dropQuestion seX11_dropQuestion ⟨_, rfl, rfl⟩ dX11_drop_15 rfl k7 (Nat.le_of_ble_eq_true rfl) (Nat.zero_le _) (Nat.zero_le _) (Call.mono h (fun r8 M9 h => ?_))
      obtain ⟨v10, rfl, h⟩ := h
      refine r_goto (pc := 18) (tgt := 26) dX11_drop_18 (by decide) ?_
      exact r_iret (pc := 26) dX11_drop_26 rfl h
  · replace h := h.2 c1
    refine r_aload_n (pc := 4) (i := 0) dX11_drop_4 rfl rfl ?_
    obtain ⟨k11, h⟩ := h
    refine r_callV (pc := 5) (ci := 11) (as := []) (st := []) okX11_dropRow lkX11_169 inX11_dropRow seX11_dropRow ⟨_, rfl, rfl⟩ dX11_drop_5 rfl k11 (Nat.le_of_ble_eq_true rfl) (Nat.zero_le _) (Nat.zero_le _) (Call.mono h (fun r12 M13 h => ?_))
    obtain ⟨v14, rfl, h⟩ := h
    exact r_iret (pc := 8) dX11_drop_8 rfl h
theorem eX11_count {G : GG} {d rc rs : Nat} (o : Nat) (a1 : Int32)  {M : Mem} {Q : Option Value → Mem → Prop} (h : (a1 = 0 → (x_h M o).1 = 27 ∧ Q (some (.int (x_i M o 12))) M) ∧ (a1 = 1 → (x_h M o).1 = 27 ∧ Q (some (.int (x_i M o 13))) M) ∧ (a1 = 2 → (x_h M o).1 = 27 ∧ Q (some (.int (x_i M o 14))) M) ∧ (a1 = 3 → (x_h M o).1 = 27 ∧ Q (some (.int (x_i M o 11))) M) ∧ (a1 = 4 → (x_h M o).1 = 27 ∧ (∃ b11, x_r M o 10 = some b11 ∧ (x_h M b11).1 = 16 ∧ Q (some (.int (x_i M b11 1))) M)) ∧ (¬ a1 = 0 ∧ ¬ a1 = 1 ∧ ¬ a1 = 2 ∧ ¬ a1 = 3 ∧ ¬ a1 = 4 → Q (some (.int (-1))) M)) : Call G (d + 1) rc rs mX11_count [.ref o, .int a1] M Q := by
  refine call_of (by decide) (Nat.le_of_ble_eq_true rfl) ?_
  show Wk G (d + 1) rc rs mX11_count 0 [some (.ref o), some (.int a1)] [] M Q
  refine r_iload_n (pc := 0) (i := 1) dX11_count_0 rfl rfl ?_
  refine dite (a1 = 0) (fun c1 => ?_) (fun c1 => ?_)
  · replace h := h.1 c1
    refine r_tabIn (pc := 1) (tgt := 36) dX11_count_1 (by rw [c1]; decide) (by rw [c1]; decide) (by rw [c1]; rfl) (by decide) ?_
    refine r_aload_n (pc := 36) (i := 0) dX11_count_36 rfl rfl ?_
    obtain ⟨k2, h⟩ := h
    refine r_geti (pc := 37) flX11_71 dX11_count_37 (Or.inl rfl) k2 ?_
    exact r_iret (pc := 40) dX11_count_40 rfl h
  refine dite (a1 = 1) (fun c3 => ?_) (fun c3 => ?_)
  · replace h := h.2.1 c3
    refine r_tabIn (pc := 1) (tgt := 41) dX11_count_1 (by rw [c3]; decide) (by rw [c3]; decide) (by rw [c3]; rfl) (by decide) ?_
    refine r_aload_n (pc := 41) (i := 0) dX11_count_41 rfl rfl ?_
    obtain ⟨k4, h⟩ := h
    refine r_geti (pc := 42) flX11_74 dX11_count_42 (Or.inl rfl) k4 ?_
    exact r_iret (pc := 45) dX11_count_45 rfl h
  refine dite (a1 = 2) (fun c5 => ?_) (fun c5 => ?_)
  · replace h := h.2.2.1 c5
    refine r_tabIn (pc := 1) (tgt := 46) dX11_count_1 (by rw [c5]; decide) (by rw [c5]; decide) (by rw [c5]; rfl) (by decide) ?_
    refine r_aload_n (pc := 46) (i := 0) dX11_count_46 rfl rfl ?_
    obtain ⟨k6, h⟩ := h
    refine r_geti (pc := 47) flX11_77 dX11_count_47 (Or.inl rfl) k6 ?_
    exact r_iret (pc := 50) dX11_count_50 rfl h
  refine dite (a1 = 3) (fun c7 => ?_) (fun c7 => ?_)
  · replace h := h.2.2.2.1 c7
    refine r_tabIn (pc := 1) (tgt := 51) dX11_count_1 (by rw [c7]; decide) (by rw [c7]; decide) (by rw [c7]; rfl) (by decide) ?_
    refine r_aload_n (pc := 51) (i := 0) dX11_count_51 rfl rfl ?_
    obtain ⟨k8, h⟩ := h
    refine r_geti (pc := 52) flX11_67 dX11_count_52 (Or.inl rfl) k8 ?_
    exact r_iret (pc := 55) dX11_count_55 rfl h
  refine dite (a1 = 4) (fun c9 => ?_) (fun c9 => ?_)
  · replace h := h.2.2.2.2.1 c9
    refine r_tabIn (pc := 1) (tgt := 56) dX11_count_1 (by rw [c9]; decide) (by rw [c9]; decide) (by rw [c9]; rfl) (by decide) ?_
    refine r_aload_n (pc := 56) (i := 0) dX11_count_56 rfl rfl ?_
    obtain ⟨k10, h⟩ := h
    obtain ⟨b11, hb11, h⟩ := h
    refine r_getr (pc := 57) flX11_63 dX11_count_57 rfl k10 hb11 ?_
    obtain ⟨k12, h⟩ := h
    refine r_geti (pc := 60) flX11_176 dX11_count_60 (Or.inl rfl) k12 ?_
    exact r_iret (pc := 63) dX11_count_63 rfl h
  replace h := h.2.2.2.2.2 ⟨c1, c3, c5, c7, c9⟩
  refine r_tabOut (pc := 1) (tgt := 64) dX11_count_1 (by have tc1 : ¬ Int32.toInt _ = 0 := sw_ne c1; have tc3 : ¬ Int32.toInt _ = 1 := sw_ne c3; have tc5 : ¬ Int32.toInt _ = 2 := sw_ne c5; have tc7 : ¬ Int32.toInt _ = 3 := sw_ne c7; have tc9 : ¬ Int32.toInt _ = 4 := sw_ne c9; omega) (by decide) ?_
  refine r_iconst (pc := 64) (v := (-1)) dX11_count_64 (by decide) ?_
  exact r_iret (pc := 65) dX11_count_65 rfl h
theorem eX11_kind {G : GG} {d rc rs : Nat} (o : Nat) (a1 : Int32)  {M : Mem} {Q : Option Value → Mem → Prop} (h : (x_h M o).1 = 27 ∧ Call G d 0 0 mX11_within [.int a1, .int (x_i M o 12)] M (fun r2 M3 => ∃ v4 : Int32, r2 = some (.int v4) ∧ (v4 = 0 → Q (some (.int (-1))) M3) ∧ (¬ v4 = 0 → (x_h M3 o).1 = 27 ∧ (∃ b7, x_r M3 o 0 = some b7 ∧ (4 ≤ (x_h M3 b7).1 ∧ (x_h M3 b7).1 < 8) ∧ vp_in a1 (x_h M3 b7).2 ∧ (∃ b10, x_r M3 b7 a1.toNatClampNeg = some b10 ∧ (x_h M3 b10).1 = 23 ∧ Q (some (.int (x_i M3 b10 1))) M3))))) : Call G (d + 1) rc rs mX11_kind [.ref o, .int a1] M Q := by
  refine call_of (by decide) (Nat.le_of_ble_eq_true rfl) ?_
  show Wk G (d + 1) rc rs mX11_kind 0 [some (.ref o), some (.int a1)] [] M Q
  refine r_iload_n (pc := 0) (i := 1) dX11_kind_0 rfl rfl ?_
  refine r_aload_n (pc := 1) (i := 0) dX11_kind_1 rfl rfl ?_
  obtain ⟨k1, h⟩ := h
  refine r_geti (pc := 2) flX11_71 dX11_kind_2 (Or.inl rfl) k1 ?_
  refine r_callS (pc := 5) (as := [_, _]) (st := []) okX11_within lkX11_98 stX11_within dX11_kind_5 rfl (Nat.le_of_ble_eq_true rfl) (Nat.zero_le _) (Nat.zero_le _) (Call.mono h (fun r2 M3 h => ?_))
  obtain ⟨v4, rfl, h⟩ := h
  refine r_if_eq (pc := 8) (tgt := 23) dX11_kind_8 (by decide) (fun c5 => ?_) (fun c5 => ?_)
  · replace h := h.1 c5
    refine r_iconst (pc := 23) (v := (-1)) dX11_kind_23 (by decide) ?_
    exact r_iret (pc := 24) dX11_kind_24 rfl h
  · replace h := h.2 c5
    refine r_aload_n (pc := 11) (i := 0) dX11_kind_11 rfl rfl ?_
    obtain ⟨k6, h⟩ := h
    obtain ⟨b7, hb7, h⟩ := h
    refine r_getr (pc := 12) flX11_11 dX11_kind_12 rfl k6 hb7 ?_
    refine r_iload_n (pc := 15) (i := 1) dX11_kind_15 rfl rfl ?_
    obtain ⟨k8, h⟩ := h
    obtain ⟨i9, h⟩ := h
    obtain ⟨b10, hb10, h⟩ := h
    refine r_aald (pc := 16) dX11_kind_16 rfl k8 i9 hb10 ?_
    obtain ⟨k11, h⟩ := h
    refine r_geti (pc := 17) flX11_179 dX11_kind_17 (Or.inl rfl) k11 ?_
    refine r_goto (pc := 20) (tgt := 24) dX11_kind_20 (by decide) ?_
    exact r_iret (pc := 24) dX11_kind_24 rfl h
theorem eX11_letter {G : GG} {d rc rs : Nat} (o : Nat) (a1 : Int32) (a2 : Int64)  {M : Mem} {Q : Option Value → Mem → Prop} (h : (x_h M o).1 = 27 ∧ Call G d 0 0 mX11_within [.int a1, .int (x_i M o 12)] M (fun r2 M3 => ∃ v4 : Int32, r2 = some (.int v4) ∧ (v4 = 0 → Q (some (.int (-1))) M3) ∧ (¬ v4 = 0 → ((lg_cmp a2 0) < 0 → Q (some (.int (-1))) M3) ∧ (¬ (lg_cmp a2 0) < 0 → ((lg_cmp a2 4611686018427387904) ≤ 0 → (x_h M3 o).1 = 27 ∧ (∃ b9, x_r M3 o 0 = some b9 ∧ (4 ≤ (x_h M3 b9).1 ∧ (x_h M3 b9).1 < 8) ∧ vp_in a1 (x_h M3 b9).2 ∧ (∃ b12, x_r M3 b9 a1.toNatClampNeg = some b12 ∧ (x_h M3 b12).1 = 23 ∧ (∃ b14, x_r M3 b12 0 = some b14 ∧ (x_h M3 b14).1 = 17 ∧ Call G d 0 0 mX1_reads [.ref b14, .long a2, .int (x_i M3 o 11)] M3 (fun r16 M17 => ∃ v18 : Int32, r16 = some (.int v18) ∧ (x_h M17 b14).1 = 17 ∧ Call G d 0 0 mX1_mark [.ref b14, .int v18] M17 (fun r20 M21 => ∃ v22 : Int32, r20 = some (.int v22) ∧ Q (some (.int v22)) M21)))))) ∧ (¬ (lg_cmp a2 4611686018427387904) ≤ 0 → Q (some (.int (-1))) M3))))) : Call G (d + 1) rc rs mX11_letter [.ref o, .int a1, .long a2] M Q := by
  refine call_of (by decide) (Nat.le_of_ble_eq_true rfl) ?_
  show Wk G (d + 1) rc rs mX11_letter 0 [some (.ref o), some (.int a1), some (.long a2), none, none] [] M Q
  refine r_iload_n (pc := 0) (i := 1) dX11_letter_0 rfl rfl ?_
  refine r_aload_n (pc := 1) (i := 0) dX11_letter_1 rfl rfl ?_
  obtain ⟨k1, h⟩ := h
  refine r_geti (pc := 2) flX11_71 dX11_letter_2 (Or.inl rfl) k1 ?_
  refine r_callS (pc := 5) (as := [_, _]) (st := []) okX11_within lkX11_98 stX11_within dX11_letter_5 rfl (Nat.le_of_ble_eq_true rfl) (Nat.zero_le _) (Nat.zero_le _) (Call.mono h (fun r2 M3 h => ?_))
  obtain ⟨v4, rfl, h⟩ := h
  refine r_if_eq (pc := 8) (tgt := 25) dX11_letter_8 (by decide) (fun c5 => ?_) (fun c5 => ?_)
  · replace h := h.1 c5
    refine r_iconst (pc := 25) (v := (-1)) dX11_letter_25 (by decide) ?_
    exact r_iret (pc := 26) dX11_letter_26 rfl h
  · replace h := h.2 c5
    refine r_lload_n (pc := 11) (i := 2) dX11_letter_11 rfl rfl ?_
    refine r_lconst (pc := 12) (v := 0) dX11_letter_12 (by decide) ?_
    refine r_lcmp (pc := 13) dX11_letter_13 ?_
    refine r_if_lt (pc := 14) (tgt := 25) dX11_letter_14 (by decide) (fun c6 => ?_) (fun c6 => ?_)
    · replace h := h.1 c6
      refine r_iconst (pc := 25) (v := (-1)) dX11_letter_25 (by decide) ?_
      exact r_iret (pc := 26) dX11_letter_26 rfl h
    · replace h := h.2 c6
      refine r_lload_n (pc := 17) (i := 2) dX11_letter_17 rfl rfl ?_
      refine r_ldc2 (pc := 18) (v := 4611686018427387904) dX11_letter_18 ww_995 ?_
      refine r_lcmp (pc := 21) dX11_letter_21 ?_
      refine r_if_le (pc := 22) (tgt := 27) dX11_letter_22 (by decide) (fun c7 => ?_) (fun c7 => ?_)
      · replace h := h.1 c7
        refine r_aload_n (pc := 27) (i := 0) dX11_letter_27 rfl rfl ?_
        obtain ⟨k8, h⟩ := h
        obtain ⟨b9, hb9, h⟩ := h
        refine r_getr (pc := 28) flX11_11 dX11_letter_28 rfl k8 hb9 ?_
        refine r_iload_n (pc := 31) (i := 1) dX11_letter_31 rfl rfl ?_
        obtain ⟨k10, h⟩ := h
        obtain ⟨i11, h⟩ := h
        obtain ⟨b12, hb12, h⟩ := h
        refine r_aald (pc := 32) dX11_letter_32 rfl k10 i11 hb12 ?_
        obtain ⟨k13, h⟩ := h
        obtain ⟨b14, hb14, h⟩ := h
        refine r_getr (pc := 33) flX11_116 dX11_letter_33 rfl k13 hb14 ?_
        refine r_astore (pc := 36) (i := 4) dX11_letter_36 rfl (Nat.le_of_ble_eq_true rfl) ?_
        refine r_aload (pc := 38) (i := 4) dX11_letter_38 rfl ?_
        refine r_aload (pc := 40) (i := 4) dX11_letter_40 rfl ?_
        refine r_lload_n (pc := 42) (i := 2) dX11_letter_42 rfl rfl ?_
        refine r_aload_n (pc := 43) (i := 0) dX11_letter_43 rfl rfl ?_
        refine r_geti (pc := 44) flX11_67 dX11_letter_44 (Or.inl rfl) k8 ?_
        obtain ⟨k15, h⟩ := h
        refine r_callV (pc := 47) (ci := 1) (as := [_, _]) (st := [_]) okX1_reads lkX11_184 inX1_reads seX1_reads ⟨_, rfl, rfl⟩ dX11_letter_47 rfl k15 (Nat.le_of_ble_eq_true rfl) (Nat.zero_le _) (Nat.zero_le _) (Call.mono h (fun r16 M17 h => ?_))
        obtain ⟨v18, rfl, h⟩ := h
        obtain ⟨k19, h⟩ := h
        refine r_callV (pc := 50) (ci := 1) (as := [_]) (st := []) okX1_mark lkX11_188 inX1_mark seX1_mark ⟨_, rfl, rfl⟩ dX11_letter_50 rfl k19 (Nat.le_of_ble_eq_true rfl) (Nat.zero_le _) (Nat.zero_le _) (Call.mono h (fun r20 M21 h => ?_))
        obtain ⟨v22, rfl, h⟩ := h
        exact r_iret (pc := 53) dX11_letter_53 rfl h
      · replace h := h.2 c7
        refine r_iconst (pc := 25) (v := (-1)) dX11_letter_25 (by decide) ?_
        exact r_iret (pc := 26) dX11_letter_26 rfl h
theorem eX11_width {G : GG} {d rc rs : Nat} (o : Nat) (a1 : Int32)  {M : Mem} {Q : Option Value → Mem → Prop} (h : (x_h M o).1 = 27 ∧ Call G d 0 0 mX11_within [.int a1, .int (x_i M o 12)] M (fun r2 M3 => ∃ v4 : Int32, r2 = some (.int v4) ∧ (v4 = 0 → Q (some (.int (-1))) M3) ∧ (¬ v4 = 0 → (x_h M3 o).1 = 27 ∧ (∃ b7, x_r M3 o 0 = some b7 ∧ (4 ≤ (x_h M3 b7).1 ∧ (x_h M3 b7).1 < 8) ∧ vp_in a1 (x_h M3 b7).2 ∧ (∃ b10, x_r M3 b7 a1.toNatClampNeg = some b10 ∧ (x_h M3 b10).1 = 23 ∧ (∃ b12, x_r M3 b10 0 = some b12 ∧ (x_h M3 b12).1 = 17 ∧ Q (some (.int (x_i M3 b12 2))) M3)))))) : Call G (d + 1) rc rs mX11_width [.ref o, .int a1] M Q := by
  refine call_of (by decide) (Nat.le_of_ble_eq_true rfl) ?_
  show Wk G (d + 1) rc rs mX11_width 0 [some (.ref o), some (.int a1)] [] M Q
  refine r_iload_n (pc := 0) (i := 1) dX11_width_0 rfl rfl ?_
  refine r_aload_n (pc := 1) (i := 0) dX11_width_1 rfl rfl ?_
  obtain ⟨k1, h⟩ := h
  refine r_geti (pc := 2) flX11_71 dX11_width_2 (Or.inl rfl) k1 ?_
  refine r_callS (pc := 5) (as := [_, _]) (st := []) okX11_within lkX11_98 stX11_within dX11_width_5 rfl (Nat.le_of_ble_eq_true rfl) (Nat.zero_le _) (Nat.zero_le _) (Call.mono h (fun r2 M3 h => ?_))
  obtain ⟨v4, rfl, h⟩ := h
  refine r_if_eq (pc := 8) (tgt := 26) dX11_width_8 (by decide) (fun c5 => ?_) (fun c5 => ?_)
  · replace h := h.1 c5
    refine r_iconst (pc := 26) (v := (-1)) dX11_width_26 (by decide) ?_
    exact r_iret (pc := 27) dX11_width_27 rfl h
  · replace h := h.2 c5
    refine r_aload_n (pc := 11) (i := 0) dX11_width_11 rfl rfl ?_
    obtain ⟨k6, h⟩ := h
    obtain ⟨b7, hb7, h⟩ := h
    refine r_getr (pc := 12) flX11_11 dX11_width_12 rfl k6 hb7 ?_
    refine r_iload_n (pc := 15) (i := 1) dX11_width_15 rfl rfl ?_
    obtain ⟨k8, h⟩ := h
    obtain ⟨i9, h⟩ := h
    obtain ⟨b10, hb10, h⟩ := h
    refine r_aald (pc := 16) dX11_width_16 rfl k8 i9 hb10 ?_
    obtain ⟨k11, h⟩ := h
    obtain ⟨b12, hb12, h⟩ := h
    refine r_getr (pc := 17) flX11_116 dX11_width_17 rfl k11 hb12 ?_
    obtain ⟨k13, h⟩ := h
    refine r_geti (pc := 20) flX11_191 dX11_width_20 (Or.inl rfl) k13 ?_
    refine r_goto (pc := 23) (tgt := 27) dX11_width_23 (by decide) ?_
    exact r_iret (pc := 27) dX11_width_27 rfl h
theorem eX11_differ {G : GG} {d rc rs : Nat} (o : Nat) (a1 : Int32) (a2 : Int32)  {M : Mem} {Q : Option Value → Mem → Prop} (h : (x_h M o).1 = 27 ∧ Call G d 0 0 mX11_within [.int a1, .int (x_i M o 12)] M (fun r2 M3 => ∃ v4 : Int32, r2 = some (.int v4) ∧ (v4 = 0 → Q (some (.long (-2))) M3) ∧ (¬ v4 = 0 → (x_h M3 o).1 = 27 ∧ Call G d 0 0 mX11_within [.int a2, .int (x_i M3 o 12)] M3 (fun r7 M8 => ∃ v9 : Int32, r7 = some (.int v9) ∧ (¬ v9 = 0 → (x_h M8 o).1 = 27 ∧ (∃ b12, x_r M8 o 9 = some b12 ∧ ∃ b13, x_r M8 o 0 = some b13 ∧ (4 ≤ (x_h M8 b13).1 ∧ (x_h M8 b13).1 < 8) ∧ vp_in a1 (x_h M8 b13).2 ∧ (∃ b16, x_r M8 b13 a1.toNatClampNeg = some b16 ∧ (x_h M8 b16).1 = 23 ∧ (∃ b18, x_r M8 b16 0 = some b18 ∧ vp_in a2 (x_h M8 b13).2 ∧ (∃ b20, x_r M8 b13 a2.toNatClampNeg = some b20 ∧ (x_h M8 b20).1 = 23 ∧ (∃ b22, x_r M8 b20 0 = some b22 ∧ (x_h M8 b12).1 = 22 ∧ Call G d 0 0 mX6_leastUnlike [.ref b12, .ref b18, .ref b22, .int (x_i M8 o 11)] M8 (fun r24 M25 => ∃ v26 : Int64, r24 = some (.long v26) ∧ Q (some (.long v26)) M25))))))) ∧ (v9 = 0 → Q (some (.long (-2))) M8))))) : Call G (d + 1) rc rs mX11_differ [.ref o, .int a1, .int a2] M Q := by
  refine call_of (by decide) (Nat.le_of_ble_eq_true rfl) ?_
  show Wk G (d + 1) rc rs mX11_differ 0 [some (.ref o), some (.int a1), some (.int a2)] [] M Q
  refine r_iload_n (pc := 0) (i := 1) dX11_differ_0 rfl rfl ?_
  refine r_aload_n (pc := 1) (i := 0) dX11_differ_1 rfl rfl ?_
  obtain ⟨k1, h⟩ := h
  refine r_geti (pc := 2) flX11_71 dX11_differ_2 (Or.inl rfl) k1 ?_
  refine r_callS (pc := 5) (as := [_, _]) (st := []) okX11_within lkX11_98 stX11_within dX11_differ_5 rfl (Nat.le_of_ble_eq_true rfl) (Nat.zero_le _) (Nat.zero_le _) (Call.mono h (fun r2 M3 h => ?_))
  obtain ⟨v4, rfl, h⟩ := h
  refine r_if_eq (pc := 8) (tgt := 22) dX11_differ_8 (by decide) (fun c5 => ?_) (fun c5 => ?_)
  · replace h := h.1 c5
    refine r_ldc2 (pc := 22) (v := (-2)) dX11_differ_22 ww_1010 ?_
    exact r_lret (pc := 25) dX11_differ_25 rfl h
  · replace h := h.2 c5
    refine r_iload_n (pc := 11) (i := 2) dX11_differ_11 rfl rfl ?_
    refine r_aload_n (pc := 12) (i := 0) dX11_differ_12 rfl rfl ?_
    obtain ⟨k6, h⟩ := h
    refine r_geti (pc := 13) flX11_71 dX11_differ_13 (Or.inl rfl) k6 ?_
    refine r_callS (pc := 16) (as := [_, _]) (st := []) okX11_within lkX11_98 stX11_within dX11_differ_16 rfl (Nat.le_of_ble_eq_true rfl) (Nat.zero_le _) (Nat.zero_le _) (Call.mono h (fun r7 M8 h => ?_))
    obtain ⟨v9, rfl, h⟩ := h
    refine r_if_ne (pc := 19) (tgt := 26) dX11_differ_19 (by decide) (fun c10 => ?_) (fun c10 => ?_)
    · replace h := h.1 c10
      refine r_aload_n (pc := 26) (i := 0) dX11_differ_26 rfl rfl ?_
      obtain ⟨k11, h⟩ := h
      obtain ⟨b12, hb12, h⟩ := h
      refine r_getr (pc := 27) flX11_56 dX11_differ_27 rfl k11 hb12 ?_
      refine r_aload_n (pc := 30) (i := 0) dX11_differ_30 rfl rfl ?_
      obtain ⟨b13, hb13, h⟩ := h
      refine r_getr (pc := 31) flX11_11 dX11_differ_31 rfl k11 hb13 ?_
      refine r_iload_n (pc := 34) (i := 1) dX11_differ_34 rfl rfl ?_
      obtain ⟨k14, h⟩ := h
      obtain ⟨i15, h⟩ := h
      obtain ⟨b16, hb16, h⟩ := h
      refine r_aald (pc := 35) dX11_differ_35 rfl k14 i15 hb16 ?_
      obtain ⟨k17, h⟩ := h
      obtain ⟨b18, hb18, h⟩ := h
      refine r_getr (pc := 36) flX11_116 dX11_differ_36 rfl k17 hb18 ?_
      refine r_aload_n (pc := 39) (i := 0) dX11_differ_39 rfl rfl ?_
      refine r_getr (pc := 40) flX11_11 dX11_differ_40 rfl k11 hb13 ?_
      refine r_iload_n (pc := 43) (i := 2) dX11_differ_43 rfl rfl ?_
      obtain ⟨i19, h⟩ := h
      obtain ⟨b20, hb20, h⟩ := h
      refine r_aald (pc := 44) dX11_differ_44 rfl k14 i19 hb20 ?_
      obtain ⟨k21, h⟩ := h
      obtain ⟨b22, hb22, h⟩ := h
      refine r_getr (pc := 45) flX11_116 dX11_differ_45 rfl k21 hb22 ?_
      refine r_aload_n (pc := 48) (i := 0) dX11_differ_48 rfl rfl ?_
      refine r_geti (pc := 49) flX11_67 dX11_differ_49 (Or.inl rfl) k11 ?_
      obtain ⟨k23, h⟩ := h
      refine r_callV (pc := 52) (ci := 6) (as := [_, _, _]) (st := []) okX6_leastUnlike lkX11_196 inX6_leastUnlike seX6_leastUnlike ⟨_, rfl, rfl⟩ dX11_differ_52 rfl k23 (Nat.le_of_ble_eq_true rfl) (Nat.zero_le _) (Nat.zero_le _) (Call.mono h (fun r24 M25 h => ?_))
      obtain ⟨v26, rfl, h⟩ := h
      exact r_lret (pc := 55) dX11_differ_55 rfl h
    · replace h := h.2 c10
      refine r_ldc2 (pc := 22) (v := (-2)) dX11_differ_22 ww_1010 ?_
      exact r_lret (pc := 25) dX11_differ_25 rfl h
theorem eX11_told {G : GG} {d rc rs : Nat} (o : Nat) (a1 : Int32) (a2 : Int32)  {M : Mem} {Q : Option Value → Mem → Prop} (h : (x_h M o).1 = 27 ∧ Call G d 0 0 mX11_within [.int a1, .int (x_i M o 13)] M (fun r2 M3 => ∃ v4 : Int32, r2 = some (.int v4) ∧ (v4 = 0 → Q (some (.int (-1))) M3) ∧ (¬ v4 = 0 → (a2 < 0 → Q (some (.int (-1))) M3) ∧ (¬ a2 < 0 → (a2 ≤ 8 → (x_h M3 o).1 = 27 ∧ (∃ b9, x_r M3 o 1 = some b9 ∧ (4 ≤ (x_h M3 b9).1 ∧ (x_h M3 b9).1 < 8) ∧ vp_in a1 (x_h M3 b9).2 ∧ (∃ b12, x_r M3 b9 a1.toNatClampNeg = some b12 ∧ (a2 = 0 → (x_h M3 b12).1 = 20 ∧ Q (some (.int (x_i M3 b12 1))) M3) ∧ (a2 = 1 → (x_h M3 b12).1 = 20 ∧ Q (some (.int (x_i M3 b12 2))) M3) ∧ (a2 = 2 → (x_h M3 b12).1 = 20 ∧ Q (some (.int (x_i M3 b12 3))) M3) ∧ (¬ a2 = 0 ∧ ¬ a2 = 1 ∧ ¬ a2 = 2 → (x_h M3 b12).1 = 20 ∧ ((x_i M3 b12 1) = 0 → Call G d 0 0 mX4_more [.ref b12, .int a2] M3 (fun r21 M22 => ∃ v23 : Int32, r21 = some (.int v23) ∧ Q (some (.int v23)) M22)) ∧ (¬ (x_i M3 b12 1) = 0 → Q (some (.int (-2))) M3))))) ∧ (¬ a2 ≤ 8 → Q (some (.int (-1))) M3))))) : Call G (d + 1) rc rs mX11_told [.ref o, .int a1, .int a2] M Q := by
  refine call_of (by decide) (Nat.le_of_ble_eq_true rfl) ?_
  show Wk G (d + 1) rc rs mX11_told 0 [some (.ref o), some (.int a1), some (.int a2), none] [] M Q
  refine r_iload_n (pc := 0) (i := 1) dX11_told_0 rfl rfl ?_
  refine r_aload_n (pc := 1) (i := 0) dX11_told_1 rfl rfl ?_
  obtain ⟨k1, h⟩ := h
  refine r_geti (pc := 2) flX11_74 dX11_told_2 (Or.inl rfl) k1 ?_
  refine r_callS (pc := 5) (as := [_, _]) (st := []) okX11_within lkX11_98 stX11_within dX11_told_5 rfl (Nat.le_of_ble_eq_true rfl) (Nat.zero_le _) (Nat.zero_le _) (Call.mono h (fun r2 M3 h => ?_))
  obtain ⟨v4, rfl, h⟩ := h
  refine r_if_eq (pc := 8) (tgt := 21) dX11_told_8 (by decide) (fun c5 => ?_) (fun c5 => ?_)
  · replace h := h.1 c5
    refine r_iconst (pc := 21) (v := (-1)) dX11_told_21 (by decide) ?_
    exact r_iret (pc := 22) dX11_told_22 rfl h
  · replace h := h.2 c5
    refine r_iload_n (pc := 11) (i := 2) dX11_told_11 rfl rfl ?_
    refine r_if_lt (pc := 12) (tgt := 21) dX11_told_12 (by decide) (fun c6 => ?_) (fun c6 => ?_)
    · replace h := h.1 c6
      refine r_iconst (pc := 21) (v := (-1)) dX11_told_21 (by decide) ?_
      exact r_iret (pc := 22) dX11_told_22 rfl h
    · replace h := h.2 c6
      refine r_iload_n (pc := 15) (i := 2) dX11_told_15 rfl rfl ?_
      refine r_bipush (pc := 16) (v := 8) dX11_told_16 (by decide) ?_
      refine r_icmp_le (pc := 18) (tgt := 23) dX11_told_18 (by decide) (fun c7 => ?_) (fun c7 => ?_)
      · replace h := h.1 c7
        refine r_aload_n (pc := 23) (i := 0) dX11_told_23 rfl rfl ?_
        obtain ⟨k8, h⟩ := h
        obtain ⟨b9, hb9, h⟩ := h
        refine r_getr (pc := 24) flX11_17 dX11_told_24 rfl k8 hb9 ?_
        refine r_iload_n (pc := 27) (i := 1) dX11_told_27 rfl rfl ?_
        obtain ⟨k10, h⟩ := h
        obtain ⟨i11, h⟩ := h
        obtain ⟨b12, hb12, h⟩ := h
        refine r_aald (pc := 28) dX11_told_28 rfl k10 i11 hb12 ?_
        refine r_astore_n (pc := 29) (i := 3) dX11_told_29 rfl rfl (Nat.le_of_ble_eq_true rfl) ?_
        refine r_iload_n (pc := 30) (i := 2) dX11_told_30 rfl rfl ?_
        refine dite (a2 = 0) (fun c13 => ?_) (fun c13 => ?_)
        · replace h := h.1 c13
          refine r_tabIn (pc := 31) (tgt := 56) dX11_told_31 (by rw [c13]; decide) (by rw [c13]; decide) (by rw [c13]; rfl) (by decide) ?_
          refine r_aload_n (pc := 56) (i := 3) dX11_told_56 rfl rfl ?_
          obtain ⟨k14, h⟩ := h
          refine r_geti (pc := 57) flX11_158 dX11_told_57 (Or.inl rfl) k14 ?_
          exact r_iret (pc := 60) dX11_told_60 rfl h
        refine dite (a2 = 1) (fun c15 => ?_) (fun c15 => ?_)
        · replace h := h.2.1 c15
          refine r_tabIn (pc := 31) (tgt := 61) dX11_told_31 (by rw [c15]; decide) (by rw [c15]; decide) (by rw [c15]; rfl) (by decide) ?_
          refine r_aload_n (pc := 61) (i := 3) dX11_told_61 rfl rfl ?_
          obtain ⟨k16, h⟩ := h
          refine r_geti (pc := 62) flX11_200 dX11_told_62 (Or.inl rfl) k16 ?_
          exact r_iret (pc := 65) dX11_told_65 rfl h
        refine dite (a2 = 2) (fun c17 => ?_) (fun c17 => ?_)
        · replace h := h.2.2.1 c17
          refine r_tabIn (pc := 31) (tgt := 66) dX11_told_31 (by rw [c17]; decide) (by rw [c17]; decide) (by rw [c17]; rfl) (by decide) ?_
          refine r_aload_n (pc := 66) (i := 3) dX11_told_66 rfl rfl ?_
          obtain ⟨k18, h⟩ := h
          refine r_geti (pc := 67) flX11_203 dX11_told_67 (Or.inl rfl) k18 ?_
          exact r_iret (pc := 70) dX11_told_70 rfl h
        replace h := h.2.2.2 ⟨c13, c15, c17⟩
        refine r_tabOut (pc := 31) (tgt := 71) dX11_told_31 (by have tc13 : ¬ Int32.toInt _ = 0 := sw_ne c13; have tc15 : ¬ Int32.toInt _ = 1 := sw_ne c15; have tc17 : ¬ Int32.toInt _ = 2 := sw_ne c17; omega) (by decide) ?_
        refine r_aload_n (pc := 71) (i := 3) dX11_told_71 rfl rfl ?_
        obtain ⟨k19, h⟩ := h
        refine r_geti (pc := 72) flX11_158 dX11_told_72 (Or.inl rfl) k19 ?_
        refine r_if_eq (pc := 75) (tgt := 83) dX11_told_75 (by decide) (fun c20 => ?_) (fun c20 => ?_)
        · replace h := h.1 c20
          refine r_aload_n (pc := 83) (i := 3) dX11_told_83 rfl rfl ?_
          refine r_iload_n (pc := 84) (i := 2) dX11_told_84 rfl rfl ?_
          refine r_callV (pc := 85) (ci := 4) (as := [_]) (st := []) okX4_more lkX11_206 inX4_more seX4_more ⟨_, rfl, rfl⟩ dX11_told_85 rfl k19 (Nat.le_of_ble_eq_true rfl) (Nat.zero_le _) (Nat.zero_le _) (Call.mono h (fun r21 M22 h => ?_))
          obtain ⟨v23, rfl, h⟩ := h
          exact r_iret (pc := 88) dX11_told_88 rfl h
        · replace h := h.2 c20
          refine r_bipush (pc := 78) (v := (-2)) dX11_told_78 (by decide) ?_
          refine r_goto (pc := 80) (tgt := 88) dX11_told_80 (by decide) ?_
          exact r_iret (pc := 88) dX11_told_88 rfl h
      · replace h := h.2 c7
        refine r_iconst (pc := 21) (v := (-1)) dX11_told_21 (by decide) ?_
        exact r_iret (pc := 22) dX11_told_22 rfl h
theorem eX11_step {G : GG} {d rc rs : Nat} (o : Nat) (a1 : Int32) (a2 : Int32) (a3 : Int32)  {M : Mem} {Q : Option Value → Mem → Prop} (h : (x_h M o).1 = 27 ∧ Call G d 0 0 mX11_asked [.ref o, .int a1] M (fun r2 M3 => ∃ o4 : Option Nat, r2 = some (va_rf o4) ∧ (o4 = none → Q (some (.int (-1))) M3) ∧ (∀ v5, o4 = some v5 → (x_h M3 v5).1 = 17 ∧ Call G d 0 0 mX11_within [.int a2, .int (x_i M3 v5 2)] M3 (fun r7 M8 => ∃ v9 : Int32, r7 = some (.int v9) ∧ (v9 = 0 → Q (some (.int (-1))) M8) ∧ (¬ v9 = 0 → (x_h M8 v5).1 = 17 ∧ Call G d 0 0 mX11_within [.int a3, .int (x_i M8 v5 3)] M8 (fun r12 M13 => ∃ v14 : Int32, r12 = some (.int v14) ∧ (¬ v14 = 0 → (x_h M13 v5).1 = 17 ∧ Call G d 0 0 mX1_after [.ref v5, .int a2, .int a3] M13 (fun r17 M18 => ∃ v19 : Int32, r17 = some (.int v19) ∧ Q (some (.int v19)) M18)) ∧ (v14 = 0 → Q (some (.int (-1))) M13))))))) : Call G (d + 1) rc rs mX11_step [.ref o, .int a1, .int a2, .int a3] M Q := by
  refine call_of (by decide) (Nat.le_of_ble_eq_true rfl) ?_
  show Wk G (d + 1) rc rs mX11_step 0 [some (.ref o), some (.int a1), some (.int a2), some (.int a3), none] [] M Q
  refine r_aload_n (pc := 0) (i := 0) dX11_step_0 rfl rfl ?_
  refine r_iload_n (pc := 1) (i := 1) dX11_step_1 rfl rfl ?_
  obtain ⟨k1, h⟩ := h
  refine r_callV (pc := 2) (ci := 11) (as := [_]) (st := []) okX11_asked lkX11_209 inX11_asked seX11_asked ⟨_, rfl, rfl⟩ dX11_step_2 rfl k1 (Nat.le_of_ble_eq_true rfl) (Nat.zero_le _) (Nat.zero_le _) (Call.mono h (fun r2 M3 h => ?_))
  obtain ⟨o4, rfl, h⟩ := h
  cases o4 with
  | none =>
    replace h := h.1 rfl
    refine r_astoreN (pc := 5) (i := 4) dX11_step_5 rfl (Nat.le_of_ble_eq_true rfl) ?_
    refine r_aloadN (pc := 7) (i := 4) dX11_step_7 rfl ?_
    refine r_ifnullN (pc := 9) (tgt := 36) dX11_step_9 (by decide) ?_
    refine r_iconst (pc := 36) (v := (-1)) dX11_step_36 (by decide) ?_
    exact r_iret (pc := 37) dX11_step_37 rfl h
  | some v5 =>
    replace h := h.2 v5 rfl
    refine r_astore (pc := 5) (i := 4) dX11_step_5 rfl (Nat.le_of_ble_eq_true rfl) ?_
    refine r_aload (pc := 7) (i := 4) dX11_step_7 rfl ?_
    refine r_ifnull (pc := 9) dX11_step_9 ?_
    refine r_iload_n (pc := 12) (i := 2) dX11_step_12 rfl rfl ?_
    refine r_aload (pc := 13) (i := 4) dX11_step_13 rfl ?_
    obtain ⟨k6, h⟩ := h
    refine r_geti (pc := 15) flX11_191 dX11_step_15 (Or.inl rfl) k6 ?_
    refine r_callS (pc := 18) (as := [_, _]) (st := []) okX11_within lkX11_98 stX11_within dX11_step_18 rfl (Nat.le_of_ble_eq_true rfl) (Nat.zero_le _) (Nat.zero_le _) (Call.mono h (fun r7 M8 h => ?_))
    obtain ⟨v9, rfl, h⟩ := h
    refine r_if_eq (pc := 21) (tgt := 36) dX11_step_21 (by decide) (fun c10 => ?_) (fun c10 => ?_)
    · replace h := h.1 c10
      refine r_iconst (pc := 36) (v := (-1)) dX11_step_36 (by decide) ?_
      exact r_iret (pc := 37) dX11_step_37 rfl h
    · replace h := h.2 c10
      refine r_iload_n (pc := 24) (i := 3) dX11_step_24 rfl rfl ?_
      refine r_aload (pc := 25) (i := 4) dX11_step_25 rfl ?_
      obtain ⟨k11, h⟩ := h
      refine r_geti (pc := 27) flX11_213 dX11_step_27 (Or.inl rfl) k11 ?_
      refine r_callS (pc := 30) (as := [_, _]) (st := []) okX11_within lkX11_98 stX11_within dX11_step_30 rfl (Nat.le_of_ble_eq_true rfl) (Nat.zero_le _) (Nat.zero_le _) (Call.mono h (fun r12 M13 h => ?_))
      obtain ⟨v14, rfl, h⟩ := h
      refine r_if_ne (pc := 33) (tgt := 38) dX11_step_33 (by decide) (fun c15 => ?_) (fun c15 => ?_)
      · replace h := h.1 c15
        refine r_aload (pc := 38) (i := 4) dX11_step_38 rfl ?_
        refine r_iload_n (pc := 40) (i := 2) dX11_step_40 rfl rfl ?_
        refine r_iload_n (pc := 41) (i := 3) dX11_step_41 rfl rfl ?_
        obtain ⟨k16, h⟩ := h
        refine r_callV (pc := 42) (ci := 1) (as := [_, _]) (st := []) okX1_after lkX11_216 inX1_after seX1_after ⟨_, rfl, rfl⟩ dX11_step_42 rfl k16 (Nat.le_of_ble_eq_true rfl) (Nat.zero_le _) (Nat.zero_le _) (Call.mono h (fun r17 M18 h => ?_))
        obtain ⟨v19, rfl, h⟩ := h
        exact r_iret (pc := 45) dX11_step_45 rfl h
      · replace h := h.2 c15
        refine r_iconst (pc := 36) (v := (-1)) dX11_step_36 (by decide) ?_
        exact r_iret (pc := 37) dX11_step_37 rfl h
theorem eX11_takes {G : GG} {d rc rs : Nat} (o : Nat) (a1 : Int32) (a2 : Int32)  {M : Mem} {Q : Option Value → Mem → Prop} (h : (x_h M o).1 = 27 ∧ Call G d 0 0 mX11_asked [.ref o, .int a1] M (fun r2 M3 => ∃ o4 : Option Nat, r2 = some (va_rf o4) ∧ (o4 = none → Q (some (.int (-1))) M3) ∧ (∀ v5, o4 = some v5 → (x_h M3 v5).1 = 17 ∧ Call G d 0 0 mX11_within [.int a2, .int (x_i M3 v5 2)] M3 (fun r7 M8 => ∃ v9 : Int32, r7 = some (.int v9) ∧ (¬ v9 = 0 → (x_h M8 v5).1 = 17 ∧ Call G d 0 0 mX1_mark [.ref v5, .int a2] M8 (fun r12 M13 => ∃ v14 : Int32, r12 = some (.int v14) ∧ Q (some (.int v14)) M13)) ∧ (v9 = 0 → Q (some (.int (-1))) M8))))) : Call G (d + 1) rc rs mX11_takes [.ref o, .int a1, .int a2] M Q := by
  refine call_of (by decide) (Nat.le_of_ble_eq_true rfl) ?_
  show Wk G (d + 1) rc rs mX11_takes 0 [some (.ref o), some (.int a1), some (.int a2), none] [] M Q
  refine r_aload_n (pc := 0) (i := 0) dX11_takes_0 rfl rfl ?_
  refine r_iload_n (pc := 1) (i := 1) dX11_takes_1 rfl rfl ?_
  obtain ⟨k1, h⟩ := h
  refine r_callV (pc := 2) (ci := 11) (as := [_]) (st := []) okX11_asked lkX11_209 inX11_asked seX11_asked ⟨_, rfl, rfl⟩ dX11_takes_2 rfl k1 (Nat.le_of_ble_eq_true rfl) (Nat.zero_le _) (Nat.zero_le _) (Call.mono h (fun r2 M3 h => ?_))
  obtain ⟨o4, rfl, h⟩ := h
  cases o4 with
  | none =>
    replace h := h.1 rfl
    refine r_astore_nN (pc := 5) (i := 3) dX11_takes_5 rfl rfl (Nat.le_of_ble_eq_true rfl) ?_
    refine r_aload_nN (pc := 6) (i := 3) dX11_takes_6 rfl rfl ?_
    refine r_ifnullN (pc := 7) (tgt := 21) dX11_takes_7 (by decide) ?_
    refine r_iconst (pc := 21) (v := (-1)) dX11_takes_21 (by decide) ?_
    exact r_iret (pc := 22) dX11_takes_22 rfl h
  | some v5 =>
    replace h := h.2 v5 rfl
    refine r_astore_n (pc := 5) (i := 3) dX11_takes_5 rfl rfl (Nat.le_of_ble_eq_true rfl) ?_
    refine r_aload_n (pc := 6) (i := 3) dX11_takes_6 rfl rfl ?_
    refine r_ifnull (pc := 7) dX11_takes_7 ?_
    refine r_iload_n (pc := 10) (i := 2) dX11_takes_10 rfl rfl ?_
    refine r_aload_n (pc := 11) (i := 3) dX11_takes_11 rfl rfl ?_
    obtain ⟨k6, h⟩ := h
    refine r_geti (pc := 12) flX11_191 dX11_takes_12 (Or.inl rfl) k6 ?_
    refine r_callS (pc := 15) (as := [_, _]) (st := []) okX11_within lkX11_98 stX11_within dX11_takes_15 rfl (Nat.le_of_ble_eq_true rfl) (Nat.zero_le _) (Nat.zero_le _) (Call.mono h (fun r7 M8 h => ?_))
    obtain ⟨v9, rfl, h⟩ := h
    refine r_if_ne (pc := 18) (tgt := 23) dX11_takes_18 (by decide) (fun c10 => ?_) (fun c10 => ?_)
    · replace h := h.1 c10
      refine r_aload_n (pc := 23) (i := 3) dX11_takes_23 rfl rfl ?_
      refine r_iload_n (pc := 24) (i := 2) dX11_takes_24 rfl rfl ?_
      obtain ⟨k11, h⟩ := h
      refine r_callV (pc := 25) (ci := 1) (as := [_]) (st := []) okX1_mark lkX11_188 inX1_mark seX1_mark ⟨_, rfl, rfl⟩ dX11_takes_25 rfl k11 (Nat.le_of_ble_eq_true rfl) (Nat.zero_le _) (Nat.zero_le _) (Call.mono h (fun r12 M13 h => ?_))
      obtain ⟨v14, rfl, h⟩ := h
      exact r_iret (pc := 28) dX11_takes_28 rfl h
    · replace h := h.2 c10
      refine r_iconst (pc := 21) (v := (-1)) dX11_takes_21 (by decide) ?_
      exact r_iret (pc := 22) dX11_takes_22 rfl h
abbrev LX11_holds_54 (G : GG) (d rc rs : Nat) (p0 : Nat) (x1 : Int32) (l2 : Int64) (l4 : Int64) (l6 : Int64) (p8 : Nat) (x9 : Int32) (M : Mem) (Q : Option Value → Mem → Prop) : Prop := Wk G (d + 1) rc rs mX11_holds 54 [some (.ref p0), some (.int x1), some (.long l2), none, some (.long l4), none, some (.long l6), none, some (.ref p8), some (.int x9)] [] M Q
theorem eX11_holds {G : GG} {d rc rs : Nat} (o : Nat) (a1 : Int32) (a2 : Int64) (a3 : Int64) (a4 : Int64)  {M : Mem} {Q : Option Value → Mem → Prop} (h : (x_h M o).1 = 27 ∧ Call G d 0 0 mX11_asked [.ref o, .int a1] M (fun r2 M3 => ∃ o4 : Option Nat, r2 = some (va_rf o4) ∧ (o4 = none → Q (some (.int (-1))) M3) ∧ (∀ v5, o4 = some v5 → (x_h M3 o).1 = 27 ∧ (∃ b7, x_r M3 o 1 = some b7 ∧ (4 ≤ (x_h M3 b7).1 ∧ (x_h M3 b7).1 < 8) ∧ vp_in a1 (x_h M3 b7).2 ∧ (∃ b10, x_r M3 b7 a1.toNatClampNeg = some b10 ∧ (x_h M3 b10).1 = 20 ∧ Call G d 0 0 mJ6_bitCount_0f7a4 [.int (x_i M3 b10 4)] M3 (fun r12 M13 => ∃ v14 : Int32, r12 = some (.int v14) ∧ (v14 ≤ 0 → (v14 ≤ 1 → LX11_holds_54 G d rc rs o a1 a2 a3 a4 v5 v14 M13 Q) ∧ (¬ v14 ≤ 1 → Call G d 0 0 mX11_outside [.long a3] M13 (fun r17 M18 => ∃ v19 : Int32, r17 = some (.int v19) ∧ (¬ v19 = 0 → Q (some (.int (-1))) M18) ∧ (v19 = 0 → LX11_holds_54 G d rc rs o a1 a2 a3 a4 v5 v14 M18 Q)))) ∧ (¬ v14 ≤ 0 → Call G d 0 0 mX11_outside [.long a2] M13 (fun r21 M22 => ∃ v23 : Int32, r21 = some (.int v23) ∧ (¬ v23 = 0 → Q (some (.int (-1))) M22) ∧ (v23 = 0 → (v14 ≤ 1 → LX11_holds_54 G d rc rs o a1 a2 a3 a4 v5 v14 M22 Q) ∧ (¬ v14 ≤ 1 → Call G d 0 0 mX11_outside [.long a3] M22 (fun r26 M27 => ∃ v28 : Int32, r26 = some (.int v28) ∧ (¬ v28 = 0 → Q (some (.int (-1))) M27) ∧ (v28 = 0 → LX11_holds_54 G d rc rs o a1 a2 a3 a4 v5 v14 M27 Q)))))))))))) : Call G (d + 1) rc rs mX11_holds [.ref o, .int a1, .long a2, .long a3, .long a4] M Q := by
  refine call_of (by decide) (Nat.le_of_ble_eq_true rfl) ?_
  show Wk G (d + 1) rc rs mX11_holds 0 [some (.ref o), some (.int a1), some (.long a2), none, some (.long a3), none, some (.long a4), none, none, none] [] M Q
  refine r_aload_n (pc := 0) (i := 0) dX11_holds_0 rfl rfl ?_
  refine r_iload_n (pc := 1) (i := 1) dX11_holds_1 rfl rfl ?_
  obtain ⟨k1, h⟩ := h
  refine r_callV (pc := 2) (ci := 11) (as := [_]) (st := []) okX11_asked lkX11_209 inX11_asked seX11_asked ⟨_, rfl, rfl⟩ dX11_holds_2 rfl k1 (Nat.le_of_ble_eq_true rfl) (Nat.zero_le _) (Nat.zero_le _) (Call.mono h (fun r2 M3 h => ?_))
  obtain ⟨o4, rfl, h⟩ := h
  cases o4 with
  | none =>
    replace h := h.1 rfl
    refine r_astoreN (pc := 5) (i := 8) dX11_holds_5 rfl (Nat.le_of_ble_eq_true rfl) ?_
    refine r_aloadN (pc := 7) (i := 8) dX11_holds_7 rfl ?_
    refine r_ifnonnullN (pc := 9) dX11_holds_9 ?_
    refine r_iconst (pc := 12) (v := (-1)) dX11_holds_12 (by decide) ?_
    exact r_iret (pc := 13) dX11_holds_13 rfl h
  | some v5 =>
    replace h := h.2 v5 rfl
    refine r_astore (pc := 5) (i := 8) dX11_holds_5 rfl (Nat.le_of_ble_eq_true rfl) ?_
    refine r_aload (pc := 7) (i := 8) dX11_holds_7 rfl ?_
    refine r_ifnonnull (pc := 9) (tgt := 14) dX11_holds_9 (by decide) ?_
    refine r_aload_n (pc := 14) (i := 0) dX11_holds_14 rfl rfl ?_
    obtain ⟨k6, h⟩ := h
    obtain ⟨b7, hb7, h⟩ := h
    refine r_getr (pc := 15) flX11_17 dX11_holds_15 rfl k6 hb7 ?_
    refine r_iload_n (pc := 18) (i := 1) dX11_holds_18 rfl rfl ?_
    obtain ⟨k8, h⟩ := h
    obtain ⟨i9, h⟩ := h
    obtain ⟨b10, hb10, h⟩ := h
    refine r_aald (pc := 19) dX11_holds_19 rfl k8 i9 hb10 ?_
    obtain ⟨k11, h⟩ := h
    refine r_geti (pc := 20) flX11_219 dX11_holds_20 (Or.inl rfl) k11 ?_
    refine r_callS (pc := 23) (as := [_]) (st := []) okJ6_bitCount_0f7a4 lkX11_222 stJ6_bitCount_0f7a4 dX11_holds_23 rfl (Nat.le_of_ble_eq_true rfl) (Nat.zero_le _) (Nat.zero_le _) (Call.mono h (fun r12 M13 h => ?_))
    obtain ⟨v14, rfl, h⟩ := h
    refine r_istore (pc := 26) (i := 9) dX11_holds_26 rfl (Nat.le_of_ble_eq_true rfl) ?_
    refine r_iload (pc := 28) (i := 9) dX11_holds_28 rfl ?_
    refine r_if_le (pc := 30) (tgt := 40) dX11_holds_30 (by decide) (fun c15 => ?_) (fun c15 => ?_)
    · replace h := h.1 c15
      refine r_iload (pc := 40) (i := 9) dX11_holds_40 rfl ?_
      refine r_iconst (pc := 42) (v := 1) dX11_holds_42 (by decide) ?_
      refine r_icmp_le (pc := 43) (tgt := 54) dX11_holds_43 (by decide) (fun c16 => ?_) (fun c16 => ?_)
      · replace h := h.1 c16
        exact h
      · replace h := h.2 c16
        refine r_lload (pc := 46) (i := 4) dX11_holds_46 rfl ?_
        refine r_callS (pc := 48) (as := [_]) (st := []) okX11_outside lkX11_227 stX11_outside dX11_holds_48 rfl (Nat.le_of_ble_eq_true rfl) (Nat.zero_le _) (Nat.zero_le _) (Call.mono h (fun r17 M18 h => ?_))
        obtain ⟨v19, rfl, h⟩ := h
        refine r_if_ne (pc := 51) (tgt := 68) dX11_holds_51 (by decide) (fun c20 => ?_) (fun c20 => ?_)
        · replace h := h.1 c20
          refine r_iconst (pc := 68) (v := (-1)) dX11_holds_68 (by decide) ?_
          exact r_iret (pc := 69) dX11_holds_69 rfl h
        · replace h := h.2 c20
          exact h
    · replace h := h.2 c15
      refine r_lload_n (pc := 33) (i := 2) dX11_holds_33 rfl rfl ?_
      refine r_callS (pc := 34) (as := [_]) (st := []) okX11_outside lkX11_227 stX11_outside dX11_holds_34 rfl (Nat.le_of_ble_eq_true rfl) (Nat.zero_le _) (Nat.zero_le _) (Call.mono h (fun r21 M22 h => ?_))
      obtain ⟨v23, rfl, h⟩ := h
      refine r_if_ne (pc := 37) (tgt := 68) dX11_holds_37 (by decide) (fun c24 => ?_) (fun c24 => ?_)
      · replace h := h.1 c24
        refine r_iconst (pc := 68) (v := (-1)) dX11_holds_68 (by decide) ?_
        exact r_iret (pc := 69) dX11_holds_69 rfl h
      · replace h := h.2 c24
        refine r_iload (pc := 40) (i := 9) dX11_holds_40 rfl ?_
        refine r_iconst (pc := 42) (v := 1) dX11_holds_42 (by decide) ?_
        refine r_icmp_le (pc := 43) (tgt := 54) dX11_holds_43 (by decide) (fun c25 => ?_) (fun c25 => ?_)
        · replace h := h.1 c25
          exact h
        · replace h := h.2 c25
          refine r_lload (pc := 46) (i := 4) dX11_holds_46 rfl ?_
          refine r_callS (pc := 48) (as := [_]) (st := []) okX11_outside lkX11_227 stX11_outside dX11_holds_48 rfl (Nat.le_of_ble_eq_true rfl) (Nat.zero_le _) (Nat.zero_le _) (Call.mono h (fun r26 M27 h => ?_))
          obtain ⟨v28, rfl, h⟩ := h
          refine r_if_ne (pc := 51) (tgt := 68) dX11_holds_51 (by decide) (fun c29 => ?_) (fun c29 => ?_)
          · replace h := h.1 c29
            refine r_iconst (pc := 68) (v := (-1)) dX11_holds_68 (by decide) ?_
            exact r_iret (pc := 69) dX11_holds_69 rfl h
          · replace h := h.2 c29
            exact h
theorem vX11_holds_54 {G : GG} {d rc rs : Nat} (p0 : Nat) (x1 : Int32) (l2 : Int64) (l4 : Int64) (l6 : Int64) (p8 : Nat) (x9 : Int32)  {M : Mem} {Q : Option Value → Mem → Prop} (h : (x9 ≤ 2 → (x_h M p0).1 = 27 ∧ (x_h M p8).1 = 17 ∧ Call G d 0 0 mX1_readsAll [.ref p8, .int x9, .long l2, .long l4, .long l6, .int (x_i M p0 11)] M (fun r4 M5 => ∃ v6 : Int32, r4 = some (.int v6) ∧ (x_h M5 p8).1 = 17 ∧ Call G d 0 0 mX1_mark [.ref p8, .int v6] M5 (fun r8 M9 => ∃ v10 : Int32, r8 = some (.int v10) ∧ Q (some (.int v10)) M9))) ∧ (¬ x9 ≤ 2 → Call G d 0 0 mX11_outside [.long l6] M (fun r11 M12 => ∃ v13 : Int32, r11 = some (.int v13) ∧ (v13 = 0 → (x_h M12 p0).1 = 27 ∧ (x_h M12 p8).1 = 17 ∧ Call G d 0 0 mX1_readsAll [.ref p8, .int x9, .long l2, .long l4, .long l6, .int (x_i M12 p0 11)] M12 (fun r17 M18 => ∃ v19 : Int32, r17 = some (.int v19) ∧ (x_h M18 p8).1 = 17 ∧ Call G d 0 0 mX1_mark [.ref p8, .int v19] M18 (fun r21 M22 => ∃ v23 : Int32, r21 = some (.int v23) ∧ Q (some (.int v23)) M22))) ∧ (¬ v13 = 0 → Q (some (.int (-1))) M12)))) : LX11_holds_54 G d rc rs p0 x1 l2 l4 l6 p8 x9 M Q := by
  show Wk G (d + 1) rc rs mX11_holds 54 _ _ M Q
  refine r_iload (pc := 54) (i := 9) dX11_holds_54 rfl ?_
  refine r_iconst (pc := 56) (v := 2) dX11_holds_56 (by decide) ?_
  refine r_icmp_le (pc := 57) (tgt := 70) dX11_holds_57 (by decide) (fun c1 => ?_) (fun c1 => ?_)
  · replace h := h.1 c1
    refine r_aload (pc := 70) (i := 8) dX11_holds_70 rfl ?_
    refine r_aload (pc := 72) (i := 8) dX11_holds_72 rfl ?_
    refine r_iload (pc := 74) (i := 9) dX11_holds_74 rfl ?_
    refine r_lload_n (pc := 76) (i := 2) dX11_holds_76 rfl rfl ?_
    refine r_lload (pc := 77) (i := 4) dX11_holds_77 rfl ?_
    refine r_lload (pc := 79) (i := 6) dX11_holds_79 rfl ?_
    refine r_aload_n (pc := 81) (i := 0) dX11_holds_81 rfl rfl ?_
    obtain ⟨k2, h⟩ := h
    refine r_geti (pc := 82) flX11_67 dX11_holds_82 (Or.inl rfl) k2 ?_
    obtain ⟨k3, h⟩ := h
    refine r_callV (pc := 85) (ci := 1) (as := [_, _, _, _, _]) (st := [_]) okX1_readsAll lkX11_231 inX1_readsAll seX1_readsAll ⟨_, rfl, rfl⟩ dX11_holds_85 rfl k3 (Nat.le_of_ble_eq_true rfl) (Nat.zero_le _) (Nat.zero_le _) (Call.mono h (fun r4 M5 h => ?_))
    obtain ⟨v6, rfl, h⟩ := h
    obtain ⟨k7, h⟩ := h
    refine r_callV (pc := 88) (ci := 1) (as := [_]) (st := []) okX1_mark lkX11_188 inX1_mark seX1_mark ⟨_, rfl, rfl⟩ dX11_holds_88 rfl k7 (Nat.le_of_ble_eq_true rfl) (Nat.zero_le _) (Nat.zero_le _) (Call.mono h (fun r8 M9 h => ?_))
    obtain ⟨v10, rfl, h⟩ := h
    exact r_iret (pc := 91) dX11_holds_91 rfl h
  · replace h := h.2 c1
    refine r_lload (pc := 60) (i := 6) dX11_holds_60 rfl ?_
    refine r_callS (pc := 62) (as := [_]) (st := []) okX11_outside lkX11_227 stX11_outside dX11_holds_62 rfl (Nat.le_of_ble_eq_true rfl) (Nat.zero_le _) (Nat.zero_le _) (Call.mono h (fun r11 M12 h => ?_))
    obtain ⟨v13, rfl, h⟩ := h
    refine r_if_eq (pc := 65) (tgt := 70) dX11_holds_65 (by decide) (fun c14 => ?_) (fun c14 => ?_)
    · replace h := h.1 c14
      refine r_aload (pc := 70) (i := 8) dX11_holds_70 rfl ?_
      refine r_aload (pc := 72) (i := 8) dX11_holds_72 rfl ?_
      refine r_iload (pc := 74) (i := 9) dX11_holds_74 rfl ?_
      refine r_lload_n (pc := 76) (i := 2) dX11_holds_76 rfl rfl ?_
      refine r_lload (pc := 77) (i := 4) dX11_holds_77 rfl ?_
      refine r_lload (pc := 79) (i := 6) dX11_holds_79 rfl ?_
      refine r_aload_n (pc := 81) (i := 0) dX11_holds_81 rfl rfl ?_
      obtain ⟨k15, h⟩ := h
      refine r_geti (pc := 82) flX11_67 dX11_holds_82 (Or.inl rfl) k15 ?_
      obtain ⟨k16, h⟩ := h
      refine r_callV (pc := 85) (ci := 1) (as := [_, _, _, _, _]) (st := [_]) okX1_readsAll lkX11_231 inX1_readsAll seX1_readsAll ⟨_, rfl, rfl⟩ dX11_holds_85 rfl k16 (Nat.le_of_ble_eq_true rfl) (Nat.zero_le _) (Nat.zero_le _) (Call.mono h (fun r17 M18 h => ?_))
      obtain ⟨v19, rfl, h⟩ := h
      obtain ⟨k20, h⟩ := h
      refine r_callV (pc := 88) (ci := 1) (as := [_]) (st := []) okX1_mark lkX11_188 inX1_mark seX1_mark ⟨_, rfl, rfl⟩ dX11_holds_88 rfl k20 (Nat.le_of_ble_eq_true rfl) (Nat.zero_le _) (Nat.zero_le _) (Call.mono h (fun r21 M22 h => ?_))
      obtain ⟨v23, rfl, h⟩ := h
      exact r_iret (pc := 91) dX11_holds_91 rfl h
    · replace h := h.2 c14
      refine r_iconst (pc := 68) (v := (-1)) dX11_holds_68 (by decide) ?_
      exact r_iret (pc := 69) dX11_holds_69 rfl h
theorem eX11_next {G : GG} {d rc rs : Nat} (o : Nat) (a1 : Int32) (a2 : Int64)  {M : Mem} {Q : Option Value → Mem → Prop} (h : (x_h M o).1 = 27 ∧ Call G d 0 0 mX11_askedOf [.ref o, .int a1, .int 1] M (fun r2 M3 => ∃ o4 : Option Nat, r2 = some (va_rf o4) ∧ (o4 = none → Q (some (.long (-2))) M3) ∧ (∀ v5, o4 = some v5 → ((lg_cmp a2 (-1)) < 0 → Q (some (.long (-2))) M3) ∧ (¬ (lg_cmp a2 (-1)) < 0 → ((lg_cmp a2 4611686018427387904) ≤ 0 → (x_h M3 o).1 = 27 ∧ (∃ b9, x_r M3 o 9 = some b9 ∧ (x_h M3 b9).1 = 22 ∧ Call G d 0 0 mX6_leastAbove [.ref b9, .ref v5, .long a2, .int (x_i M3 o 11)] M3 (fun r11 M12 => ∃ v13 : Int64, r11 = some (.long v13) ∧ Q (some (.long v13)) M12))) ∧ (¬ (lg_cmp a2 4611686018427387904) ≤ 0 → Q (some (.long (-2))) M3))))) : Call G (d + 1) rc rs mX11_next [.ref o, .int a1, .long a2] M Q := by
  refine call_of (by decide) (Nat.le_of_ble_eq_true rfl) ?_
  show Wk G (d + 1) rc rs mX11_next 0 [some (.ref o), some (.int a1), some (.long a2), none, none] [] M Q
  refine r_aload_n (pc := 0) (i := 0) dX11_next_0 rfl rfl ?_
  refine r_iload_n (pc := 1) (i := 1) dX11_next_1 rfl rfl ?_
  refine r_iconst (pc := 2) (v := 1) dX11_next_2 (by decide) ?_
  obtain ⟨k1, h⟩ := h
  refine r_callV (pc := 3) (ci := 11) (as := [_, _]) (st := []) okX11_askedOf lkX11_144 inX11_askedOf seX11_askedOf ⟨_, rfl, rfl⟩ dX11_next_3 rfl k1 (Nat.le_of_ble_eq_true rfl) (Nat.zero_le _) (Nat.zero_le _) (Call.mono h (fun r2 M3 h => ?_))
  obtain ⟨o4, rfl, h⟩ := h
  cases o4 with
  | none =>
    replace h := h.1 rfl
    refine r_astoreN (pc := 6) (i := 4) dX11_next_6 rfl (Nat.le_of_ble_eq_true rfl) ?_
    refine r_aloadN (pc := 8) (i := 4) dX11_next_8 rfl ?_
    refine r_ifnullN (pc := 10) (tgt := 29) dX11_next_10 (by decide) ?_
    refine r_ldc2 (pc := 29) (v := (-2)) dX11_next_29 ww_1010 ?_
    exact r_lret (pc := 32) dX11_next_32 rfl h
  | some v5 =>
    replace h := h.2 v5 rfl
    refine r_astore (pc := 6) (i := 4) dX11_next_6 rfl (Nat.le_of_ble_eq_true rfl) ?_
    refine r_aload (pc := 8) (i := 4) dX11_next_8 rfl ?_
    refine r_ifnull (pc := 10) dX11_next_10 ?_
    refine r_lload_n (pc := 13) (i := 2) dX11_next_13 rfl rfl ?_
    refine r_ldc2 (pc := 14) (v := (-1)) dX11_next_14 ww_1060 ?_
    refine r_lcmp (pc := 17) dX11_next_17 ?_
    refine r_if_lt (pc := 18) (tgt := 29) dX11_next_18 (by decide) (fun c6 => ?_) (fun c6 => ?_)
    · replace h := h.1 c6
      refine r_ldc2 (pc := 29) (v := (-2)) dX11_next_29 ww_1010 ?_
      exact r_lret (pc := 32) dX11_next_32 rfl h
    · replace h := h.2 c6
      refine r_lload_n (pc := 21) (i := 2) dX11_next_21 rfl rfl ?_
      refine r_ldc2 (pc := 22) (v := 4611686018427387904) dX11_next_22 ww_995 ?_
      refine r_lcmp (pc := 25) dX11_next_25 ?_
      refine r_if_le (pc := 26) (tgt := 33) dX11_next_26 (by decide) (fun c7 => ?_) (fun c7 => ?_)
      · replace h := h.1 c7
        refine r_aload_n (pc := 33) (i := 0) dX11_next_33 rfl rfl ?_
        obtain ⟨k8, h⟩ := h
        obtain ⟨b9, hb9, h⟩ := h
        refine r_getr (pc := 34) flX11_56 dX11_next_34 rfl k8 hb9 ?_
        refine r_aload (pc := 37) (i := 4) dX11_next_37 rfl ?_
        refine r_lload_n (pc := 39) (i := 2) dX11_next_39 rfl rfl ?_
        refine r_aload_n (pc := 40) (i := 0) dX11_next_40 rfl rfl ?_
        refine r_geti (pc := 41) flX11_67 dX11_next_41 (Or.inl rfl) k8 ?_
        obtain ⟨k10, h⟩ := h
        refine r_callV (pc := 44) (ci := 6) (as := [_, _, _]) (st := []) okX6_leastAbove lkX11_237 inX6_leastAbove seX6_leastAbove ⟨_, rfl, rfl⟩ dX11_next_44 rfl k10 (Nat.le_of_ble_eq_true rfl) (Nat.zero_le _) (Nat.zero_le _) (Call.mono h (fun r11 M12 h => ?_))
        obtain ⟨v13, rfl, h⟩ := h
        exact r_lret (pc := 47) dX11_next_47 rfl h
      · replace h := h.2 c7
        refine r_ldc2 (pc := 29) (v := (-2)) dX11_next_29 ww_1010 ?_
        exact r_lret (pc := 32) dX11_next_32 rfl h
theorem eX11_many {G : GG} {d rc rs : Nat} (o : Nat) (a1 : Int32)  {M : Mem} {Q : Option Value → Mem → Prop} (h : (x_h M o).1 = 27 ∧ Call G d 0 0 mX11_askedOf [.ref o, .int a1, .int 1] M (fun r2 M3 => ∃ o4 : Option Nat, r2 = some (va_rf o4) ∧ (o4 = none → Q (some (.long (-2))) M3) ∧ (∀ v5, o4 = some v5 → (x_h M3 o).1 = 27 ∧ (∃ b7, x_r M3 o 9 = some b7 ∧ (x_h M3 b7).1 = 22 ∧ Call G d 0 0 mX6_howMany [.ref b7, .ref v5, .int (x_i M3 o 11)] M3 (fun r9 M10 => ∃ v11 : Int64, r9 = some (.long v11) ∧ Q (some (.long v11)) M10))))) : Call G (d + 1) rc rs mX11_many [.ref o, .int a1] M Q := by
  refine call_of (by decide) (Nat.le_of_ble_eq_true rfl) ?_
  show Wk G (d + 1) rc rs mX11_many 0 [some (.ref o), some (.int a1), none] [] M Q
  refine r_aload_n (pc := 0) (i := 0) dX11_many_0 rfl rfl ?_
  refine r_iload_n (pc := 1) (i := 1) dX11_many_1 rfl rfl ?_
  refine r_iconst (pc := 2) (v := 1) dX11_many_2 (by decide) ?_
  obtain ⟨k1, h⟩ := h
  refine r_callV (pc := 3) (ci := 11) (as := [_, _]) (st := []) okX11_askedOf lkX11_144 inX11_askedOf seX11_askedOf ⟨_, rfl, rfl⟩ dX11_many_3 rfl k1 (Nat.le_of_ble_eq_true rfl) (Nat.zero_le _) (Nat.zero_le _) (Call.mono h (fun r2 M3 h => ?_))
  obtain ⟨o4, rfl, h⟩ := h
  cases o4 with
  | none =>
    replace h := h.1 rfl
    refine r_astore_nN (pc := 6) (i := 2) dX11_many_6 rfl rfl (Nat.le_of_ble_eq_true rfl) ?_
    refine r_aload_nN (pc := 7) (i := 2) dX11_many_7 rfl rfl ?_
    refine r_ifnonnullN (pc := 8) dX11_many_8 ?_
    refine r_ldc2 (pc := 11) (v := (-2)) dX11_many_11 ww_1010 ?_
    refine r_goto (pc := 14) (tgt := 29) dX11_many_14 (by decide) ?_
    exact r_lret (pc := 29) dX11_many_29 rfl h
  | some v5 =>
    replace h := h.2 v5 rfl
    refine r_astore_n (pc := 6) (i := 2) dX11_many_6 rfl rfl (Nat.le_of_ble_eq_true rfl) ?_
    refine r_aload_n (pc := 7) (i := 2) dX11_many_7 rfl rfl ?_
    refine r_ifnonnull (pc := 8) (tgt := 17) dX11_many_8 (by decide) ?_
    refine r_aload_n (pc := 17) (i := 0) dX11_many_17 rfl rfl ?_
    obtain ⟨k6, h⟩ := h
    obtain ⟨b7, hb7, h⟩ := h
    refine r_getr (pc := 18) flX11_56 dX11_many_18 rfl k6 hb7 ?_
    refine r_aload_n (pc := 21) (i := 2) dX11_many_21 rfl rfl ?_
    refine r_aload_n (pc := 22) (i := 0) dX11_many_22 rfl rfl ?_
    refine r_geti (pc := 23) flX11_67 dX11_many_23 (Or.inl rfl) k6 ?_
    obtain ⟨k8, h⟩ := h
    refine r_callV (pc := 26) (ci := 6) (as := [_, _]) (st := []) okX6_howMany lkX11_241 inX6_howMany seX6_howMany ⟨_, rfl, rfl⟩ dX11_many_26 rfl k8 (Nat.le_of_ble_eq_true rfl) (Nat.zero_le _) (Nat.zero_le _) (Call.mono h (fun r9 M10 h => ?_))
    obtain ⟨v11, rfl, h⟩ := h
    exact r_lret (pc := 29) dX11_many_29 rfl h
theorem eX11_values {G : GG} {d rc rs : Nat} (o : Nat) (a1 : Int32) (a2 : Int64)  {M : Mem} {Q : Option Value → Mem → Prop} (h : (x_h M o).1 = 27 ∧ Call G d 0 0 mX11_askedOf [.ref o, .int a1, .int 2] M (fun r2 M3 => ∃ o4 : Option Nat, r2 = some (va_rf o4) ∧ (o4 = none → Q (some (.long (-2))) M3) ∧ (∀ v5, o4 = some v5 → ((lg_cmp a2 0) < 0 → Q (some (.long (-2))) M3) ∧ (¬ (lg_cmp a2 0) < 0 → ((lg_cmp a2 1073741824) ≤ 0 → (x_h M3 o).1 = 27 ∧ (∃ b9, x_r M3 o 9 = some b9 ∧ (x_h M3 b9).1 = 22 ∧ Call G d 0 0 mX6_howManyFirst [.ref b9, .ref v5, .long a2, .int (x_i M3 o 11)] M3 (fun r11 M12 => ∃ v13 : Int64, r11 = some (.long v13) ∧ Q (some (.long v13)) M12))) ∧ (¬ (lg_cmp a2 1073741824) ≤ 0 → Q (some (.long (-2))) M3))))) : Call G (d + 1) rc rs mX11_values [.ref o, .int a1, .long a2] M Q := by
  refine call_of (by decide) (Nat.le_of_ble_eq_true rfl) ?_
  show Wk G (d + 1) rc rs mX11_values 0 [some (.ref o), some (.int a1), some (.long a2), none, none] [] M Q
  refine r_aload_n (pc := 0) (i := 0) dX11_values_0 rfl rfl ?_
  refine r_iload_n (pc := 1) (i := 1) dX11_values_1 rfl rfl ?_
  refine r_iconst (pc := 2) (v := 2) dX11_values_2 (by decide) ?_
  obtain ⟨k1, h⟩ := h
  refine r_callV (pc := 3) (ci := 11) (as := [_, _]) (st := []) okX11_askedOf lkX11_144 inX11_askedOf seX11_askedOf ⟨_, rfl, rfl⟩ dX11_values_3 rfl k1 (Nat.le_of_ble_eq_true rfl) (Nat.zero_le _) (Nat.zero_le _) (Call.mono h (fun r2 M3 h => ?_))
  obtain ⟨o4, rfl, h⟩ := h
  cases o4 with
  | none =>
    replace h := h.1 rfl
    refine r_astoreN (pc := 6) (i := 4) dX11_values_6 rfl (Nat.le_of_ble_eq_true rfl) ?_
    refine r_aloadN (pc := 8) (i := 4) dX11_values_8 rfl ?_
    refine r_ifnullN (pc := 10) (tgt := 27) dX11_values_10 (by decide) ?_
    refine r_ldc2 (pc := 27) (v := (-2)) dX11_values_27 ww_1010 ?_
    exact r_lret (pc := 30) dX11_values_30 rfl h
  | some v5 =>
    replace h := h.2 v5 rfl
    refine r_astore (pc := 6) (i := 4) dX11_values_6 rfl (Nat.le_of_ble_eq_true rfl) ?_
    refine r_aload (pc := 8) (i := 4) dX11_values_8 rfl ?_
    refine r_ifnull (pc := 10) dX11_values_10 ?_
    refine r_lload_n (pc := 13) (i := 2) dX11_values_13 rfl rfl ?_
    refine r_lconst (pc := 14) (v := 0) dX11_values_14 (by decide) ?_
    refine r_lcmp (pc := 15) dX11_values_15 ?_
    refine r_if_lt (pc := 16) (tgt := 27) dX11_values_16 (by decide) (fun c6 => ?_) (fun c6 => ?_)
    · replace h := h.1 c6
      refine r_ldc2 (pc := 27) (v := (-2)) dX11_values_27 ww_1010 ?_
      exact r_lret (pc := 30) dX11_values_30 rfl h
    · replace h := h.2 c6
      refine r_lload_n (pc := 19) (i := 2) dX11_values_19 rfl rfl ?_
      refine r_ldc2 (pc := 20) (v := 1073741824) dX11_values_20 ww_1122 ?_
      refine r_lcmp (pc := 23) dX11_values_23 ?_
      refine r_if_le (pc := 24) (tgt := 31) dX11_values_24 (by decide) (fun c7 => ?_) (fun c7 => ?_)
      · replace h := h.1 c7
        refine r_aload_n (pc := 31) (i := 0) dX11_values_31 rfl rfl ?_
        obtain ⟨k8, h⟩ := h
        obtain ⟨b9, hb9, h⟩ := h
        refine r_getr (pc := 32) flX11_56 dX11_values_32 rfl k8 hb9 ?_
        refine r_aload (pc := 35) (i := 4) dX11_values_35 rfl ?_
        refine r_lload_n (pc := 37) (i := 2) dX11_values_37 rfl rfl ?_
        refine r_aload_n (pc := 38) (i := 0) dX11_values_38 rfl rfl ?_
        refine r_geti (pc := 39) flX11_67 dX11_values_39 (Or.inl rfl) k8 ?_
        obtain ⟨k10, h⟩ := h
        refine r_callV (pc := 42) (ci := 6) (as := [_, _, _]) (st := []) okX6_howManyFirst lkX11_247 inX6_howManyFirst seX6_howManyFirst ⟨_, rfl, rfl⟩ dX11_values_42 rfl k10 (Nat.le_of_ble_eq_true rfl) (Nat.zero_le _) (Nat.zero_le _) (Call.mono h (fun r11 M12 h => ?_))
        obtain ⟨v13, rfl, h⟩ := h
        exact r_lret (pc := 45) dX11_values_45 rfl h
      · replace h := h.2 c7
        refine r_ldc2 (pc := 27) (v := (-2)) dX11_values_27 ww_1010 ?_
        exact r_lret (pc := 30) dX11_values_30 rfl h
theorem eX11_alike {G : GG} {d rc rs : Nat} (o : Nat) (a1 : Int32) (a2 : Int32)  {M : Mem} {Q : Option Value → Mem → Prop} (h : (x_h M o).1 = 27 ∧ Call G d 0 0 mX11_asked [.ref o, .int a1] M (fun r2 M3 => ∃ o4 : Option Nat, r2 = some (va_rf o4) ∧ (o4 = none → (x_h M3 o).1 = 27 ∧ Call G d 0 0 mX11_asked [.ref o, .int a2] M3 (fun r7 M8 => ∃ o9 : Option Nat, r7 = some (va_rf o9) ∧ (o9 = none → Q (some (.int (-1))) M8) ∧ (∀ v10, o9 = some v10 → Q (some (.int (-1))) M8))) ∧ (∀ v5, o4 = some v5 → (x_h M3 o).1 = 27 ∧ Call G d 0 0 mX11_asked [.ref o, .int a2] M3 (fun r12 M13 => ∃ o14 : Option Nat, r12 = some (va_rf o14) ∧ (o14 = none → Q (some (.int (-1))) M13) ∧ (∀ v15, o14 = some v15 → (x_h M13 o).1 = 27 ∧ (∃ b17, x_r M13 o 1 = some b17 ∧ (4 ≤ (x_h M13 b17).1 ∧ (x_h M13 b17).1 < 8) ∧ vp_in a1 (x_h M13 b17).2 ∧ (∃ b20, x_r M13 b17 a1.toNatClampNeg = some b20 ∧ (x_h M13 b20).1 = 20 ∧ Call G d 0 0 mJ6_bitCount_0f7a4 [.int (x_i M13 b20 4)] M13 (fun r22 M23 => ∃ v24 : Int32, r22 = some (.int v24) ∧ (x_h M23 o).1 = 27 ∧ (∃ b26, x_r M23 o 1 = some b26 ∧ (4 ≤ (x_h M23 b26).1 ∧ (x_h M23 b26).1 < 8) ∧ vp_in a2 (x_h M23 b26).2 ∧ (∃ b29, x_r M23 b26 a2.toNatClampNeg = some b29 ∧ (x_h M23 b29).1 = 20 ∧ Call G d 0 0 mJ6_bitCount_0f7a4 [.int (x_i M23 b29 4)] M23 (fun r31 M32 => ∃ v33 : Int32, r31 = some (.int v33) ∧ (¬ v24 = v33 → ((0 : Int32) = 0 → Q (some (.int 0)) M32) ∧ (¬ (0 : Int32) = 0 → (x_h M32 v5).1 = 17 ∧ Call G d 0 0 mX1_isLike [.ref v5, .ref v15] M32 (fun r37 M38 => ∃ v39 : Int32, r37 = some (.int v39) ∧ (v39 = 0 → Q (some (.int 0)) M38) ∧ (¬ v39 = 0 → Q (some (.int 1)) M38)))) ∧ (v24 = v33 → ((1 : Int32) = 0 → Q (some (.int 0)) M32) ∧ (¬ (1 : Int32) = 0 → (x_h M32 v5).1 = 17 ∧ Call G d 0 0 mX1_isLike [.ref v5, .ref v15] M32 (fun r43 M44 => ∃ v45 : Int32, r43 = some (.int v45) ∧ (v45 = 0 → Q (some (.int 0)) M44) ∧ (¬ v45 = 0 → Q (some (.int 1)) M44))))))))))))))) : Call G (d + 1) rc rs mX11_alike [.ref o, .int a1, .int a2] M Q := by
  refine call_of (by decide) (Nat.le_of_ble_eq_true rfl) ?_
  show Wk G (d + 1) rc rs mX11_alike 0 [some (.ref o), some (.int a1), some (.int a2), none, none, none] [] M Q
  refine r_aload_n (pc := 0) (i := 0) dX11_alike_0 rfl rfl ?_
  refine r_iload_n (pc := 1) (i := 1) dX11_alike_1 rfl rfl ?_
  obtain ⟨k1, h⟩ := h
  refine r_callV (pc := 2) (ci := 11) (as := [_]) (st := []) okX11_asked lkX11_209 inX11_asked seX11_asked ⟨_, rfl, rfl⟩ dX11_alike_2 rfl k1 (Nat.le_of_ble_eq_true rfl) (Nat.zero_le _) (Nat.zero_le _) (Call.mono h (fun r2 M3 h => ?_))
  obtain ⟨o4, rfl, h⟩ := h
  cases o4 with
  | none =>
    replace h := h.1 rfl
    refine r_astore_nN (pc := 5) (i := 3) dX11_alike_5 rfl rfl (Nat.le_of_ble_eq_true rfl) ?_
    refine r_aload_n (pc := 6) (i := 0) dX11_alike_6 rfl rfl ?_
    refine r_iload_n (pc := 7) (i := 2) dX11_alike_7 rfl rfl ?_
    obtain ⟨k6, h⟩ := h
    refine r_callV (pc := 8) (ci := 11) (as := [_]) (st := []) okX11_asked lkX11_209 inX11_asked seX11_asked ⟨_, rfl, rfl⟩ dX11_alike_8 rfl k6 (Nat.le_of_ble_eq_true rfl) (Nat.zero_le _) (Nat.zero_le _) (Call.mono h (fun r7 M8 h => ?_))
    obtain ⟨o9, rfl, h⟩ := h
    cases o9 with
    | none =>
      replace h := h.1 rfl
      refine r_astoreN (pc := 11) (i := 4) dX11_alike_11 rfl (Nat.le_of_ble_eq_true rfl) ?_
      refine r_aload_nN (pc := 13) (i := 3) dX11_alike_13 rfl rfl ?_
      refine r_ifnullN (pc := 14) (tgt := 22) dX11_alike_14 (by decide) ?_
      refine r_iconst (pc := 22) (v := (-1)) dX11_alike_22 (by decide) ?_
      exact r_iret (pc := 23) dX11_alike_23 rfl h
    | some v10 =>
      replace h := h.2 v10 rfl
      refine r_astore (pc := 11) (i := 4) dX11_alike_11 rfl (Nat.le_of_ble_eq_true rfl) ?_
      refine r_aload_nN (pc := 13) (i := 3) dX11_alike_13 rfl rfl ?_
      refine r_ifnullN (pc := 14) (tgt := 22) dX11_alike_14 (by decide) ?_
      refine r_iconst (pc := 22) (v := (-1)) dX11_alike_22 (by decide) ?_
      exact r_iret (pc := 23) dX11_alike_23 rfl h
  | some v5 =>
    replace h := h.2 v5 rfl
    refine r_astore_n (pc := 5) (i := 3) dX11_alike_5 rfl rfl (Nat.le_of_ble_eq_true rfl) ?_
    refine r_aload_n (pc := 6) (i := 0) dX11_alike_6 rfl rfl ?_
    refine r_iload_n (pc := 7) (i := 2) dX11_alike_7 rfl rfl ?_
    obtain ⟨k11, h⟩ := h
    refine r_callV (pc := 8) (ci := 11) (as := [_]) (st := []) okX11_asked lkX11_209 inX11_asked seX11_asked ⟨_, rfl, rfl⟩ dX11_alike_8 rfl k11 (Nat.le_of_ble_eq_true rfl) (Nat.zero_le _) (Nat.zero_le _) (Call.mono h (fun r12 M13 h => ?_))
    obtain ⟨o14, rfl, h⟩ := h
    cases o14 with
    | none =>
      replace h := h.1 rfl
      refine r_astoreN (pc := 11) (i := 4) dX11_alike_11 rfl (Nat.le_of_ble_eq_true rfl) ?_
      refine r_aload_n (pc := 13) (i := 3) dX11_alike_13 rfl rfl ?_
      refine r_ifnull (pc := 14) dX11_alike_14 ?_
      refine r_aloadN (pc := 17) (i := 4) dX11_alike_17 rfl ?_
      refine r_ifnonnullN (pc := 19) dX11_alike_19 ?_
      refine r_iconst (pc := 22) (v := (-1)) dX11_alike_22 (by decide) ?_
      exact r_iret (pc := 23) dX11_alike_23 rfl h
    | some v15 =>
      replace h := h.2 v15 rfl
      refine r_astore (pc := 11) (i := 4) dX11_alike_11 rfl (Nat.le_of_ble_eq_true rfl) ?_
      refine r_aload_n (pc := 13) (i := 3) dX11_alike_13 rfl rfl ?_
      refine r_ifnull (pc := 14) dX11_alike_14 ?_
      refine r_aload (pc := 17) (i := 4) dX11_alike_17 rfl ?_
      refine r_ifnonnull (pc := 19) (tgt := 24) dX11_alike_19 (by decide) ?_
      refine r_aload_n (pc := 24) (i := 0) dX11_alike_24 rfl rfl ?_
      obtain ⟨k16, h⟩ := h
      obtain ⟨b17, hb17, h⟩ := h
      refine r_getr (pc := 25) flX11_17 dX11_alike_25 rfl k16 hb17 ?_
      refine r_iload_n (pc := 28) (i := 1) dX11_alike_28 rfl rfl ?_
      obtain ⟨k18, h⟩ := h
      obtain ⟨i19, h⟩ := h
      obtain ⟨b20, hb20, h⟩ := h
      refine r_aald (pc := 29) dX11_alike_29 rfl k18 i19 hb20 ?_
      obtain ⟨k21, h⟩ := h
      refine r_geti (pc := 30) flX11_219 dX11_alike_30 (Or.inl rfl) k21 ?_
      refine r_callS (pc := 33) (as := [_]) (st := []) okJ6_bitCount_0f7a4 lkX11_222 stJ6_bitCount_0f7a4 dX11_alike_33 rfl (Nat.le_of_ble_eq_true rfl) (Nat.zero_le _) (Nat.zero_le _) (Call.mono h (fun r22 M23 h => ?_))
      obtain ⟨v24, rfl, h⟩ := h
      refine r_aload_n (pc := 36) (i := 0) dX11_alike_36 rfl rfl ?_
      obtain ⟨k25, h⟩ := h
      obtain ⟨b26, hb26, h⟩ := h
      refine r_getr (pc := 37) flX11_17 dX11_alike_37 rfl k25 hb26 ?_
      refine r_iload_n (pc := 40) (i := 2) dX11_alike_40 rfl rfl ?_
      obtain ⟨k27, h⟩ := h
      obtain ⟨i28, h⟩ := h
      obtain ⟨b29, hb29, h⟩ := h
      refine r_aald (pc := 41) dX11_alike_41 rfl k27 i28 hb29 ?_
      obtain ⟨k30, h⟩ := h
      refine r_geti (pc := 42) flX11_219 dX11_alike_42 (Or.inl rfl) k30 ?_
      refine r_callS (pc := 45) (as := [_]) (st := [_]) okJ6_bitCount_0f7a4 lkX11_222 stJ6_bitCount_0f7a4 dX11_alike_45 rfl (Nat.le_of_ble_eq_true rfl) (Nat.zero_le _) (Nat.zero_le _) (Call.mono h (fun r31 M32 h => ?_))
      obtain ⟨v33, rfl, h⟩ := h
      refine r_icmp_ne (pc := 48) (tgt := 55) dX11_alike_48 (by decide) (fun c34 => ?_) (fun c34 => ?_)
      · replace h := h.1 c34
        refine r_iconst (pc := 55) (v := 0) dX11_alike_55 (by decide) ?_
        refine r_istore (pc := 56) (i := 5) dX11_alike_56 rfl (Nat.le_of_ble_eq_true rfl) ?_
        refine r_iload (pc := 58) (i := 5) dX11_alike_58 rfl ?_
        refine r_if_eq (pc := 60) (tgt := 76) dX11_alike_60 (by decide) (fun c35 => ?_) (fun c35 => ?_)
        · replace h := h.1 c35
          refine r_iconst (pc := 76) (v := 0) dX11_alike_76 (by decide) ?_
          exact r_iret (pc := 77) dX11_alike_77 rfl h
        · replace h := h.2 c35
          refine r_aload_n (pc := 63) (i := 3) dX11_alike_63 rfl rfl ?_
          refine r_aload (pc := 64) (i := 4) dX11_alike_64 rfl ?_
          obtain ⟨k36, h⟩ := h
          refine r_callV (pc := 66) (ci := 1) (as := [_]) (st := []) okX1_isLike lkX11_250 inX1_isLike seX1_isLike ⟨_, rfl, rfl⟩ dX11_alike_66 rfl k36 (Nat.le_of_ble_eq_true rfl) (Nat.zero_le _) (Nat.zero_le _) (Call.mono h (fun r37 M38 h => ?_))
          obtain ⟨v39, rfl, h⟩ := h
          refine r_if_eq (pc := 69) (tgt := 76) dX11_alike_69 (by decide) (fun c40 => ?_) (fun c40 => ?_)
          · replace h := h.1 c40
            refine r_iconst (pc := 76) (v := 0) dX11_alike_76 (by decide) ?_
            exact r_iret (pc := 77) dX11_alike_77 rfl h
          · replace h := h.2 c40
            refine r_iconst (pc := 72) (v := 1) dX11_alike_72 (by decide) ?_
            refine r_goto (pc := 73) (tgt := 77) dX11_alike_73 (by decide) ?_
            exact r_iret (pc := 77) dX11_alike_77 rfl h
      · replace h := h.2 c34
        refine r_iconst (pc := 51) (v := 1) dX11_alike_51 (by decide) ?_
        refine r_goto (pc := 52) (tgt := 56) dX11_alike_52 (by decide) ?_
        refine r_istore (pc := 56) (i := 5) dX11_alike_56 rfl (Nat.le_of_ble_eq_true rfl) ?_
        refine r_iload (pc := 58) (i := 5) dX11_alike_58 rfl ?_
        refine r_if_eq (pc := 60) (tgt := 76) dX11_alike_60 (by decide) (fun c41 => ?_) (fun c41 => ?_)
        · replace h := h.1 c41
          refine r_iconst (pc := 76) (v := 0) dX11_alike_76 (by decide) ?_
          exact r_iret (pc := 77) dX11_alike_77 rfl h
        · replace h := h.2 c41
          refine r_aload_n (pc := 63) (i := 3) dX11_alike_63 rfl rfl ?_
          refine r_aload (pc := 64) (i := 4) dX11_alike_64 rfl ?_
          obtain ⟨k42, h⟩ := h
          refine r_callV (pc := 66) (ci := 1) (as := [_]) (st := []) okX1_isLike lkX11_250 inX1_isLike seX1_isLike ⟨_, rfl, rfl⟩ dX11_alike_66 rfl k42 (Nat.le_of_ble_eq_true rfl) (Nat.zero_le _) (Nat.zero_le _) (Call.mono h (fun r43 M44 h => ?_))
          obtain ⟨v45, rfl, h⟩ := h
          refine r_if_eq (pc := 69) (tgt := 76) dX11_alike_69 (by decide) (fun c46 => ?_) (fun c46 => ?_)
          · replace h := h.1 c46
            refine r_iconst (pc := 76) (v := 0) dX11_alike_76 (by decide) ?_
            exact r_iret (pc := 77) dX11_alike_77 rfl h
          · replace h := h.2 c46
            refine r_iconst (pc := 72) (v := 1) dX11_alike_72 (by decide) ?_
            refine r_goto (pc := 73) (tgt := 77) dX11_alike_73 (by decide) ?_
            exact r_iret (pc := 77) dX11_alike_77 rfl h
theorem eX11_act {G : GG} {d rc rs : Nat} (o : Nat) (a1 : Int32) (a2 : Int32) (a3 : Int32)  {M : Mem} {Q : Option Value → Mem → Prop} (h : (x_h M o).1 = 27 ∧ Call G d 0 0 mX11_within [.int a1, .int (x_i M o 12)] M (fun r2 M3 => ∃ v4 : Int32, r2 = some (.int v4) ∧ (v4 = 0 → (x_h M3 o).1 = 27 ∧ Call G d 0 0 mX11_refuse [.ref o, .int 1] M3 (fun r7 M8 => ∃ v9 : Int32, r7 = some (.int v9) ∧ Q (some (.int v9)) M8)) ∧ (¬ v4 = 0 → Call G d 0 0 mX11_within [.int a2, .int 4] M3 (fun r10 M11 => ∃ v12 : Int32, r10 = some (.int v12) ∧ (¬ v12 = 0 → (x_h M11 o).1 = 27 ∧ (∃ b15, x_r M11 o 10 = some b15 ∧ ∃ b16, x_r M11 o 0 = some b16 ∧ (4 ≤ (x_h M11 b16).1 ∧ (x_h M11 b16).1 < 8) ∧ vp_in a1 (x_h M11 b16).2 ∧ (∃ b19, x_r M11 b16 a1.toNatClampNeg = some b19 ∧ (x_h M11 b19).1 = 23 ∧ (∃ b21, x_r M11 b16 a1.toNatClampNeg = some b21 ∧ (x_h M11 b21).1 = 23 ∧ (∃ b23, x_r M11 b21 0 = some b23 ∧ (x_h M11 b23).1 = 17 ∧ (x_h M11 b15).1 = 16 ∧ Call G d 0 0 mX0_run [.ref b15, .int (x_i M11 b19 1), .int a1, .int (x_i M11 b23 2), .int a2, .int a3] M11 (fun r26 M27 => ∃ v28 : Int32, r26 = some (.int v28) ∧ (x_h M27 o).1 = 27 ∧ Call G d 0 0 mX11_done [.ref o, .int v28] M27 (fun r30 M31 => ∃ v32 : Int32, r30 = some (.int v32) ∧ Q (some (.int v32)) M31))))))) ∧ (v12 = 0 → (x_h M11 o).1 = 27 ∧ Call G d 0 0 mX11_refuse [.ref o, .int 1] M11 (fun r34 M35 => ∃ v36 : Int32, r34 = some (.int v36) ∧ Q (some (.int v36)) M35)))))) : Call G (d + 1) rc rs mX11_act [.ref o, .int a1, .int a2, .int a3] M Q := by
  refine call_of (by decide) (Nat.le_of_ble_eq_true rfl) ?_
  show Wk G (d + 1) rc rs mX11_act 0 [some (.ref o), some (.int a1), some (.int a2), some (.int a3)] [] M Q
  refine r_iload_n (pc := 0) (i := 1) dX11_act_0 rfl rfl ?_
  refine r_aload_n (pc := 1) (i := 0) dX11_act_1 rfl rfl ?_
  obtain ⟨k1, h⟩ := h
  refine r_geti (pc := 2) flX11_71 dX11_act_2 (Or.inl rfl) k1 ?_
  refine r_callS (pc := 5) (as := [_, _]) (st := []) okX11_within lkX11_98 stX11_within dX11_act_5 rfl (Nat.le_of_ble_eq_true rfl) (Nat.zero_le _) (Nat.zero_le _) (Call.mono h (fun r2 M3 h => ?_))
  obtain ⟨v4, rfl, h⟩ := h
  refine r_if_eq (pc := 8) (tgt := 19) dX11_act_8 (by decide) (fun c5 => ?_) (fun c5 => ?_)
  · replace h := h.1 c5
    refine r_aload_n (pc := 19) (i := 0) dX11_act_19 rfl rfl ?_
    refine r_iconst (pc := 20) (v := 1) dX11_act_20 (by decide) ?_
    obtain ⟨k6, h⟩ := h
    refine r_callV (pc := 21) (ci := 11) (as := [_]) (st := []) okX11_refuse lkX11_91 inX11_refuse seX11_refuse ⟨_, rfl, rfl⟩ dX11_act_21 rfl k6 (Nat.le_of_ble_eq_true rfl) (Nat.zero_le _) (Nat.zero_le _) (Call.mono h (fun r7 M8 h => ?_))
    obtain ⟨v9, rfl, h⟩ := h
    exact r_iret (pc := 24) dX11_act_24 rfl h
  · replace h := h.2 c5
    refine r_iload_n (pc := 11) (i := 2) dX11_act_11 rfl rfl ?_
    refine r_iconst (pc := 12) (v := 4) dX11_act_12 (by decide) ?_
    refine r_callS (pc := 13) (as := [_, _]) (st := []) okX11_within lkX11_98 stX11_within dX11_act_13 rfl (Nat.le_of_ble_eq_true rfl) (Nat.zero_le _) (Nat.zero_le _) (Call.mono h (fun r10 M11 h => ?_))
    obtain ⟨v12, rfl, h⟩ := h
    refine r_if_ne (pc := 16) (tgt := 25) dX11_act_16 (by decide) (fun c13 => ?_) (fun c13 => ?_)
    · replace h := h.1 c13
      refine r_aload_n (pc := 25) (i := 0) dX11_act_25 rfl rfl ?_
      refine r_aload_n (pc := 26) (i := 0) dX11_act_26 rfl rfl ?_
      obtain ⟨k14, h⟩ := h
      obtain ⟨b15, hb15, h⟩ := h
      refine r_getr (pc := 27) flX11_63 dX11_act_27 rfl k14 hb15 ?_
      refine r_aload_n (pc := 30) (i := 0) dX11_act_30 rfl rfl ?_
      obtain ⟨b16, hb16, h⟩ := h
      refine r_getr (pc := 31) flX11_11 dX11_act_31 rfl k14 hb16 ?_
      refine r_iload_n (pc := 34) (i := 1) dX11_act_34 rfl rfl ?_
      obtain ⟨k17, h⟩ := h
      obtain ⟨i18, h⟩ := h
      obtain ⟨b19, hb19, h⟩ := h
      refine r_aald (pc := 35) dX11_act_35 rfl k17 i18 hb19 ?_
      obtain ⟨k20, h⟩ := h
      refine r_geti (pc := 36) flX11_179 dX11_act_36 (Or.inl rfl) k20 ?_
      refine r_iload_n (pc := 39) (i := 1) dX11_act_39 rfl rfl ?_
      refine r_aload_n (pc := 40) (i := 0) dX11_act_40 rfl rfl ?_
      refine r_getr (pc := 41) flX11_11 dX11_act_41 rfl k14 hb16 ?_
      refine r_iload_n (pc := 44) (i := 1) dX11_act_44 rfl rfl ?_
      obtain ⟨b21, hb21, h⟩ := h
      refine r_aald (pc := 45) dX11_act_45 rfl k17 i18 hb21 ?_
      obtain ⟨k22, h⟩ := h
      obtain ⟨b23, hb23, h⟩ := h
      refine r_getr (pc := 46) flX11_116 dX11_act_46 rfl k22 hb23 ?_
      obtain ⟨k24, h⟩ := h
      refine r_geti (pc := 49) flX11_191 dX11_act_49 (Or.inl rfl) k24 ?_
      refine r_iload_n (pc := 52) (i := 2) dX11_act_52 rfl rfl ?_
      refine r_iload_n (pc := 53) (i := 3) dX11_act_53 rfl rfl ?_
      obtain ⟨k25, h⟩ := h
      refine r_callV (pc := 54) (ci := 0) (as := [_, _, _, _, _]) (st := [_]) okX0_run lkX11_254 inX0_run seX0_run ⟨_, rfl, rfl⟩ dX11_act_54 rfl k25 (Nat.le_of_ble_eq_true rfl) (Nat.zero_le _) (Nat.zero_le _) (Call.mono h (fun r26 M27 h => ?_))
      obtain ⟨v28, rfl, h⟩ := h
      obtain ⟨k29, h⟩ := h
      refine r_callV (pc := 57) (ci := 11) (as := [_]) (st := []) okX11_done lkX11_95 inX11_done seX11_done ⟨_, rfl, rfl⟩ dX11_act_57 rfl k29 (Nat.le_of_ble_eq_true rfl) (Nat.zero_le _) (Nat.zero_le _) (Call.mono h (fun r30 M31 h => ?_))
      obtain ⟨v32, rfl, h⟩ := h
      exact r_iret (pc := 60) dX11_act_60 rfl h
    · replace h := h.2 c13
      refine r_aload_n (pc := 19) (i := 0) dX11_act_19 rfl rfl ?_
      refine r_iconst (pc := 20) (v := 1) dX11_act_20 (by decide) ?_
      obtain ⟨k33, h⟩ := h
      refine r_callV (pc := 21) (ci := 11) (as := [_]) (st := []) okX11_refuse lkX11_91 inX11_refuse seX11_refuse ⟨_, rfl, rfl⟩ dX11_act_21 rfl k33 (Nat.le_of_ble_eq_true rfl) (Nat.zero_le _) (Nat.zero_le _) (Call.mono h (fun r34 M35 h => ?_))
      obtain ⟨v36, rfl, h⟩ := h
      exact r_iret (pc := 24) dX11_act_24 rfl h
theorem eX11_trace {G : GG} {d rc rs : Nat} (o : Nat) (a1 : Int32)  {M : Mem} {Q : Option Value → Mem → Prop} (h : (x_h M o).1 = 27 ∧ (∃ b2, x_r M o 10 = some b2 ∧ (x_h M b2).1 = 16 ∧ Call G d 0 0 mX11_within [.int a1, .int (x_i M b2 1)] M (fun r4 M5 => ∃ v6 : Int32, r4 = some (.int v6) ∧ (v6 = 0 → Q (some (.int (-1))) M5) ∧ (¬ v6 = 0 → (x_h M5 o).1 = 27 ∧ (∃ b9, x_r M5 o 10 = some b9 ∧ (x_h M5 b9).1 = 16 ∧ (∃ b11, x_r M5 b9 0 = some b11 ∧ (x_h M5 b11).1 = 1 ∧ vp_in a1 (x_h M5 b11).2 ∧ Q (some (.int (x_i M5 b11 a1.toNatClampNeg))) M5)))))) : Call G (d + 1) rc rs mX11_trace [.ref o, .int a1] M Q := by
  refine call_of (by decide) (Nat.le_of_ble_eq_true rfl) ?_
  show Wk G (d + 1) rc rs mX11_trace 0 [some (.ref o), some (.int a1)] [] M Q
  refine r_iload_n (pc := 0) (i := 1) dX11_trace_0 rfl rfl ?_
  refine r_aload_n (pc := 1) (i := 0) dX11_trace_1 rfl rfl ?_
  obtain ⟨k1, h⟩ := h
  obtain ⟨b2, hb2, h⟩ := h
  refine r_getr (pc := 2) flX11_63 dX11_trace_2 rfl k1 hb2 ?_
  obtain ⟨k3, h⟩ := h
  refine r_geti (pc := 5) flX11_176 dX11_trace_5 (Or.inl rfl) k3 ?_
  refine r_callS (pc := 8) (as := [_, _]) (st := []) okX11_within lkX11_98 stX11_within dX11_trace_8 rfl (Nat.le_of_ble_eq_true rfl) (Nat.zero_le _) (Nat.zero_le _) (Call.mono h (fun r4 M5 h => ?_))
  obtain ⟨v6, rfl, h⟩ := h
  refine r_if_eq (pc := 11) (tgt := 26) dX11_trace_11 (by decide) (fun c7 => ?_) (fun c7 => ?_)
  · replace h := h.1 c7
    refine r_iconst (pc := 26) (v := (-1)) dX11_trace_26 (by decide) ?_
    exact r_iret (pc := 27) dX11_trace_27 rfl h
  · replace h := h.2 c7
    refine r_aload_n (pc := 14) (i := 0) dX11_trace_14 rfl rfl ?_
    obtain ⟨k8, h⟩ := h
    obtain ⟨b9, hb9, h⟩ := h
    refine r_getr (pc := 15) flX11_63 dX11_trace_15 rfl k8 hb9 ?_
    obtain ⟨k10, h⟩ := h
    obtain ⟨b11, hb11, h⟩ := h
    refine r_getr (pc := 18) flX11_258 dX11_trace_18 rfl k10 hb11 ?_
    refine r_iload_n (pc := 21) (i := 1) dX11_trace_21 rfl rfl ?_
    obtain ⟨k12, h⟩ := h
    obtain ⟨i13, h⟩ := h
    refine r_iald (pc := 22) dX11_trace_22 k12 i13 ?_
    refine r_goto (pc := 23) (tgt := 27) dX11_trace_23 (by decide) ?_
    exact r_iret (pc := 27) dX11_trace_27 rfl h
theorem eX11_forge {G : GG} {d rc rs : Nat} (o : Nat) (a1 : Int32) (a2 : Int32) (a3 : Int32)  {M : Mem} {Q : Option Value → Mem → Prop} (h : (a1 < 0 → (x_h M o).1 = 27 ∧ Call G d 0 0 mX11_refuse [.ref o, .int 1] M (fun r3 M4 => ∃ v5 : Int32, r3 = some (.int v5) ∧ Q (some (.int v5)) M4)) ∧ (¬ a1 < 0 → (6 < a1 → (x_h M o).1 = 27 ∧ Call G d 0 0 mX11_refuse [.ref o, .int 1] M (fun r8 M9 => ∃ v10 : Int32, r8 = some (.int v10) ∧ Q (some (.int v10)) M9)) ∧ (¬ 6 < a1 → (a2 < (-100) → (x_h M o).1 = 27 ∧ Call G d 0 0 mX11_refuse [.ref o, .int 1] M (fun r13 M14 => ∃ v15 : Int32, r13 = some (.int v15) ∧ Q (some (.int v15)) M14)) ∧ (¬ a2 < (-100) → (100 < a2 → (x_h M o).1 = 27 ∧ Call G d 0 0 mX11_refuse [.ref o, .int 1] M (fun r18 M19 => ∃ v20 : Int32, r18 = some (.int v20) ∧ Q (some (.int v20)) M19)) ∧ (¬ 100 < a2 → (a3 < (-100) → (x_h M o).1 = 27 ∧ Call G d 0 0 mX11_refuse [.ref o, .int 1] M (fun r23 M24 => ∃ v25 : Int32, r23 = some (.int v25) ∧ Q (some (.int v25)) M24)) ∧ (¬ a3 < (-100) → (a3 ≤ 100 → Call G d 0 0 mJ9_floorMod_7cf53 [.int a3, .int 10] M (fun r27 M28 => ∃ v29 : Int32, r27 = some (.int v29) ∧ Call G d 0 0 mJ9_floorMod_7cf53 [.int a3, .int 6] M28 (fun r30 M31 => ∃ v32 : Int32, r30 = some (.int v32) ∧ (a1 = 0 → Call G d 0 0 mJ9_floorMod_7cf53 [.int a2, .int 5] M31 (fun r34 M35 => ∃ v36 : Int32, r34 = some (.int v36) ∧ (x_h M35 o).1 = 27 ∧ Call G d 0 0 mX11_forgeKind [.ref o, .int v29, .int v36] M35 (fun r38 M39 => ∃ v40 : Int32, r38 = some (.int v40) ∧ Q (some (.int v40)) M39))) ∧ (a1 = 1 → (0 ≤ a2 → (x_h M31 o).1 = 27 ∧ Call G d 0 0 mX11_done [.ref o, .int a2] M31 (fun r44 M45 => ∃ v46 : Int32, r44 = some (.int v46) ∧ Q (some (.int v46)) M45)) ∧ (¬ 0 ≤ a2 → (x_h M31 o).1 = 27 ∧ Call G d 0 0 mX11_refuse [.ref o, .int 13] M31 (fun r48 M49 => ∃ v50 : Int32, r48 = some (.int v50) ∧ Q (some (.int v50)) M49))) ∧ (a1 = 2 → (x_h M31 o).1 = 27 ∧ Call G d 0 0 mX11_forgeNumber [.ref o, .int v32, .int a2] M31 (fun r53 M54 => ∃ v55 : Int32, r53 = some (.int v55) ∧ Q (some (.int v55)) M54)) ∧ (a1 = 3 → (x_h M31 o).1 = 27 ∧ Call G d 0 0 mX11_forgeCopy [.ref o, .int v32, .int a2] M31 (fun r58 M59 => ∃ v60 : Int32, r58 = some (.int v60) ∧ Q (some (.int v60)) M59)) ∧ (a1 = 4 → (x_h M31 o).1 = 27 ∧ Call G d 0 0 mX11_forgeStore [.ref o, .int v29] M31 (fun r63 M64 => ∃ v65 : Int32, r63 = some (.int v65) ∧ Q (some (.int v65)) M64)) ∧ (a1 = 5 → (¬ a2 = 0 → ¬ a2 = 0 ∧ (x_h M31 o).1 = 27 ∧ Call G d 0 0 mX11_done [.ref o, .int (1000 / a2)] M31 (fun r70 M71 => ∃ v72 : Int32, r70 = some (.int v72) ∧ Q (some (.int v72)) M71)) ∧ (a2 = 0 → (x_h M31 o).1 = 27 ∧ Call G d 0 0 mX11_refuse [.ref o, .int 15] M31 (fun r74 M75 => ∃ v76 : Int32, r74 = some (.int v76) ∧ Q (some (.int v76)) M75))) ∧ (¬ a1 = 0 ∧ ¬ a1 = 1 ∧ ¬ a1 = 2 ∧ ¬ a1 = 3 ∧ ¬ a1 = 4 ∧ ¬ a1 = 5 → Call G d 0 0 mJ9_floorMod_7cf53 [.int a2, .int 2] M31 (fun r77 M78 => ∃ v79 : Int32, r77 = some (.int v79) ∧ (¬ v79 = 0 → (x_h M78 o).1 = 27 ∧ Call G d 0 0 mX11_done [.ref o, .int 1] M78 (fun r82 M83 => ∃ v84 : Int32, r82 = some (.int v84) ∧ Q (some (.int v84)) M83)) ∧ (v79 = 0 → (x_h M78 o).1 = 27 ∧ Call G d 0 0 mX11_refuse [.ref o, .int 10] M78 (fun r86 M87 => ∃ v88 : Int32, r86 = some (.int v88) ∧ Q (some (.int v88)) M87))))))) ∧ (¬ a3 ≤ 100 → (x_h M o).1 = 27 ∧ Call G d 0 0 mX11_refuse [.ref o, .int 1] M (fun r90 M91 => ∃ v92 : Int32, r90 = some (.int v92) ∧ Q (some (.int v92)) M91)))))))) : Call G (d + 1) rc rs mX11_forge [.ref o, .int a1, .int a2, .int a3] M Q := by
  refine call_of (by decide) (Nat.le_of_ble_eq_true rfl) ?_
  show Wk G (d + 1) rc rs mX11_forge 0 [some (.ref o), some (.int a1), some (.int a2), some (.int a3), none, none] [] M Q
  refine r_iload_n (pc := 0) (i := 1) dX11_forge_0 rfl rfl ?_
  refine r_if_lt (pc := 1) (tgt := 34) dX11_forge_1 (by decide) (fun c1 => ?_) (fun c1 => ?_)
  · replace h := h.1 c1
    refine r_aload_n (pc := 34) (i := 0) dX11_forge_34 rfl rfl ?_
    refine r_iconst (pc := 35) (v := 1) dX11_forge_35 (by decide) ?_
    obtain ⟨k2, h⟩ := h
    refine r_callV (pc := 36) (ci := 11) (as := [_]) (st := []) okX11_refuse lkX11_91 inX11_refuse seX11_refuse ⟨_, rfl, rfl⟩ dX11_forge_36 rfl k2 (Nat.le_of_ble_eq_true rfl) (Nat.zero_le _) (Nat.zero_le _) (Call.mono h (fun r3 M4 h => ?_))
    obtain ⟨v5, rfl, h⟩ := h
    exact r_iret (pc := 39) dX11_forge_39 rfl h
  · replace h := h.2 c1
    refine r_iload_n (pc := 4) (i := 1) dX11_forge_4 rfl rfl ?_
    refine r_bipush (pc := 5) (v := 6) dX11_forge_5 (by decide) ?_
    refine r_icmp_gt (pc := 7) (tgt := 34) dX11_forge_7 (by decide) (fun c6 => ?_) (fun c6 => ?_)
    · replace h := h.1 c6
      refine r_aload_n (pc := 34) (i := 0) dX11_forge_34 rfl rfl ?_
      refine r_iconst (pc := 35) (v := 1) dX11_forge_35 (by decide) ?_
      obtain ⟨k7, h⟩ := h
      refine r_callV (pc := 36) (ci := 11) (as := [_]) (st := []) okX11_refuse lkX11_91 inX11_refuse seX11_refuse ⟨_, rfl, rfl⟩ dX11_forge_36 rfl k7 (Nat.le_of_ble_eq_true rfl) (Nat.zero_le _) (Nat.zero_le _) (Call.mono h (fun r8 M9 h => ?_))
      obtain ⟨v10, rfl, h⟩ := h
      exact r_iret (pc := 39) dX11_forge_39 rfl h
    · replace h := h.2 c6
      refine r_iload_n (pc := 10) (i := 2) dX11_forge_10 rfl rfl ?_
      refine r_bipush (pc := 11) (v := (-100)) dX11_forge_11 (by decide) ?_
      refine r_icmp_lt (pc := 13) (tgt := 34) dX11_forge_13 (by decide) (fun c11 => ?_) (fun c11 => ?_)
      · replace h := h.1 c11
        refine r_aload_n (pc := 34) (i := 0) dX11_forge_34 rfl rfl ?_
        refine r_iconst (pc := 35) (v := 1) dX11_forge_35 (by decide) ?_
        obtain ⟨k12, h⟩ := h
        refine r_callV (pc := 36) (ci := 11) (as := [_]) (st := []) okX11_refuse lkX11_91 inX11_refuse seX11_refuse ⟨_, rfl, rfl⟩ dX11_forge_36 rfl k12 (Nat.le_of_ble_eq_true rfl) (Nat.zero_le _) (Nat.zero_le _) (Call.mono h (fun r13 M14 h => ?_))
        obtain ⟨v15, rfl, h⟩ := h
        exact r_iret (pc := 39) dX11_forge_39 rfl h
      · replace h := h.2 c11
        refine r_iload_n (pc := 16) (i := 2) dX11_forge_16 rfl rfl ?_
        refine r_bipush (pc := 17) (v := 100) dX11_forge_17 (by decide) ?_
        refine r_icmp_gt (pc := 19) (tgt := 34) dX11_forge_19 (by decide) (fun c16 => ?_) (fun c16 => ?_)
        · replace h := h.1 c16
          refine r_aload_n (pc := 34) (i := 0) dX11_forge_34 rfl rfl ?_
          refine r_iconst (pc := 35) (v := 1) dX11_forge_35 (by decide) ?_
          obtain ⟨k17, h⟩ := h
          refine r_callV (pc := 36) (ci := 11) (as := [_]) (st := []) okX11_refuse lkX11_91 inX11_refuse seX11_refuse ⟨_, rfl, rfl⟩ dX11_forge_36 rfl k17 (Nat.le_of_ble_eq_true rfl) (Nat.zero_le _) (Nat.zero_le _) (Call.mono h (fun r18 M19 h => ?_))
          obtain ⟨v20, rfl, h⟩ := h
          exact r_iret (pc := 39) dX11_forge_39 rfl h
        · replace h := h.2 c16
          refine r_iload_n (pc := 22) (i := 3) dX11_forge_22 rfl rfl ?_
          refine r_bipush (pc := 23) (v := (-100)) dX11_forge_23 (by decide) ?_
          refine r_icmp_lt (pc := 25) (tgt := 34) dX11_forge_25 (by decide) (fun c21 => ?_) (fun c21 => ?_)
          · replace h := h.1 c21
            refine r_aload_n (pc := 34) (i := 0) dX11_forge_34 rfl rfl ?_
            refine r_iconst (pc := 35) (v := 1) dX11_forge_35 (by decide) ?_
            obtain ⟨k22, h⟩ := h
            refine r_callV (pc := 36) (ci := 11) (as := [_]) (st := []) okX11_refuse lkX11_91 inX11_refuse seX11_refuse ⟨_, rfl, rfl⟩ dX11_forge_36 rfl k22 (Nat.le_of_ble_eq_true rfl) (Nat.zero_le _) (Nat.zero_le _) (Call.mono h (fun r23 M24 h => ?_))
            obtain ⟨v25, rfl, h⟩ := h
            exact r_iret (pc := 39) dX11_forge_39 rfl h
          · replace h := h.2 c21
            refine r_iload_n (pc := 28) (i := 3) dX11_forge_28 rfl rfl ?_
            refine r_bipush (pc := 29) (v := 100) dX11_forge_29 (by decide) ?_
            refine r_icmp_le (pc := 31) (tgt := 40) dX11_forge_31 (by decide) (fun c26 => ?_) (fun c26 => ?_)
            · replace h := h.1 c26
              refine r_iload_n (pc := 40) (i := 3) dX11_forge_40 rfl rfl ?_
              refine r_bipush (pc := 41) (v := 10) dX11_forge_41 (by decide) ?_
              refine r_callS (pc := 43) (as := [_, _]) (st := []) okJ9_floorMod_7cf53 lkX11_261 stJ9_floorMod_7cf53 dX11_forge_43 rfl (Nat.le_of_ble_eq_true rfl) (Nat.zero_le _) (Nat.zero_le _) (Call.mono h (fun r27 M28 h => ?_))
              obtain ⟨v29, rfl, h⟩ := h
              refine r_istore (pc := 46) (i := 4) dX11_forge_46 rfl (Nat.le_of_ble_eq_true rfl) ?_
              refine r_iload_n (pc := 48) (i := 3) dX11_forge_48 rfl rfl ?_
              refine r_bipush (pc := 49) (v := 6) dX11_forge_49 (by decide) ?_
              refine r_callS (pc := 51) (as := [_, _]) (st := []) okJ9_floorMod_7cf53 lkX11_261 stJ9_floorMod_7cf53 dX11_forge_51 rfl (Nat.le_of_ble_eq_true rfl) (Nat.zero_le _) (Nat.zero_le _) (Call.mono h (fun r30 M31 h => ?_))
              obtain ⟨v32, rfl, h⟩ := h
              refine r_istore (pc := 54) (i := 5) dX11_forge_54 rfl (Nat.le_of_ble_eq_true rfl) ?_
              refine r_iload_n (pc := 56) (i := 1) dX11_forge_56 rfl rfl ?_
              refine dite (a1 = 0) (fun c33 => ?_) (fun c33 => ?_)
              · replace h := h.1 c33
                refine r_tabIn (pc := 57) (tgt := 96) dX11_forge_57 (by rw [c33]; decide) (by rw [c33]; decide) (by rw [c33]; rfl) (by decide) ?_
                refine r_aload_n (pc := 96) (i := 0) dX11_forge_96 rfl rfl ?_
                refine r_iload (pc := 97) (i := 4) dX11_forge_97 rfl ?_
                refine r_iload_n (pc := 99) (i := 2) dX11_forge_99 rfl rfl ?_
                refine r_iconst (pc := 100) (v := 5) dX11_forge_100 (by decide) ?_
                refine r_callS (pc := 101) (as := [_, _]) (st := [_, _]) okJ9_floorMod_7cf53 lkX11_261 stJ9_floorMod_7cf53 dX11_forge_101 rfl (Nat.le_of_ble_eq_true rfl) (Nat.zero_le _) (Nat.zero_le _) (Call.mono h (fun r34 M35 h => ?_))
                obtain ⟨v36, rfl, h⟩ := h
                obtain ⟨k37, h⟩ := h
                refine r_callV (pc := 104) (ci := 11) (as := [_, _]) (st := []) okX11_forgeKind lkX11_266 inX11_forgeKind seX11_forgeKind ⟨_, rfl, rfl⟩ dX11_forge_104 rfl k37 (Nat.le_of_ble_eq_true rfl) (Nat.zero_le _) (Nat.zero_le _) (Call.mono h (fun r38 M39 h => ?_))
                obtain ⟨v40, rfl, h⟩ := h
                exact r_iret (pc := 107) dX11_forge_107 rfl h
              refine dite (a1 = 1) (fun c41 => ?_) (fun c41 => ?_)
              · replace h := h.2.1 c41
                refine r_tabIn (pc := 57) (tgt := 108) dX11_forge_57 (by rw [c41]; decide) (by rw [c41]; decide) (by rw [c41]; rfl) (by decide) ?_
                refine r_iload_n (pc := 108) (i := 2) dX11_forge_108 rfl rfl ?_
                refine r_if_ge (pc := 109) (tgt := 121) dX11_forge_109 (by decide) (fun c42 => ?_) (fun c42 => ?_)
                · replace h := h.1 c42
                  refine r_aload_n (pc := 121) (i := 0) dX11_forge_121 rfl rfl ?_
                  refine r_iload_n (pc := 122) (i := 2) dX11_forge_122 rfl rfl ?_
                  obtain ⟨k43, h⟩ := h
                  refine r_callV (pc := 123) (ci := 11) (as := [_]) (st := []) okX11_done lkX11_95 inX11_done seX11_done ⟨_, rfl, rfl⟩ dX11_forge_123 rfl k43 (Nat.le_of_ble_eq_true rfl) (Nat.zero_le _) (Nat.zero_le _) (Call.mono h (fun r44 M45 h => ?_))
                  obtain ⟨v46, rfl, h⟩ := h
                  exact r_iret (pc := 126) dX11_forge_126 rfl h
                · replace h := h.2 c42
                  refine r_aload_n (pc := 112) (i := 0) dX11_forge_112 rfl rfl ?_
                  refine r_bipush (pc := 113) (v := 13) dX11_forge_113 (by decide) ?_
                  obtain ⟨k47, h⟩ := h
                  refine r_callV (pc := 115) (ci := 11) (as := [_]) (st := []) okX11_refuse lkX11_91 inX11_refuse seX11_refuse ⟨_, rfl, rfl⟩ dX11_forge_115 rfl k47 (Nat.le_of_ble_eq_true rfl) (Nat.zero_le _) (Nat.zero_le _) (Call.mono h (fun r48 M49 h => ?_))
                  obtain ⟨v50, rfl, h⟩ := h
                  refine r_goto (pc := 118) (tgt := 126) dX11_forge_118 (by decide) ?_
                  exact r_iret (pc := 126) dX11_forge_126 rfl h
              refine dite (a1 = 2) (fun c51 => ?_) (fun c51 => ?_)
              · replace h := h.2.2.1 c51
                refine r_tabIn (pc := 57) (tgt := 127) dX11_forge_57 (by rw [c51]; decide) (by rw [c51]; decide) (by rw [c51]; rfl) (by decide) ?_
                refine r_aload_n (pc := 127) (i := 0) dX11_forge_127 rfl rfl ?_
                refine r_iload (pc := 128) (i := 5) dX11_forge_128 rfl ?_
                refine r_iload_n (pc := 130) (i := 2) dX11_forge_130 rfl rfl ?_
                obtain ⟨k52, h⟩ := h
                refine r_callV (pc := 131) (ci := 11) (as := [_, _]) (st := []) okX11_forgeNumber lkX11_269 inX11_forgeNumber seX11_forgeNumber ⟨_, rfl, rfl⟩ dX11_forge_131 rfl k52 (Nat.le_of_ble_eq_true rfl) (Nat.zero_le _) (Nat.zero_le _) (Call.mono h (fun r53 M54 h => ?_))
                obtain ⟨v55, rfl, h⟩ := h
                exact r_iret (pc := 134) dX11_forge_134 rfl h
              refine dite (a1 = 3) (fun c56 => ?_) (fun c56 => ?_)
              · replace h := h.2.2.2.1 c56
                refine r_tabIn (pc := 57) (tgt := 135) dX11_forge_57 (by rw [c56]; decide) (by rw [c56]; decide) (by rw [c56]; rfl) (by decide) ?_
                refine r_aload_n (pc := 135) (i := 0) dX11_forge_135 rfl rfl ?_
                refine r_iload (pc := 136) (i := 5) dX11_forge_136 rfl ?_
                refine r_iload_n (pc := 138) (i := 2) dX11_forge_138 rfl rfl ?_
                obtain ⟨k57, h⟩ := h
                refine r_callV (pc := 139) (ci := 11) (as := [_, _]) (st := []) okX11_forgeCopy lkX11_272 inX11_forgeCopy seX11_forgeCopy ⟨_, rfl, rfl⟩ dX11_forge_139 rfl k57 (Nat.le_of_ble_eq_true rfl) (Nat.zero_le _) (Nat.zero_le _) (Call.mono h (fun r58 M59 h => ?_))
                obtain ⟨v60, rfl, h⟩ := h
                exact r_iret (pc := 142) dX11_forge_142 rfl h
              refine dite (a1 = 4) (fun c61 => ?_) (fun c61 => ?_)
              · replace h := h.2.2.2.2.1 c61
                refine r_tabIn (pc := 57) (tgt := 143) dX11_forge_57 (by rw [c61]; decide) (by rw [c61]; decide) (by rw [c61]; rfl) (by decide) ?_
                refine r_aload_n (pc := 143) (i := 0) dX11_forge_143 rfl rfl ?_
                refine r_iload (pc := 144) (i := 4) dX11_forge_144 rfl ?_
                obtain ⟨k62, h⟩ := h
                refine r_callV (pc := 146) (ci := 11) (as := [_]) (st := []) okX11_forgeStore lkX11_275 inX11_forgeStore seX11_forgeStore ⟨_, rfl, rfl⟩ dX11_forge_146 rfl k62 (Nat.le_of_ble_eq_true rfl) (Nat.zero_le _) (Nat.zero_le _) (Call.mono h (fun r63 M64 h => ?_))
                obtain ⟨v65, rfl, h⟩ := h
                exact r_iret (pc := 149) dX11_forge_149 rfl h
              refine dite (a1 = 5) (fun c66 => ?_) (fun c66 => ?_)
              · replace h := h.2.2.2.2.2.1 c66
                refine r_tabIn (pc := 57) (tgt := 150) dX11_forge_57 (by rw [c66]; decide) (by rw [c66]; decide) (by rw [c66]; rfl) (by decide) ?_
                refine r_iload_n (pc := 150) (i := 2) dX11_forge_150 rfl rfl ?_
                refine r_if_ne (pc := 151) (tgt := 163) dX11_forge_151 (by decide) (fun c67 => ?_) (fun c67 => ?_)
                · replace h := h.1 c67
                  refine r_aload_n (pc := 163) (i := 0) dX11_forge_163 rfl rfl ?_
                  refine r_sipush (pc := 164) (v := 1000) dX11_forge_164 (by decide) ?_
                  refine r_iload_n (pc := 167) (i := 2) dX11_forge_167 rfl rfl ?_
                  obtain ⟨n68, h⟩ := h
                  refine r_idiv (pc := 168) dX11_forge_168 n68 ?_
                  obtain ⟨k69, h⟩ := h
                  refine r_callV (pc := 169) (ci := 11) (as := [_]) (st := []) okX11_done lkX11_95 inX11_done seX11_done ⟨_, rfl, rfl⟩ dX11_forge_169 rfl k69 (Nat.le_of_ble_eq_true rfl) (Nat.zero_le _) (Nat.zero_le _) (Call.mono h (fun r70 M71 h => ?_))
                  obtain ⟨v72, rfl, h⟩ := h
                  exact r_iret (pc := 172) dX11_forge_172 rfl h
                · replace h := h.2 c67
                  refine r_aload_n (pc := 154) (i := 0) dX11_forge_154 rfl rfl ?_
                  refine r_bipush (pc := 155) (v := 15) dX11_forge_155 (by decide) ?_
                  obtain ⟨k73, h⟩ := h
                  refine r_callV (pc := 157) (ci := 11) (as := [_]) (st := []) okX11_refuse lkX11_91 inX11_refuse seX11_refuse ⟨_, rfl, rfl⟩ dX11_forge_157 rfl k73 (Nat.le_of_ble_eq_true rfl) (Nat.zero_le _) (Nat.zero_le _) (Call.mono h (fun r74 M75 h => ?_))
                  obtain ⟨v76, rfl, h⟩ := h
                  refine r_goto (pc := 160) (tgt := 172) dX11_forge_160 (by decide) ?_
                  exact r_iret (pc := 172) dX11_forge_172 rfl h
              replace h := h.2.2.2.2.2.2 ⟨c33, c41, c51, c56, c61, c66⟩
              refine r_tabOut (pc := 57) (tgt := 173) dX11_forge_57 (by have tc33 : ¬ Int32.toInt _ = 0 := sw_ne c33; have tc41 : ¬ Int32.toInt _ = 1 := sw_ne c41; have tc51 : ¬ Int32.toInt _ = 2 := sw_ne c51; have tc56 : ¬ Int32.toInt _ = 3 := sw_ne c56; have tc61 : ¬ Int32.toInt _ = 4 := sw_ne c61; have tc66 : ¬ Int32.toInt _ = 5 := sw_ne c66; omega) (by decide) ?_
              refine r_iload_n (pc := 173) (i := 2) dX11_forge_173 rfl rfl ?_
              refine r_iconst (pc := 174) (v := 2) dX11_forge_174 (by decide) ?_
              refine r_callS (pc := 175) (as := [_, _]) (st := []) okJ9_floorMod_7cf53 lkX11_261 stJ9_floorMod_7cf53 dX11_forge_175 rfl (Nat.le_of_ble_eq_true rfl) (Nat.zero_le _) (Nat.zero_le _) (Call.mono h (fun r77 M78 h => ?_))
              obtain ⟨v79, rfl, h⟩ := h
              refine r_if_ne (pc := 178) (tgt := 190) dX11_forge_178 (by decide) (fun c80 => ?_) (fun c80 => ?_)
              · replace h := h.1 c80
                refine r_aload_n (pc := 190) (i := 0) dX11_forge_190 rfl rfl ?_
                refine r_iconst (pc := 191) (v := 1) dX11_forge_191 (by decide) ?_
                obtain ⟨k81, h⟩ := h
                refine r_callV (pc := 192) (ci := 11) (as := [_]) (st := []) okX11_done lkX11_95 inX11_done seX11_done ⟨_, rfl, rfl⟩ dX11_forge_192 rfl k81 (Nat.le_of_ble_eq_true rfl) (Nat.zero_le _) (Nat.zero_le _) (Call.mono h (fun r82 M83 h => ?_))
                obtain ⟨v84, rfl, h⟩ := h
                exact r_iret (pc := 195) dX11_forge_195 rfl h
              · replace h := h.2 c80
                refine r_aload_n (pc := 181) (i := 0) dX11_forge_181 rfl rfl ?_
                refine r_bipush (pc := 182) (v := 10) dX11_forge_182 (by decide) ?_
                obtain ⟨k85, h⟩ := h
                refine r_callV (pc := 184) (ci := 11) (as := [_]) (st := []) okX11_refuse lkX11_91 inX11_refuse seX11_refuse ⟨_, rfl, rfl⟩ dX11_forge_184 rfl k85 (Nat.le_of_ble_eq_true rfl) (Nat.zero_le _) (Nat.zero_le _) (Call.mono h (fun r86 M87 h => ?_))
                obtain ⟨v88, rfl, h⟩ := h
                refine r_goto (pc := 187) (tgt := 195) dX11_forge_187 (by decide) ?_
                exact r_iret (pc := 195) dX11_forge_195 rfl h
            · replace h := h.2 c26
              refine r_aload_n (pc := 34) (i := 0) dX11_forge_34 rfl rfl ?_
              refine r_iconst (pc := 35) (v := 1) dX11_forge_35 (by decide) ?_
              obtain ⟨k89, h⟩ := h
              refine r_callV (pc := 36) (ci := 11) (as := [_]) (st := []) okX11_refuse lkX11_91 inX11_refuse seX11_refuse ⟨_, rfl, rfl⟩ dX11_forge_36 rfl k89 (Nat.le_of_ble_eq_true rfl) (Nat.zero_le _) (Nat.zero_le _) (Call.mono h (fun r90 M91 h => ?_))
              obtain ⟨v92, rfl, h⟩ := h
              exact r_iret (pc := 39) dX11_forge_39 rfl h
theorem eX11_status {G : GG} {d rc rs : Nat} (o : Nat)  {M : Mem} {Q : Option Value → Mem → Prop} (h : (x_h M o).1 = 27 ∧ Q (some (.int (x_i M o 15))) M) : Call G (d + 1) rc rs mX11_status [.ref o] M Q := by
  refine call_of (by decide) (Nat.le_of_ble_eq_true rfl) ?_
  show Wk G (d + 1) rc rs mX11_status 0 [some (.ref o)] [] M Q
  refine r_aload_n (pc := 0) (i := 0) dX11_status_0 rfl rfl ?_
  obtain ⟨k1, h⟩ := h
  refine r_geti (pc := 1) flX11_80 dX11_status_1 (Or.inl rfl) k1 ?_
  exact r_iret (pc := 4) dX11_status_4 rfl h
theorem eX11_refuse {G : GG} {d rc rs : Nat} (o : Nat) (a1 : Int32)  {M : Mem} {Q : Option Value → Mem → Prop} (h : (x_h M o).1 = 27 ∧ (∀ M2, M2 = x_si M o 15 a1 → Q (some (.int (-1))) M2)) : Call G (d + 1) rc rs mX11_refuse [.ref o, .int a1] M Q := by
  refine call_of (by decide) (Nat.le_of_ble_eq_true rfl) ?_
  show Wk G (d + 1) rc rs mX11_refuse 0 [some (.ref o), some (.int a1)] [] M Q
  refine r_aload_n (pc := 0) (i := 0) dX11_refuse_0 rfl rfl ?_
  refine r_iload_n (pc := 1) (i := 1) dX11_refuse_1 rfl rfl ?_
  obtain ⟨k1, h⟩ := h
  refine r_puti (pc := 2) flX11_80 dX11_refuse_2 (Or.inl rfl) (fun q hq => by cases hq; rfl) k1 ?_
  replace h := h _ rfl
  refine r_iconst (pc := 5) (v := (-1)) dX11_refuse_5 (by decide) ?_
  exact r_iret (pc := 6) dX11_refuse_6 rfl h
theorem eX11_done {G : GG} {d rc rs : Nat} (o : Nat) (a1 : Int32)  {M : Mem} {Q : Option Value → Mem → Prop} (h : (x_h M o).1 = 27 ∧ (∀ M2, M2 = x_si M o 15 0 → Q (some (.int a1)) M2)) : Call G (d + 1) rc rs mX11_done [.ref o, .int a1] M Q := by
  refine call_of (by decide) (Nat.le_of_ble_eq_true rfl) ?_
  show Wk G (d + 1) rc rs mX11_done 0 [some (.ref o), some (.int a1)] [] M Q
  refine r_aload_n (pc := 0) (i := 0) dX11_done_0 rfl rfl ?_
  refine r_iconst (pc := 1) (v := 0) dX11_done_1 (by decide) ?_
  obtain ⟨k1, h⟩ := h
  refine r_puti (pc := 2) flX11_80 dX11_done_2 (Or.inl rfl) (fun q hq => by cases hq; rfl) k1 ?_
  replace h := h _ rfl
  refine r_iload_n (pc := 5) (i := 1) dX11_done_5 rfl rfl ?_
  exact r_iret (pc := 6) dX11_done_6 rfl h
theorem eX11_within {G : GG} {d rc rs : Nat} (a1 : Int32) (a2 : Int32)  {M : Mem} {Q : Option Value → Mem → Prop} (h : (a1 < 0 → Q (some (.int 0)) M) ∧ (¬ a1 < 0 → (a2 ≤ a1 → Q (some (.int 0)) M) ∧ (¬ a2 ≤ a1 → Q (some (.int 1)) M))) : Call G (d + 1) rc rs mX11_within [.int a1, .int a2] M Q := by
  refine call_of (by decide) (Nat.le_of_ble_eq_true rfl) ?_
  show Wk G (d + 1) rc rs mX11_within 0 [some (.int a1), some (.int a2)] [] M Q
  refine r_iload_n (pc := 0) (i := 0) dX11_within_0 rfl rfl ?_
  refine r_if_lt (pc := 1) (tgt := 13) dX11_within_1 (by decide) (fun c1 => ?_) (fun c1 => ?_)
  · replace h := h.1 c1
    refine r_iconst (pc := 13) (v := 0) dX11_within_13 (by decide) ?_
    exact r_zret (pc := 14) dX11_within_14 rfl (Or.inl rfl) h
  · replace h := h.2 c1
    refine r_iload_n (pc := 4) (i := 0) dX11_within_4 rfl rfl ?_
    refine r_iload_n (pc := 5) (i := 1) dX11_within_5 rfl rfl ?_
    refine r_icmp_ge (pc := 6) (tgt := 13) dX11_within_6 (by decide) (fun c2 => ?_) (fun c2 => ?_)
    · replace h := h.1 c2
      refine r_iconst (pc := 13) (v := 0) dX11_within_13 (by decide) ?_
      exact r_zret (pc := 14) dX11_within_14 rfl (Or.inl rfl) h
    · replace h := h.2 c2
      refine r_iconst (pc := 9) (v := 1) dX11_within_9 (by decide) ?_
      refine r_goto (pc := 10) (tgt := 14) dX11_within_10 (by decide) ?_
      exact r_zret (pc := 14) dX11_within_14 rfl (Or.inr rfl) h
theorem eX11_outside {G : GG} {d rc rs : Nat} (a1 : Int64)  {M : Mem} {Q : Option Value → Mem → Prop} (h : ((lg_cmp a1 0) < 0 → Q (some (.int 1)) M) ∧ (¬ (lg_cmp a1 0) < 0 → ((lg_cmp a1 4611686018427387904) ≤ 0 → Q (some (.int 0)) M) ∧ (¬ (lg_cmp a1 4611686018427387904) ≤ 0 → Q (some (.int 1)) M))) : Call G (d + 1) rc rs mX11_outside [.long a1] M Q := by
  refine call_of (by decide) (Nat.le_of_ble_eq_true rfl) ?_
  show Wk G (d + 1) rc rs mX11_outside 0 [some (.long a1), none] [] M Q
  refine r_lload_n (pc := 0) (i := 0) dX11_outside_0 rfl rfl ?_
  refine r_lconst (pc := 1) (v := 0) dX11_outside_1 (by decide) ?_
  refine r_lcmp (pc := 2) dX11_outside_2 ?_
  refine r_if_lt (pc := 3) (tgt := 14) dX11_outside_3 (by decide) (fun c1 => ?_) (fun c1 => ?_)
  · replace h := h.1 c1
    refine r_iconst (pc := 14) (v := 1) dX11_outside_14 (by decide) ?_
    refine r_goto (pc := 15) (tgt := 19) dX11_outside_15 (by decide) ?_
    exact r_zret (pc := 19) dX11_outside_19 rfl (Or.inr rfl) h
  · replace h := h.2 c1
    refine r_lload_n (pc := 6) (i := 0) dX11_outside_6 rfl rfl ?_
    refine r_ldc2 (pc := 7) (v := 4611686018427387904) dX11_outside_7 ww_995 ?_
    refine r_lcmp (pc := 10) dX11_outside_10 ?_
    refine r_if_le (pc := 11) (tgt := 18) dX11_outside_11 (by decide) (fun c2 => ?_) (fun c2 => ?_)
    · replace h := h.1 c2
      refine r_iconst (pc := 18) (v := 0) dX11_outside_18 (by decide) ?_
      exact r_zret (pc := 19) dX11_outside_19 rfl (Or.inl rfl) h
    · replace h := h.2 c2
      refine r_iconst (pc := 14) (v := 1) dX11_outside_14 (by decide) ?_
      refine r_goto (pc := 15) (tgt := 19) dX11_outside_15 (by decide) ?_
      exact r_zret (pc := 19) dX11_outside_19 rfl (Or.inr rfl) h
theorem eX11_otherSort {G : GG} {d rc rs : Nat} (o : Nat) (a1 : Int32) (a2 : Int32)  {M : Mem} {Q : Option Value → Mem → Prop} (h : (x_h M o).1 = 27 ∧ (∃ b2, x_r M o 4 = some b2 ∧ (x_h M b2).1 = 1 ∧ vp_in a1 (x_h M b2).2 ∧ ((x_i M b2 a1.toNatClampNeg) = (-1) → Q (some (.int 0)) M) ∧ (¬ (x_i M b2 a1.toNatClampNeg) = (-1) → ((x_i M b2 a1.toNatClampNeg) = a2 → Q (some (.int 0)) M) ∧ (¬ (x_i M b2 a1.toNatClampNeg) = a2 → Q (some (.int 1)) M)))) : Call G (d + 1) rc rs mX11_otherSort [.ref o, .int a1, .int a2] M Q := by
  refine call_of (by decide) (Nat.le_of_ble_eq_true rfl) ?_
  show Wk G (d + 1) rc rs mX11_otherSort 0 [some (.ref o), some (.int a1), some (.int a2)] [] M Q
  refine r_aload_n (pc := 0) (i := 0) dX11_otherSort_0 rfl rfl ?_
  obtain ⟨k1, h⟩ := h
  obtain ⟨b2, hb2, h⟩ := h
  refine r_getr (pc := 1) flX11_30 dX11_otherSort_1 rfl k1 hb2 ?_
  refine r_iload_n (pc := 4) (i := 1) dX11_otherSort_4 rfl rfl ?_
  obtain ⟨k3, h⟩ := h
  obtain ⟨i4, h⟩ := h
  refine r_iald (pc := 5) dX11_otherSort_5 k3 i4 ?_
  refine r_iconst (pc := 6) (v := (-1)) dX11_otherSort_6 (by decide) ?_
  refine r_icmp_eq (pc := 7) (tgt := 24) dX11_otherSort_7 (by decide) (fun c5 => ?_) (fun c5 => ?_)
  · replace h := h.1 c5
    refine r_iconst (pc := 24) (v := 0) dX11_otherSort_24 (by decide) ?_
    exact r_zret (pc := 25) dX11_otherSort_25 rfl (Or.inl rfl) h
  · replace h := h.2 c5
    refine r_aload_n (pc := 10) (i := 0) dX11_otherSort_10 rfl rfl ?_
    refine r_getr (pc := 11) flX11_30 dX11_otherSort_11 rfl k1 hb2 ?_
    refine r_iload_n (pc := 14) (i := 1) dX11_otherSort_14 rfl rfl ?_
    refine r_iald (pc := 15) dX11_otherSort_15 k3 i4 ?_
    refine r_iload_n (pc := 16) (i := 2) dX11_otherSort_16 rfl rfl ?_
    refine r_icmp_eq (pc := 17) (tgt := 24) dX11_otherSort_17 (by decide) (fun c6 => ?_) (fun c6 => ?_)
    · replace h := h.1 c6
      refine r_iconst (pc := 24) (v := 0) dX11_otherSort_24 (by decide) ?_
      exact r_zret (pc := 25) dX11_otherSort_25 rfl (Or.inl rfl) h
    · replace h := h.2 c6
      refine r_iconst (pc := 20) (v := 1) dX11_otherSort_20 (by decide) ?_
      refine r_goto (pc := 21) (tgt := 25) dX11_otherSort_21 (by decide) ?_
      exact r_zret (pc := 25) dX11_otherSort_25 rfl (Or.inr rfl) h
theorem eX11_tooShort {G : GG} {d rc rs : Nat} (o : Nat) (a1 : Int32) (a2 : Int32)  {M : Mem} {Q : Option Value → Mem → Prop} (h : (x_h M o).1 = 27 ∧ (∃ b2, x_r M o 4 = some b2 ∧ (x_h M b2).1 = 1 ∧ vp_in a1 (x_h M b2).2 ∧ ((x_i M b2 a1.toNatClampNeg) = (-1) → Q (some (.int 0)) M) ∧ (¬ (x_i M b2 a1.toNatClampNeg) = (-1) → ∃ b6, x_r M o 5 = some b6 ∧ (x_h M b6).1 = 1 ∧ vp_in a1 (x_h M b6).2 ∧ (a2 ≤ (x_i M b6 a1.toNatClampNeg) → Q (some (.int 0)) M) ∧ (¬ a2 ≤ (x_i M b6 a1.toNatClampNeg) → Q (some (.int 1)) M)))) : Call G (d + 1) rc rs mX11_tooShort [.ref o, .int a1, .int a2] M Q := by
  refine call_of (by decide) (Nat.le_of_ble_eq_true rfl) ?_
  show Wk G (d + 1) rc rs mX11_tooShort 0 [some (.ref o), some (.int a1), some (.int a2)] [] M Q
  refine r_aload_n (pc := 0) (i := 0) dX11_tooShort_0 rfl rfl ?_
  obtain ⟨k1, h⟩ := h
  obtain ⟨b2, hb2, h⟩ := h
  refine r_getr (pc := 1) flX11_30 dX11_tooShort_1 rfl k1 hb2 ?_
  refine r_iload_n (pc := 4) (i := 1) dX11_tooShort_4 rfl rfl ?_
  obtain ⟨k3, h⟩ := h
  obtain ⟨i4, h⟩ := h
  refine r_iald (pc := 5) dX11_tooShort_5 k3 i4 ?_
  refine r_iconst (pc := 6) (v := (-1)) dX11_tooShort_6 (by decide) ?_
  refine r_icmp_eq (pc := 7) (tgt := 24) dX11_tooShort_7 (by decide) (fun c5 => ?_) (fun c5 => ?_)
  · replace h := h.1 c5
    refine r_iconst (pc := 24) (v := 0) dX11_tooShort_24 (by decide) ?_
    exact r_zret (pc := 25) dX11_tooShort_25 rfl (Or.inl rfl) h
  · replace h := h.2 c5
    refine r_aload_n (pc := 10) (i := 0) dX11_tooShort_10 rfl rfl ?_
    obtain ⟨b6, hb6, h⟩ := h
    refine r_getr (pc := 11) flX11_33 dX11_tooShort_11 rfl k1 hb6 ?_
    refine r_iload_n (pc := 14) (i := 1) dX11_tooShort_14 rfl rfl ?_
    obtain ⟨k7, h⟩ := h
    obtain ⟨i8, h⟩ := h
    refine r_iald (pc := 15) dX11_tooShort_15 k7 i8 ?_
    refine r_iload_n (pc := 16) (i := 2) dX11_tooShort_16 rfl rfl ?_
    refine r_icmp_ge (pc := 17) (tgt := 24) dX11_tooShort_17 (by decide) (fun c9 => ?_) (fun c9 => ?_)
    · replace h := h.1 c9
      refine r_iconst (pc := 24) (v := 0) dX11_tooShort_24 (by decide) ?_
      exact r_zret (pc := 25) dX11_tooShort_25 rfl (Or.inl rfl) h
    · replace h := h.2 c9
      refine r_iconst (pc := 20) (v := 1) dX11_tooShort_20 (by decide) ?_
      refine r_goto (pc := 21) (tgt := 25) dX11_tooShort_21 (by decide) ?_
      exact r_zret (pc := 25) dX11_tooShort_25 rfl (Or.inr rfl) h
theorem eX11_numbers {G : GG} {d rc rs : Nat} (o : Nat) (a1 : Int32)  {M : Mem} {Q : Option Value → Mem → Prop} (h : (x_h M o).1 = 27 ∧ (∃ b2, x_r M o 4 = some b2 ∧ (x_h M b2).1 = 1 ∧ vp_in a1 (x_h M b2).2 ∧ (¬ (x_i M b2 a1.toNatClampNeg) = (-1) → ∃ b6, x_r M o 3 = some b6 ∧ (4 ≤ (x_h M b6).1 ∧ (x_h M b6).1 < 8) ∧ vp_in a1 (x_h M b6).2 ∧ (∃ b9, x_r M b6 a1.toNatClampNeg = some b9 ∧ Q (some (.ref b9)) M)) ∧ ((x_i M b2 a1.toNatClampNeg) = (-1) → ∃ b10, x_r M o 6 = some b10 ∧ Q (some (.ref b10)) M))) : Call G (d + 1) rc rs mX11_numbers [.ref o, .int a1] M Q := by
  refine call_of (by decide) (Nat.le_of_ble_eq_true rfl) ?_
  show Wk G (d + 1) rc rs mX11_numbers 0 [some (.ref o), some (.int a1)] [] M Q
  refine r_aload_n (pc := 0) (i := 0) dX11_numbers_0 rfl rfl ?_
  obtain ⟨k1, h⟩ := h
  obtain ⟨b2, hb2, h⟩ := h
  refine r_getr (pc := 1) flX11_30 dX11_numbers_1 rfl k1 hb2 ?_
  refine r_iload_n (pc := 4) (i := 1) dX11_numbers_4 rfl rfl ?_
  obtain ⟨k3, h⟩ := h
  obtain ⟨i4, h⟩ := h
  refine r_iald (pc := 5) dX11_numbers_5 k3 i4 ?_
  refine r_iconst (pc := 6) (v := (-1)) dX11_numbers_6 (by decide) ?_
  refine r_icmp_ne (pc := 7) (tgt := 17) dX11_numbers_7 (by decide) (fun c5 => ?_) (fun c5 => ?_)
  · replace h := h.1 c5
    refine r_aload_n (pc := 17) (i := 0) dX11_numbers_17 rfl rfl ?_
    obtain ⟨b6, hb6, h⟩ := h
    refine r_getr (pc := 18) flX11_27 dX11_numbers_18 rfl k1 hb6 ?_
    refine r_iload_n (pc := 21) (i := 1) dX11_numbers_21 rfl rfl ?_
    obtain ⟨k7, h⟩ := h
    obtain ⟨i8, h⟩ := h
    obtain ⟨b9, hb9, h⟩ := h
    refine r_aald (pc := 22) dX11_numbers_22 rfl k7 i8 hb9 ?_
    exact r_aret (pc := 23) dX11_numbers_23 rfl rfl (Or.inr ⟨_, rfl⟩) h
  · replace h := h.2 c5
    refine r_aload_n (pc := 10) (i := 0) dX11_numbers_10 rfl rfl ?_
    obtain ⟨b10, hb10, h⟩ := h
    refine r_getr (pc := 11) flX11_36 dX11_numbers_11 rfl k1 hb10 ?_
    refine r_goto (pc := 14) (tgt := 23) dX11_numbers_14 (by decide) ?_
    exact r_aret (pc := 23) dX11_numbers_23 rfl rfl (Or.inr ⟨_, rfl⟩) h
abbrev LX11_allBelow_2 (G : GG) (d rc rs : Nat) (p0 : Nat) (x1 : Int32) (x2 : Int32) (x3 : Int32) (M : Mem) (Q : Option Value → Mem → Prop) : Prop := Wk G (d + 1) rc rs mX11_allBelow 2 [some (.ref p0), some (.int x1), some (.int x2), some (.int x3)] [] M Q
theorem eX11_allBelow {G : GG} {d rc rs : Nat} (a1 : Nat) (a2 : Int32) (a3 : Int32)  {M : Mem} {Q : Option Value → Mem → Prop} (h : LX11_allBelow_2 G d rc rs a1 a2 a3 0 M Q) : Call G (d + 1) rc rs mX11_allBelow [.ref a1, .int a2, .int a3] M Q := by
  refine call_of (by decide) (Nat.le_of_ble_eq_true rfl) ?_
  show Wk G (d + 1) rc rs mX11_allBelow 0 [some (.ref a1), some (.int a2), some (.int a3), none] [] M Q
  refine r_iconst (pc := 0) (v := 0) dX11_allBelow_0 (by decide) ?_
  refine r_istore_n (pc := 1) (i := 3) dX11_allBelow_1 rfl rfl (Nat.le_of_ble_eq_true rfl) ?_
  exact h
theorem vX11_allBelow_2 {G : GG} {d rc rs : Nat} (p0 : Nat) (x1 : Int32) (x2 : Int32) (x3 : Int32)  {M : Mem} {Q : Option Value → Mem → Prop} (h : (x1 ≤ x3 → Q (some (.int 1)) M) ∧ (¬ x1 ≤ x3 → (1 ≤ (x_h M p0).1 ∧ (x_h M p0).1 < 8) ∧ ((nI (x_h M p0).2) ≤ x3 → Q (some (.int 1)) M) ∧ (¬ (nI (x_h M p0).2) ≤ x3 → (x_h M p0).1 = 1 ∧ vp_in x3 (x_h M p0).2 ∧ ((x_i M p0 x3.toNatClampNeg) < x2 → LX11_allBelow_2 G d rc rs p0 x1 x2 (x3 + 1) M Q) ∧ (¬ (x_i M p0 x3.toNatClampNeg) < x2 → Q (some (.int 0)) M)))) : LX11_allBelow_2 G d rc rs p0 x1 x2 x3 M Q := by
  show Wk G (d + 1) rc rs mX11_allBelow 2 _ _ M Q
  refine r_iload_n (pc := 2) (i := 3) dX11_allBelow_2 rfl rfl ?_
  refine r_iload_n (pc := 3) (i := 1) dX11_allBelow_3 rfl rfl ?_
  refine r_icmp_ge (pc := 4) (tgt := 28) dX11_allBelow_4 (by decide) (fun c1 => ?_) (fun c1 => ?_)
  · replace h := h.1 c1
    refine r_iconst (pc := 28) (v := 1) dX11_allBelow_28 (by decide) ?_
    exact r_zret (pc := 29) dX11_allBelow_29 rfl (Or.inr rfl) h
  · replace h := h.2 c1
    refine r_iload_n (pc := 7) (i := 3) dX11_allBelow_7 rfl rfl ?_
    refine r_aload_n (pc := 8) (i := 0) dX11_allBelow_8 rfl rfl ?_
    obtain ⟨k2, h⟩ := h
    refine r_alen (pc := 9) dX11_allBelow_9 rfl k2 ?_
    refine r_icmp_ge (pc := 10) (tgt := 28) dX11_allBelow_10 (by decide) (fun c3 => ?_) (fun c3 => ?_)
    · replace h := h.1 c3
      refine r_iconst (pc := 28) (v := 1) dX11_allBelow_28 (by decide) ?_
      exact r_zret (pc := 29) dX11_allBelow_29 rfl (Or.inr rfl) h
    · replace h := h.2 c3
      refine r_aload_n (pc := 13) (i := 0) dX11_allBelow_13 rfl rfl ?_
      refine r_iload_n (pc := 14) (i := 3) dX11_allBelow_14 rfl rfl ?_
      obtain ⟨k4, h⟩ := h
      obtain ⟨i5, h⟩ := h
      refine r_iald (pc := 15) dX11_allBelow_15 k4 i5 ?_
      refine r_iload_n (pc := 16) (i := 2) dX11_allBelow_16 rfl rfl ?_
      refine r_icmp_lt (pc := 17) (tgt := 22) dX11_allBelow_17 (by decide) (fun c6 => ?_) (fun c6 => ?_)
      · replace h := h.1 c6
        refine r_iinc (pc := 22) (i := 3) (v := _ + 1) dX11_allBelow_22 rfl rfl rfl ?_
        refine r_goto (pc := 25) (tgt := 2) dX11_allBelow_25 (by decide) ?_
        exact h
      · replace h := h.2 c6
        refine r_iconst (pc := 20) (v := 0) dX11_allBelow_20 (by decide) ?_
        exact r_zret (pc := 21) dX11_allBelow_21 rfl (Or.inl rfl) h
theorem eX11_sheetFault {G : GG} {d rc rs : Nat} (o : Nat) (a1 : Int32) (a2 : Int32) (a3 : Int32)  {M : Mem} {Q : Option Value → Mem → Prop} (h : (x_h M o).1 = 27 ∧ ((x_i M o 12) < 10 → ∃ b3, x_r M o 4 = some b3 ∧ (x_h M b3).1 = 1 ∧ vp_in a1 (x_h M b3).2 ∧ (¬ (x_i M b3 a1.toNatClampNeg) = (-1) → ((x_i M b3 a1.toNatClampNeg) = a2 → ∃ b8, x_r M o 5 = some b8 ∧ (x_h M b8).1 = 1 ∧ vp_in a1 (x_h M b8).2 ∧ (a3 ≤ (x_i M b8 a1.toNatClampNeg) → Q (some (.int 0)) M) ∧ (¬ a3 ≤ (x_i M b8 a1.toNatClampNeg) → Q (some (.int 12)) M)) ∧ (¬ (x_i M b3 a1.toNatClampNeg) = a2 → Q (some (.int 11)) M)) ∧ ((x_i M b3 a1.toNatClampNeg) = (-1) → Q (some (.int 10)) M)) ∧ (¬ (x_i M o 12) < 10 → Q (some (.int 2)) M)) : Call G (d + 1) rc rs mX11_sheetFault [.ref o, .int a1, .int a2, .int a3] M Q := by
  refine call_of (by decide) (Nat.le_of_ble_eq_true rfl) ?_
  show Wk G (d + 1) rc rs mX11_sheetFault 0 [some (.ref o), some (.int a1), some (.int a2), some (.int a3)] [] M Q
  refine r_aload_n (pc := 0) (i := 0) dX11_sheetFault_0 rfl rfl ?_
  obtain ⟨k1, h⟩ := h
  refine r_geti (pc := 1) flX11_71 dX11_sheetFault_1 (Or.inl rfl) k1 ?_
  refine r_bipush (pc := 4) (v := 10) dX11_sheetFault_4 (by decide) ?_
  refine r_icmp_lt (pc := 6) (tgt := 11) dX11_sheetFault_6 (by decide) (fun c2 => ?_) (fun c2 => ?_)
  · replace h := h.1 c2
    refine r_aload_n (pc := 11) (i := 0) dX11_sheetFault_11 rfl rfl ?_
    obtain ⟨b3, hb3, h⟩ := h
    refine r_getr (pc := 12) flX11_30 dX11_sheetFault_12 rfl k1 hb3 ?_
    refine r_iload_n (pc := 15) (i := 1) dX11_sheetFault_15 rfl rfl ?_
    obtain ⟨k4, h⟩ := h
    obtain ⟨i5, h⟩ := h
    refine r_iald (pc := 16) dX11_sheetFault_16 k4 i5 ?_
    refine r_iconst (pc := 17) (v := (-1)) dX11_sheetFault_17 (by decide) ?_
    refine r_icmp_ne (pc := 18) (tgt := 24) dX11_sheetFault_18 (by decide) (fun c6 => ?_) (fun c6 => ?_)
    · replace h := h.1 c6
      refine r_aload_n (pc := 24) (i := 0) dX11_sheetFault_24 rfl rfl ?_
      refine r_getr (pc := 25) flX11_30 dX11_sheetFault_25 rfl k1 hb3 ?_
      refine r_iload_n (pc := 28) (i := 1) dX11_sheetFault_28 rfl rfl ?_
      refine r_iald (pc := 29) dX11_sheetFault_29 k4 i5 ?_
      refine r_iload_n (pc := 30) (i := 2) dX11_sheetFault_30 rfl rfl ?_
      refine r_icmp_eq (pc := 31) (tgt := 37) dX11_sheetFault_31 (by decide) (fun c7 => ?_) (fun c7 => ?_)
      · replace h := h.1 c7
        refine r_aload_n (pc := 37) (i := 0) dX11_sheetFault_37 rfl rfl ?_
        obtain ⟨b8, hb8, h⟩ := h
        refine r_getr (pc := 38) flX11_33 dX11_sheetFault_38 rfl k1 hb8 ?_
        refine r_iload_n (pc := 41) (i := 1) dX11_sheetFault_41 rfl rfl ?_
        obtain ⟨k9, h⟩ := h
        obtain ⟨i10, h⟩ := h
        refine r_iald (pc := 42) dX11_sheetFault_42 k9 i10 ?_
        refine r_iload_n (pc := 43) (i := 3) dX11_sheetFault_43 rfl rfl ?_
        refine r_icmp_ge (pc := 44) (tgt := 52) dX11_sheetFault_44 (by decide) (fun c11 => ?_) (fun c11 => ?_)
        · replace h := h.1 c11
          refine r_iconst (pc := 52) (v := 0) dX11_sheetFault_52 (by decide) ?_
          exact r_iret (pc := 53) dX11_sheetFault_53 rfl h
        · replace h := h.2 c11
          refine r_bipush (pc := 47) (v := 12) dX11_sheetFault_47 (by decide) ?_
          refine r_goto (pc := 49) (tgt := 53) dX11_sheetFault_49 (by decide) ?_
          exact r_iret (pc := 53) dX11_sheetFault_53 rfl h
      · replace h := h.2 c7
        refine r_bipush (pc := 34) (v := 11) dX11_sheetFault_34 (by decide) ?_
        exact r_iret (pc := 36) dX11_sheetFault_36 rfl h
    · replace h := h.2 c6
      refine r_bipush (pc := 21) (v := 10) dX11_sheetFault_21 (by decide) ?_
      exact r_iret (pc := 23) dX11_sheetFault_23 rfl h
  · replace h := h.2 c2
    refine r_iconst (pc := 9) (v := 2) dX11_sheetFault_9 (by decide) ?_
    exact r_iret (pc := 10) dX11_sheetFault_10 rfl h
theorem eX11_made {G : GG} {d rc rs : Nat} (o : Nat) (a1 : Int32) (a2 : Int32)  {M : Mem} {Q : Option Value → Mem → Prop} (h : (x_h M o).1 = 27 ∧ (∃ b2, x_r M o 0 = some b2 ∧ (4 ≤ (x_h M b2).1 ∧ (x_h M b2).1 < 8) ∧ vp_in (x_i M o 12) (x_h M b2).2 ∧ (∃ b5, x_r M b2 (x_i M o 12).toNatClampNeg = some b5 ∧ (x_h M b5).1 = 23 ∧ (∀ M7, M7 = x_si M b5 1 a1 → vp_in (x_i M7 o 12) (x_h M b2).2 ∧ (∃ b9, x_r M7 b2 (x_i M7 o 12).toNatClampNeg = some b9 ∧ (x_h M b9).1 = 23 ∧ (∀ M11, M11 = x_si M7 b9 2 a2 → ∀ M12, M12 = x_si M11 o 12 ((x_i M11 o 12) + 1) → Call G d 0 0 mX11_done [.ref o, .int ((x_i M12 o 12) - 1)] M12 (fun r13 M14 => ∃ v15 : Int32, r13 = some (.int v15) ∧ Q (some (.int v15)) M14))))))) : Call G (d + 1) rc rs mX11_made [.ref o, .int a1, .int a2] M Q := by
  refine call_of (by decide) (Nat.le_of_ble_eq_true rfl) ?_
  show Wk G (d + 1) rc rs mX11_made 0 [some (.ref o), some (.int a1), some (.int a2)] [] M Q
  refine r_aload_n (pc := 0) (i := 0) dX11_made_0 rfl rfl ?_
  obtain ⟨k1, h⟩ := h
  obtain ⟨b2, hb2, h⟩ := h
  refine r_getr (pc := 1) flX11_11 dX11_made_1 rfl k1 hb2 ?_
  refine r_aload_n (pc := 4) (i := 0) dX11_made_4 rfl rfl ?_
  refine r_geti (pc := 5) flX11_71 dX11_made_5 (Or.inl rfl) k1 ?_
  obtain ⟨k3, h⟩ := h
  obtain ⟨i4, h⟩ := h
  obtain ⟨b5, hb5, h⟩ := h
  refine r_aald (pc := 8) dX11_made_8 rfl k3 i4 hb5 ?_
  refine r_iload_n (pc := 9) (i := 1) dX11_made_9 rfl rfl ?_
  obtain ⟨k6, h⟩ := h
  refine r_puti (pc := 10) flX11_179 dX11_made_10 (Or.inl rfl) (fun q hq => by cases hq; rfl) k6 ?_
  replace h := h _ rfl
  refine r_aload_n (pc := 13) (i := 0) dX11_made_13 rfl rfl ?_
  refine r_getr (pc := 14) flX11_11 dX11_made_14 rfl k1 hb2 ?_
  refine r_aload_n (pc := 17) (i := 0) dX11_made_17 rfl rfl ?_
  refine r_geti (pc := 18) flX11_71 dX11_made_18 (Or.inl rfl) k1 ?_
  obtain ⟨i8, h⟩ := h
  obtain ⟨b9, hb9, h⟩ := h
  refine r_aald (pc := 21) dX11_made_21 rfl k3 i8 hb9 ?_
  refine r_iload_n (pc := 22) (i := 2) dX11_made_22 rfl rfl ?_
  obtain ⟨k10, h⟩ := h
  refine r_puti (pc := 23) flX11_278 dX11_made_23 (Or.inl rfl) (fun q hq => by cases hq; rfl) k10 ?_
  replace h := h _ rfl
  refine r_aload_n (pc := 26) (i := 0) dX11_made_26 rfl rfl ?_
  refine r_dup (pc := 27) dX11_made_27 rfl ?_
  refine r_geti (pc := 28) flX11_71 dX11_made_28 (Or.inl rfl) k1 ?_
  refine r_iconst (pc := 31) (v := 1) dX11_made_31 (by decide) ?_
  refine r_iadd (pc := 32) dX11_made_32 ?_
  refine r_puti (pc := 33) flX11_71 dX11_made_33 (Or.inl rfl) (fun q hq => by cases hq; rfl) k1 ?_
  replace h := h _ rfl
  refine r_aload_n (pc := 36) (i := 0) dX11_made_36 rfl rfl ?_
  refine r_aload_n (pc := 37) (i := 0) dX11_made_37 rfl rfl ?_
  refine r_geti (pc := 38) flX11_71 dX11_made_38 (Or.inl rfl) k1 ?_
  refine r_iconst (pc := 41) (v := 1) dX11_made_41 (by decide) ?_
  refine r_isub (pc := 42) dX11_made_42 ?_
  refine r_callV (pc := 43) (ci := 11) (as := [_]) (st := []) okX11_done lkX11_95 inX11_done seX11_done ⟨_, rfl, rfl⟩ dX11_made_43 rfl k1 (Nat.le_of_ble_eq_true rfl) (Nat.zero_le _) (Nat.zero_le _) (Call.mono h (fun r13 M14 h => ?_))
  obtain ⟨v15, rfl, h⟩ := h
  exact r_iret (pc := 46) dX11_made_46 rfl h
theorem eX11_asked {G : GG} {d rc rs : Nat} (o : Nat) (a1 : Int32)  {M : Mem} {Q : Option Value → Mem → Prop} (h : (x_h M o).1 = 27 ∧ Call G d 0 0 mX11_within [.int a1, .int (x_i M o 13)] M (fun r2 M3 => ∃ v4 : Int32, r2 = some (.int v4) ∧ (¬ v4 = 0 → (x_h M3 o).1 = 27 ∧ (∃ b7, x_r M3 o 1 = some b7 ∧ (4 ≤ (x_h M3 b7).1 ∧ (x_h M3 b7).1 < 8) ∧ vp_in a1 (x_h M3 b7).2 ∧ (∃ b10, x_r M3 b7 a1.toNatClampNeg = some b10 ∧ (x_h M3 b10).1 = 20 ∧ (¬ (x_i M3 b10 1) = 0 → Q (some .null) M3) ∧ ((x_i M3 b10 1) = 0 → ((x_i M3 b10 3) = (-1) → ∃ b14, x_r M3 b10 0 = some b14 ∧ Q (some (.ref b14)) M3) ∧ (¬ (x_i M3 b10 3) = (-1) → Q (some .null) M3))))) ∧ (v4 = 0 → Q (some .null) M3))) : Call G (d + 1) rc rs mX11_asked [.ref o, .int a1] M Q := by
  refine call_of (by decide) (Nat.le_of_ble_eq_true rfl) ?_
  show Wk G (d + 1) rc rs mX11_asked 0 [some (.ref o), some (.int a1), none] [] M Q
  refine r_iload_n (pc := 0) (i := 1) dX11_asked_0 rfl rfl ?_
  refine r_aload_n (pc := 1) (i := 0) dX11_asked_1 rfl rfl ?_
  obtain ⟨k1, h⟩ := h
  refine r_geti (pc := 2) flX11_74 dX11_asked_2 (Or.inl rfl) k1 ?_
  refine r_callS (pc := 5) (as := [_, _]) (st := []) okX11_within lkX11_98 stX11_within dX11_asked_5 rfl (Nat.le_of_ble_eq_true rfl) (Nat.zero_le _) (Nat.zero_le _) (Call.mono h (fun r2 M3 h => ?_))
  obtain ⟨v4, rfl, h⟩ := h
  refine r_if_ne (pc := 8) (tgt := 13) dX11_asked_8 (by decide) (fun c5 => ?_) (fun c5 => ?_)
  · replace h := h.1 c5
    refine r_aload_n (pc := 13) (i := 0) dX11_asked_13 rfl rfl ?_
    obtain ⟨k6, h⟩ := h
    obtain ⟨b7, hb7, h⟩ := h
    refine r_getr (pc := 14) flX11_17 dX11_asked_14 rfl k6 hb7 ?_
    refine r_iload_n (pc := 17) (i := 1) dX11_asked_17 rfl rfl ?_
    obtain ⟨k8, h⟩ := h
    obtain ⟨i9, h⟩ := h
    obtain ⟨b10, hb10, h⟩ := h
    refine r_aald (pc := 18) dX11_asked_18 rfl k8 i9 hb10 ?_
    refine r_astore_n (pc := 19) (i := 2) dX11_asked_19 rfl rfl (Nat.le_of_ble_eq_true rfl) ?_
    refine r_aload_n (pc := 20) (i := 2) dX11_asked_20 rfl rfl ?_
    obtain ⟨k11, h⟩ := h
    refine r_geti (pc := 21) flX11_158 dX11_asked_21 (Or.inl rfl) k11 ?_
    refine r_if_ne (pc := 24) (tgt := 35) dX11_asked_24 (by decide) (fun c12 => ?_) (fun c12 => ?_)
    · replace h := h.1 c12
      refine r_null (pc := 35) dX11_asked_35 ?_
      refine r_goto (pc := 36) (tgt := 43) dX11_asked_36 (by decide) ?_
      exact r_aret (pc := 43) dX11_asked_43 rfl rfl (Or.inl rfl) h
    · replace h := h.2 c12
      refine r_aload_n (pc := 27) (i := 2) dX11_asked_27 rfl rfl ?_
      refine r_geti (pc := 28) flX11_203 dX11_asked_28 (Or.inl rfl) k11 ?_
      refine r_iconst (pc := 31) (v := (-1)) dX11_asked_31 (by decide) ?_
      refine r_icmp_eq (pc := 32) (tgt := 39) dX11_asked_32 (by decide) (fun c13 => ?_) (fun c13 => ?_)
      · replace h := h.1 c13
        refine r_aload_n (pc := 39) (i := 2) dX11_asked_39 rfl rfl ?_
        obtain ⟨b14, hb14, h⟩ := h
        refine r_getr (pc := 40) flX11_281 dX11_asked_40 rfl k11 hb14 ?_
        exact r_aret (pc := 43) dX11_asked_43 rfl rfl (Or.inr ⟨_, rfl⟩) h
      · replace h := h.2 c13
        refine r_null (pc := 35) dX11_asked_35 ?_
        refine r_goto (pc := 36) (tgt := 43) dX11_asked_36 (by decide) ?_
        exact r_aret (pc := 43) dX11_asked_43 rfl rfl (Or.inl rfl) h
  · replace h := h.2 c5
    refine r_null (pc := 11) dX11_asked_11 ?_
    exact r_aret (pc := 12) dX11_asked_12 rfl rfl (Or.inl rfl) h
theorem eX11_askedOf {G : GG} {d rc rs : Nat} (o : Nat) (a1 : Int32) (a2 : Int32)  {M : Mem} {Q : Option Value → Mem → Prop} (h : (x_h M o).1 = 27 ∧ Call G d 0 0 mX11_asked [.ref o, .int a1] M (fun r2 M3 => ∃ o4 : Option Nat, r2 = some (va_rf o4) ∧ (o4 = none → Q (some .null) M3) ∧ (∀ v5, o4 = some v5 → (x_h M3 o).1 = 27 ∧ (∃ b7, x_r M3 o 1 = some b7 ∧ (4 ≤ (x_h M3 b7).1 ∧ (x_h M3 b7).1 < 8) ∧ vp_in a1 (x_h M3 b7).2 ∧ (∃ b10, x_r M3 b7 a1.toNatClampNeg = some b10 ∧ (x_h M3 b10).1 = 20 ∧ Call G d 0 0 mJ6_bitCount_0f7a4 [.int (x_i M3 b10 4)] M3 (fun r12 M13 => ∃ v14 : Int32, r12 = some (.int v14) ∧ (¬ v14 = a2 → Q (some .null) M13) ∧ (v14 = a2 → Q (some (.ref v5)) M13))))))) : Call G (d + 1) rc rs mX11_askedOf [.ref o, .int a1, .int a2] M Q := by
  refine call_of (by decide) (Nat.le_of_ble_eq_true rfl) ?_
  show Wk G (d + 1) rc rs mX11_askedOf 0 [some (.ref o), some (.int a1), some (.int a2), none] [] M Q
  refine r_aload_n (pc := 0) (i := 0) dX11_askedOf_0 rfl rfl ?_
  refine r_iload_n (pc := 1) (i := 1) dX11_askedOf_1 rfl rfl ?_
  obtain ⟨k1, h⟩ := h
  refine r_callV (pc := 2) (ci := 11) (as := [_]) (st := []) okX11_asked lkX11_209 inX11_asked seX11_asked ⟨_, rfl, rfl⟩ dX11_askedOf_2 rfl k1 (Nat.le_of_ble_eq_true rfl) (Nat.zero_le _) (Nat.zero_le _) (Call.mono h (fun r2 M3 h => ?_))
  obtain ⟨o4, rfl, h⟩ := h
  cases o4 with
  | none =>
    replace h := h.1 rfl
    refine r_astore_nN (pc := 5) (i := 3) dX11_askedOf_5 rfl rfl (Nat.le_of_ble_eq_true rfl) ?_
    refine r_aload_nN (pc := 6) (i := 3) dX11_askedOf_6 rfl rfl ?_
    refine r_ifnullN (pc := 7) (tgt := 30) dX11_askedOf_7 (by decide) ?_
    refine r_null (pc := 30) dX11_askedOf_30 ?_
    exact r_aret (pc := 31) dX11_askedOf_31 rfl rfl (Or.inl rfl) h
  | some v5 =>
    replace h := h.2 v5 rfl
    refine r_astore_n (pc := 5) (i := 3) dX11_askedOf_5 rfl rfl (Nat.le_of_ble_eq_true rfl) ?_
    refine r_aload_n (pc := 6) (i := 3) dX11_askedOf_6 rfl rfl ?_
    refine r_ifnull (pc := 7) dX11_askedOf_7 ?_
    refine r_aload_n (pc := 10) (i := 0) dX11_askedOf_10 rfl rfl ?_
    obtain ⟨k6, h⟩ := h
    obtain ⟨b7, hb7, h⟩ := h
    refine r_getr (pc := 11) flX11_17 dX11_askedOf_11 rfl k6 hb7 ?_
    refine r_iload_n (pc := 14) (i := 1) dX11_askedOf_14 rfl rfl ?_
    obtain ⟨k8, h⟩ := h
    obtain ⟨i9, h⟩ := h
    obtain ⟨b10, hb10, h⟩ := h
    refine r_aald (pc := 15) dX11_askedOf_15 rfl k8 i9 hb10 ?_
    obtain ⟨k11, h⟩ := h
    refine r_geti (pc := 16) flX11_219 dX11_askedOf_16 (Or.inl rfl) k11 ?_
    refine r_callS (pc := 19) (as := [_]) (st := []) okJ6_bitCount_0f7a4 lkX11_222 stJ6_bitCount_0f7a4 dX11_askedOf_19 rfl (Nat.le_of_ble_eq_true rfl) (Nat.zero_le _) (Nat.zero_le _) (Call.mono h (fun r12 M13 h => ?_))
    obtain ⟨v14, rfl, h⟩ := h
    refine r_iload_n (pc := 22) (i := 2) dX11_askedOf_22 rfl rfl ?_
    refine r_icmp_ne (pc := 23) (tgt := 30) dX11_askedOf_23 (by decide) (fun c15 => ?_) (fun c15 => ?_)
    · replace h := h.1 c15
      refine r_null (pc := 30) dX11_askedOf_30 ?_
      exact r_aret (pc := 31) dX11_askedOf_31 rfl rfl (Or.inl rfl) h
    · replace h := h.2 c15
      refine r_aload_n (pc := 26) (i := 3) dX11_askedOf_26 rfl rfl ?_
      refine r_goto (pc := 27) (tgt := 31) dX11_askedOf_27 (by decide) ?_
      exact r_aret (pc := 31) dX11_askedOf_31 rfl rfl (Or.inr ⟨_, rfl⟩) h
abbrev LX11_dropRow_19 (G : GG) (d rc rs : Nat) (p0 : Nat) (x1 : Int32) (x2 : Int32) (M : Mem) (Q : Option Value → Mem → Prop) : Prop := Wk G (d + 1) rc rs mX11_dropRow 19 [some (.ref p0), some (.int x1), some (.int x2)] [] M Q
theorem eX11_dropRow {G : GG} {d rc rs : Nat} (o : Nat)  {M : Mem} {Q : Option Value → Mem → Prop} (h : (x_h M o).1 = 27 ∧ (0 ≤ ((x_i M o 12) - 1) → LX11_dropRow_19 G d rc rs o ((x_i M o 12) - 1) 0 M Q) ∧ (¬ 0 ≤ ((x_i M o 12) - 1) → Call G d 0 0 mX11_refuse [.ref o, .int 3] M (fun r3 M4 => ∃ v5 : Int32, r3 = some (.int v5) ∧ Q (some (.int v5)) M4))) : Call G (d + 1) rc rs mX11_dropRow [.ref o] M Q := by
  refine call_of (by decide) (Nat.le_of_ble_eq_true rfl) ?_
  show Wk G (d + 1) rc rs mX11_dropRow 0 [some (.ref o), none, none] [] M Q
  refine r_aload_n (pc := 0) (i := 0) dX11_dropRow_0 rfl rfl ?_
  obtain ⟨k1, h⟩ := h
  refine r_geti (pc := 1) flX11_71 dX11_dropRow_1 (Or.inl rfl) k1 ?_
  refine r_iconst (pc := 4) (v := 1) dX11_dropRow_4 (by decide) ?_
  refine r_isub (pc := 5) dX11_dropRow_5 ?_
  refine r_istore_n (pc := 6) (i := 1) dX11_dropRow_6 rfl rfl (Nat.le_of_ble_eq_true rfl) ?_
  refine r_iload_n (pc := 7) (i := 1) dX11_dropRow_7 rfl rfl ?_
  refine r_if_ge (pc := 8) (tgt := 17) dX11_dropRow_8 (by decide) (fun c2 => ?_) (fun c2 => ?_)
  · replace h := h.1 c2
    refine r_iconst (pc := 17) (v := 0) dX11_dropRow_17 (by decide) ?_
    refine r_istore_n (pc := 18) (i := 2) dX11_dropRow_18 rfl rfl (Nat.le_of_ble_eq_true rfl) ?_
    exact h
  · replace h := h.2 c2
    refine r_aload_n (pc := 11) (i := 0) dX11_dropRow_11 rfl rfl ?_
    refine r_iconst (pc := 12) (v := 3) dX11_dropRow_12 (by decide) ?_
    refine r_callV (pc := 13) (ci := 11) (as := [_]) (st := []) okX11_refuse lkX11_91 inX11_refuse seX11_refuse ⟨_, rfl, rfl⟩ dX11_dropRow_13 rfl k1 (Nat.le_of_ble_eq_true rfl) (Nat.zero_le _) (Nat.zero_le _) (Call.mono h (fun r3 M4 h => ?_))
    obtain ⟨v5, rfl, h⟩ := h
    exact r_iret (pc := 16) dX11_dropRow_16 rfl h
theorem vX11_dropRow_19 {G : GG} {d rc rs : Nat} (p0 : Nat) (x1 : Int32) (x2 : Int32)  {M : Mem} {Q : Option Value → Mem → Prop} (h : (x_h M p0).1 = 27 ∧ ((x_i M p0 13) ≤ x2 → ∀ M3, M3 = x_si M p0 12 x1 → Call G d 0 0 mX11_done [.ref p0, .int x1] M3 (fun r4 M5 => ∃ v6 : Int32, r4 = some (.int v6) ∧ Q (some (.int v6)) M5)) ∧ (¬ (x_i M p0 13) ≤ x2 → ∃ b7, x_r M p0 1 = some b7 ∧ (4 ≤ (x_h M b7).1 ∧ (x_h M b7).1 < 8) ∧ vp_in x2 (x_h M b7).2 ∧ (∃ b10, x_r M b7 x2.toNatClampNeg = some b10 ∧ (x_h M b10).1 = 20 ∧ (¬ (x_i M b10 1) = 0 → LX11_dropRow_19 G d rc rs p0 x1 (x2 + 1) M Q) ∧ ((x_i M b10 1) = 0 → ∃ b13, x_r M b7 x2.toNatClampNeg = some b13 ∧ (x_h M b13).1 = 20 ∧ ((((x_i M b13 6) >>> (x1 &&& 31)) &&& 1) = 0 → LX11_dropRow_19 G d rc rs p0 x1 (x2 + 1) M Q) ∧ (¬ (((x_i M b13 6) >>> (x1 &&& 31)) &&& 1) = 0 → Call G d 0 0 mX11_refuse [.ref p0, .int 3] M (fun r16 M17 => ∃ v18 : Int32, r16 = some (.int v18) ∧ Q (some (.int v18)) M17)))))) : LX11_dropRow_19 G d rc rs p0 x1 x2 M Q := by
  show Wk G (d + 1) rc rs mX11_dropRow 19 _ _ M Q
  refine r_iload_n (pc := 19) (i := 2) dX11_dropRow_19 rfl rfl ?_
  refine r_aload_n (pc := 20) (i := 0) dX11_dropRow_20 rfl rfl ?_
  obtain ⟨k1, h⟩ := h
  refine r_geti (pc := 21) flX11_74 dX11_dropRow_21 (Or.inl rfl) k1 ?_
  refine r_icmp_ge (pc := 24) (tgt := 67) dX11_dropRow_24 (by decide) (fun c2 => ?_) (fun c2 => ?_)
  · replace h := h.1 c2
    refine r_aload_n (pc := 67) (i := 0) dX11_dropRow_67 rfl rfl ?_
    refine r_iload_n (pc := 68) (i := 1) dX11_dropRow_68 rfl rfl ?_
    refine r_puti (pc := 69) flX11_71 dX11_dropRow_69 (Or.inl rfl) (fun q hq => by cases hq; rfl) k1 ?_
    replace h := h _ rfl
    refine r_aload_n (pc := 72) (i := 0) dX11_dropRow_72 rfl rfl ?_
    refine r_iload_n (pc := 73) (i := 1) dX11_dropRow_73 rfl rfl ?_
    refine r_callV (pc := 74) (ci := 11) (as := [_]) (st := []) okX11_done lkX11_95 inX11_done seX11_done ⟨_, rfl, rfl⟩ dX11_dropRow_74 rfl k1 (Nat.le_of_ble_eq_true rfl) (Nat.zero_le _) (Nat.zero_le _) (Call.mono h (fun r4 M5 h => ?_))
    obtain ⟨v6, rfl, h⟩ := h
    exact r_iret (pc := 77) dX11_dropRow_77 rfl h
  · replace h := h.2 c2
    refine r_aload_n (pc := 27) (i := 0) dX11_dropRow_27 rfl rfl ?_
    obtain ⟨b7, hb7, h⟩ := h
    refine r_getr (pc := 28) flX11_17 dX11_dropRow_28 rfl k1 hb7 ?_
    refine r_iload_n (pc := 31) (i := 2) dX11_dropRow_31 rfl rfl ?_
    obtain ⟨k8, h⟩ := h
    obtain ⟨i9, h⟩ := h
    obtain ⟨b10, hb10, h⟩ := h
    refine r_aald (pc := 32) dX11_dropRow_32 rfl k8 i9 hb10 ?_
    obtain ⟨k11, h⟩ := h
    refine r_geti (pc := 33) flX11_158 dX11_dropRow_33 (Or.inl rfl) k11 ?_
    refine r_if_ne (pc := 36) (tgt := 61) dX11_dropRow_36 (by decide) (fun c12 => ?_) (fun c12 => ?_)
    · replace h := h.1 c12
      refine r_iinc (pc := 61) (i := 2) (v := _ + 1) dX11_dropRow_61 rfl rfl rfl ?_
      refine r_goto (pc := 64) (tgt := 19) dX11_dropRow_64 (by decide) ?_
      exact h
    · replace h := h.2 c12
      refine r_aload_n (pc := 39) (i := 0) dX11_dropRow_39 rfl rfl ?_
      refine r_getr (pc := 40) flX11_17 dX11_dropRow_40 rfl k1 hb7 ?_
      refine r_iload_n (pc := 43) (i := 2) dX11_dropRow_43 rfl rfl ?_
      obtain ⟨b13, hb13, h⟩ := h
      refine r_aald (pc := 44) dX11_dropRow_44 rfl k8 i9 hb13 ?_
      obtain ⟨k14, h⟩ := h
      refine r_geti (pc := 45) flX11_282 dX11_dropRow_45 (Or.inl rfl) k14 ?_
      refine r_iload_n (pc := 48) (i := 1) dX11_dropRow_48 rfl rfl ?_
      refine r_ishr (pc := 49) dX11_dropRow_49 ?_
      refine r_iconst (pc := 50) (v := 1) dX11_dropRow_50 (by decide) ?_
      refine r_iand (pc := 51) dX11_dropRow_51 ?_
      refine r_if_eq (pc := 52) (tgt := 61) dX11_dropRow_52 (by decide) (fun c15 => ?_) (fun c15 => ?_)
      · replace h := h.1 c15
        refine r_iinc (pc := 61) (i := 2) (v := _ + 1) dX11_dropRow_61 rfl rfl rfl ?_
        refine r_goto (pc := 64) (tgt := 19) dX11_dropRow_64 (by decide) ?_
        exact h
      · replace h := h.2 c15
        refine r_aload_n (pc := 55) (i := 0) dX11_dropRow_55 rfl rfl ?_
        refine r_iconst (pc := 56) (v := 3) dX11_dropRow_56 (by decide) ?_
        refine r_callV (pc := 57) (ci := 11) (as := [_]) (st := []) okX11_refuse lkX11_91 inX11_refuse seX11_refuse ⟨_, rfl, rfl⟩ dX11_dropRow_57 rfl k1 (Nat.le_of_ble_eq_true rfl) (Nat.zero_le _) (Nat.zero_le _) (Call.mono h (fun r16 M17 h => ?_))
        obtain ⟨v18, rfl, h⟩ := h
        exact r_iret (pc := 60) dX11_dropRow_60 rfl h
abbrev LX11_dropQuestion_19 (G : GG) (d rc rs : Nat) (p0 : Nat) (x1 : Int32) (x2 : Int32) (M : Mem) (Q : Option Value → Mem → Prop) : Prop := Wk G (d + 1) rc rs mX11_dropQuestion 19 [some (.ref p0), some (.int x1), some (.int x2)] [] M Q
theorem eX11_dropQuestion {G : GG} {d rc rs : Nat} (o : Nat)  {M : Mem} {Q : Option Value → Mem → Prop} (h : (x_h M o).1 = 27 ∧ (0 ≤ ((x_i M o 13) - 1) → LX11_dropQuestion_19 G d rc rs o ((x_i M o 13) - 1) 0 M Q) ∧ (¬ 0 ≤ ((x_i M o 13) - 1) → Call G d 0 0 mX11_refuse [.ref o, .int 3] M (fun r3 M4 => ∃ v5 : Int32, r3 = some (.int v5) ∧ Q (some (.int v5)) M4))) : Call G (d + 1) rc rs mX11_dropQuestion [.ref o] M Q := by
  refine call_of (by decide) (Nat.le_of_ble_eq_true rfl) ?_
  show Wk G (d + 1) rc rs mX11_dropQuestion 0 [some (.ref o), none, none] [] M Q
  refine r_aload_n (pc := 0) (i := 0) dX11_dropQuestion_0 rfl rfl ?_
  obtain ⟨k1, h⟩ := h
  refine r_geti (pc := 1) flX11_74 dX11_dropQuestion_1 (Or.inl rfl) k1 ?_
  refine r_iconst (pc := 4) (v := 1) dX11_dropQuestion_4 (by decide) ?_
  refine r_isub (pc := 5) dX11_dropQuestion_5 ?_
  refine r_istore_n (pc := 6) (i := 1) dX11_dropQuestion_6 rfl rfl (Nat.le_of_ble_eq_true rfl) ?_
  refine r_iload_n (pc := 7) (i := 1) dX11_dropQuestion_7 rfl rfl ?_
  refine r_if_ge (pc := 8) (tgt := 17) dX11_dropQuestion_8 (by decide) (fun c2 => ?_) (fun c2 => ?_)
  · replace h := h.1 c2
    refine r_iconst (pc := 17) (v := 0) dX11_dropQuestion_17 (by decide) ?_
    refine r_istore_n (pc := 18) (i := 2) dX11_dropQuestion_18 rfl rfl (Nat.le_of_ble_eq_true rfl) ?_
    exact h
  · replace h := h.2 c2
    refine r_aload_n (pc := 11) (i := 0) dX11_dropQuestion_11 rfl rfl ?_
    refine r_iconst (pc := 12) (v := 3) dX11_dropQuestion_12 (by decide) ?_
    refine r_callV (pc := 13) (ci := 11) (as := [_]) (st := []) okX11_refuse lkX11_91 inX11_refuse seX11_refuse ⟨_, rfl, rfl⟩ dX11_dropQuestion_13 rfl k1 (Nat.le_of_ble_eq_true rfl) (Nat.zero_le _) (Nat.zero_le _) (Call.mono h (fun r3 M4 h => ?_))
    obtain ⟨v5, rfl, h⟩ := h
    exact r_iret (pc := 16) dX11_dropQuestion_16 rfl h
theorem vX11_dropQuestion_19 {G : GG} {d rc rs : Nat} (p0 : Nat) (x1 : Int32) (x2 : Int32)  {M : Mem} {Q : Option Value → Mem → Prop} (h : (x_h M p0).1 = 27 ∧ ((x_i M p0 12) ≤ x2 → ∀ M3, M3 = x_si M p0 13 x1 → Call G d 0 0 mX11_done [.ref p0, .int x1] M3 (fun r4 M5 => ∃ v6 : Int32, r4 = some (.int v6) ∧ Q (some (.int v6)) M5)) ∧ (¬ (x_i M p0 12) ≤ x2 → ∃ b7, x_r M p0 0 = some b7 ∧ (4 ≤ (x_h M b7).1 ∧ (x_h M b7).1 < 8) ∧ vp_in x2 (x_h M b7).2 ∧ (∃ b10, x_r M b7 x2.toNatClampNeg = some b10 ∧ (x_h M b10).1 = 23 ∧ (¬ (x_i M b10 1) = 4 → LX11_dropQuestion_19 G d rc rs p0 x1 (x2 + 1) M Q) ∧ ((x_i M b10 1) = 4 → ∃ b13, x_r M b7 x2.toNatClampNeg = some b13 ∧ (x_h M b13).1 = 23 ∧ (¬ (x_i M b13 2) = x1 → LX11_dropQuestion_19 G d rc rs p0 x1 (x2 + 1) M Q) ∧ ((x_i M b13 2) = x1 → Call G d 0 0 mX11_refuse [.ref p0, .int 3] M (fun r16 M17 => ∃ v18 : Int32, r16 = some (.int v18) ∧ Q (some (.int v18)) M17)))))) : LX11_dropQuestion_19 G d rc rs p0 x1 x2 M Q := by
  show Wk G (d + 1) rc rs mX11_dropQuestion 19 _ _ M Q
  refine r_iload_n (pc := 19) (i := 2) dX11_dropQuestion_19 rfl rfl ?_
  refine r_aload_n (pc := 20) (i := 0) dX11_dropQuestion_20 rfl rfl ?_
  obtain ⟨k1, h⟩ := h
  refine r_geti (pc := 21) flX11_71 dX11_dropQuestion_21 (Or.inl rfl) k1 ?_
  refine r_icmp_ge (pc := 24) (tgt := 65) dX11_dropQuestion_24 (by decide) (fun c2 => ?_) (fun c2 => ?_)
  · replace h := h.1 c2
    refine r_aload_n (pc := 65) (i := 0) dX11_dropQuestion_65 rfl rfl ?_
    refine r_iload_n (pc := 66) (i := 1) dX11_dropQuestion_66 rfl rfl ?_
    refine r_puti (pc := 67) flX11_74 dX11_dropQuestion_67 (Or.inl rfl) (fun q hq => by cases hq; rfl) k1 ?_
    replace h := h _ rfl
    refine r_aload_n (pc := 70) (i := 0) dX11_dropQuestion_70 rfl rfl ?_
    refine r_iload_n (pc := 71) (i := 1) dX11_dropQuestion_71 rfl rfl ?_
    refine r_callV (pc := 72) (ci := 11) (as := [_]) (st := []) okX11_done lkX11_95 inX11_done seX11_done ⟨_, rfl, rfl⟩ dX11_dropQuestion_72 rfl k1 (Nat.le_of_ble_eq_true rfl) (Nat.zero_le _) (Nat.zero_le _) (Call.mono h (fun r4 M5 h => ?_))
    obtain ⟨v6, rfl, h⟩ := h
    exact r_iret (pc := 75) dX11_dropQuestion_75 rfl h
  · replace h := h.2 c2
    refine r_aload_n (pc := 27) (i := 0) dX11_dropQuestion_27 rfl rfl ?_
    obtain ⟨b7, hb7, h⟩ := h
    refine r_getr (pc := 28) flX11_11 dX11_dropQuestion_28 rfl k1 hb7 ?_
    refine r_iload_n (pc := 31) (i := 2) dX11_dropQuestion_31 rfl rfl ?_
    obtain ⟨k8, h⟩ := h
    obtain ⟨i9, h⟩ := h
    obtain ⟨b10, hb10, h⟩ := h
    refine r_aald (pc := 32) dX11_dropQuestion_32 rfl k8 i9 hb10 ?_
    obtain ⟨k11, h⟩ := h
    refine r_geti (pc := 33) flX11_179 dX11_dropQuestion_33 (Or.inl rfl) k11 ?_
    refine r_iconst (pc := 36) (v := 4) dX11_dropQuestion_36 (by decide) ?_
    refine r_icmp_ne (pc := 37) (tgt := 59) dX11_dropQuestion_37 (by decide) (fun c12 => ?_) (fun c12 => ?_)
    · replace h := h.1 c12
      refine r_iinc (pc := 59) (i := 2) (v := _ + 1) dX11_dropQuestion_59 rfl rfl rfl ?_
      refine r_goto (pc := 62) (tgt := 19) dX11_dropQuestion_62 (by decide) ?_
      exact h
    · replace h := h.2 c12
      refine r_aload_n (pc := 40) (i := 0) dX11_dropQuestion_40 rfl rfl ?_
      refine r_getr (pc := 41) flX11_11 dX11_dropQuestion_41 rfl k1 hb7 ?_
      refine r_iload_n (pc := 44) (i := 2) dX11_dropQuestion_44 rfl rfl ?_
      obtain ⟨b13, hb13, h⟩ := h
      refine r_aald (pc := 45) dX11_dropQuestion_45 rfl k8 i9 hb13 ?_
      obtain ⟨k14, h⟩ := h
      refine r_geti (pc := 46) flX11_278 dX11_dropQuestion_46 (Or.inl rfl) k14 ?_
      refine r_iload_n (pc := 49) (i := 1) dX11_dropQuestion_49 rfl rfl ?_
      refine r_icmp_ne (pc := 50) (tgt := 59) dX11_dropQuestion_50 (by decide) (fun c15 => ?_) (fun c15 => ?_)
      · replace h := h.1 c15
        refine r_iinc (pc := 59) (i := 2) (v := _ + 1) dX11_dropQuestion_59 rfl rfl rfl ?_
        refine r_goto (pc := 62) (tgt := 19) dX11_dropQuestion_62 (by decide) ?_
        exact h
      · replace h := h.2 c15
        refine r_aload_n (pc := 53) (i := 0) dX11_dropQuestion_53 rfl rfl ?_
        refine r_iconst (pc := 54) (v := 3) dX11_dropQuestion_54 (by decide) ?_
        refine r_callV (pc := 55) (ci := 11) (as := [_]) (st := []) okX11_refuse lkX11_91 inX11_refuse seX11_refuse ⟨_, rfl, rfl⟩ dX11_dropQuestion_55 rfl k1 (Nat.le_of_ble_eq_true rfl) (Nat.zero_le _) (Nat.zero_le _) (Call.mono h (fun r16 M17 h => ?_))
        obtain ⟨v18, rfl, h⟩ := h
        exact r_iret (pc := 58) dX11_dropQuestion_58 rfl h
theorem eX11_forgeKind {G : GG} {d rc rs : Nat} (o : Nat) (a1 : Int32) (a2 : Int32)  {M : Mem} {Q : Option Value → Mem → Prop} (h : (x_h M o).1 = 27 ∧ (a1 < (x_i M o 12) → ∃ b3, x_r M o 0 = some b3 ∧ (4 ≤ (x_h M b3).1 ∧ (x_h M b3).1 < 8) ∧ vp_in a1 (x_h M b3).2 ∧ (∃ b6, x_r M b3 a1.toNatClampNeg = some b6 ∧ (x_h M b6).1 = 23 ∧ (a2 = 0 → ((x_i M b6 1) = a2 → Call G d 0 0 mX11_done [.ref o, .int (x_i M b6 1)] M (fun r10 M11 => ∃ v12 : Int32, r10 = some (.int v12) ∧ Q (some (.int v12)) M11)) ∧ (¬ (x_i M b6 1) = a2 → ((1 : Int32) = 0 → Call G d 0 0 mX11_refuse [.ref o, .int 11] M (fun r14 M15 => ∃ v16 : Int32, r14 = some (.int v16) ∧ Q (some (.int v16)) M15)) ∧ (¬ (1 : Int32) = 0 → Call G d 0 0 mX11_done [.ref o, .int (x_i M b6 1)] M (fun r17 M18 => ∃ v19 : Int32, r17 = some (.int v19) ∧ Q (some (.int v19)) M18)))) ∧ (¬ a2 = 0 → (¬ a2 = 1 → ((x_i M b6 1) = a2 → Call G d 0 0 mX11_done [.ref o, .int (x_i M b6 1)] M (fun r22 M23 => ∃ v24 : Int32, r22 = some (.int v24) ∧ Q (some (.int v24)) M23)) ∧ (¬ (x_i M b6 1) = a2 → ((0 : Int32) = 0 → Call G d 0 0 mX11_refuse [.ref o, .int 11] M (fun r26 M27 => ∃ v28 : Int32, r26 = some (.int v28) ∧ Q (some (.int v28)) M27)) ∧ (¬ (0 : Int32) = 0 → Call G d 0 0 mX11_done [.ref o, .int (x_i M b6 1)] M (fun r29 M30 => ∃ v31 : Int32, r29 = some (.int v31) ∧ Q (some (.int v31)) M30)))) ∧ (a2 = 1 → (¬ (x_i M b6 1) = 2 → ((x_i M b6 1) = a2 → Call G d 0 0 mX11_done [.ref o, .int (x_i M b6 1)] M (fun r34 M35 => ∃ v36 : Int32, r34 = some (.int v36) ∧ Q (some (.int v36)) M35)) ∧ (¬ (x_i M b6 1) = a2 → ((0 : Int32) = 0 → Call G d 0 0 mX11_refuse [.ref o, .int 11] M (fun r38 M39 => ∃ v40 : Int32, r38 = some (.int v40) ∧ Q (some (.int v40)) M39)) ∧ (¬ (0 : Int32) = 0 → Call G d 0 0 mX11_done [.ref o, .int (x_i M b6 1)] M (fun r41 M42 => ∃ v43 : Int32, r41 = some (.int v43) ∧ Q (some (.int v43)) M42)))) ∧ ((x_i M b6 1) = 2 → ((x_i M b6 1) = a2 → Call G d 0 0 mX11_done [.ref o, .int (x_i M b6 1)] M (fun r45 M46 => ∃ v47 : Int32, r45 = some (.int v47) ∧ Q (some (.int v47)) M46)) ∧ (¬ (x_i M b6 1) = a2 → ((1 : Int32) = 0 → Call G d 0 0 mX11_refuse [.ref o, .int 11] M (fun r49 M50 => ∃ v51 : Int32, r49 = some (.int v51) ∧ Q (some (.int v51)) M50)) ∧ (¬ (1 : Int32) = 0 → Call G d 0 0 mX11_done [.ref o, .int (x_i M b6 1)] M (fun r52 M53 => ∃ v54 : Int32, r52 = some (.int v54) ∧ Q (some (.int v54)) M53)))))))) ∧ (¬ a1 < (x_i M o 12) → Call G d 0 0 mX11_refuse [.ref o, .int 10] M (fun r55 M56 => ∃ v57 : Int32, r55 = some (.int v57) ∧ Q (some (.int v57)) M56))) : Call G (d + 1) rc rs mX11_forgeKind [.ref o, .int a1, .int a2] M Q := by
  refine call_of (by decide) (Nat.le_of_ble_eq_true rfl) ?_
  show Wk G (d + 1) rc rs mX11_forgeKind 0 [some (.ref o), some (.int a1), some (.int a2), none, none] [] M Q
  refine r_iload_n (pc := 0) (i := 1) dX11_forgeKind_0 rfl rfl ?_
  refine r_aload_n (pc := 1) (i := 0) dX11_forgeKind_1 rfl rfl ?_
  obtain ⟨k1, h⟩ := h
  refine r_geti (pc := 2) flX11_71 dX11_forgeKind_2 (Or.inl rfl) k1 ?_
  refine r_icmp_lt (pc := 5) (tgt := 15) dX11_forgeKind_5 (by decide) (fun c2 => ?_) (fun c2 => ?_)
  · replace h := h.1 c2
    refine r_aload_n (pc := 15) (i := 0) dX11_forgeKind_15 rfl rfl ?_
    obtain ⟨b3, hb3, h⟩ := h
    refine r_getr (pc := 16) flX11_11 dX11_forgeKind_16 rfl k1 hb3 ?_
    refine r_iload_n (pc := 19) (i := 1) dX11_forgeKind_19 rfl rfl ?_
    obtain ⟨k4, h⟩ := h
    obtain ⟨i5, h⟩ := h
    obtain ⟨b6, hb6, h⟩ := h
    refine r_aald (pc := 20) dX11_forgeKind_20 rfl k4 i5 hb6 ?_
    obtain ⟨k7, h⟩ := h
    refine r_geti (pc := 21) flX11_179 dX11_forgeKind_21 (Or.inl rfl) k7 ?_
    refine r_istore_n (pc := 24) (i := 3) dX11_forgeKind_24 rfl rfl (Nat.le_of_ble_eq_true rfl) ?_
    refine r_iload_n (pc := 25) (i := 2) dX11_forgeKind_25 rfl rfl ?_
    refine r_if_eq (pc := 26) (tgt := 39) dX11_forgeKind_26 (by decide) (fun c8 => ?_) (fun c8 => ?_)
    · replace h := h.1 c8
      refine r_iconst (pc := 39) (v := 1) dX11_forgeKind_39 (by decide) ?_
      refine r_goto (pc := 40) (tgt := 44) dX11_forgeKind_40 (by decide) ?_
      refine r_istore (pc := 44) (i := 4) dX11_forgeKind_44 rfl (Nat.le_of_ble_eq_true rfl) ?_
      refine r_iload_n (pc := 46) (i := 3) dX11_forgeKind_46 rfl rfl ?_
      refine r_iload_n (pc := 47) (i := 2) dX11_forgeKind_47 rfl rfl ?_
      refine r_icmp_eq (pc := 48) (tgt := 56) dX11_forgeKind_48 (by decide) (fun c9 => ?_) (fun c9 => ?_)
      · replace h := h.1 c9
        refine r_aload_n (pc := 56) (i := 0) dX11_forgeKind_56 rfl rfl ?_
        refine r_iload_n (pc := 57) (i := 3) dX11_forgeKind_57 rfl rfl ?_
        refine r_callV (pc := 58) (ci := 11) (as := [_]) (st := []) okX11_done lkX11_95 inX11_done seX11_done ⟨_, rfl, rfl⟩ dX11_forgeKind_58 rfl k1 (Nat.le_of_ble_eq_true rfl) (Nat.zero_le _) (Nat.zero_le _) (Call.mono h (fun r10 M11 h => ?_))
        obtain ⟨v12, rfl, h⟩ := h
        refine r_goto (pc := 61) (tgt := 70) dX11_forgeKind_61 (by decide) ?_
        exact r_iret (pc := 70) dX11_forgeKind_70 rfl h
      · replace h := h.2 c9
        refine r_iload (pc := 51) (i := 4) dX11_forgeKind_51 rfl ?_
        refine r_if_eq (pc := 53) (tgt := 64) dX11_forgeKind_53 (by decide) (fun c13 => ?_) (fun c13 => ?_)
        · replace h := h.1 c13
          refine r_aload_n (pc := 64) (i := 0) dX11_forgeKind_64 rfl rfl ?_
          refine r_bipush (pc := 65) (v := 11) dX11_forgeKind_65 (by decide) ?_
          refine r_callV (pc := 67) (ci := 11) (as := [_]) (st := []) okX11_refuse lkX11_91 inX11_refuse seX11_refuse ⟨_, rfl, rfl⟩ dX11_forgeKind_67 rfl k1 (Nat.le_of_ble_eq_true rfl) (Nat.zero_le _) (Nat.zero_le _) (Call.mono h (fun r14 M15 h => ?_))
          obtain ⟨v16, rfl, h⟩ := h
          exact r_iret (pc := 70) dX11_forgeKind_70 rfl h
        · replace h := h.2 c13
          refine r_aload_n (pc := 56) (i := 0) dX11_forgeKind_56 rfl rfl ?_
          refine r_iload_n (pc := 57) (i := 3) dX11_forgeKind_57 rfl rfl ?_
          refine r_callV (pc := 58) (ci := 11) (as := [_]) (st := []) okX11_done lkX11_95 inX11_done seX11_done ⟨_, rfl, rfl⟩ dX11_forgeKind_58 rfl k1 (Nat.le_of_ble_eq_true rfl) (Nat.zero_le _) (Nat.zero_le _) (Call.mono h (fun r17 M18 h => ?_))
          obtain ⟨v19, rfl, h⟩ := h
          refine r_goto (pc := 61) (tgt := 70) dX11_forgeKind_61 (by decide) ?_
          exact r_iret (pc := 70) dX11_forgeKind_70 rfl h
    · replace h := h.2 c8
      refine r_iload_n (pc := 29) (i := 2) dX11_forgeKind_29 rfl rfl ?_
      refine r_iconst (pc := 30) (v := 1) dX11_forgeKind_30 (by decide) ?_
      refine r_icmp_ne (pc := 31) (tgt := 43) dX11_forgeKind_31 (by decide) (fun c20 => ?_) (fun c20 => ?_)
      · replace h := h.1 c20
        refine r_iconst (pc := 43) (v := 0) dX11_forgeKind_43 (by decide) ?_
        refine r_istore (pc := 44) (i := 4) dX11_forgeKind_44 rfl (Nat.le_of_ble_eq_true rfl) ?_
        refine r_iload_n (pc := 46) (i := 3) dX11_forgeKind_46 rfl rfl ?_
        refine r_iload_n (pc := 47) (i := 2) dX11_forgeKind_47 rfl rfl ?_
        refine r_icmp_eq (pc := 48) (tgt := 56) dX11_forgeKind_48 (by decide) (fun c21 => ?_) (fun c21 => ?_)
        · replace h := h.1 c21
          refine r_aload_n (pc := 56) (i := 0) dX11_forgeKind_56 rfl rfl ?_
          refine r_iload_n (pc := 57) (i := 3) dX11_forgeKind_57 rfl rfl ?_
          refine r_callV (pc := 58) (ci := 11) (as := [_]) (st := []) okX11_done lkX11_95 inX11_done seX11_done ⟨_, rfl, rfl⟩ dX11_forgeKind_58 rfl k1 (Nat.le_of_ble_eq_true rfl) (Nat.zero_le _) (Nat.zero_le _) (Call.mono h (fun r22 M23 h => ?_))
          obtain ⟨v24, rfl, h⟩ := h
          refine r_goto (pc := 61) (tgt := 70) dX11_forgeKind_61 (by decide) ?_
          exact r_iret (pc := 70) dX11_forgeKind_70 rfl h
        · replace h := h.2 c21
          refine r_iload (pc := 51) (i := 4) dX11_forgeKind_51 rfl ?_
          refine r_if_eq (pc := 53) (tgt := 64) dX11_forgeKind_53 (by decide) (fun c25 => ?_) (fun c25 => ?_)
          · replace h := h.1 c25
            refine r_aload_n (pc := 64) (i := 0) dX11_forgeKind_64 rfl rfl ?_
            refine r_bipush (pc := 65) (v := 11) dX11_forgeKind_65 (by decide) ?_
            refine r_callV (pc := 67) (ci := 11) (as := [_]) (st := []) okX11_refuse lkX11_91 inX11_refuse seX11_refuse ⟨_, rfl, rfl⟩ dX11_forgeKind_67 rfl k1 (Nat.le_of_ble_eq_true rfl) (Nat.zero_le _) (Nat.zero_le _) (Call.mono h (fun r26 M27 h => ?_))
            obtain ⟨v28, rfl, h⟩ := h
            exact r_iret (pc := 70) dX11_forgeKind_70 rfl h
          · replace h := h.2 c25
            refine r_aload_n (pc := 56) (i := 0) dX11_forgeKind_56 rfl rfl ?_
            refine r_iload_n (pc := 57) (i := 3) dX11_forgeKind_57 rfl rfl ?_
            refine r_callV (pc := 58) (ci := 11) (as := [_]) (st := []) okX11_done lkX11_95 inX11_done seX11_done ⟨_, rfl, rfl⟩ dX11_forgeKind_58 rfl k1 (Nat.le_of_ble_eq_true rfl) (Nat.zero_le _) (Nat.zero_le _) (Call.mono h (fun r29 M30 h => ?_))
            obtain ⟨v31, rfl, h⟩ := h
            refine r_goto (pc := 61) (tgt := 70) dX11_forgeKind_61 (by decide) ?_
            exact r_iret (pc := 70) dX11_forgeKind_70 rfl h
      · replace h := h.2 c20
        refine r_iload_n (pc := 34) (i := 3) dX11_forgeKind_34 rfl rfl ?_
        refine r_iconst (pc := 35) (v := 2) dX11_forgeKind_35 (by decide) ?_
        refine r_icmp_ne (pc := 36) (tgt := 43) dX11_forgeKind_36 (by decide) (fun c32 => ?_) (fun c32 => ?_)
        · replace h := h.1 c32
          refine r_iconst (pc := 43) (v := 0) dX11_forgeKind_43 (by decide) ?_
          refine r_istore (pc := 44) (i := 4) dX11_forgeKind_44 rfl (Nat.le_of_ble_eq_true rfl) ?_
          refine r_iload_n (pc := 46) (i := 3) dX11_forgeKind_46 rfl rfl ?_
          refine r_iload_n (pc := 47) (i := 2) dX11_forgeKind_47 rfl rfl ?_
          refine r_icmp_eq (pc := 48) (tgt := 56) dX11_forgeKind_48 (by decide) (fun c33 => ?_) (fun c33 => ?_)
          · replace h := h.1 c33
            refine r_aload_n (pc := 56) (i := 0) dX11_forgeKind_56 rfl rfl ?_
            refine r_iload_n (pc := 57) (i := 3) dX11_forgeKind_57 rfl rfl ?_
            refine r_callV (pc := 58) (ci := 11) (as := [_]) (st := []) okX11_done lkX11_95 inX11_done seX11_done ⟨_, rfl, rfl⟩ dX11_forgeKind_58 rfl k1 (Nat.le_of_ble_eq_true rfl) (Nat.zero_le _) (Nat.zero_le _) (Call.mono h (fun r34 M35 h => ?_))
            obtain ⟨v36, rfl, h⟩ := h
            refine r_goto (pc := 61) (tgt := 70) dX11_forgeKind_61 (by decide) ?_
            exact r_iret (pc := 70) dX11_forgeKind_70 rfl h
          · replace h := h.2 c33
            refine r_iload (pc := 51) (i := 4) dX11_forgeKind_51 rfl ?_
            refine r_if_eq (pc := 53) (tgt := 64) dX11_forgeKind_53 (by decide) (fun c37 => ?_) (fun c37 => ?_)
            · replace h := h.1 c37
              refine r_aload_n (pc := 64) (i := 0) dX11_forgeKind_64 rfl rfl ?_
              refine r_bipush (pc := 65) (v := 11) dX11_forgeKind_65 (by decide) ?_
              refine r_callV (pc := 67) (ci := 11) (as := [_]) (st := []) okX11_refuse lkX11_91 inX11_refuse seX11_refuse ⟨_, rfl, rfl⟩ dX11_forgeKind_67 rfl k1 (Nat.le_of_ble_eq_true rfl) (Nat.zero_le _) (Nat.zero_le _) (Call.mono h (fun r38 M39 h => ?_))
              obtain ⟨v40, rfl, h⟩ := h
              exact r_iret (pc := 70) dX11_forgeKind_70 rfl h
            · replace h := h.2 c37
              refine r_aload_n (pc := 56) (i := 0) dX11_forgeKind_56 rfl rfl ?_
              refine r_iload_n (pc := 57) (i := 3) dX11_forgeKind_57 rfl rfl ?_
              refine r_callV (pc := 58) (ci := 11) (as := [_]) (st := []) okX11_done lkX11_95 inX11_done seX11_done ⟨_, rfl, rfl⟩ dX11_forgeKind_58 rfl k1 (Nat.le_of_ble_eq_true rfl) (Nat.zero_le _) (Nat.zero_le _) (Call.mono h (fun r41 M42 h => ?_))
              obtain ⟨v43, rfl, h⟩ := h
              refine r_goto (pc := 61) (tgt := 70) dX11_forgeKind_61 (by decide) ?_
              exact r_iret (pc := 70) dX11_forgeKind_70 rfl h
        · replace h := h.2 c32
          refine r_iconst (pc := 39) (v := 1) dX11_forgeKind_39 (by decide) ?_
          refine r_goto (pc := 40) (tgt := 44) dX11_forgeKind_40 (by decide) ?_
          refine r_istore (pc := 44) (i := 4) dX11_forgeKind_44 rfl (Nat.le_of_ble_eq_true rfl) ?_
          refine r_iload_n (pc := 46) (i := 3) dX11_forgeKind_46 rfl rfl ?_
          refine r_iload_n (pc := 47) (i := 2) dX11_forgeKind_47 rfl rfl ?_
          refine r_icmp_eq (pc := 48) (tgt := 56) dX11_forgeKind_48 (by decide) (fun c44 => ?_) (fun c44 => ?_)
          · replace h := h.1 c44
            refine r_aload_n (pc := 56) (i := 0) dX11_forgeKind_56 rfl rfl ?_
            refine r_iload_n (pc := 57) (i := 3) dX11_forgeKind_57 rfl rfl ?_
            refine r_callV (pc := 58) (ci := 11) (as := [_]) (st := []) okX11_done lkX11_95 inX11_done seX11_done ⟨_, rfl, rfl⟩ dX11_forgeKind_58 rfl k1 (Nat.le_of_ble_eq_true rfl) (Nat.zero_le _) (Nat.zero_le _) (Call.mono h (fun r45 M46 h => ?_))
            obtain ⟨v47, rfl, h⟩ := h
            refine r_goto (pc := 61) (tgt := 70) dX11_forgeKind_61 (by decide) ?_
            exact r_iret (pc := 70) dX11_forgeKind_70 rfl h
          · replace h := h.2 c44
            refine r_iload (pc := 51) (i := 4) dX11_forgeKind_51 rfl ?_
            refine r_if_eq (pc := 53) (tgt := 64) dX11_forgeKind_53 (by decide) (fun c48 => ?_) (fun c48 => ?_)
            · replace h := h.1 c48
              refine r_aload_n (pc := 64) (i := 0) dX11_forgeKind_64 rfl rfl ?_
              refine r_bipush (pc := 65) (v := 11) dX11_forgeKind_65 (by decide) ?_
              refine r_callV (pc := 67) (ci := 11) (as := [_]) (st := []) okX11_refuse lkX11_91 inX11_refuse seX11_refuse ⟨_, rfl, rfl⟩ dX11_forgeKind_67 rfl k1 (Nat.le_of_ble_eq_true rfl) (Nat.zero_le _) (Nat.zero_le _) (Call.mono h (fun r49 M50 h => ?_))
              obtain ⟨v51, rfl, h⟩ := h
              exact r_iret (pc := 70) dX11_forgeKind_70 rfl h
            · replace h := h.2 c48
              refine r_aload_n (pc := 56) (i := 0) dX11_forgeKind_56 rfl rfl ?_
              refine r_iload_n (pc := 57) (i := 3) dX11_forgeKind_57 rfl rfl ?_
              refine r_callV (pc := 58) (ci := 11) (as := [_]) (st := []) okX11_done lkX11_95 inX11_done seX11_done ⟨_, rfl, rfl⟩ dX11_forgeKind_58 rfl k1 (Nat.le_of_ble_eq_true rfl) (Nat.zero_le _) (Nat.zero_le _) (Call.mono h (fun r52 M53 h => ?_))
              obtain ⟨v54, rfl, h⟩ := h
              refine r_goto (pc := 61) (tgt := 70) dX11_forgeKind_61 (by decide) ?_
              exact r_iret (pc := 70) dX11_forgeKind_70 rfl h
  · replace h := h.2 c2
    refine r_aload_n (pc := 8) (i := 0) dX11_forgeKind_8 rfl rfl ?_
    refine r_bipush (pc := 9) (v := 10) dX11_forgeKind_9 (by decide) ?_
    refine r_callV (pc := 11) (ci := 11) (as := [_]) (st := []) okX11_refuse lkX11_91 inX11_refuse seX11_refuse ⟨_, rfl, rfl⟩ dX11_forgeKind_11 rfl k1 (Nat.le_of_ble_eq_true rfl) (Nat.zero_le _) (Nat.zero_le _) (Call.mono h (fun r55 M56 h => ?_))
    obtain ⟨v57, rfl, h⟩ := h
    exact r_iret (pc := 14) dX11_forgeKind_14 rfl h
theorem eX11_forgeNumber {G : GG} {d rc rs : Nat} (o : Nat) (a1 : Int32) (a2 : Int32)  {M : Mem} {Q : Option Value → Mem → Prop} (h : (x_h M o).1 = 27 ∧ (∃ b2, x_r M o 4 = some b2 ∧ (x_h M b2).1 = 1 ∧ vp_in a1 (x_h M b2).2 ∧ (¬ (x_i M b2 a1.toNatClampNeg) = (-1) → ((x_i M b2 a1.toNatClampNeg) = 1 → ∃ b7, x_r M o 5 = some b7 ∧ (x_h M b7).1 = 1 ∧ vp_in a1 (x_h M b7).2 ∧ Call G d 0 0 mX11_within [.int a2, .int (x_i M b7 a1.toNatClampNeg)] M (fun r10 M11 => ∃ v12 : Int32, r10 = some (.int v12) ∧ (v12 = 0 → (x_h M11 o).1 = 27 ∧ Call G d 0 0 mX11_refuse [.ref o, .int 12] M11 (fun r15 M16 => ∃ v17 : Int32, r15 = some (.int v17) ∧ Q (some (.int v17)) M16)) ∧ (¬ v12 = 0 → (x_h M11 o).1 = 27 ∧ (∃ b19, x_r M11 o 3 = some b19 ∧ (4 ≤ (x_h M11 b19).1 ∧ (x_h M11 b19).1 < 8) ∧ vp_in a1 (x_h M11 b19).2 ∧ (∃ b22, x_r M11 b19 a1.toNatClampNeg = some b22 ∧ (x_h M11 b22).1 = 1 ∧ vp_in a2 (x_h M11 b22).2 ∧ Call G d 0 0 mX11_done [.ref o, .int (x_i M11 b22 a2.toNatClampNeg)] M11 (fun r25 M26 => ∃ v27 : Int32, r25 = some (.int v27) ∧ Q (some (.int v27)) M26)))))) ∧ (¬ (x_i M b2 a1.toNatClampNeg) = 1 → Call G d 0 0 mX11_refuse [.ref o, .int 11] M (fun r28 M29 => ∃ v30 : Int32, r28 = some (.int v30) ∧ Q (some (.int v30)) M29))) ∧ ((x_i M b2 a1.toNatClampNeg) = (-1) → Call G d 0 0 mX11_refuse [.ref o, .int 10] M (fun r31 M32 => ∃ v33 : Int32, r31 = some (.int v33) ∧ Q (some (.int v33)) M32)))) : Call G (d + 1) rc rs mX11_forgeNumber [.ref o, .int a1, .int a2] M Q := by
  refine call_of (by decide) (Nat.le_of_ble_eq_true rfl) ?_
  show Wk G (d + 1) rc rs mX11_forgeNumber 0 [some (.ref o), some (.int a1), some (.int a2)] [] M Q
  refine r_aload_n (pc := 0) (i := 0) dX11_forgeNumber_0 rfl rfl ?_
  obtain ⟨k1, h⟩ := h
  obtain ⟨b2, hb2, h⟩ := h
  refine r_getr (pc := 1) flX11_30 dX11_forgeNumber_1 rfl k1 hb2 ?_
  refine r_iload_n (pc := 4) (i := 1) dX11_forgeNumber_4 rfl rfl ?_
  obtain ⟨k3, h⟩ := h
  obtain ⟨i4, h⟩ := h
  refine r_iald (pc := 5) dX11_forgeNumber_5 k3 i4 ?_
  refine r_iconst (pc := 6) (v := (-1)) dX11_forgeNumber_6 (by decide) ?_
  refine r_icmp_ne (pc := 7) (tgt := 17) dX11_forgeNumber_7 (by decide) (fun c5 => ?_) (fun c5 => ?_)
  · replace h := h.1 c5
    refine r_aload_n (pc := 17) (i := 0) dX11_forgeNumber_17 rfl rfl ?_
    refine r_getr (pc := 18) flX11_30 dX11_forgeNumber_18 rfl k1 hb2 ?_
    refine r_iload_n (pc := 21) (i := 1) dX11_forgeNumber_21 rfl rfl ?_
    refine r_iald (pc := 22) dX11_forgeNumber_22 k3 i4 ?_
    refine r_iconst (pc := 23) (v := 1) dX11_forgeNumber_23 (by decide) ?_
    refine r_icmp_eq (pc := 24) (tgt := 34) dX11_forgeNumber_24 (by decide) (fun c6 => ?_) (fun c6 => ?_)
    · replace h := h.1 c6
      refine r_iload_n (pc := 34) (i := 2) dX11_forgeNumber_34 rfl rfl ?_
      refine r_aload_n (pc := 35) (i := 0) dX11_forgeNumber_35 rfl rfl ?_
      obtain ⟨b7, hb7, h⟩ := h
      refine r_getr (pc := 36) flX11_33 dX11_forgeNumber_36 rfl k1 hb7 ?_
      refine r_iload_n (pc := 39) (i := 1) dX11_forgeNumber_39 rfl rfl ?_
      obtain ⟨k8, h⟩ := h
      obtain ⟨i9, h⟩ := h
      refine r_iald (pc := 40) dX11_forgeNumber_40 k8 i9 ?_
      refine r_callS (pc := 41) (as := [_, _]) (st := []) okX11_within lkX11_98 stX11_within dX11_forgeNumber_41 rfl (Nat.le_of_ble_eq_true rfl) (Nat.zero_le _) (Nat.zero_le _) (Call.mono h (fun r10 M11 h => ?_))
      obtain ⟨v12, rfl, h⟩ := h
      refine r_if_eq (pc := 44) (tgt := 62) dX11_forgeNumber_44 (by decide) (fun c13 => ?_) (fun c13 => ?_)
      · replace h := h.1 c13
        refine r_aload_n (pc := 62) (i := 0) dX11_forgeNumber_62 rfl rfl ?_
        refine r_bipush (pc := 63) (v := 12) dX11_forgeNumber_63 (by decide) ?_
        obtain ⟨k14, h⟩ := h
        refine r_callV (pc := 65) (ci := 11) (as := [_]) (st := []) okX11_refuse lkX11_91 inX11_refuse seX11_refuse ⟨_, rfl, rfl⟩ dX11_forgeNumber_65 rfl k14 (Nat.le_of_ble_eq_true rfl) (Nat.zero_le _) (Nat.zero_le _) (Call.mono h (fun r15 M16 h => ?_))
        obtain ⟨v17, rfl, h⟩ := h
        exact r_iret (pc := 68) dX11_forgeNumber_68 rfl h
      · replace h := h.2 c13
        refine r_aload_n (pc := 47) (i := 0) dX11_forgeNumber_47 rfl rfl ?_
        refine r_aload_n (pc := 48) (i := 0) dX11_forgeNumber_48 rfl rfl ?_
        obtain ⟨k18, h⟩ := h
        obtain ⟨b19, hb19, h⟩ := h
        refine r_getr (pc := 49) flX11_27 dX11_forgeNumber_49 rfl k18 hb19 ?_
        refine r_iload_n (pc := 52) (i := 1) dX11_forgeNumber_52 rfl rfl ?_
        obtain ⟨k20, h⟩ := h
        obtain ⟨i21, h⟩ := h
        obtain ⟨b22, hb22, h⟩ := h
        refine r_aald (pc := 53) dX11_forgeNumber_53 rfl k20 i21 hb22 ?_
        refine r_iload_n (pc := 54) (i := 2) dX11_forgeNumber_54 rfl rfl ?_
        obtain ⟨k23, h⟩ := h
        obtain ⟨i24, h⟩ := h
        refine r_iald (pc := 55) dX11_forgeNumber_55 k23 i24 ?_
        refine r_callV (pc := 56) (ci := 11) (as := [_]) (st := []) okX11_done lkX11_95 inX11_done seX11_done ⟨_, rfl, rfl⟩ dX11_forgeNumber_56 rfl k18 (Nat.le_of_ble_eq_true rfl) (Nat.zero_le _) (Nat.zero_le _) (Call.mono h (fun r25 M26 h => ?_))
        obtain ⟨v27, rfl, h⟩ := h
        refine r_goto (pc := 59) (tgt := 68) dX11_forgeNumber_59 (by decide) ?_
        exact r_iret (pc := 68) dX11_forgeNumber_68 rfl h
    · replace h := h.2 c6
      refine r_aload_n (pc := 27) (i := 0) dX11_forgeNumber_27 rfl rfl ?_
      refine r_bipush (pc := 28) (v := 11) dX11_forgeNumber_28 (by decide) ?_
      refine r_callV (pc := 30) (ci := 11) (as := [_]) (st := []) okX11_refuse lkX11_91 inX11_refuse seX11_refuse ⟨_, rfl, rfl⟩ dX11_forgeNumber_30 rfl k1 (Nat.le_of_ble_eq_true rfl) (Nat.zero_le _) (Nat.zero_le _) (Call.mono h (fun r28 M29 h => ?_))
      obtain ⟨v30, rfl, h⟩ := h
      exact r_iret (pc := 33) dX11_forgeNumber_33 rfl h
  · replace h := h.2 c5
    refine r_aload_n (pc := 10) (i := 0) dX11_forgeNumber_10 rfl rfl ?_
    refine r_bipush (pc := 11) (v := 10) dX11_forgeNumber_11 (by decide) ?_
    refine r_callV (pc := 13) (ci := 11) (as := [_]) (st := []) okX11_refuse lkX11_91 inX11_refuse seX11_refuse ⟨_, rfl, rfl⟩ dX11_forgeNumber_13 rfl k1 (Nat.le_of_ble_eq_true rfl) (Nat.zero_le _) (Nat.zero_le _) (Call.mono h (fun r31 M32 h => ?_))
    obtain ⟨v33, rfl, h⟩ := h
    exact r_iret (pc := 16) dX11_forgeNumber_16 rfl h
abbrev LX11_forgeCopy_68 (G : GG) (d rc rs : Nat) (p0 : Nat) (x1 : Int32) (x2 : Int32) (x3 : Int32) (x4 : Int32) (M : Mem) (Q : Option Value → Mem → Prop) : Prop := Wk G (d + 1) rc rs mX11_forgeCopy 68 [some (.ref p0), some (.int x1), some (.int x2), some (.int x3), some (.int x4)] [] M Q
theorem eX11_forgeCopy {G : GG} {d rc rs : Nat} (o : Nat) (a1 : Int32) (a2 : Int32)  {M : Mem} {Q : Option Value → Mem → Prop} (h : (x_h M o).1 = 27 ∧ (∃ b2, x_r M o 4 = some b2 ∧ (x_h M b2).1 = 1 ∧ vp_in a1 (x_h M b2).2 ∧ (¬ (x_i M b2 a1.toNatClampNeg) = (-1) → ((x_i M b2 a1.toNatClampNeg) = 0 → (a2 < 0 → Call G d 0 0 mX11_refuse [.ref o, .int 12] M (fun r8 M9 => ∃ v10 : Int32, r8 = some (.int v10) ∧ Q (some (.int v10)) M9)) ∧ (¬ a2 < 0 → ∃ b11, x_r M o 5 = some b11 ∧ (x_h M b11).1 = 1 ∧ vp_in a1 (x_h M b11).2 ∧ ((x_i M b11 a1.toNatClampNeg) < (a2 + 2) → Call G d 0 0 mX11_refuse [.ref o, .int 12] M (fun r15 M16 => ∃ v17 : Int32, r15 = some (.int v17) ∧ Q (some (.int v17)) M16)) ∧ (¬ (x_i M b11 a1.toNatClampNeg) < (a2 + 2) → ((a2 + a2) ≤ 5 → LX11_forgeCopy_68 G d rc rs o a1 a2 0 2 M Q) ∧ (¬ (a2 + a2) ≤ 5 → Call G d 0 0 mX11_refuse [.ref o, .int 12] M (fun r19 M20 => ∃ v21 : Int32, r19 = some (.int v21) ∧ Q (some (.int v21)) M20))))) ∧ (¬ (x_i M b2 a1.toNatClampNeg) = 0 → Call G d 0 0 mX11_refuse [.ref o, .int 11] M (fun r22 M23 => ∃ v24 : Int32, r22 = some (.int v24) ∧ Q (some (.int v24)) M23))) ∧ ((x_i M b2 a1.toNatClampNeg) = (-1) → Call G d 0 0 mX11_refuse [.ref o, .int 10] M (fun r25 M26 => ∃ v27 : Int32, r25 = some (.int v27) ∧ Q (some (.int v27)) M26)))) : Call G (d + 1) rc rs mX11_forgeCopy [.ref o, .int a1, .int a2] M Q := by
  refine call_of (by decide) (Nat.le_of_ble_eq_true rfl) ?_
  show Wk G (d + 1) rc rs mX11_forgeCopy 0 [some (.ref o), some (.int a1), some (.int a2), none, none] [] M Q
  refine r_aload_n (pc := 0) (i := 0) dX11_forgeCopy_0 rfl rfl ?_
  obtain ⟨k1, h⟩ := h
  obtain ⟨b2, hb2, h⟩ := h
  refine r_getr (pc := 1) flX11_30 dX11_forgeCopy_1 rfl k1 hb2 ?_
  refine r_iload_n (pc := 4) (i := 1) dX11_forgeCopy_4 rfl rfl ?_
  obtain ⟨k3, h⟩ := h
  obtain ⟨i4, h⟩ := h
  refine r_iald (pc := 5) dX11_forgeCopy_5 k3 i4 ?_
  refine r_iconst (pc := 6) (v := (-1)) dX11_forgeCopy_6 (by decide) ?_
  refine r_icmp_ne (pc := 7) (tgt := 17) dX11_forgeCopy_7 (by decide) (fun c5 => ?_) (fun c5 => ?_)
  · replace h := h.1 c5
    refine r_aload_n (pc := 17) (i := 0) dX11_forgeCopy_17 rfl rfl ?_
    refine r_getr (pc := 18) flX11_30 dX11_forgeCopy_18 rfl k1 hb2 ?_
    refine r_iload_n (pc := 21) (i := 1) dX11_forgeCopy_21 rfl rfl ?_
    refine r_iald (pc := 22) dX11_forgeCopy_22 k3 i4 ?_
    refine r_if_eq (pc := 23) (tgt := 33) dX11_forgeCopy_23 (by decide) (fun c6 => ?_) (fun c6 => ?_)
    · replace h := h.1 c6
      refine r_iload_n (pc := 33) (i := 2) dX11_forgeCopy_33 rfl rfl ?_
      refine r_if_lt (pc := 34) (tgt := 56) dX11_forgeCopy_34 (by decide) (fun c7 => ?_) (fun c7 => ?_)
      · replace h := h.1 c7
        refine r_aload_n (pc := 56) (i := 0) dX11_forgeCopy_56 rfl rfl ?_
        refine r_bipush (pc := 57) (v := 12) dX11_forgeCopy_57 (by decide) ?_
        refine r_callV (pc := 59) (ci := 11) (as := [_]) (st := []) okX11_refuse lkX11_91 inX11_refuse seX11_refuse ⟨_, rfl, rfl⟩ dX11_forgeCopy_59 rfl k1 (Nat.le_of_ble_eq_true rfl) (Nat.zero_le _) (Nat.zero_le _) (Call.mono h (fun r8 M9 h => ?_))
        obtain ⟨v10, rfl, h⟩ := h
        exact r_iret (pc := 62) dX11_forgeCopy_62 rfl h
      · replace h := h.2 c7
        refine r_iload_n (pc := 37) (i := 2) dX11_forgeCopy_37 rfl rfl ?_
        refine r_iconst (pc := 38) (v := 2) dX11_forgeCopy_38 (by decide) ?_
        refine r_iadd (pc := 39) dX11_forgeCopy_39 ?_
        refine r_aload_n (pc := 40) (i := 0) dX11_forgeCopy_40 rfl rfl ?_
        obtain ⟨b11, hb11, h⟩ := h
        refine r_getr (pc := 41) flX11_33 dX11_forgeCopy_41 rfl k1 hb11 ?_
        refine r_iload_n (pc := 44) (i := 1) dX11_forgeCopy_44 rfl rfl ?_
        obtain ⟨k12, h⟩ := h
        obtain ⟨i13, h⟩ := h
        refine r_iald (pc := 45) dX11_forgeCopy_45 k12 i13 ?_
        refine r_icmp_gt (pc := 46) (tgt := 56) dX11_forgeCopy_46 (by decide) (fun c14 => ?_) (fun c14 => ?_)
        · replace h := h.1 c14
          refine r_aload_n (pc := 56) (i := 0) dX11_forgeCopy_56 rfl rfl ?_
          refine r_bipush (pc := 57) (v := 12) dX11_forgeCopy_57 (by decide) ?_
          refine r_callV (pc := 59) (ci := 11) (as := [_]) (st := []) okX11_refuse lkX11_91 inX11_refuse seX11_refuse ⟨_, rfl, rfl⟩ dX11_forgeCopy_59 rfl k1 (Nat.le_of_ble_eq_true rfl) (Nat.zero_le _) (Nat.zero_le _) (Call.mono h (fun r15 M16 h => ?_))
          obtain ⟨v17, rfl, h⟩ := h
          exact r_iret (pc := 62) dX11_forgeCopy_62 rfl h
        · replace h := h.2 c14
          refine r_iload_n (pc := 49) (i := 2) dX11_forgeCopy_49 rfl rfl ?_
          refine r_iload_n (pc := 50) (i := 2) dX11_forgeCopy_50 rfl rfl ?_
          refine r_iadd (pc := 51) dX11_forgeCopy_51 ?_
          refine r_iconst (pc := 52) (v := 5) dX11_forgeCopy_52 (by decide) ?_
          refine r_icmp_le (pc := 53) (tgt := 63) dX11_forgeCopy_53 (by decide) (fun c18 => ?_) (fun c18 => ?_)
          · replace h := h.1 c18
            refine r_iconst (pc := 63) (v := 0) dX11_forgeCopy_63 (by decide) ?_
            refine r_istore_n (pc := 64) (i := 3) dX11_forgeCopy_64 rfl rfl (Nat.le_of_ble_eq_true rfl) ?_
            refine r_iconst (pc := 65) (v := 2) dX11_forgeCopy_65 (by decide) ?_
            refine r_istore (pc := 66) (i := 4) dX11_forgeCopy_66 rfl (Nat.le_of_ble_eq_true rfl) ?_
            exact h
          · replace h := h.2 c18
            refine r_aload_n (pc := 56) (i := 0) dX11_forgeCopy_56 rfl rfl ?_
            refine r_bipush (pc := 57) (v := 12) dX11_forgeCopy_57 (by decide) ?_
            refine r_callV (pc := 59) (ci := 11) (as := [_]) (st := []) okX11_refuse lkX11_91 inX11_refuse seX11_refuse ⟨_, rfl, rfl⟩ dX11_forgeCopy_59 rfl k1 (Nat.le_of_ble_eq_true rfl) (Nat.zero_le _) (Nat.zero_le _) (Call.mono h (fun r19 M20 h => ?_))
            obtain ⟨v21, rfl, h⟩ := h
            exact r_iret (pc := 62) dX11_forgeCopy_62 rfl h
    · replace h := h.2 c6
      refine r_aload_n (pc := 26) (i := 0) dX11_forgeCopy_26 rfl rfl ?_
      refine r_bipush (pc := 27) (v := 11) dX11_forgeCopy_27 (by decide) ?_
      refine r_callV (pc := 29) (ci := 11) (as := [_]) (st := []) okX11_refuse lkX11_91 inX11_refuse seX11_refuse ⟨_, rfl, rfl⟩ dX11_forgeCopy_29 rfl k1 (Nat.le_of_ble_eq_true rfl) (Nat.zero_le _) (Nat.zero_le _) (Call.mono h (fun r22 M23 h => ?_))
      obtain ⟨v24, rfl, h⟩ := h
      exact r_iret (pc := 32) dX11_forgeCopy_32 rfl h
  · replace h := h.2 c5
    refine r_aload_n (pc := 10) (i := 0) dX11_forgeCopy_10 rfl rfl ?_
    refine r_bipush (pc := 11) (v := 10) dX11_forgeCopy_11 (by decide) ?_
    refine r_callV (pc := 13) (ci := 11) (as := [_]) (st := []) okX11_refuse lkX11_91 inX11_refuse seX11_refuse ⟨_, rfl, rfl⟩ dX11_forgeCopy_13 rfl k1 (Nat.le_of_ble_eq_true rfl) (Nat.zero_le _) (Nat.zero_le _) (Call.mono h (fun r25 M26 h => ?_))
    obtain ⟨v27, rfl, h⟩ := h
    exact r_iret (pc := 16) dX11_forgeCopy_16 rfl h
theorem vX11_forgeCopy_68 {G : GG} {d rc rs : Nat} (p0 : Nat) (x1 : Int32) (x2 : Int32) (x3 : Int32) (x4 : Int32)  {M : Mem} {Q : Option Value → Mem → Prop} (h : ((x2 + 2) ≤ x4 → (x_h M p0).1 = 27 ∧ Call G d 0 0 mX11_done [.ref p0, .int x3] M (fun r3 M4 => ∃ v5 : Int32, r3 = some (.int v5) ∧ Q (some (.int v5)) M4)) ∧ (¬ (x2 + 2) ≤ x4 → (x_h M p0).1 = 27 ∧ (∃ b7, x_r M p0 3 = some b7 ∧ (4 ≤ (x_h M b7).1 ∧ (x_h M b7).1 < 8) ∧ vp_in x1 (x_h M b7).2 ∧ (∃ b10, x_r M b7 x1.toNatClampNeg = some b10 ∧ (x_h M b10).1 = 1 ∧ vp_in x4 (x_h M b10).2 ∧ LX11_forgeCopy_68 G d rc rs p0 x1 x2 (x3 + (x_i M b10 x4.toNatClampNeg)) (x4 + 1) M Q)))) : LX11_forgeCopy_68 G d rc rs p0 x1 x2 x3 x4 M Q := by
  show Wk G (d + 1) rc rs mX11_forgeCopy 68 _ _ M Q
  refine r_iload (pc := 68) (i := 4) dX11_forgeCopy_68 rfl ?_
  refine r_iload_n (pc := 70) (i := 2) dX11_forgeCopy_70 rfl rfl ?_
  refine r_iconst (pc := 71) (v := 2) dX11_forgeCopy_71 (by decide) ?_
  refine r_iadd (pc := 72) dX11_forgeCopy_72 ?_
  refine r_icmp_ge (pc := 73) (tgt := 94) dX11_forgeCopy_73 (by decide) (fun c1 => ?_) (fun c1 => ?_)
  · replace h := h.1 c1
    refine r_aload_n (pc := 94) (i := 0) dX11_forgeCopy_94 rfl rfl ?_
    refine r_iload_n (pc := 95) (i := 3) dX11_forgeCopy_95 rfl rfl ?_
    obtain ⟨k2, h⟩ := h
    refine r_callV (pc := 96) (ci := 11) (as := [_]) (st := []) okX11_done lkX11_95 inX11_done seX11_done ⟨_, rfl, rfl⟩ dX11_forgeCopy_96 rfl k2 (Nat.le_of_ble_eq_true rfl) (Nat.zero_le _) (Nat.zero_le _) (Call.mono h (fun r3 M4 h => ?_))
    obtain ⟨v5, rfl, h⟩ := h
    exact r_iret (pc := 99) dX11_forgeCopy_99 rfl h
  · replace h := h.2 c1
    refine r_iload_n (pc := 76) (i := 3) dX11_forgeCopy_76 rfl rfl ?_
    refine r_aload_n (pc := 77) (i := 0) dX11_forgeCopy_77 rfl rfl ?_
    obtain ⟨k6, h⟩ := h
    obtain ⟨b7, hb7, h⟩ := h
    refine r_getr (pc := 78) flX11_27 dX11_forgeCopy_78 rfl k6 hb7 ?_
    refine r_iload_n (pc := 81) (i := 1) dX11_forgeCopy_81 rfl rfl ?_
    obtain ⟨k8, h⟩ := h
    obtain ⟨i9, h⟩ := h
    obtain ⟨b10, hb10, h⟩ := h
    refine r_aald (pc := 82) dX11_forgeCopy_82 rfl k8 i9 hb10 ?_
    refine r_iload (pc := 83) (i := 4) dX11_forgeCopy_83 rfl ?_
    obtain ⟨k11, h⟩ := h
    obtain ⟨i12, h⟩ := h
    refine r_iald (pc := 85) dX11_forgeCopy_85 k11 i12 ?_
    refine r_iadd (pc := 86) dX11_forgeCopy_86 ?_
    refine r_istore_n (pc := 87) (i := 3) dX11_forgeCopy_87 rfl rfl (Nat.le_of_ble_eq_true rfl) ?_
    refine r_iinc (pc := 88) (i := 4) (v := _ + 1) dX11_forgeCopy_88 rfl rfl rfl ?_
    refine r_goto (pc := 91) (tgt := 68) dX11_forgeCopy_91 (by decide) ?_
    exact h
theorem eX11_forgeStore {G : GG} {d rc rs : Nat} (o : Nat) (a1 : Int32)  {M : Mem} {Q : Option Value → Mem → Prop} (h : (x_h M o).1 = 27 ∧ (a1 < (x_i M o 12) → ∃ b3, x_r M o 0 = some b3 ∧ (4 ≤ (x_h M b3).1 ∧ (x_h M b3).1 < 8) ∧ vp_in a1 (x_h M b3).2 ∧ (∃ b6, x_r M b3 a1.toNatClampNeg = some b6 ∧ (x_h M b6).1 = 23 ∧ ((x_i M b6 1) = 1 → Call G d 0 0 mX11_done [.ref o, .int (x_i M b6 1)] M (fun r9 M10 => ∃ v11 : Int32, r9 = some (.int v11) ∧ Q (some (.int v11)) M10)) ∧ (¬ (x_i M b6 1) = 1 → (¬ (x_i M b6 1) = 2 → Call G d 0 0 mX11_refuse [.ref o, .int 14] M (fun r13 M14 => ∃ v15 : Int32, r13 = some (.int v15) ∧ Q (some (.int v15)) M14)) ∧ ((x_i M b6 1) = 2 → Call G d 0 0 mX11_done [.ref o, .int (x_i M b6 1)] M (fun r16 M17 => ∃ v18 : Int32, r16 = some (.int v18) ∧ Q (some (.int v18)) M17))))) ∧ (¬ a1 < (x_i M o 12) → Call G d 0 0 mX11_done [.ref o, .int 0] M (fun r19 M20 => ∃ v21 : Int32, r19 = some (.int v21) ∧ Q (some (.int v21)) M20))) : Call G (d + 1) rc rs mX11_forgeStore [.ref o, .int a1] M Q := by
  refine call_of (by decide) (Nat.le_of_ble_eq_true rfl) ?_
  show Wk G (d + 1) rc rs mX11_forgeStore 0 [some (.ref o), some (.int a1), none] [] M Q
  refine r_iload_n (pc := 0) (i := 1) dX11_forgeStore_0 rfl rfl ?_
  refine r_aload_n (pc := 1) (i := 0) dX11_forgeStore_1 rfl rfl ?_
  obtain ⟨k1, h⟩ := h
  refine r_geti (pc := 2) flX11_71 dX11_forgeStore_2 (Or.inl rfl) k1 ?_
  refine r_icmp_lt (pc := 5) (tgt := 14) dX11_forgeStore_5 (by decide) (fun c2 => ?_) (fun c2 => ?_)
  · replace h := h.1 c2
    refine r_aload_n (pc := 14) (i := 0) dX11_forgeStore_14 rfl rfl ?_
    obtain ⟨b3, hb3, h⟩ := h
    refine r_getr (pc := 15) flX11_11 dX11_forgeStore_15 rfl k1 hb3 ?_
    refine r_iload_n (pc := 18) (i := 1) dX11_forgeStore_18 rfl rfl ?_
    obtain ⟨k4, h⟩ := h
    obtain ⟨i5, h⟩ := h
    obtain ⟨b6, hb6, h⟩ := h
    refine r_aald (pc := 19) dX11_forgeStore_19 rfl k4 i5 hb6 ?_
    obtain ⟨k7, h⟩ := h
    refine r_geti (pc := 20) flX11_179 dX11_forgeStore_20 (Or.inl rfl) k7 ?_
    refine r_istore_n (pc := 23) (i := 2) dX11_forgeStore_23 rfl rfl (Nat.le_of_ble_eq_true rfl) ?_
    refine r_iload_n (pc := 24) (i := 2) dX11_forgeStore_24 rfl rfl ?_
    refine r_iconst (pc := 25) (v := 1) dX11_forgeStore_25 (by decide) ?_
    refine r_icmp_eq (pc := 26) (tgt := 34) dX11_forgeStore_26 (by decide) (fun c8 => ?_) (fun c8 => ?_)
    · replace h := h.1 c8
      refine r_aload_n (pc := 34) (i := 0) dX11_forgeStore_34 rfl rfl ?_
      refine r_iload_n (pc := 35) (i := 2) dX11_forgeStore_35 rfl rfl ?_
      refine r_callV (pc := 36) (ci := 11) (as := [_]) (st := []) okX11_done lkX11_95 inX11_done seX11_done ⟨_, rfl, rfl⟩ dX11_forgeStore_36 rfl k1 (Nat.le_of_ble_eq_true rfl) (Nat.zero_le _) (Nat.zero_le _) (Call.mono h (fun r9 M10 h => ?_))
      obtain ⟨v11, rfl, h⟩ := h
      refine r_goto (pc := 39) (tgt := 48) dX11_forgeStore_39 (by decide) ?_
      exact r_iret (pc := 48) dX11_forgeStore_48 rfl h
    · replace h := h.2 c8
      refine r_iload_n (pc := 29) (i := 2) dX11_forgeStore_29 rfl rfl ?_
      refine r_iconst (pc := 30) (v := 2) dX11_forgeStore_30 (by decide) ?_
      refine r_icmp_ne (pc := 31) (tgt := 42) dX11_forgeStore_31 (by decide) (fun c12 => ?_) (fun c12 => ?_)
      · replace h := h.1 c12
        refine r_aload_n (pc := 42) (i := 0) dX11_forgeStore_42 rfl rfl ?_
        refine r_bipush (pc := 43) (v := 14) dX11_forgeStore_43 (by decide) ?_
        refine r_callV (pc := 45) (ci := 11) (as := [_]) (st := []) okX11_refuse lkX11_91 inX11_refuse seX11_refuse ⟨_, rfl, rfl⟩ dX11_forgeStore_45 rfl k1 (Nat.le_of_ble_eq_true rfl) (Nat.zero_le _) (Nat.zero_le _) (Call.mono h (fun r13 M14 h => ?_))
        obtain ⟨v15, rfl, h⟩ := h
        exact r_iret (pc := 48) dX11_forgeStore_48 rfl h
      · replace h := h.2 c12
        refine r_aload_n (pc := 34) (i := 0) dX11_forgeStore_34 rfl rfl ?_
        refine r_iload_n (pc := 35) (i := 2) dX11_forgeStore_35 rfl rfl ?_
        refine r_callV (pc := 36) (ci := 11) (as := [_]) (st := []) okX11_done lkX11_95 inX11_done seX11_done ⟨_, rfl, rfl⟩ dX11_forgeStore_36 rfl k1 (Nat.le_of_ble_eq_true rfl) (Nat.zero_le _) (Nat.zero_le _) (Call.mono h (fun r16 M17 h => ?_))
        obtain ⟨v18, rfl, h⟩ := h
        refine r_goto (pc := 39) (tgt := 48) dX11_forgeStore_39 (by decide) ?_
        exact r_iret (pc := 48) dX11_forgeStore_48 rfl h
  · replace h := h.2 c2
    refine r_aload_n (pc := 8) (i := 0) dX11_forgeStore_8 rfl rfl ?_
    refine r_iconst (pc := 9) (v := 0) dX11_forgeStore_9 (by decide) ?_
    refine r_callV (pc := 10) (ci := 11) (as := [_]) (st := []) okX11_done lkX11_95 inX11_done seX11_done ⟨_, rfl, rfl⟩ dX11_forgeStore_10 rfl k1 (Nat.le_of_ble_eq_true rfl) (Nat.zero_le _) (Nat.zero_le _) (Call.mono h (fun r19 M20 h => ?_))
    obtain ⟨v21, rfl, h⟩ := h
    exact r_iret (pc := 13) dX11_forgeStore_13 rfl h
