/-! EndlessRows$Tokens: decode rows and verification conditions, by program -/
theorem dX9_init_0 : decode cX9_init 0 = .ok (.aload_n 0, 1) := by decide +kernel
theorem dX9_init_1 : decode cX9_init 1 = .ok (.invokespecial 3, 3) := by decide +kernel
theorem dX9_init_4 : decode cX9_init 4 = .ok (.aload_n 0, 1) := by decide +kernel
theorem dX9_init_5 : decode cX9_init 5 = .ok (.bipush 121, 2) := by decide +kernel
theorem dX9_init_7 : decode cX9_init 7 = .ok (.newarray .int, 2) := by decide +kernel
theorem dX9_init_9 : decode cX9_init 9 = .ok (.putfield 9, 3) := by decide +kernel
theorem dX9_init_12 : decode cX9_init 12 = .ok (.aload_n 0, 1) := by decide +kernel
theorem dX9_init_13 : decode cX9_init 13 = .ok (.bipush 121, 2) := by decide +kernel
theorem dX9_init_15 : decode cX9_init 15 = .ok (.newarray .int, 2) := by decide +kernel
theorem dX9_init_17 : decode cX9_init 17 = .ok (.putfield 15, 3) := by decide +kernel
theorem dX9_init_20 : decode cX9_init 20 = .ok (.aload_n 0, 1) := by decide +kernel
theorem dX9_init_21 : decode cX9_init 21 = .ok (.bipush 121, 2) := by decide +kernel
theorem dX9_init_23 : decode cX9_init 23 = .ok (.newarray .int, 2) := by decide +kernel
theorem dX9_init_25 : decode cX9_init 25 = .ok (.putfield 18, 3) := by decide +kernel
theorem dX9_init_28 : decode cX9_init 28 = .ok (.aload_n 0, 1) := by decide +kernel
theorem dX9_init_29 : decode cX9_init 29 = .ok (.iconst 0, 1) := by decide +kernel
theorem dX9_init_30 : decode cX9_init 30 = .ok (.newarray .int, 2) := by decide +kernel
theorem dX9_init_32 : decode cX9_init 32 = .ok (.putfield 21, 3) := by decide +kernel
theorem dX9_init_35 : decode cX9_init 35 = .ok (.aload_n 0, 1) := by decide +kernel
theorem dX9_init_36 : decode cX9_init 36 = .ok (.iconst 0, 1) := by decide +kernel
theorem dX9_init_37 : decode cX9_init 37 = .ok (.putfield 24, 3) := by decide +kernel
theorem dX9_init_40 : decode cX9_init 40 = .ok (.aload_n 0, 1) := by decide +kernel
theorem dX9_init_41 : decode cX9_init 41 = .ok (.iconst 0, 1) := by decide +kernel
theorem dX9_init_42 : decode cX9_init 42 = .ok (.putfield 28, 3) := by decide +kernel
theorem dX9_init_45 : decode cX9_init 45 = .ok (.return_, 1) := by decide +kernel
theorem dX9_cut_0 : decode cX9_cut 0 = .ok (.aload_n 0, 1) := by decide +kernel
theorem dX9_cut_1 : decode cX9_cut 1 = .ok (.aload_n 1, 1) := by decide +kernel
theorem dX9_cut_2 : decode cX9_cut 2 = .ok (.putfield 21, 3) := by decide +kernel
theorem dX9_cut_5 : decode cX9_cut 5 = .ok (.aload_n 0, 1) := by decide +kernel
theorem dX9_cut_6 : decode cX9_cut 6 = .ok (.iload_n 2, 1) := by decide +kernel
theorem dX9_cut_7 : decode cX9_cut 7 = .ok (.aload_n 1, 1) := by decide +kernel
theorem dX9_cut_8 : decode cX9_cut 8 = .ok (.arraylength, 1) := by decide +kernel
theorem dX9_cut_9 : decode cX9_cut 9 = .ok (.bipush 120, 2) := by decide +kernel
theorem dX9_cut_11 : decode cX9_cut 11 = .ok (.invokestatic 31, 3) := by decide +kernel
theorem dX9_cut_14 : decode cX9_cut 14 = .ok (.invokestatic 31, 3) := by decide +kernel
theorem dX9_cut_17 : decode cX9_cut 17 = .ok (.putfield 24, 3) := by decide +kernel
theorem dX9_cut_20 : decode cX9_cut 20 = .ok (.aload_n 0, 1) := by decide +kernel
theorem dX9_cut_21 : decode cX9_cut 21 = .ok (.iconst 0, 1) := by decide +kernel
theorem dX9_cut_22 : decode cX9_cut 22 = .ok (.putfield 28, 3) := by decide +kernel
theorem dX9_cut_25 : decode cX9_cut 25 = .ok (.iconst 0, 1) := by decide +kernel
theorem dX9_cut_26 : decode cX9_cut 26 = .ok (.istore_n 3, 1) := by decide +kernel
theorem dX9_cut_27 : decode cX9_cut 27 = .ok (.iconst 0, 1) := by decide +kernel
theorem dX9_cut_28 : decode cX9_cut 28 = .ok (.istore 4, 2) := by decide +kernel
theorem dX9_cut_30 : decode cX9_cut 30 = .ok (.iload 4, 2) := by decide +kernel
theorem dX9_cut_32 : decode cX9_cut 32 = .ok (.bipush 120, 2) := by decide +kernel
theorem dX9_cut_34 : decode cX9_cut 34 = .ok (.if_icmp .ge 39, 3) := by decide +kernel
theorem dX9_cut_37 : decode cX9_cut 37 = .ok (.iload_n 3, 1) := by decide +kernel
theorem dX9_cut_38 : decode cX9_cut 38 = .ok (.aload_n 0, 1) := by decide +kernel
theorem dX9_cut_39 : decode cX9_cut 39 = .ok (.getfield 24, 3) := by decide +kernel
theorem dX9_cut_42 : decode cX9_cut 42 = .ok (.if_icmp .ge 31, 3) := by decide +kernel
theorem dX9_cut_45 : decode cX9_cut 45 = .ok (.aload_n 0, 1) := by decide +kernel
theorem dX9_cut_46 : decode cX9_cut 46 = .ok (.iload_n 3, 1) := by decide +kernel
theorem dX9_cut_47 : decode cX9_cut 47 = .ok (.invokevirtual 37, 3) := by decide +kernel
theorem dX9_cut_50 : decode cX9_cut 50 = .ok (.bipush 32, 2) := by decide +kernel
theorem dX9_cut_52 : decode cX9_cut 52 = .ok (.if_icmp .ne 9, 3) := by decide +kernel
theorem dX9_cut_55 : decode cX9_cut 55 = .ok (.iload_n 3, 1) := by decide +kernel
theorem dX9_cut_56 : decode cX9_cut 56 = .ok (.iconst 1, 1) := by decide +kernel
theorem dX9_cut_57 : decode cX9_cut 57 = .ok (.iadd, 1) := by decide +kernel
theorem dX9_cut_58 : decode cX9_cut 58 = .ok (.goto 8, 3) := by decide +kernel
theorem dX9_cut_61 : decode cX9_cut 61 = .ok (.aload_n 0, 1) := by decide +kernel
theorem dX9_cut_62 : decode cX9_cut 62 = .ok (.iload_n 3, 1) := by decide +kernel
theorem dX9_cut_63 : decode cX9_cut 63 = .ok (.invokevirtual 41, 3) := by decide +kernel
theorem dX9_cut_66 : decode cX9_cut 66 = .ok (.istore_n 3, 1) := by decide +kernel
theorem dX9_cut_67 : decode cX9_cut 67 = .ok (.iinc 4 1, 3) := by decide +kernel
theorem dX9_cut_70 : decode cX9_cut 70 = .ok (.goto (-40), 3) := by decide +kernel
theorem dX9_cut_73 : decode cX9_cut 73 = .ok (.aload_n 0, 1) := by decide +kernel
theorem dX9_cut_74 : decode cX9_cut 74 = .ok (.iconst 0, 1) := by decide +kernel
theorem dX9_cut_75 : decode cX9_cut 75 = .ok (.aload_n 0, 1) := by decide +kernel
theorem dX9_cut_76 : decode cX9_cut 76 = .ok (.getfield 24, 3) := by decide +kernel
theorem dX9_cut_79 : decode cX9_cut 79 = .ok (.iconst 0, 1) := by decide +kernel
theorem dX9_cut_80 : decode cX9_cut 80 = .ok (.invokevirtual 44, 3) := by decide +kernel
theorem dX9_cut_83 : decode cX9_cut 83 = .ok (.return_, 1) := by decide +kernel
theorem dX9_add_0 : decode cX9_add 0 = .ok (.aload_n 0, 1) := by decide +kernel
theorem dX9_add_1 : decode cX9_add 1 = .ok (.getfield 28, 3) := by decide +kernel
theorem dX9_add_4 : decode cX9_add 4 = .ok (.aload_n 0, 1) := by decide +kernel
theorem dX9_add_5 : decode cX9_add 5 = .ok (.getfield 9, 3) := by decide +kernel
theorem dX9_add_8 : decode cX9_add 8 = .ok (.arraylength, 1) := by decide +kernel
theorem dX9_add_9 : decode cX9_add 9 = .ok (.if_icmp .ge 43, 3) := by decide +kernel
theorem dX9_add_12 : decode cX9_add 12 = .ok (.aload_n 0, 1) := by decide +kernel
theorem dX9_add_13 : decode cX9_add 13 = .ok (.getfield 9, 3) := by decide +kernel
theorem dX9_add_16 : decode cX9_add 16 = .ok (.aload_n 0, 1) := by decide +kernel
theorem dX9_add_17 : decode cX9_add 17 = .ok (.getfield 28, 3) := by decide +kernel
theorem dX9_add_20 : decode cX9_add 20 = .ok (.iload_n 1, 1) := by decide +kernel
theorem dX9_add_21 : decode cX9_add 21 = .ok (.iastore, 1) := by decide +kernel
theorem dX9_add_22 : decode cX9_add 22 = .ok (.aload_n 0, 1) := by decide +kernel
theorem dX9_add_23 : decode cX9_add 23 = .ok (.getfield 15, 3) := by decide +kernel
theorem dX9_add_26 : decode cX9_add 26 = .ok (.aload_n 0, 1) := by decide +kernel
theorem dX9_add_27 : decode cX9_add 27 = .ok (.getfield 28, 3) := by decide +kernel
theorem dX9_add_30 : decode cX9_add 30 = .ok (.iload_n 2, 1) := by decide +kernel
theorem dX9_add_31 : decode cX9_add 31 = .ok (.iastore, 1) := by decide +kernel
theorem dX9_add_32 : decode cX9_add 32 = .ok (.aload_n 0, 1) := by decide +kernel
theorem dX9_add_33 : decode cX9_add 33 = .ok (.getfield 18, 3) := by decide +kernel
theorem dX9_add_36 : decode cX9_add 36 = .ok (.aload_n 0, 1) := by decide +kernel
theorem dX9_add_37 : decode cX9_add 37 = .ok (.getfield 28, 3) := by decide +kernel
theorem dX9_add_40 : decode cX9_add 40 = .ok (.iload_n 3, 1) := by decide +kernel
theorem dX9_add_41 : decode cX9_add 41 = .ok (.iastore, 1) := by decide +kernel
theorem dX9_add_42 : decode cX9_add 42 = .ok (.aload_n 0, 1) := by decide +kernel
theorem dX9_add_43 : decode cX9_add 43 = .ok (.dup, 1) := by decide +kernel
theorem dX9_add_44 : decode cX9_add 44 = .ok (.getfield 28, 3) := by decide +kernel
theorem dX9_add_47 : decode cX9_add 47 = .ok (.iconst 1, 1) := by decide +kernel
theorem dX9_add_48 : decode cX9_add 48 = .ok (.iadd, 1) := by decide +kernel
theorem dX9_add_49 : decode cX9_add 49 = .ok (.putfield 28, 3) := by decide +kernel
theorem dX9_add_52 : decode cX9_add 52 = .ok (.return_, 1) := by decide +kernel
theorem dX9_byteAt_0 : decode cX9_byteAt 0 = .ok (.iload_n 1, 1) := by decide +kernel
theorem dX9_byteAt_1 : decode cX9_byteAt 1 = .ok (.ifCond .lt 20, 3) := by decide +kernel
theorem dX9_byteAt_4 : decode cX9_byteAt 4 = .ok (.iload_n 1, 1) := by decide +kernel
theorem dX9_byteAt_5 : decode cX9_byteAt 5 = .ok (.aload_n 0, 1) := by decide +kernel
theorem dX9_byteAt_6 : decode cX9_byteAt 6 = .ok (.getfield 24, 3) := by decide +kernel
theorem dX9_byteAt_9 : decode cX9_byteAt 9 = .ok (.if_icmp .ge 12, 3) := by decide +kernel
theorem dX9_byteAt_12 : decode cX9_byteAt 12 = .ok (.aload_n 0, 1) := by decide +kernel
theorem dX9_byteAt_13 : decode cX9_byteAt 13 = .ok (.getfield 21, 3) := by decide +kernel
theorem dX9_byteAt_16 : decode cX9_byteAt 16 = .ok (.iload_n 1, 1) := by decide +kernel
theorem dX9_byteAt_17 : decode cX9_byteAt 17 = .ok (.iaload, 1) := by decide +kernel
theorem dX9_byteAt_18 : decode cX9_byteAt 18 = .ok (.goto 4, 3) := by decide +kernel
theorem dX9_byteAt_21 : decode cX9_byteAt 21 = .ok (.iconst (-1), 1) := by decide +kernel
theorem dX9_byteAt_22 : decode cX9_byteAt 22 = .ok (.ireturn, 1) := by decide +kernel
theorem dX9_isLetter_0 : decode cX9_isLetter 0 = .ok (.aload_n 0, 1) := by decide +kernel
theorem dX9_isLetter_1 : decode cX9_isLetter 1 = .ok (.iload_n 1, 1) := by decide +kernel
theorem dX9_isLetter_2 : decode cX9_isLetter 2 = .ok (.invokevirtual 37, 3) := by decide +kernel
theorem dX9_isLetter_5 : decode cX9_isLetter 5 = .ok (.bipush 97, 2) := by decide +kernel
theorem dX9_isLetter_7 : decode cX9_isLetter 7 = .ok (.if_icmp .lt 17, 3) := by decide +kernel
theorem dX9_isLetter_10 : decode cX9_isLetter 10 = .ok (.aload_n 0, 1) := by decide +kernel
theorem dX9_isLetter_11 : decode cX9_isLetter 11 = .ok (.iload_n 1, 1) := by decide +kernel
theorem dX9_isLetter_12 : decode cX9_isLetter 12 = .ok (.invokevirtual 37, 3) := by decide +kernel
theorem dX9_isLetter_15 : decode cX9_isLetter 15 = .ok (.bipush 122, 2) := by decide +kernel
theorem dX9_isLetter_17 : decode cX9_isLetter 17 = .ok (.if_icmp .gt 7, 3) := by decide +kernel
theorem dX9_isLetter_20 : decode cX9_isLetter 20 = .ok (.iconst 1, 1) := by decide +kernel
theorem dX9_isLetter_21 : decode cX9_isLetter 21 = .ok (.goto 4, 3) := by decide +kernel
theorem dX9_isLetter_24 : decode cX9_isLetter 24 = .ok (.iconst 0, 1) := by decide +kernel
theorem dX9_isLetter_25 : decode cX9_isLetter 25 = .ok (.ireturn, 1) := by decide +kernel
theorem dX9_isDigit_0 : decode cX9_isDigit 0 = .ok (.aload_n 0, 1) := by decide +kernel
theorem dX9_isDigit_1 : decode cX9_isDigit 1 = .ok (.iload_n 1, 1) := by decide +kernel
theorem dX9_isDigit_2 : decode cX9_isDigit 2 = .ok (.invokevirtual 37, 3) := by decide +kernel
theorem dX9_isDigit_5 : decode cX9_isDigit 5 = .ok (.bipush 48, 2) := by decide +kernel
theorem dX9_isDigit_7 : decode cX9_isDigit 7 = .ok (.if_icmp .lt 17, 3) := by decide +kernel
theorem dX9_isDigit_10 : decode cX9_isDigit 10 = .ok (.aload_n 0, 1) := by decide +kernel
theorem dX9_isDigit_11 : decode cX9_isDigit 11 = .ok (.iload_n 1, 1) := by decide +kernel
theorem dX9_isDigit_12 : decode cX9_isDigit 12 = .ok (.invokevirtual 37, 3) := by decide +kernel
theorem dX9_isDigit_15 : decode cX9_isDigit 15 = .ok (.bipush 57, 2) := by decide +kernel
theorem dX9_isDigit_17 : decode cX9_isDigit 17 = .ok (.if_icmp .gt 7, 3) := by decide +kernel
theorem dX9_isDigit_20 : decode cX9_isDigit 20 = .ok (.iconst 1, 1) := by decide +kernel
theorem dX9_isDigit_21 : decode cX9_isDigit 21 = .ok (.goto 4, 3) := by decide +kernel
theorem dX9_isDigit_24 : decode cX9_isDigit 24 = .ok (.iconst 0, 1) := by decide +kernel
theorem dX9_isDigit_25 : decode cX9_isDigit 25 = .ok (.ireturn, 1) := by decide +kernel
theorem dX9_cutOne_0 : decode cX9_cutOne 0 = .ok (.aload_n 0, 1) := by decide +kernel
theorem dX9_cutOne_1 : decode cX9_cutOne 1 = .ok (.iload_n 1, 1) := by decide +kernel
theorem dX9_cutOne_2 : decode cX9_cutOne 2 = .ok (.invokevirtual 48, 3) := by decide +kernel
theorem dX9_cutOne_5 : decode cX9_cutOne 5 = .ok (.ifCond .eq 9, 3) := by decide +kernel
theorem dX9_cutOne_8 : decode cX9_cutOne 8 = .ok (.aload_n 0, 1) := by decide +kernel
theorem dX9_cutOne_9 : decode cX9_cutOne 9 = .ok (.iload_n 1, 1) := by decide +kernel
theorem dX9_cutOne_10 : decode cX9_cutOne 10 = .ok (.invokevirtual 52, 3) := by decide +kernel
theorem dX9_cutOne_13 : decode cX9_cutOne 13 = .ok (.ireturn, 1) := by decide +kernel
theorem dX9_cutOne_14 : decode cX9_cutOne 14 = .ok (.aload_n 0, 1) := by decide +kernel
theorem dX9_cutOne_15 : decode cX9_cutOne 15 = .ok (.iload_n 1, 1) := by decide +kernel
theorem dX9_cutOne_16 : decode cX9_cutOne 16 = .ok (.invokevirtual 55, 3) := by decide +kernel
theorem dX9_cutOne_19 : decode cX9_cutOne 19 = .ok (.ifCond .eq 9, 3) := by decide +kernel
theorem dX9_cutOne_22 : decode cX9_cutOne 22 = .ok (.aload_n 0, 1) := by decide +kernel
theorem dX9_cutOne_23 : decode cX9_cutOne 23 = .ok (.iload_n 1, 1) := by decide +kernel
theorem dX9_cutOne_24 : decode cX9_cutOne 24 = .ok (.invokevirtual 58, 3) := by decide +kernel
theorem dX9_cutOne_27 : decode cX9_cutOne 27 = .ok (.ireturn, 1) := by decide +kernel
theorem dX9_cutOne_28 : decode cX9_cutOne 28 = .ok (.aload_n 0, 1) := by decide +kernel
theorem dX9_cutOne_29 : decode cX9_cutOne 29 = .ok (.iload_n 1, 1) := by decide +kernel
theorem dX9_cutOne_30 : decode cX9_cutOne 30 = .ok (.invokevirtual 37, 3) := by decide +kernel
theorem dX9_cutOne_33 : decode cX9_cutOne 33 = .ok (.bipush 60, 2) := by decide +kernel
theorem dX9_cutOne_35 : decode cX9_cutOne 35 = .ok (.if_icmp .ne 19, 3) := by decide +kernel
theorem dX9_cutOne_38 : decode cX9_cutOne 38 = .ok (.aload_n 0, 1) := by decide +kernel
theorem dX9_cutOne_39 : decode cX9_cutOne 39 = .ok (.iload_n 1, 1) := by decide +kernel
theorem dX9_cutOne_40 : decode cX9_cutOne 40 = .ok (.iconst 1, 1) := by decide +kernel
theorem dX9_cutOne_41 : decode cX9_cutOne 41 = .ok (.iadd, 1) := by decide +kernel
theorem dX9_cutOne_42 : decode cX9_cutOne 42 = .ok (.invokevirtual 37, 3) := by decide +kernel
theorem dX9_cutOne_45 : decode cX9_cutOne 45 = .ok (.bipush 61, 2) := by decide +kernel
theorem dX9_cutOne_47 : decode cX9_cutOne 47 = .ok (.if_icmp .ne 7, 3) := by decide +kernel
theorem dX9_cutOne_50 : decode cX9_cutOne 50 = .ok (.iconst 1, 1) := by decide +kernel
theorem dX9_cutOne_51 : decode cX9_cutOne 51 = .ok (.goto 4, 3) := by decide +kernel
theorem dX9_cutOne_54 : decode cX9_cutOne 54 = .ok (.iconst 0, 1) := by decide +kernel
theorem dX9_cutOne_55 : decode cX9_cutOne 55 = .ok (.istore_n 2, 1) := by decide +kernel
theorem dX9_cutOne_56 : decode cX9_cutOne 56 = .ok (.aload_n 0, 1) := by decide +kernel
theorem dX9_cutOne_57 : decode cX9_cutOne 57 = .ok (.iload_n 2, 1) := by decide +kernel
theorem dX9_cutOne_58 : decode cX9_cutOne 58 = .ok (.ifCond .eq 8, 3) := by decide +kernel
theorem dX9_cutOne_61 : decode cX9_cutOne 61 = .ok (.bipush 18, 2) := by decide +kernel
theorem dX9_cutOne_63 : decode cX9_cutOne 63 = .ok (.goto 11, 3) := by decide +kernel
theorem dX9_cutOne_66 : decode cX9_cutOne 66 = .ok (.aload_n 0, 1) := by decide +kernel
theorem dX9_cutOne_67 : decode cX9_cutOne 67 = .ok (.iload_n 1, 1) := by decide +kernel
theorem dX9_cutOne_68 : decode cX9_cutOne 68 = .ok (.invokevirtual 37, 3) := by decide +kernel
theorem dX9_cutOne_71 : decode cX9_cutOne 71 = .ok (.invokestatic 61, 3) := by decide +kernel
theorem dX9_cutOne_74 : decode cX9_cutOne 74 = .ok (.iload_n 1, 1) := by decide +kernel
theorem dX9_cutOne_75 : decode cX9_cutOne 75 = .ok (.iconst 0, 1) := by decide +kernel
theorem dX9_cutOne_76 : decode cX9_cutOne 76 = .ok (.invokevirtual 44, 3) := by decide +kernel
theorem dX9_cutOne_79 : decode cX9_cutOne 79 = .ok (.iload_n 2, 1) := by decide +kernel
theorem dX9_cutOne_80 : decode cX9_cutOne 80 = .ok (.ifCond .eq 9, 3) := by decide +kernel
theorem dX9_cutOne_83 : decode cX9_cutOne 83 = .ok (.iload_n 1, 1) := by decide +kernel
theorem dX9_cutOne_84 : decode cX9_cutOne 84 = .ok (.iconst 2, 1) := by decide +kernel
theorem dX9_cutOne_85 : decode cX9_cutOne 85 = .ok (.iadd, 1) := by decide +kernel
theorem dX9_cutOne_86 : decode cX9_cutOne 86 = .ok (.goto 6, 3) := by decide +kernel
theorem dX9_cutOne_89 : decode cX9_cutOne 89 = .ok (.iload_n 1, 1) := by decide +kernel
theorem dX9_cutOne_90 : decode cX9_cutOne 90 = .ok (.iconst 1, 1) := by decide +kernel
theorem dX9_cutOne_91 : decode cX9_cutOne 91 = .ok (.iadd, 1) := by decide +kernel
theorem dX9_cutOne_92 : decode cX9_cutOne 92 = .ok (.ireturn, 1) := by decide +kernel
theorem dX9_sign_0 : decode cX9_sign 0 = .ok (.iload_n 0, 1) := by decide +kernel
theorem dX9_sign_1 : decode cX9_sign 1 = .ok (.lookupswitch 88 #[(40, 67), (41, 70), (43, 79), (60, 85), (61, 82), (91, 73), (93, 76)], 67) := by decide +kernel
theorem dX9_sign_68 : decode cX9_sign 68 = .ok (.bipush 11, 2) := by decide +kernel
theorem dX9_sign_70 : decode cX9_sign 70 = .ok (.ireturn, 1) := by decide +kernel
theorem dX9_sign_71 : decode cX9_sign 71 = .ok (.bipush 12, 2) := by decide +kernel
theorem dX9_sign_73 : decode cX9_sign 73 = .ok (.ireturn, 1) := by decide +kernel
theorem dX9_sign_74 : decode cX9_sign 74 = .ok (.bipush 13, 2) := by decide +kernel
theorem dX9_sign_76 : decode cX9_sign 76 = .ok (.ireturn, 1) := by decide +kernel
theorem dX9_sign_77 : decode cX9_sign 77 = .ok (.bipush 14, 2) := by decide +kernel
theorem dX9_sign_79 : decode cX9_sign 79 = .ok (.ireturn, 1) := by decide +kernel
theorem dX9_sign_80 : decode cX9_sign 80 = .ok (.bipush 15, 2) := by decide +kernel
theorem dX9_sign_82 : decode cX9_sign 82 = .ok (.ireturn, 1) := by decide +kernel
theorem dX9_sign_83 : decode cX9_sign 83 = .ok (.bipush 16, 2) := by decide +kernel
theorem dX9_sign_85 : decode cX9_sign 85 = .ok (.ireturn, 1) := by decide +kernel
theorem dX9_sign_86 : decode cX9_sign 86 = .ok (.bipush 17, 2) := by decide +kernel
theorem dX9_sign_88 : decode cX9_sign 88 = .ok (.ireturn, 1) := by decide +kernel
theorem dX9_sign_89 : decode cX9_sign 89 = .ok (.iconst 1, 1) := by decide +kernel
theorem dX9_sign_90 : decode cX9_sign 90 = .ok (.ireturn, 1) := by decide +kernel
theorem dX9_cutNumber_0 : decode cX9_cutNumber 0 = .ok (.iload_n 1, 1) := by decide +kernel
theorem dX9_cutNumber_1 : decode cX9_cutNumber 1 = .ok (.istore_n 2, 1) := by decide +kernel
theorem dX9_cutNumber_2 : decode cX9_cutNumber 2 = .ok (.iconst 0, 1) := by decide +kernel
theorem dX9_cutNumber_3 : decode cX9_cutNumber 3 = .ok (.istore_n 3, 1) := by decide +kernel
theorem dX9_cutNumber_4 : decode cX9_cutNumber 4 = .ok (.iload_n 2, 1) := by decide +kernel
theorem dX9_cutNumber_5 : decode cX9_cutNumber 5 = .ok (.aload_n 0, 1) := by decide +kernel
theorem dX9_cutNumber_6 : decode cX9_cutNumber 6 = .ok (.getfield 24, 3) := by decide +kernel
theorem dX9_cutNumber_9 : decode cX9_cutNumber 9 = .ok (.if_icmp .ge 34, 3) := by decide +kernel
theorem dX9_cutNumber_12 : decode cX9_cutNumber 12 = .ok (.aload_n 0, 1) := by decide +kernel
theorem dX9_cutNumber_13 : decode cX9_cutNumber 13 = .ok (.iload_n 2, 1) := by decide +kernel
theorem dX9_cutNumber_14 : decode cX9_cutNumber 14 = .ok (.invokevirtual 55, 3) := by decide +kernel
theorem dX9_cutNumber_17 : decode cX9_cutNumber 17 = .ok (.ifCond .eq 26, 3) := by decide +kernel
theorem dX9_cutNumber_20 : decode cX9_cutNumber 20 = .ok (.iload_n 3, 1) := by decide +kernel
theorem dX9_cutNumber_21 : decode cX9_cutNumber 21 = .ok (.bipush 10, 2) := by decide +kernel
theorem dX9_cutNumber_23 : decode cX9_cutNumber 23 = .ok (.imul, 1) := by decide +kernel
theorem dX9_cutNumber_24 : decode cX9_cutNumber 24 = .ok (.aload_n 0, 1) := by decide +kernel
theorem dX9_cutNumber_25 : decode cX9_cutNumber 25 = .ok (.iload_n 2, 1) := by decide +kernel
theorem dX9_cutNumber_26 : decode cX9_cutNumber 26 = .ok (.invokevirtual 37, 3) := by decide +kernel
theorem dX9_cutNumber_29 : decode cX9_cutNumber 29 = .ok (.iadd, 1) := by decide +kernel
theorem dX9_cutNumber_30 : decode cX9_cutNumber 30 = .ok (.bipush 48, 2) := by decide +kernel
theorem dX9_cutNumber_32 : decode cX9_cutNumber 32 = .ok (.isub, 1) := by decide +kernel
theorem dX9_cutNumber_33 : decode cX9_cutNumber 33 = .ok (.bipush 100, 2) := by decide +kernel
theorem dX9_cutNumber_35 : decode cX9_cutNumber 35 = .ok (.irem, 1) := by decide +kernel
theorem dX9_cutNumber_36 : decode cX9_cutNumber 36 = .ok (.istore_n 3, 1) := by decide +kernel
theorem dX9_cutNumber_37 : decode cX9_cutNumber 37 = .ok (.iinc 2 1, 3) := by decide +kernel
theorem dX9_cutNumber_40 : decode cX9_cutNumber 40 = .ok (.goto (-36), 3) := by decide +kernel
theorem dX9_cutNumber_43 : decode cX9_cutNumber 43 = .ok (.aload_n 0, 1) := by decide +kernel
theorem dX9_cutNumber_44 : decode cX9_cutNumber 44 = .ok (.iload_n 2, 1) := by decide +kernel
theorem dX9_cutNumber_45 : decode cX9_cutNumber 45 = .ok (.iload_n 1, 1) := by decide +kernel
theorem dX9_cutNumber_46 : decode cX9_cutNumber 46 = .ok (.isub, 1) := by decide +kernel
theorem dX9_cutNumber_47 : decode cX9_cutNumber 47 = .ok (.iconst 2, 1) := by decide +kernel
theorem dX9_cutNumber_48 : decode cX9_cutNumber 48 = .ok (.if_icmp .le 7, 3) := by decide +kernel
theorem dX9_cutNumber_51 : decode cX9_cutNumber 51 = .ok (.iconst 1, 1) := by decide +kernel
theorem dX9_cutNumber_52 : decode cX9_cutNumber 52 = .ok (.goto 4, 3) := by decide +kernel
theorem dX9_cutNumber_55 : decode cX9_cutNumber 55 = .ok (.iconst 2, 1) := by decide +kernel
theorem dX9_cutNumber_56 : decode cX9_cutNumber 56 = .ok (.iload_n 1, 1) := by decide +kernel
theorem dX9_cutNumber_57 : decode cX9_cutNumber 57 = .ok (.iload_n 3, 1) := by decide +kernel
theorem dX9_cutNumber_58 : decode cX9_cutNumber 58 = .ok (.invokevirtual 44, 3) := by decide +kernel
theorem dX9_cutNumber_61 : decode cX9_cutNumber 61 = .ok (.iload_n 2, 1) := by decide +kernel
theorem dX9_cutNumber_62 : decode cX9_cutNumber 62 = .ok (.ireturn, 1) := by decide +kernel
theorem dX9_cutLetters_0 : decode cX9_cutLetters 0 = .ok (.iload_n 1, 1) := by decide +kernel
theorem dX9_cutLetters_1 : decode cX9_cutLetters 1 = .ok (.istore_n 2, 1) := by decide +kernel
theorem dX9_cutLetters_2 : decode cX9_cutLetters 2 = .ok (.iload_n 2, 1) := by decide +kernel
theorem dX9_cutLetters_3 : decode cX9_cutLetters 3 = .ok (.aload_n 0, 1) := by decide +kernel
theorem dX9_cutLetters_4 : decode cX9_cutLetters 4 = .ok (.getfield 24, 3) := by decide +kernel
theorem dX9_cutLetters_7 : decode cX9_cutLetters 7 = .ok (.if_icmp .ge 17, 3) := by decide +kernel
theorem dX9_cutLetters_10 : decode cX9_cutLetters 10 = .ok (.aload_n 0, 1) := by decide +kernel
theorem dX9_cutLetters_11 : decode cX9_cutLetters 11 = .ok (.iload_n 2, 1) := by decide +kernel
theorem dX9_cutLetters_12 : decode cX9_cutLetters 12 = .ok (.invokevirtual 48, 3) := by decide +kernel
theorem dX9_cutLetters_15 : decode cX9_cutLetters 15 = .ok (.ifCond .eq 9, 3) := by decide +kernel
theorem dX9_cutLetters_18 : decode cX9_cutLetters 18 = .ok (.iinc 2 1, 3) := by decide +kernel
theorem dX9_cutLetters_21 : decode cX9_cutLetters 21 = .ok (.goto (-19), 3) := by decide +kernel
theorem dX9_cutLetters_24 : decode cX9_cutLetters 24 = .ok (.iload_n 2, 1) := by decide +kernel
theorem dX9_cutLetters_25 : decode cX9_cutLetters 25 = .ok (.iload_n 1, 1) := by decide +kernel
theorem dX9_cutLetters_26 : decode cX9_cutLetters 26 = .ok (.iconst 1, 1) := by decide +kernel
theorem dX9_cutLetters_27 : decode cX9_cutLetters 27 = .ok (.iadd, 1) := by decide +kernel
theorem dX9_cutLetters_28 : decode cX9_cutLetters 28 = .ok (.if_icmp .ne 39, 3) := by decide +kernel
theorem dX9_cutLetters_31 : decode cX9_cutLetters 31 = .ok (.aload_n 0, 1) := by decide +kernel
theorem dX9_cutLetters_32 : decode cX9_cutLetters 32 = .ok (.iload_n 1, 1) := by decide +kernel
theorem dX9_cutLetters_33 : decode cX9_cutLetters 33 = .ok (.invokevirtual 37, 3) := by decide +kernel
theorem dX9_cutLetters_36 : decode cX9_cutLetters 36 = .ok (.bipush 114, 2) := by decide +kernel
theorem dX9_cutLetters_38 : decode cX9_cutLetters 38 = .ok (.if_icmp .ne 29, 3) := by decide +kernel
theorem dX9_cutLetters_41 : decode cX9_cutLetters 41 = .ok (.aload_n 0, 1) := by decide +kernel
theorem dX9_cutLetters_42 : decode cX9_cutLetters 42 = .ok (.iload_n 2, 1) := by decide +kernel
theorem dX9_cutLetters_43 : decode cX9_cutLetters 43 = .ok (.invokevirtual 55, 3) := by decide +kernel
theorem dX9_cutLetters_46 : decode cX9_cutLetters 46 = .ok (.ifCond .eq 21, 3) := by decide +kernel
theorem dX9_cutLetters_49 : decode cX9_cutLetters 49 = .ok (.aload_n 0, 1) := by decide +kernel
theorem dX9_cutLetters_50 : decode cX9_cutLetters 50 = .ok (.iconst 4, 1) := by decide +kernel
theorem dX9_cutLetters_51 : decode cX9_cutLetters 51 = .ok (.iload_n 1, 1) := by decide +kernel
theorem dX9_cutLetters_52 : decode cX9_cutLetters 52 = .ok (.aload_n 0, 1) := by decide +kernel
theorem dX9_cutLetters_53 : decode cX9_cutLetters 53 = .ok (.iload_n 2, 1) := by decide +kernel
theorem dX9_cutLetters_54 : decode cX9_cutLetters 54 = .ok (.invokevirtual 37, 3) := by decide +kernel
theorem dX9_cutLetters_57 : decode cX9_cutLetters 57 = .ok (.bipush 48, 2) := by decide +kernel
theorem dX9_cutLetters_59 : decode cX9_cutLetters 59 = .ok (.isub, 1) := by decide +kernel
theorem dX9_cutLetters_60 : decode cX9_cutLetters 60 = .ok (.invokevirtual 44, 3) := by decide +kernel
theorem dX9_cutLetters_63 : decode cX9_cutLetters 63 = .ok (.iload_n 2, 1) := by decide +kernel
theorem dX9_cutLetters_64 : decode cX9_cutLetters 64 = .ok (.iconst 1, 1) := by decide +kernel
theorem dX9_cutLetters_65 : decode cX9_cutLetters 65 = .ok (.iadd, 1) := by decide +kernel
theorem dX9_cutLetters_66 : decode cX9_cutLetters 66 = .ok (.ireturn, 1) := by decide +kernel
theorem dX9_cutLetters_67 : decode cX9_cutLetters 67 = .ok (.iload_n 2, 1) := by decide +kernel
theorem dX9_cutLetters_68 : decode cX9_cutLetters 68 = .ok (.iload_n 1, 1) := by decide +kernel
theorem dX9_cutLetters_69 : decode cX9_cutLetters 69 = .ok (.iconst 1, 1) := by decide +kernel
theorem dX9_cutLetters_70 : decode cX9_cutLetters 70 = .ok (.iadd, 1) := by decide +kernel
theorem dX9_cutLetters_71 : decode cX9_cutLetters 71 = .ok (.if_icmp .ne 29, 3) := by decide +kernel
theorem dX9_cutLetters_74 : decode cX9_cutLetters 74 = .ok (.aload_n 0, 1) := by decide +kernel
theorem dX9_cutLetters_75 : decode cX9_cutLetters 75 = .ok (.iload_n 1, 1) := by decide +kernel
theorem dX9_cutLetters_76 : decode cX9_cutLetters 76 = .ok (.invokevirtual 37, 3) := by decide +kernel
theorem dX9_cutLetters_79 : decode cX9_cutLetters 79 = .ok (.bipush 104, 2) := by decide +kernel
theorem dX9_cutLetters_81 : decode cX9_cutLetters 81 = .ok (.if_icmp .gt 19, 3) := by decide +kernel
theorem dX9_cutLetters_84 : decode cX9_cutLetters 84 = .ok (.aload_n 0, 1) := by decide +kernel
theorem dX9_cutLetters_85 : decode cX9_cutLetters 85 = .ok (.iconst 3, 1) := by decide +kernel
theorem dX9_cutLetters_86 : decode cX9_cutLetters 86 = .ok (.iload_n 1, 1) := by decide +kernel
theorem dX9_cutLetters_87 : decode cX9_cutLetters 87 = .ok (.aload_n 0, 1) := by decide +kernel
theorem dX9_cutLetters_88 : decode cX9_cutLetters 88 = .ok (.iload_n 1, 1) := by decide +kernel
theorem dX9_cutLetters_89 : decode cX9_cutLetters 89 = .ok (.invokevirtual 37, 3) := by decide +kernel
theorem dX9_cutLetters_92 : decode cX9_cutLetters 92 = .ok (.bipush 97, 2) := by decide +kernel
theorem dX9_cutLetters_94 : decode cX9_cutLetters 94 = .ok (.isub, 1) := by decide +kernel
theorem dX9_cutLetters_95 : decode cX9_cutLetters 95 = .ok (.invokevirtual 44, 3) := by decide +kernel
theorem dX9_cutLetters_98 : decode cX9_cutLetters 98 = .ok (.iload_n 2, 1) := by decide +kernel
theorem dX9_cutLetters_99 : decode cX9_cutLetters 99 = .ok (.ireturn, 1) := by decide +kernel
theorem dX9_cutLetters_100 : decode cX9_cutLetters 100 = .ok (.aload_n 0, 1) := by decide +kernel
theorem dX9_cutLetters_101 : decode cX9_cutLetters 101 = .ok (.aload_n 0, 1) := by decide +kernel
theorem dX9_cutLetters_102 : decode cX9_cutLetters 102 = .ok (.iload_n 1, 1) := by decide +kernel
theorem dX9_cutLetters_103 : decode cX9_cutLetters 103 = .ok (.iload_n 2, 1) := by decide +kernel
theorem dX9_cutLetters_104 : decode cX9_cutLetters 104 = .ok (.invokevirtual 64, 3) := by decide +kernel
theorem dX9_cutLetters_107 : decode cX9_cutLetters 107 = .ok (.iload_n 1, 1) := by decide +kernel
theorem dX9_cutLetters_108 : decode cX9_cutLetters 108 = .ok (.iconst 0, 1) := by decide +kernel
theorem dX9_cutLetters_109 : decode cX9_cutLetters 109 = .ok (.invokevirtual 44, 3) := by decide +kernel
theorem dX9_cutLetters_112 : decode cX9_cutLetters 112 = .ok (.iload_n 2, 1) := by decide +kernel
theorem dX9_cutLetters_113 : decode cX9_cutLetters 113 = .ok (.ireturn, 1) := by decide +kernel
theorem eX9_init {G : GG} {d rc rs : Nat} (o : Nat)  {M : Mem} {Q : Option Value → Mem → Prop} (h : 1 ≤ rc ∧ 121 ≤ rs ∧ (∀ n1, n1 = g_b G + x_n M → ∀ M2, M2 = x_new M n1 1 121 → (x_h M2 o).1 = 25 ∧ (∀ M7, M7 = x_sr M2 o 0 (some n1) → 1 ≤ (rc - 1) ∧ 121 ≤ (rs - 121) ∧ (∀ n8, n8 = g_b G + x_n M7 → ∀ M9, M9 = x_new M7 n8 1 121 → (x_h M9 o).1 = 25 ∧ (∀ M14, M14 = x_sr M9 o 1 (some n8) → 1 ≤ ((rc - 1) - 1) ∧ 121 ≤ ((rs - 121) - 121) ∧ (∀ n15, n15 = g_b G + x_n M14 → ∀ M16, M16 = x_new M14 n15 1 121 → (x_h M16 o).1 = 25 ∧ (∀ M21, M21 = x_sr M16 o 2 (some n15) → 1 ≤ (((rc - 1) - 1) - 1) ∧ 0 ≤ (((rs - 121) - 121) - 121) ∧ (∀ n22, n22 = g_b G + x_n M21 → ∀ M23, M23 = x_new M21 n22 1 0 → (x_h M23 o).1 = 25 ∧ (∀ M28, M28 = x_sr M23 o 3 (some n22) → ∀ M29, M29 = x_si M28 o 4 0 → ∀ M30, M30 = x_si M29 o 5 0 → Q none M30))))))))) : Call G (d + 1) rc rs mX9_init [.ref o] M Q := by
  refine call_of (by decide) (Nat.le_of_ble_eq_true rfl) ?_
  show Wk G (d + 1) rc rs mX9_init 0 [some (.ref o)] [] M Q
  refine r_aload_n (pc := 0) (i := 0) dX9_init_0 rfl rfl ?_
  refine r_objInit (pc := 1) (st := []) ww_47 ww_28 ww_29 dX9_init_1 (Nat.le_of_ble_eq_true rfl) ?_
  refine r_aload_n (pc := 4) (i := 0) dX9_init_4 rfl rfl ?_
  refine r_bipush (pc := 5) (v := 121) dX9_init_5 (by decide) ?_
  obtain ⟨y4, y5, h⟩ := h
  refine r_newIV (pc := 7) (n := 121) dX9_init_7 (by decide) (by decide) (by decide) y4 y5 (fun n1 M2 enn1 eMn1 e3 => ?_)
  replace h := h n1 enn1 M2 eMn1
  obtain ⟨k6, h⟩ := h
  refine r_putr (pc := 9) (r := some _) flX9_9 dX9_init_9 rfl (fun q hq => by cases hq; exact Or.inr ⟨rfl, rfl, rfl⟩) (fun q hq _ => by cases hq; exact ww_48) k6 ?_
  replace h := h _ rfl
  refine r_aload_n (pc := 12) (i := 0) dX9_init_12 rfl rfl ?_
  refine r_bipush (pc := 13) (v := 121) dX9_init_13 (by decide) ?_
  obtain ⟨y11, y12, h⟩ := h
  refine r_newIV (pc := 15) (n := 121) dX9_init_15 (by decide) (by decide) (by decide) y11 y12 (fun n8 M9 enn8 eMn8 e10 => ?_)
  replace h := h n8 enn8 M9 eMn8
  obtain ⟨k13, h⟩ := h
  refine r_putr (pc := 17) (r := some _) flX9_15 dX9_init_17 rfl (fun q hq => by cases hq; exact Or.inr ⟨rfl, rfl, rfl⟩) (fun q hq _ => by cases hq; exact ww_50) k13 ?_
  replace h := h _ rfl
  refine r_aload_n (pc := 20) (i := 0) dX9_init_20 rfl rfl ?_
  refine r_bipush (pc := 21) (v := 121) dX9_init_21 (by decide) ?_
  obtain ⟨y18, y19, h⟩ := h
  refine r_newIV (pc := 23) (n := 121) dX9_init_23 (by decide) (by decide) (by decide) y18 y19 (fun n15 M16 enn15 eMn15 e17 => ?_)
  replace h := h n15 enn15 M16 eMn15
  obtain ⟨k20, h⟩ := h
  refine r_putr (pc := 25) (r := some _) flX9_18 dX9_init_25 rfl (fun q hq => by cases hq; exact Or.inr ⟨rfl, rfl, rfl⟩) (fun q hq _ => by cases hq; exact ww_52) k20 ?_
  replace h := h _ rfl
  refine r_aload_n (pc := 28) (i := 0) dX9_init_28 rfl rfl ?_
  refine r_iconst (pc := 29) (v := 0) dX9_init_29 (by decide) ?_
  obtain ⟨y25, y26, h⟩ := h
  refine r_newIV (pc := 30) (n := 0) dX9_init_30 (by decide) (by decide) (by decide) y25 y26 (fun n22 M23 enn22 eMn22 e24 => ?_)
  replace h := h n22 enn22 M23 eMn22
  obtain ⟨k27, h⟩ := h
  refine r_putr (pc := 32) (r := some _) flX9_21 dX9_init_32 rfl (fun q hq => by cases hq; exact Or.inl rfl) (fun q hq h => by cases hq; cases h) k27 ?_
  replace h := h _ rfl
  refine r_aload_n (pc := 35) (i := 0) dX9_init_35 rfl rfl ?_
  refine r_iconst (pc := 36) (v := 0) dX9_init_36 (by decide) ?_
  refine r_puti (pc := 37) flX9_24 dX9_init_37 (Or.inl rfl) (fun q hq => by cases hq; rfl) k27 ?_
  replace h := h _ rfl
  refine r_aload_n (pc := 40) (i := 0) dX9_init_40 rfl rfl ?_
  refine r_iconst (pc := 41) (v := 0) dX9_init_41 (by decide) ?_
  refine r_puti (pc := 42) flX9_28 dX9_init_42 (Or.inl rfl) (fun q hq => by cases hq; rfl) k27 ?_
  replace h := h _ rfl
  exact r_vret (pc := 45) dX9_init_45 rfl h
abbrev LX9_cut_30 (G : GG) (d rc rs : Nat) (p0 : Nat) (p1 : Nat) (x2 : Int32) (x3 : Int32) (x4 : Int32) (M : Mem) (Q : Option Value → Mem → Prop) : Prop := Wk G (d + 1) rc rs mX9_cut 30 [some (.ref p0), some (.ref p1), some (.int x2), some (.int x3), some (.int x4)] [] M Q
theorem eX9_cut {G : GG} {d rc rs : Nat} (o : Nat) (a1 : Nat) (a2 : Int32)  {M : Mem} {Q : Option Value → Mem → Prop} (h : (x_h M o).1 = 25 ∧ (∀ M2, M2 = x_sr M o 3 (some a1) → (1 ≤ (x_h M a1).1 ∧ (x_h M a1).1 < 8) ∧ Call G d 0 0 mJ9_min_7cf53 [.int (nI (x_h M a1).2), .int 120] M2 (fun r4 M5 => ∃ v6 : Int32, r4 = some (.int v6) ∧ Call G d 0 0 mJ9_min_7cf53 [.int a2, .int v6] M5 (fun r7 M8 => ∃ v9 : Int32, r7 = some (.int v9) ∧ (x_h M8 o).1 = 25 ∧ (∀ M11, M11 = x_si M8 o 4 v9 → ∀ M12, M12 = x_si M11 o 5 0 → LX9_cut_30 G d rc rs o a1 a2 0 0 M12 Q))))) : Call G (d + 1) rc rs mX9_cut [.ref o, .ref a1, .int a2] M Q := by
  refine call_of (by decide) (Nat.le_of_ble_eq_true rfl) ?_
  show Wk G (d + 1) rc rs mX9_cut 0 [some (.ref o), some (.ref a1), some (.int a2), none, none] [] M Q
  refine r_aload_n (pc := 0) (i := 0) dX9_cut_0 rfl rfl ?_
  refine r_aload_n (pc := 1) (i := 1) dX9_cut_1 rfl rfl ?_
  obtain ⟨k1, h⟩ := h
  refine r_putr (pc := 2) (r := some _) flX9_21 dX9_cut_2 rfl (fun q hq => by cases hq; exact Or.inl rfl) (fun q hq h => by cases hq; cases h) k1 ?_
  replace h := h _ rfl
  refine r_aload_n (pc := 5) (i := 0) dX9_cut_5 rfl rfl ?_
  refine r_iload_n (pc := 6) (i := 2) dX9_cut_6 rfl rfl ?_
  refine r_aload_n (pc := 7) (i := 1) dX9_cut_7 rfl rfl ?_
  obtain ⟨k3, h⟩ := h
  refine r_alen (pc := 8) dX9_cut_8 rfl k3 ?_
  refine r_bipush (pc := 9) (v := 120) dX9_cut_9 (by decide) ?_
  refine r_callS (pc := 11) (as := [_, _]) (st := [_, _]) okJ9_min_7cf53 lkX9_31 stJ9_min_7cf53 dX9_cut_11 rfl (Nat.le_of_ble_eq_true rfl) (Nat.zero_le _) (Nat.zero_le _) (Call.mono h (fun r4 M5 h => ?_))
  obtain ⟨v6, rfl, h⟩ := h
  refine r_callS (pc := 14) (as := [_, _]) (st := [_]) okJ9_min_7cf53 lkX9_31 stJ9_min_7cf53 dX9_cut_14 rfl (Nat.le_of_ble_eq_true rfl) (Nat.zero_le _) (Nat.zero_le _) (Call.mono h (fun r7 M8 h => ?_))
  obtain ⟨v9, rfl, h⟩ := h
  obtain ⟨k10, h⟩ := h
  refine r_puti (pc := 17) flX9_24 dX9_cut_17 (Or.inl rfl) (fun q hq => by cases hq; rfl) k10 ?_
  replace h := h _ rfl
  refine r_aload_n (pc := 20) (i := 0) dX9_cut_20 rfl rfl ?_
  refine r_iconst (pc := 21) (v := 0) dX9_cut_21 (by decide) ?_
  refine r_puti (pc := 22) flX9_28 dX9_cut_22 (Or.inl rfl) (fun q hq => by cases hq; rfl) k10 ?_
  replace h := h _ rfl
  refine r_iconst (pc := 25) (v := 0) dX9_cut_25 (by decide) ?_
  refine r_istore_n (pc := 26) (i := 3) dX9_cut_26 rfl rfl (Nat.le_of_ble_eq_true rfl) ?_
  refine r_iconst (pc := 27) (v := 0) dX9_cut_27 (by decide) ?_
  refine r_istore (pc := 28) (i := 4) dX9_cut_28 rfl (Nat.le_of_ble_eq_true rfl) ?_
  exact h
theorem vX9_cut_30 {G : GG} {d rc rs : Nat} (p0 : Nat) (p1 : Nat) (x2 : Int32) (x3 : Int32) (x4 : Int32)  {M : Mem} {Q : Option Value → Mem → Prop} (h : (120 ≤ x4 → (x_h M p0).1 = 25 ∧ Call G d 0 0 mX9_add [.ref p0, .int 0, .int (x_i M p0 4), .int 0] M (fun r3 M4 => r3 = none ∧ Q none M4)) ∧ (¬ 120 ≤ x4 → (x_h M p0).1 = 25 ∧ ((x_i M p0 4) ≤ x3 → Call G d 0 0 mX9_add [.ref p0, .int 0, .int (x_i M p0 4), .int 0] M (fun r7 M8 => r7 = none ∧ Q none M8)) ∧ (¬ (x_i M p0 4) ≤ x3 → Call G d 0 0 mX9_byteAt [.ref p0, .int x3] M (fun r9 M10 => ∃ v11 : Int32, r9 = some (.int v11) ∧ (¬ v11 = 32 → (x_h M10 p0).1 = 25 ∧ Call G d 0 0 mX9_cutOne [.ref p0, .int x3] M10 (fun r14 M15 => ∃ v16 : Int32, r14 = some (.int v16) ∧ LX9_cut_30 G d rc rs p0 p1 x2 v16 (x4 + 1) M15 Q)) ∧ (v11 = 32 → LX9_cut_30 G d rc rs p0 p1 x2 (x3 + 1) (x4 + 1) M10 Q))))) : LX9_cut_30 G d rc rs p0 p1 x2 x3 x4 M Q := by
  show Wk G (d + 1) rc rs mX9_cut 30 _ _ M Q
  refine r_iload (pc := 30) (i := 4) dX9_cut_30 rfl ?_
  refine r_bipush (pc := 32) (v := 120) dX9_cut_32 (by decide) ?_
  refine r_icmp_ge (pc := 34) (tgt := 73) dX9_cut_34 (by decide) (fun c1 => ?_) (fun c1 => ?_)
  · replace h := h.1 c1
    refine r_aload_n (pc := 73) (i := 0) dX9_cut_73 rfl rfl ?_
    refine r_iconst (pc := 74) (v := 0) dX9_cut_74 (by decide) ?_
    refine r_aload_n (pc := 75) (i := 0) dX9_cut_75 rfl rfl ?_
    obtain ⟨k2, h⟩ := h
    refine r_geti (pc := 76) flX9_24 dX9_cut_76 (Or.inl rfl) k2 ?_
    refine r_iconst (pc := 79) (v := 0) dX9_cut_79 (by decide) ?_
    refine r_callV (pc := 80) (ci := 9) (as := [_, _, _]) (st := []) okX9_add lkX9_44 inX9_add seX9_add ⟨_, rfl, rfl⟩ dX9_cut_80 rfl k2 (Nat.le_of_ble_eq_true rfl) (Nat.zero_le _) (Nat.zero_le _) (Call.mono h (fun r3 M4 h => ?_))
    obtain ⟨rfl, h⟩ := h
    exact r_vret (pc := 83) dX9_cut_83 rfl h
  · replace h := h.2 c1
    refine r_iload_n (pc := 37) (i := 3) dX9_cut_37 rfl rfl ?_
    refine r_aload_n (pc := 38) (i := 0) dX9_cut_38 rfl rfl ?_
    obtain ⟨k5, h⟩ := h
    refine r_geti (pc := 39) flX9_24 dX9_cut_39 (Or.inl rfl) k5 ?_
    refine r_icmp_ge (pc := 42) (tgt := 73) dX9_cut_42 (by decide) (fun c6 => ?_) (fun c6 => ?_)
    · replace h := h.1 c6
      refine r_aload_n (pc := 73) (i := 0) dX9_cut_73 rfl rfl ?_
      refine r_iconst (pc := 74) (v := 0) dX9_cut_74 (by decide) ?_
      refine r_aload_n (pc := 75) (i := 0) dX9_cut_75 rfl rfl ?_
      refine r_geti (pc := 76) flX9_24 dX9_cut_76 (Or.inl rfl) k5 ?_
      refine r_iconst (pc := 79) (v := 0) dX9_cut_79 (by decide) ?_
      refine r_callV (pc := 80) (ci := 9) (as := [_, _, _]) (st := []) okX9_add lkX9_44 inX9_add seX9_add ⟨_, rfl, rfl⟩ dX9_cut_80 rfl k5 (Nat.le_of_ble_eq_true rfl) (Nat.zero_le _) (Nat.zero_le _) (Call.mono h (fun r7 M8 h => ?_))
      obtain ⟨rfl, h⟩ := h
      exact r_vret (pc := 83) dX9_cut_83 rfl h
    · replace h := h.2 c6
      refine r_aload_n (pc := 45) (i := 0) dX9_cut_45 rfl rfl ?_
      refine r_iload_n (pc := 46) (i := 3) dX9_cut_46 rfl rfl ?_
      refine r_callV (pc := 47) (ci := 9) (as := [_]) (st := []) okX9_byteAt lkX9_37 inX9_byteAt seX9_byteAt ⟨_, rfl, rfl⟩ dX9_cut_47 rfl k5 (Nat.le_of_ble_eq_true rfl) (Nat.zero_le _) (Nat.zero_le _) (Call.mono h (fun r9 M10 h => ?_))
      obtain ⟨v11, rfl, h⟩ := h
      refine r_bipush (pc := 50) (v := 32) dX9_cut_50 (by decide) ?_
      refine r_icmp_ne (pc := 52) (tgt := 61) dX9_cut_52 (by decide) (fun c12 => ?_) (fun c12 => ?_)
      · replace h := h.1 c12
        refine r_aload_n (pc := 61) (i := 0) dX9_cut_61 rfl rfl ?_
        refine r_iload_n (pc := 62) (i := 3) dX9_cut_62 rfl rfl ?_
        obtain ⟨k13, h⟩ := h
        refine r_callV (pc := 63) (ci := 9) (as := [_]) (st := []) okX9_cutOne lkX9_41 inX9_cutOne seX9_cutOne ⟨_, rfl, rfl⟩ dX9_cut_63 rfl k13 (Nat.le_of_ble_eq_true rfl) (Nat.zero_le _) (Nat.zero_le _) (Call.mono h (fun r14 M15 h => ?_))
        obtain ⟨v16, rfl, h⟩ := h
        refine r_istore_n (pc := 66) (i := 3) dX9_cut_66 rfl rfl (Nat.le_of_ble_eq_true rfl) ?_
        refine r_iinc (pc := 67) (i := 4) (v := _ + 1) dX9_cut_67 rfl rfl rfl ?_
        refine r_goto (pc := 70) (tgt := 30) dX9_cut_70 (by decide) ?_
        exact h
      · replace h := h.2 c12
        refine r_iload_n (pc := 55) (i := 3) dX9_cut_55 rfl rfl ?_
        refine r_iconst (pc := 56) (v := 1) dX9_cut_56 (by decide) ?_
        refine r_iadd (pc := 57) dX9_cut_57 ?_
        refine r_goto (pc := 58) (tgt := 66) dX9_cut_58 (by decide) ?_
        refine r_istore_n (pc := 66) (i := 3) dX9_cut_66 rfl rfl (Nat.le_of_ble_eq_true rfl) ?_
        refine r_iinc (pc := 67) (i := 4) (v := _ + 1) dX9_cut_67 rfl rfl rfl ?_
        refine r_goto (pc := 70) (tgt := 30) dX9_cut_70 (by decide) ?_
        exact h
theorem eX9_add {G : GG} {d rc rs : Nat} (o : Nat) (a1 : Int32) (a2 : Int32) (a3 : Int32)  {M : Mem} {Q : Option Value → Mem → Prop} (h : (x_h M o).1 = 25 ∧ (∃ b2, x_r M o 0 = some b2 ∧ (1 ≤ (x_h M b2).1 ∧ (x_h M b2).1 < 8) ∧ ((nI (x_h M b2).2) ≤ (x_i M o 5) → Q none M) ∧ (¬ (nI (x_h M b2).2) ≤ (x_i M o 5) → (x_h M b2).1 = 1 ∧ vp_in (x_i M o 5) (x_h M b2).2 ∧ (∀ M7, M7 = x_si M b2 (x_i M o 5).toNatClampNeg a1 → ∃ b8, x_r M7 o 1 = some b8 ∧ (x_h M b8).1 = 1 ∧ vp_in (x_i M7 o 5) (x_h M b8).2 ∧ (∀ M11, M11 = x_si M7 b8 (x_i M7 o 5).toNatClampNeg a2 → ∃ b12, x_r M11 o 2 = some b12 ∧ (x_h M b12).1 = 1 ∧ vp_in (x_i M11 o 5) (x_h M b12).2 ∧ (∀ M15, M15 = x_si M11 b12 (x_i M11 o 5).toNatClampNeg a3 → ∀ M16, M16 = x_si M15 o 5 ((x_i M15 o 5) + 1) → Q none M16)))))) : Call G (d + 1) rc rs mX9_add [.ref o, .int a1, .int a2, .int a3] M Q := by
  refine call_of (by decide) (Nat.le_of_ble_eq_true rfl) ?_
  show Wk G (d + 1) rc rs mX9_add 0 [some (.ref o), some (.int a1), some (.int a2), some (.int a3)] [] M Q
  refine r_aload_n (pc := 0) (i := 0) dX9_add_0 rfl rfl ?_
  obtain ⟨k1, h⟩ := h
  refine r_geti (pc := 1) flX9_28 dX9_add_1 (Or.inl rfl) k1 ?_
  refine r_aload_n (pc := 4) (i := 0) dX9_add_4 rfl rfl ?_
  obtain ⟨b2, hb2, h⟩ := h
  refine r_getr (pc := 5) flX9_9 dX9_add_5 rfl k1 hb2 ?_
  obtain ⟨k3, h⟩ := h
  refine r_alen (pc := 8) dX9_add_8 rfl k3 ?_
  refine r_icmp_ge (pc := 9) (tgt := 52) dX9_add_9 (by decide) (fun c4 => ?_) (fun c4 => ?_)
  · replace h := h.1 c4
    exact r_vret (pc := 52) dX9_add_52 rfl h
  · replace h := h.2 c4
    refine r_aload_n (pc := 12) (i := 0) dX9_add_12 rfl rfl ?_
    refine r_getr (pc := 13) flX9_9 dX9_add_13 rfl k1 hb2 ?_
    refine r_aload_n (pc := 16) (i := 0) dX9_add_16 rfl rfl ?_
    refine r_geti (pc := 17) flX9_28 dX9_add_17 (Or.inl rfl) k1 ?_
    refine r_iload_n (pc := 20) (i := 1) dX9_add_20 rfl rfl ?_
    obtain ⟨k5, h⟩ := h
    obtain ⟨i6, h⟩ := h
    refine r_iast (pc := 21) dX9_add_21 k5 i6 ?_
    replace h := h _ rfl
    refine r_aload_n (pc := 22) (i := 0) dX9_add_22 rfl rfl ?_
    obtain ⟨b8, hb8, h⟩ := h
    refine r_getr (pc := 23) flX9_15 dX9_add_23 rfl k1 hb8 ?_
    refine r_aload_n (pc := 26) (i := 0) dX9_add_26 rfl rfl ?_
    refine r_geti (pc := 27) flX9_28 dX9_add_27 (Or.inl rfl) k1 ?_
    refine r_iload_n (pc := 30) (i := 2) dX9_add_30 rfl rfl ?_
    obtain ⟨k9, h⟩ := h
    obtain ⟨i10, h⟩ := h
    refine r_iast (pc := 31) dX9_add_31 k9 i10 ?_
    replace h := h _ rfl
    refine r_aload_n (pc := 32) (i := 0) dX9_add_32 rfl rfl ?_
    obtain ⟨b12, hb12, h⟩ := h
    refine r_getr (pc := 33) flX9_18 dX9_add_33 rfl k1 hb12 ?_
    refine r_aload_n (pc := 36) (i := 0) dX9_add_36 rfl rfl ?_
    refine r_geti (pc := 37) flX9_28 dX9_add_37 (Or.inl rfl) k1 ?_
    refine r_iload_n (pc := 40) (i := 3) dX9_add_40 rfl rfl ?_
    obtain ⟨k13, h⟩ := h
    obtain ⟨i14, h⟩ := h
    refine r_iast (pc := 41) dX9_add_41 k13 i14 ?_
    replace h := h _ rfl
    refine r_aload_n (pc := 42) (i := 0) dX9_add_42 rfl rfl ?_
    refine r_dup (pc := 43) dX9_add_43 rfl ?_
    refine r_geti (pc := 44) flX9_28 dX9_add_44 (Or.inl rfl) k1 ?_
    refine r_iconst (pc := 47) (v := 1) dX9_add_47 (by decide) ?_
    refine r_iadd (pc := 48) dX9_add_48 ?_
    refine r_puti (pc := 49) flX9_28 dX9_add_49 (Or.inl rfl) (fun q hq => by cases hq; rfl) k1 ?_
    replace h := h _ rfl
    exact r_vret (pc := 52) dX9_add_52 rfl h
theorem eX9_byteAt {G : GG} {d rc rs : Nat} (o : Nat) (a1 : Int32)  {M : Mem} {Q : Option Value → Mem → Prop} (h : (a1 < 0 → Q (some (.int (-1))) M) ∧ (¬ a1 < 0 → (x_h M o).1 = 25 ∧ ((x_i M o 4) ≤ a1 → Q (some (.int (-1))) M) ∧ (¬ (x_i M o 4) ≤ a1 → ∃ b4, x_r M o 3 = some b4 ∧ (x_h M b4).1 = 1 ∧ vp_in a1 (x_h M b4).2 ∧ Q (some (.int (x_i M b4 a1.toNatClampNeg))) M))) : Call G (d + 1) rc rs mX9_byteAt [.ref o, .int a1] M Q := by
  refine call_of (by decide) (Nat.le_of_ble_eq_true rfl) ?_
  show Wk G (d + 1) rc rs mX9_byteAt 0 [some (.ref o), some (.int a1)] [] M Q
  refine r_iload_n (pc := 0) (i := 1) dX9_byteAt_0 rfl rfl ?_
  refine r_if_lt (pc := 1) (tgt := 21) dX9_byteAt_1 (by decide) (fun c1 => ?_) (fun c1 => ?_)
  · replace h := h.1 c1
    refine r_iconst (pc := 21) (v := (-1)) dX9_byteAt_21 (by decide) ?_
    exact r_iret (pc := 22) dX9_byteAt_22 rfl h
  · replace h := h.2 c1
    refine r_iload_n (pc := 4) (i := 1) dX9_byteAt_4 rfl rfl ?_
    refine r_aload_n (pc := 5) (i := 0) dX9_byteAt_5 rfl rfl ?_
    obtain ⟨k2, h⟩ := h
    refine r_geti (pc := 6) flX9_24 dX9_byteAt_6 (Or.inl rfl) k2 ?_
    refine r_icmp_ge (pc := 9) (tgt := 21) dX9_byteAt_9 (by decide) (fun c3 => ?_) (fun c3 => ?_)
    · replace h := h.1 c3
      refine r_iconst (pc := 21) (v := (-1)) dX9_byteAt_21 (by decide) ?_
      exact r_iret (pc := 22) dX9_byteAt_22 rfl h
    · replace h := h.2 c3
      refine r_aload_n (pc := 12) (i := 0) dX9_byteAt_12 rfl rfl ?_
      obtain ⟨b4, hb4, h⟩ := h
      refine r_getr (pc := 13) flX9_21 dX9_byteAt_13 rfl k2 hb4 ?_
      refine r_iload_n (pc := 16) (i := 1) dX9_byteAt_16 rfl rfl ?_
      obtain ⟨k5, h⟩ := h
      obtain ⟨i6, h⟩ := h
      refine r_iald (pc := 17) dX9_byteAt_17 k5 i6 ?_
      refine r_goto (pc := 18) (tgt := 22) dX9_byteAt_18 (by decide) ?_
      exact r_iret (pc := 22) dX9_byteAt_22 rfl h
theorem eX9_isLetter {G : GG} {d rc rs : Nat} (o : Nat) (a1 : Int32)  {M : Mem} {Q : Option Value → Mem → Prop} (h : (x_h M o).1 = 25 ∧ Call G d 0 0 mX9_byteAt [.ref o, .int a1] M (fun r2 M3 => ∃ v4 : Int32, r2 = some (.int v4) ∧ (v4 < 97 → Q (some (.int 0)) M3) ∧ (¬ v4 < 97 → (x_h M3 o).1 = 25 ∧ Call G d 0 0 mX9_byteAt [.ref o, .int a1] M3 (fun r7 M8 => ∃ v9 : Int32, r7 = some (.int v9) ∧ (122 < v9 → Q (some (.int 0)) M8) ∧ (¬ 122 < v9 → Q (some (.int 1)) M8))))) : Call G (d + 1) rc rs mX9_isLetter [.ref o, .int a1] M Q := by
  refine call_of (by decide) (Nat.le_of_ble_eq_true rfl) ?_
  show Wk G (d + 1) rc rs mX9_isLetter 0 [some (.ref o), some (.int a1)] [] M Q
  refine r_aload_n (pc := 0) (i := 0) dX9_isLetter_0 rfl rfl ?_
  refine r_iload_n (pc := 1) (i := 1) dX9_isLetter_1 rfl rfl ?_
  obtain ⟨k1, h⟩ := h
  refine r_callV (pc := 2) (ci := 9) (as := [_]) (st := []) okX9_byteAt lkX9_37 inX9_byteAt seX9_byteAt ⟨_, rfl, rfl⟩ dX9_isLetter_2 rfl k1 (Nat.le_of_ble_eq_true rfl) (Nat.zero_le _) (Nat.zero_le _) (Call.mono h (fun r2 M3 h => ?_))
  obtain ⟨v4, rfl, h⟩ := h
  refine r_bipush (pc := 5) (v := 97) dX9_isLetter_5 (by decide) ?_
  refine r_icmp_lt (pc := 7) (tgt := 24) dX9_isLetter_7 (by decide) (fun c5 => ?_) (fun c5 => ?_)
  · replace h := h.1 c5
    refine r_iconst (pc := 24) (v := 0) dX9_isLetter_24 (by decide) ?_
    exact r_zret (pc := 25) dX9_isLetter_25 rfl (Or.inl rfl) h
  · replace h := h.2 c5
    refine r_aload_n (pc := 10) (i := 0) dX9_isLetter_10 rfl rfl ?_
    refine r_iload_n (pc := 11) (i := 1) dX9_isLetter_11 rfl rfl ?_
    obtain ⟨k6, h⟩ := h
    refine r_callV (pc := 12) (ci := 9) (as := [_]) (st := []) okX9_byteAt lkX9_37 inX9_byteAt seX9_byteAt ⟨_, rfl, rfl⟩ dX9_isLetter_12 rfl k6 (Nat.le_of_ble_eq_true rfl) (Nat.zero_le _) (Nat.zero_le _) (Call.mono h (fun r7 M8 h => ?_))
    obtain ⟨v9, rfl, h⟩ := h
    refine r_bipush (pc := 15) (v := 122) dX9_isLetter_15 (by decide) ?_
    refine r_icmp_gt (pc := 17) (tgt := 24) dX9_isLetter_17 (by decide) (fun c10 => ?_) (fun c10 => ?_)
    · replace h := h.1 c10
      refine r_iconst (pc := 24) (v := 0) dX9_isLetter_24 (by decide) ?_
      exact r_zret (pc := 25) dX9_isLetter_25 rfl (Or.inl rfl) h
    · replace h := h.2 c10
      refine r_iconst (pc := 20) (v := 1) dX9_isLetter_20 (by decide) ?_
      refine r_goto (pc := 21) (tgt := 25) dX9_isLetter_21 (by decide) ?_
      exact r_zret (pc := 25) dX9_isLetter_25 rfl (Or.inr rfl) h
theorem eX9_isDigit {G : GG} {d rc rs : Nat} (o : Nat) (a1 : Int32)  {M : Mem} {Q : Option Value → Mem → Prop} (h : (x_h M o).1 = 25 ∧ Call G d 0 0 mX9_byteAt [.ref o, .int a1] M (fun r2 M3 => ∃ v4 : Int32, r2 = some (.int v4) ∧ (v4 < 48 → Q (some (.int 0)) M3) ∧ (¬ v4 < 48 → (x_h M3 o).1 = 25 ∧ Call G d 0 0 mX9_byteAt [.ref o, .int a1] M3 (fun r7 M8 => ∃ v9 : Int32, r7 = some (.int v9) ∧ (57 < v9 → Q (some (.int 0)) M8) ∧ (¬ 57 < v9 → Q (some (.int 1)) M8))))) : Call G (d + 1) rc rs mX9_isDigit [.ref o, .int a1] M Q := by
  refine call_of (by decide) (Nat.le_of_ble_eq_true rfl) ?_
  show Wk G (d + 1) rc rs mX9_isDigit 0 [some (.ref o), some (.int a1)] [] M Q
  refine r_aload_n (pc := 0) (i := 0) dX9_isDigit_0 rfl rfl ?_
  refine r_iload_n (pc := 1) (i := 1) dX9_isDigit_1 rfl rfl ?_
  obtain ⟨k1, h⟩ := h
  refine r_callV (pc := 2) (ci := 9) (as := [_]) (st := []) okX9_byteAt lkX9_37 inX9_byteAt seX9_byteAt ⟨_, rfl, rfl⟩ dX9_isDigit_2 rfl k1 (Nat.le_of_ble_eq_true rfl) (Nat.zero_le _) (Nat.zero_le _) (Call.mono h (fun r2 M3 h => ?_))
  obtain ⟨v4, rfl, h⟩ := h
  refine r_bipush (pc := 5) (v := 48) dX9_isDigit_5 (by decide) ?_
  refine r_icmp_lt (pc := 7) (tgt := 24) dX9_isDigit_7 (by decide) (fun c5 => ?_) (fun c5 => ?_)
  · replace h := h.1 c5
    refine r_iconst (pc := 24) (v := 0) dX9_isDigit_24 (by decide) ?_
    exact r_zret (pc := 25) dX9_isDigit_25 rfl (Or.inl rfl) h
  · replace h := h.2 c5
    refine r_aload_n (pc := 10) (i := 0) dX9_isDigit_10 rfl rfl ?_
    refine r_iload_n (pc := 11) (i := 1) dX9_isDigit_11 rfl rfl ?_
    obtain ⟨k6, h⟩ := h
    refine r_callV (pc := 12) (ci := 9) (as := [_]) (st := []) okX9_byteAt lkX9_37 inX9_byteAt seX9_byteAt ⟨_, rfl, rfl⟩ dX9_isDigit_12 rfl k6 (Nat.le_of_ble_eq_true rfl) (Nat.zero_le _) (Nat.zero_le _) (Call.mono h (fun r7 M8 h => ?_))
    obtain ⟨v9, rfl, h⟩ := h
    refine r_bipush (pc := 15) (v := 57) dX9_isDigit_15 (by decide) ?_
    refine r_icmp_gt (pc := 17) (tgt := 24) dX9_isDigit_17 (by decide) (fun c10 => ?_) (fun c10 => ?_)
    · replace h := h.1 c10
      refine r_iconst (pc := 24) (v := 0) dX9_isDigit_24 (by decide) ?_
      exact r_zret (pc := 25) dX9_isDigit_25 rfl (Or.inl rfl) h
    · replace h := h.2 c10
      refine r_iconst (pc := 20) (v := 1) dX9_isDigit_20 (by decide) ?_
      refine r_goto (pc := 21) (tgt := 25) dX9_isDigit_21 (by decide) ?_
      exact r_zret (pc := 25) dX9_isDigit_25 rfl (Or.inr rfl) h
abbrev LX9_cutOne_55 (G : GG) (d rc rs : Nat) (p0 : Nat) (x1 : Int32) (u0 : Int32) (M : Mem) (Q : Option Value → Mem → Prop) : Prop := Wk G (d + 1) rc rs mX9_cutOne 55 [some (.ref p0), some (.int x1), none] [.int u0] M Q
theorem eX9_cutOne {G : GG} {d rc rs : Nat} (o : Nat) (a1 : Int32)  {M : Mem} {Q : Option Value → Mem → Prop} (h : (x_h M o).1 = 25 ∧ Call G d 0 0 mX9_isLetter [.ref o, .int a1] M (fun r2 M3 => ∃ v4 : Int32, r2 = some (.int v4) ∧ (v4 = 0 → (x_h M3 o).1 = 25 ∧ Call G d 0 0 mX9_isDigit [.ref o, .int a1] M3 (fun r7 M8 => ∃ v9 : Int32, r7 = some (.int v9) ∧ (v9 = 0 → (x_h M8 o).1 = 25 ∧ Call G d 0 0 mX9_byteAt [.ref o, .int a1] M8 (fun r12 M13 => ∃ v14 : Int32, r12 = some (.int v14) ∧ (¬ v14 = 60 → LX9_cutOne_55 G d rc rs o a1 0 M13 Q) ∧ (v14 = 60 → (x_h M13 o).1 = 25 ∧ Call G d 0 0 mX9_byteAt [.ref o, .int (a1 + 1)] M13 (fun r17 M18 => ∃ v19 : Int32, r17 = some (.int v19) ∧ (¬ v19 = 61 → LX9_cutOne_55 G d rc rs o a1 0 M18 Q) ∧ (v19 = 61 → LX9_cutOne_55 G d rc rs o a1 1 M18 Q))))) ∧ (¬ v9 = 0 → (x_h M8 o).1 = 25 ∧ Call G d 0 0 mX9_cutNumber [.ref o, .int a1] M8 (fun r22 M23 => ∃ v24 : Int32, r22 = some (.int v24) ∧ Q (some (.int v24)) M23)))) ∧ (¬ v4 = 0 → (x_h M3 o).1 = 25 ∧ Call G d 0 0 mX9_cutLetters [.ref o, .int a1] M3 (fun r26 M27 => ∃ v28 : Int32, r26 = some (.int v28) ∧ Q (some (.int v28)) M27)))) : Call G (d + 1) rc rs mX9_cutOne [.ref o, .int a1] M Q := by
  refine call_of (by decide) (Nat.le_of_ble_eq_true rfl) ?_
  show Wk G (d + 1) rc rs mX9_cutOne 0 [some (.ref o), some (.int a1), none] [] M Q
  refine r_aload_n (pc := 0) (i := 0) dX9_cutOne_0 rfl rfl ?_
  refine r_iload_n (pc := 1) (i := 1) dX9_cutOne_1 rfl rfl ?_
  obtain ⟨k1, h⟩ := h
  refine r_callV (pc := 2) (ci := 9) (as := [_]) (st := []) okX9_isLetter lkX9_48 inX9_isLetter seX9_isLetter ⟨_, rfl, rfl⟩ dX9_cutOne_2 rfl k1 (Nat.le_of_ble_eq_true rfl) (Nat.zero_le _) (Nat.zero_le _) (Call.mono h (fun r2 M3 h => ?_))
  obtain ⟨v4, rfl, h⟩ := h
  refine r_if_eq (pc := 5) (tgt := 14) dX9_cutOne_5 (by decide) (fun c5 => ?_) (fun c5 => ?_)
  · replace h := h.1 c5
    refine r_aload_n (pc := 14) (i := 0) dX9_cutOne_14 rfl rfl ?_
    refine r_iload_n (pc := 15) (i := 1) dX9_cutOne_15 rfl rfl ?_
    obtain ⟨k6, h⟩ := h
    refine r_callV (pc := 16) (ci := 9) (as := [_]) (st := []) okX9_isDigit lkX9_55 inX9_isDigit seX9_isDigit ⟨_, rfl, rfl⟩ dX9_cutOne_16 rfl k6 (Nat.le_of_ble_eq_true rfl) (Nat.zero_le _) (Nat.zero_le _) (Call.mono h (fun r7 M8 h => ?_))
    obtain ⟨v9, rfl, h⟩ := h
    refine r_if_eq (pc := 19) (tgt := 28) dX9_cutOne_19 (by decide) (fun c10 => ?_) (fun c10 => ?_)
    · replace h := h.1 c10
      refine r_aload_n (pc := 28) (i := 0) dX9_cutOne_28 rfl rfl ?_
      refine r_iload_n (pc := 29) (i := 1) dX9_cutOne_29 rfl rfl ?_
      obtain ⟨k11, h⟩ := h
      refine r_callV (pc := 30) (ci := 9) (as := [_]) (st := []) okX9_byteAt lkX9_37 inX9_byteAt seX9_byteAt ⟨_, rfl, rfl⟩ dX9_cutOne_30 rfl k11 (Nat.le_of_ble_eq_true rfl) (Nat.zero_le _) (Nat.zero_le _) (Call.mono h (fun r12 M13 h => ?_))
      obtain ⟨v14, rfl, h⟩ := h
      refine r_bipush (pc := 33) (v := 60) dX9_cutOne_33 (by decide) ?_
      refine r_icmp_ne (pc := 35) (tgt := 54) dX9_cutOne_35 (by decide) (fun c15 => ?_) (fun c15 => ?_)
      · replace h := h.1 c15
        refine r_iconst (pc := 54) (v := 0) dX9_cutOne_54 (by decide) ?_
        exact h
      · replace h := h.2 c15
        refine r_aload_n (pc := 38) (i := 0) dX9_cutOne_38 rfl rfl ?_
        refine r_iload_n (pc := 39) (i := 1) dX9_cutOne_39 rfl rfl ?_
        refine r_iconst (pc := 40) (v := 1) dX9_cutOne_40 (by decide) ?_
        refine r_iadd (pc := 41) dX9_cutOne_41 ?_
        obtain ⟨k16, h⟩ := h
        refine r_callV (pc := 42) (ci := 9) (as := [_]) (st := []) okX9_byteAt lkX9_37 inX9_byteAt seX9_byteAt ⟨_, rfl, rfl⟩ dX9_cutOne_42 rfl k16 (Nat.le_of_ble_eq_true rfl) (Nat.zero_le _) (Nat.zero_le _) (Call.mono h (fun r17 M18 h => ?_))
        obtain ⟨v19, rfl, h⟩ := h
        refine r_bipush (pc := 45) (v := 61) dX9_cutOne_45 (by decide) ?_
        refine r_icmp_ne (pc := 47) (tgt := 54) dX9_cutOne_47 (by decide) (fun c20 => ?_) (fun c20 => ?_)
        · replace h := h.1 c20
          refine r_iconst (pc := 54) (v := 0) dX9_cutOne_54 (by decide) ?_
          exact h
        · replace h := h.2 c20
          refine r_iconst (pc := 50) (v := 1) dX9_cutOne_50 (by decide) ?_
          refine r_goto (pc := 51) (tgt := 55) dX9_cutOne_51 (by decide) ?_
          exact h
    · replace h := h.2 c10
      refine r_aload_n (pc := 22) (i := 0) dX9_cutOne_22 rfl rfl ?_
      refine r_iload_n (pc := 23) (i := 1) dX9_cutOne_23 rfl rfl ?_
      obtain ⟨k21, h⟩ := h
      refine r_callV (pc := 24) (ci := 9) (as := [_]) (st := []) okX9_cutNumber lkX9_58 inX9_cutNumber seX9_cutNumber ⟨_, rfl, rfl⟩ dX9_cutOne_24 rfl k21 (Nat.le_of_ble_eq_true rfl) (Nat.zero_le _) (Nat.zero_le _) (Call.mono h (fun r22 M23 h => ?_))
      obtain ⟨v24, rfl, h⟩ := h
      exact r_iret (pc := 27) dX9_cutOne_27 rfl h
  · replace h := h.2 c5
    refine r_aload_n (pc := 8) (i := 0) dX9_cutOne_8 rfl rfl ?_
    refine r_iload_n (pc := 9) (i := 1) dX9_cutOne_9 rfl rfl ?_
    obtain ⟨k25, h⟩ := h
    refine r_callV (pc := 10) (ci := 9) (as := [_]) (st := []) okX9_cutLetters lkX9_52 inX9_cutLetters seX9_cutLetters ⟨_, rfl, rfl⟩ dX9_cutOne_10 rfl k25 (Nat.le_of_ble_eq_true rfl) (Nat.zero_le _) (Nat.zero_le _) (Call.mono h (fun r26 M27 h => ?_))
    obtain ⟨v28, rfl, h⟩ := h
    exact r_iret (pc := 13) dX9_cutOne_13 rfl h
theorem vX9_cutOne_55 {G : GG} {d rc rs : Nat} (p0 : Nat) (x1 : Int32) (u0 : Int32)  {M : Mem} {Q : Option Value → Mem → Prop} (h : (u0 = 0 → (x_h M p0).1 = 25 ∧ Call G d 0 0 mX9_byteAt [.ref p0, .int x1] M (fun r3 M4 => ∃ v5 : Int32, r3 = some (.int v5) ∧ Call G d 0 0 mX9_sign [.int v5] M4 (fun r6 M7 => ∃ v8 : Int32, r6 = some (.int v8) ∧ (x_h M7 p0).1 = 25 ∧ Call G d 0 0 mX9_add [.ref p0, .int v8, .int x1, .int 0] M7 (fun r10 M11 => r10 = none ∧ (u0 = 0 → Q (some (.int (x1 + 1))) M11) ∧ (¬ u0 = 0 → Q (some (.int (x1 + 2))) M11))))) ∧ (¬ u0 = 0 → (x_h M p0).1 = 25 ∧ Call G d 0 0 mX9_add [.ref p0, .int 18, .int x1, .int 0] M (fun r14 M15 => r14 = none ∧ (u0 = 0 → Q (some (.int (x1 + 1))) M15) ∧ (¬ u0 = 0 → Q (some (.int (x1 + 2))) M15)))) : LX9_cutOne_55 G d rc rs p0 x1 u0 M Q := by
  show Wk G (d + 1) rc rs mX9_cutOne 55 _ _ M Q
  refine r_istore_n (pc := 55) (i := 2) dX9_cutOne_55 rfl rfl (Nat.le_of_ble_eq_true rfl) ?_
  refine r_aload_n (pc := 56) (i := 0) dX9_cutOne_56 rfl rfl ?_
  refine r_iload_n (pc := 57) (i := 2) dX9_cutOne_57 rfl rfl ?_
  refine r_if_eq (pc := 58) (tgt := 66) dX9_cutOne_58 (by decide) (fun c1 => ?_) (fun c1 => ?_)
  · replace h := h.1 c1
    refine r_aload_n (pc := 66) (i := 0) dX9_cutOne_66 rfl rfl ?_
    refine r_iload_n (pc := 67) (i := 1) dX9_cutOne_67 rfl rfl ?_
    obtain ⟨k2, h⟩ := h
    refine r_callV (pc := 68) (ci := 9) (as := [_]) (st := [_]) okX9_byteAt lkX9_37 inX9_byteAt seX9_byteAt ⟨_, rfl, rfl⟩ dX9_cutOne_68 rfl k2 (Nat.le_of_ble_eq_true rfl) (Nat.zero_le _) (Nat.zero_le _) (Call.mono h (fun r3 M4 h => ?_))
    obtain ⟨v5, rfl, h⟩ := h
    refine r_callS (pc := 71) (as := [_]) (st := [_]) okX9_sign lkX9_61 stX9_sign dX9_cutOne_71 rfl (Nat.le_of_ble_eq_true rfl) (Nat.zero_le _) (Nat.zero_le _) (Call.mono h (fun r6 M7 h => ?_))
    obtain ⟨v8, rfl, h⟩ := h
    refine r_iload_n (pc := 74) (i := 1) dX9_cutOne_74 rfl rfl ?_
    refine r_iconst (pc := 75) (v := 0) dX9_cutOne_75 (by decide) ?_
    obtain ⟨k9, h⟩ := h
    refine r_callV (pc := 76) (ci := 9) (as := [_, _, _]) (st := []) okX9_add lkX9_44 inX9_add seX9_add ⟨_, rfl, rfl⟩ dX9_cutOne_76 rfl k9 (Nat.le_of_ble_eq_true rfl) (Nat.zero_le _) (Nat.zero_le _) (Call.mono h (fun r10 M11 h => ?_))
    obtain ⟨rfl, h⟩ := h
    refine r_iload_n (pc := 79) (i := 2) dX9_cutOne_79 rfl rfl ?_
    refine r_if_eq (pc := 80) (tgt := 89) dX9_cutOne_80 (by decide) (fun c12 => ?_) (fun c12 => ?_)
    · replace h := h.1 c12
      refine r_iload_n (pc := 89) (i := 1) dX9_cutOne_89 rfl rfl ?_
      refine r_iconst (pc := 90) (v := 1) dX9_cutOne_90 (by decide) ?_
      refine r_iadd (pc := 91) dX9_cutOne_91 ?_
      exact r_iret (pc := 92) dX9_cutOne_92 rfl h
    · replace h := h.2 c12
      refine r_iload_n (pc := 83) (i := 1) dX9_cutOne_83 rfl rfl ?_
      refine r_iconst (pc := 84) (v := 2) dX9_cutOne_84 (by decide) ?_
      refine r_iadd (pc := 85) dX9_cutOne_85 ?_
      refine r_goto (pc := 86) (tgt := 92) dX9_cutOne_86 (by decide) ?_
      exact r_iret (pc := 92) dX9_cutOne_92 rfl h
  · replace h := h.2 c1
    refine r_bipush (pc := 61) (v := 18) dX9_cutOne_61 (by decide) ?_
    refine r_goto (pc := 63) (tgt := 74) dX9_cutOne_63 (by decide) ?_
    refine r_iload_n (pc := 74) (i := 1) dX9_cutOne_74 rfl rfl ?_
    refine r_iconst (pc := 75) (v := 0) dX9_cutOne_75 (by decide) ?_
    obtain ⟨k13, h⟩ := h
    refine r_callV (pc := 76) (ci := 9) (as := [_, _, _]) (st := []) okX9_add lkX9_44 inX9_add seX9_add ⟨_, rfl, rfl⟩ dX9_cutOne_76 rfl k13 (Nat.le_of_ble_eq_true rfl) (Nat.zero_le _) (Nat.zero_le _) (Call.mono h (fun r14 M15 h => ?_))
    obtain ⟨rfl, h⟩ := h
    refine r_iload_n (pc := 79) (i := 2) dX9_cutOne_79 rfl rfl ?_
    refine r_if_eq (pc := 80) (tgt := 89) dX9_cutOne_80 (by decide) (fun c16 => ?_) (fun c16 => ?_)
    · replace h := h.1 c16
      refine r_iload_n (pc := 89) (i := 1) dX9_cutOne_89 rfl rfl ?_
      refine r_iconst (pc := 90) (v := 1) dX9_cutOne_90 (by decide) ?_
      refine r_iadd (pc := 91) dX9_cutOne_91 ?_
      exact r_iret (pc := 92) dX9_cutOne_92 rfl h
    · replace h := h.2 c16
      refine r_iload_n (pc := 83) (i := 1) dX9_cutOne_83 rfl rfl ?_
      refine r_iconst (pc := 84) (v := 2) dX9_cutOne_84 (by decide) ?_
      refine r_iadd (pc := 85) dX9_cutOne_85 ?_
      refine r_goto (pc := 86) (tgt := 92) dX9_cutOne_86 (by decide) ?_
      exact r_iret (pc := 92) dX9_cutOne_92 rfl h
theorem eX9_sign {G : GG} {d rc rs : Nat} (a1 : Int32)  {M : Mem} {Q : Option Value → Mem → Prop} (h : (a1 = 40 → Q (some (.int 11)) M) ∧ (a1 = 41 → Q (some (.int 12)) M) ∧ (a1 = 43 → Q (some (.int 15)) M) ∧ (a1 = 60 → Q (some (.int 17)) M) ∧ (a1 = 61 → Q (some (.int 16)) M) ∧ (a1 = 91 → Q (some (.int 13)) M) ∧ (a1 = 93 → Q (some (.int 14)) M) ∧ (¬ a1 = 40 ∧ ¬ a1 = 41 ∧ ¬ a1 = 43 ∧ ¬ a1 = 60 ∧ ¬ a1 = 61 ∧ ¬ a1 = 91 ∧ ¬ a1 = 93 → Q (some (.int 1)) M)) : Call G (d + 1) rc rs mX9_sign [.int a1] M Q := by
  refine call_of (by decide) (Nat.le_of_ble_eq_true rfl) ?_
  show Wk G (d + 1) rc rs mX9_sign 0 [some (.int a1)] [] M Q
  refine r_iload_n (pc := 0) (i := 0) dX9_sign_0 rfl rfl ?_
  refine dite (a1 = 40) (fun c1 => ?_) (fun c1 => ?_)
  · replace h := h.1 c1
    refine r_look (pc := 1) (off := 67) (tgt := 68) dX9_sign_1 (by decide) (by rw [c1]; decide) (by decide) ?_
    refine r_bipush (pc := 68) (v := 11) dX9_sign_68 (by decide) ?_
    exact r_iret (pc := 70) dX9_sign_70 rfl h
  refine dite (a1 = 41) (fun c2 => ?_) (fun c2 => ?_)
  · replace h := h.2.1 c2
    refine r_look (pc := 1) (off := 70) (tgt := 71) dX9_sign_1 (by decide) (by rw [c2]; decide) (by decide) ?_
    refine r_bipush (pc := 71) (v := 12) dX9_sign_71 (by decide) ?_
    exact r_iret (pc := 73) dX9_sign_73 rfl h
  refine dite (a1 = 43) (fun c3 => ?_) (fun c3 => ?_)
  · replace h := h.2.2.1 c3
    refine r_look (pc := 1) (off := 79) (tgt := 80) dX9_sign_1 (by decide) (by rw [c3]; decide) (by decide) ?_
    refine r_bipush (pc := 80) (v := 15) dX9_sign_80 (by decide) ?_
    exact r_iret (pc := 82) dX9_sign_82 rfl h
  refine dite (a1 = 60) (fun c4 => ?_) (fun c4 => ?_)
  · replace h := h.2.2.2.1 c4
    refine r_look (pc := 1) (off := 85) (tgt := 86) dX9_sign_1 (by decide) (by rw [c4]; decide) (by decide) ?_
    refine r_bipush (pc := 86) (v := 17) dX9_sign_86 (by decide) ?_
    exact r_iret (pc := 88) dX9_sign_88 rfl h
  refine dite (a1 = 61) (fun c5 => ?_) (fun c5 => ?_)
  · replace h := h.2.2.2.2.1 c5
    refine r_look (pc := 1) (off := 82) (tgt := 83) dX9_sign_1 (by decide) (by rw [c5]; decide) (by decide) ?_
    refine r_bipush (pc := 83) (v := 16) dX9_sign_83 (by decide) ?_
    exact r_iret (pc := 85) dX9_sign_85 rfl h
  refine dite (a1 = 91) (fun c6 => ?_) (fun c6 => ?_)
  · replace h := h.2.2.2.2.2.1 c6
    refine r_look (pc := 1) (off := 73) (tgt := 74) dX9_sign_1 (by decide) (by rw [c6]; decide) (by decide) ?_
    refine r_bipush (pc := 74) (v := 13) dX9_sign_74 (by decide) ?_
    exact r_iret (pc := 76) dX9_sign_76 rfl h
  refine dite (a1 = 93) (fun c7 => ?_) (fun c7 => ?_)
  · replace h := h.2.2.2.2.2.2.1 c7
    refine r_look (pc := 1) (off := 76) (tgt := 77) dX9_sign_1 (by decide) (by rw [c7]; decide) (by decide) ?_
    refine r_bipush (pc := 77) (v := 14) dX9_sign_77 (by decide) ?_
    exact r_iret (pc := 79) dX9_sign_79 rfl h
  replace h := h.2.2.2.2.2.2.2 ⟨c1, c2, c3, c4, c5, c6, c7⟩
  refine r_look (pc := 1) (off := 88) (tgt := 89) dX9_sign_1 (by decide) (by show Op.lookupswitch.offset [(40, 67), (41, 70), (43, 79), (60, 85), (61, 82), (91, 73), (93, 76)] _ _ = _; rw [lv_osw (a := 40) c1 (by decide)]; rw [lv_osw (a := 41) c2 (by decide)]; rw [lv_osw (a := 43) c3 (by decide)]; rw [lv_osw (a := 60) c4 (by decide)]; rw [lv_osw (a := 61) c5 (by decide)]; rw [lv_osw (a := 91) c6 (by decide)]; rw [lv_osw (a := 93) c7 (by decide)]; rfl) (by decide) ?_
  refine r_iconst (pc := 89) (v := 1) dX9_sign_89 (by decide) ?_
  exact r_iret (pc := 90) dX9_sign_90 rfl h
abbrev LX9_cutNumber_4 (G : GG) (d rc rs : Nat) (p0 : Nat) (x1 : Int32) (x2 : Int32) (x3 : Int32) (M : Mem) (Q : Option Value → Mem → Prop) : Prop := Wk G (d + 1) rc rs mX9_cutNumber 4 [some (.ref p0), some (.int x1), some (.int x2), some (.int x3)] [] M Q
theorem eX9_cutNumber {G : GG} {d rc rs : Nat} (o : Nat) (a1 : Int32)  {M : Mem} {Q : Option Value → Mem → Prop} (h : LX9_cutNumber_4 G d rc rs o a1 a1 0 M Q) : Call G (d + 1) rc rs mX9_cutNumber [.ref o, .int a1] M Q := by
  refine call_of (by decide) (Nat.le_of_ble_eq_true rfl) ?_
  show Wk G (d + 1) rc rs mX9_cutNumber 0 [some (.ref o), some (.int a1), none, none] [] M Q
  refine r_iload_n (pc := 0) (i := 1) dX9_cutNumber_0 rfl rfl ?_
  refine r_istore_n (pc := 1) (i := 2) dX9_cutNumber_1 rfl rfl (Nat.le_of_ble_eq_true rfl) ?_
  refine r_iconst (pc := 2) (v := 0) dX9_cutNumber_2 (by decide) ?_
  refine r_istore_n (pc := 3) (i := 3) dX9_cutNumber_3 rfl rfl (Nat.le_of_ble_eq_true rfl) ?_
  exact h
theorem vX9_cutNumber_4 {G : GG} {d rc rs : Nat} (p0 : Nat) (x1 : Int32) (x2 : Int32) (x3 : Int32)  {M : Mem} {Q : Option Value → Mem → Prop} (h : (x_h M p0).1 = 25 ∧ ((x_i M p0 4) ≤ x2 → ((x2 - x1) ≤ 2 → Call G d 0 0 mX9_add [.ref p0, .int 2, .int x1, .int x3] M (fun r4 M5 => r4 = none ∧ Q (some (.int x2)) M5)) ∧ (¬ (x2 - x1) ≤ 2 → Call G d 0 0 mX9_add [.ref p0, .int 1, .int x1, .int x3] M (fun r6 M7 => r6 = none ∧ Q (some (.int x2)) M7))) ∧ (¬ (x_i M p0 4) ≤ x2 → Call G d 0 0 mX9_isDigit [.ref p0, .int x2] M (fun r8 M9 => ∃ v10 : Int32, r8 = some (.int v10) ∧ (v10 = 0 → ((x2 - x1) ≤ 2 → (x_h M9 p0).1 = 25 ∧ Call G d 0 0 mX9_add [.ref p0, .int 2, .int x1, .int x3] M9 (fun r14 M15 => r14 = none ∧ Q (some (.int x2)) M15)) ∧ (¬ (x2 - x1) ≤ 2 → (x_h M9 p0).1 = 25 ∧ Call G d 0 0 mX9_add [.ref p0, .int 1, .int x1, .int x3] M9 (fun r17 M18 => r17 = none ∧ Q (some (.int x2)) M18))) ∧ (¬ v10 = 0 → (x_h M9 p0).1 = 25 ∧ Call G d 0 0 mX9_byteAt [.ref p0, .int x2] M9 (fun r20 M21 => ∃ v22 : Int32, r20 = some (.int v22) ∧ LX9_cutNumber_4 G d rc rs p0 x1 (x2 + 1) ((((x3 * 10) + v22) - 48) - (((x3 * 10) + v22) - 48) / 100 * 100) M21 Q))))) : LX9_cutNumber_4 G d rc rs p0 x1 x2 x3 M Q := by
  show Wk G (d + 1) rc rs mX9_cutNumber 4 _ _ M Q
  refine r_iload_n (pc := 4) (i := 2) dX9_cutNumber_4 rfl rfl ?_
  refine r_aload_n (pc := 5) (i := 0) dX9_cutNumber_5 rfl rfl ?_
  obtain ⟨k1, h⟩ := h
  refine r_geti (pc := 6) flX9_24 dX9_cutNumber_6 (Or.inl rfl) k1 ?_
  refine r_icmp_ge (pc := 9) (tgt := 43) dX9_cutNumber_9 (by decide) (fun c2 => ?_) (fun c2 => ?_)
  · replace h := h.1 c2
    refine r_aload_n (pc := 43) (i := 0) dX9_cutNumber_43 rfl rfl ?_
    refine r_iload_n (pc := 44) (i := 2) dX9_cutNumber_44 rfl rfl ?_
    refine r_iload_n (pc := 45) (i := 1) dX9_cutNumber_45 rfl rfl ?_
    refine r_isub (pc := 46) dX9_cutNumber_46 ?_
    refine r_iconst (pc := 47) (v := 2) dX9_cutNumber_47 (by decide) ?_
    refine r_icmp_le (pc := 48) (tgt := 55) dX9_cutNumber_48 (by decide) (fun c3 => ?_) (fun c3 => ?_)
    · replace h := h.1 c3
      refine r_iconst (pc := 55) (v := 2) dX9_cutNumber_55 (by decide) ?_
      refine r_iload_n (pc := 56) (i := 1) dX9_cutNumber_56 rfl rfl ?_
      refine r_iload_n (pc := 57) (i := 3) dX9_cutNumber_57 rfl rfl ?_
      refine r_callV (pc := 58) (ci := 9) (as := [_, _, _]) (st := []) okX9_add lkX9_44 inX9_add seX9_add ⟨_, rfl, rfl⟩ dX9_cutNumber_58 rfl k1 (Nat.le_of_ble_eq_true rfl) (Nat.zero_le _) (Nat.zero_le _) (Call.mono h (fun r4 M5 h => ?_))
      obtain ⟨rfl, h⟩ := h
      refine r_iload_n (pc := 61) (i := 2) dX9_cutNumber_61 rfl rfl ?_
      exact r_iret (pc := 62) dX9_cutNumber_62 rfl h
    · replace h := h.2 c3
      refine r_iconst (pc := 51) (v := 1) dX9_cutNumber_51 (by decide) ?_
      refine r_goto (pc := 52) (tgt := 56) dX9_cutNumber_52 (by decide) ?_
      refine r_iload_n (pc := 56) (i := 1) dX9_cutNumber_56 rfl rfl ?_
      refine r_iload_n (pc := 57) (i := 3) dX9_cutNumber_57 rfl rfl ?_
      refine r_callV (pc := 58) (ci := 9) (as := [_, _, _]) (st := []) okX9_add lkX9_44 inX9_add seX9_add ⟨_, rfl, rfl⟩ dX9_cutNumber_58 rfl k1 (Nat.le_of_ble_eq_true rfl) (Nat.zero_le _) (Nat.zero_le _) (Call.mono h (fun r6 M7 h => ?_))
      obtain ⟨rfl, h⟩ := h
      refine r_iload_n (pc := 61) (i := 2) dX9_cutNumber_61 rfl rfl ?_
      exact r_iret (pc := 62) dX9_cutNumber_62 rfl h
  · replace h := h.2 c2
    refine r_aload_n (pc := 12) (i := 0) dX9_cutNumber_12 rfl rfl ?_
    refine r_iload_n (pc := 13) (i := 2) dX9_cutNumber_13 rfl rfl ?_
    refine r_callV (pc := 14) (ci := 9) (as := [_]) (st := []) okX9_isDigit lkX9_55 inX9_isDigit seX9_isDigit ⟨_, rfl, rfl⟩ dX9_cutNumber_14 rfl k1 (Nat.le_of_ble_eq_true rfl) (Nat.zero_le _) (Nat.zero_le _) (Call.mono h (fun r8 M9 h => ?_))
    obtain ⟨v10, rfl, h⟩ := h
    refine r_if_eq (pc := 17) (tgt := 43) dX9_cutNumber_17 (by decide) (fun c11 => ?_) (fun c11 => ?_)
    · replace h := h.1 c11
      refine r_aload_n (pc := 43) (i := 0) dX9_cutNumber_43 rfl rfl ?_
      refine r_iload_n (pc := 44) (i := 2) dX9_cutNumber_44 rfl rfl ?_
      refine r_iload_n (pc := 45) (i := 1) dX9_cutNumber_45 rfl rfl ?_
      refine r_isub (pc := 46) dX9_cutNumber_46 ?_
      refine r_iconst (pc := 47) (v := 2) dX9_cutNumber_47 (by decide) ?_
      refine r_icmp_le (pc := 48) (tgt := 55) dX9_cutNumber_48 (by decide) (fun c12 => ?_) (fun c12 => ?_)
      · replace h := h.1 c12
        refine r_iconst (pc := 55) (v := 2) dX9_cutNumber_55 (by decide) ?_
        refine r_iload_n (pc := 56) (i := 1) dX9_cutNumber_56 rfl rfl ?_
        refine r_iload_n (pc := 57) (i := 3) dX9_cutNumber_57 rfl rfl ?_
        obtain ⟨k13, h⟩ := h
        refine r_callV (pc := 58) (ci := 9) (as := [_, _, _]) (st := []) okX9_add lkX9_44 inX9_add seX9_add ⟨_, rfl, rfl⟩ dX9_cutNumber_58 rfl k13 (Nat.le_of_ble_eq_true rfl) (Nat.zero_le _) (Nat.zero_le _) (Call.mono h (fun r14 M15 h => ?_))
        obtain ⟨rfl, h⟩ := h
        refine r_iload_n (pc := 61) (i := 2) dX9_cutNumber_61 rfl rfl ?_
        exact r_iret (pc := 62) dX9_cutNumber_62 rfl h
      · replace h := h.2 c12
        refine r_iconst (pc := 51) (v := 1) dX9_cutNumber_51 (by decide) ?_
        refine r_goto (pc := 52) (tgt := 56) dX9_cutNumber_52 (by decide) ?_
        refine r_iload_n (pc := 56) (i := 1) dX9_cutNumber_56 rfl rfl ?_
        refine r_iload_n (pc := 57) (i := 3) dX9_cutNumber_57 rfl rfl ?_
        obtain ⟨k16, h⟩ := h
        refine r_callV (pc := 58) (ci := 9) (as := [_, _, _]) (st := []) okX9_add lkX9_44 inX9_add seX9_add ⟨_, rfl, rfl⟩ dX9_cutNumber_58 rfl k16 (Nat.le_of_ble_eq_true rfl) (Nat.zero_le _) (Nat.zero_le _) (Call.mono h (fun r17 M18 h => ?_))
        obtain ⟨rfl, h⟩ := h
        refine r_iload_n (pc := 61) (i := 2) dX9_cutNumber_61 rfl rfl ?_
        exact r_iret (pc := 62) dX9_cutNumber_62 rfl h
    · replace h := h.2 c11
      refine r_iload_n (pc := 20) (i := 3) dX9_cutNumber_20 rfl rfl ?_
      refine r_bipush (pc := 21) (v := 10) dX9_cutNumber_21 (by decide) ?_
      refine r_imul (pc := 23) dX9_cutNumber_23 ?_
      refine r_aload_n (pc := 24) (i := 0) dX9_cutNumber_24 rfl rfl ?_
      refine r_iload_n (pc := 25) (i := 2) dX9_cutNumber_25 rfl rfl ?_
      obtain ⟨k19, h⟩ := h
      refine r_callV (pc := 26) (ci := 9) (as := [_]) (st := [_]) okX9_byteAt lkX9_37 inX9_byteAt seX9_byteAt ⟨_, rfl, rfl⟩ dX9_cutNumber_26 rfl k19 (Nat.le_of_ble_eq_true rfl) (Nat.zero_le _) (Nat.zero_le _) (Call.mono h (fun r20 M21 h => ?_))
      obtain ⟨v22, rfl, h⟩ := h
      refine r_iadd (pc := 29) dX9_cutNumber_29 ?_
      refine r_bipush (pc := 30) (v := 48) dX9_cutNumber_30 (by decide) ?_
      refine r_isub (pc := 32) dX9_cutNumber_32 ?_
      refine r_bipush (pc := 33) (v := 100) dX9_cutNumber_33 (by decide) ?_
      refine r_irem (pc := 35) dX9_cutNumber_35 (by decide) ?_
      refine r_istore_n (pc := 36) (i := 3) dX9_cutNumber_36 rfl rfl (Nat.le_of_ble_eq_true rfl) ?_
      refine r_iinc (pc := 37) (i := 2) (v := _ + 1) dX9_cutNumber_37 rfl rfl rfl ?_
      refine r_goto (pc := 40) (tgt := 4) dX9_cutNumber_40 (by decide) ?_
      exact h
abbrev LX9_cutLetters_2 (G : GG) (d rc rs : Nat) (p0 : Nat) (x1 : Int32) (x2 : Int32) (M : Mem) (Q : Option Value → Mem → Prop) : Prop := Wk G (d + 1) rc rs mX9_cutLetters 2 [some (.ref p0), some (.int x1), some (.int x2)] [] M Q
abbrev LX9_cutLetters_24 (G : GG) (d rc rs : Nat) (p0 : Nat) (x1 : Int32) (x2 : Int32) (M : Mem) (Q : Option Value → Mem → Prop) : Prop := Wk G (d + 1) rc rs mX9_cutLetters 24 [some (.ref p0), some (.int x1), some (.int x2)] [] M Q
abbrev LX9_cutLetters_67 (G : GG) (d rc rs : Nat) (p0 : Nat) (x1 : Int32) (x2 : Int32) (M : Mem) (Q : Option Value → Mem → Prop) : Prop := Wk G (d + 1) rc rs mX9_cutLetters 67 [some (.ref p0), some (.int x1), some (.int x2)] [] M Q
theorem eX9_cutLetters {G : GG} {d rc rs : Nat} (o : Nat) (a1 : Int32)  {M : Mem} {Q : Option Value → Mem → Prop} (h : LX9_cutLetters_2 G d rc rs o a1 a1 M Q) : Call G (d + 1) rc rs mX9_cutLetters [.ref o, .int a1] M Q := by
  refine call_of (by decide) (Nat.le_of_ble_eq_true rfl) ?_
  show Wk G (d + 1) rc rs mX9_cutLetters 0 [some (.ref o), some (.int a1), none] [] M Q
  refine r_iload_n (pc := 0) (i := 1) dX9_cutLetters_0 rfl rfl ?_
  refine r_istore_n (pc := 1) (i := 2) dX9_cutLetters_1 rfl rfl (Nat.le_of_ble_eq_true rfl) ?_
  exact h
theorem vX9_cutLetters_2 {G : GG} {d rc rs : Nat} (p0 : Nat) (x1 : Int32) (x2 : Int32)  {M : Mem} {Q : Option Value → Mem → Prop} (h : (x_h M p0).1 = 25 ∧ ((x_i M p0 4) ≤ x2 → LX9_cutLetters_24 G d rc rs p0 x1 x2 M Q) ∧ (¬ (x_i M p0 4) ≤ x2 → Call G d 0 0 mX9_isLetter [.ref p0, .int x2] M (fun r3 M4 => ∃ v5 : Int32, r3 = some (.int v5) ∧ (v5 = 0 → LX9_cutLetters_24 G d rc rs p0 x1 x2 M4 Q) ∧ (¬ v5 = 0 → LX9_cutLetters_2 G d rc rs p0 x1 (x2 + 1) M4 Q)))) : LX9_cutLetters_2 G d rc rs p0 x1 x2 M Q := by
  show Wk G (d + 1) rc rs mX9_cutLetters 2 _ _ M Q
  refine r_iload_n (pc := 2) (i := 2) dX9_cutLetters_2 rfl rfl ?_
  refine r_aload_n (pc := 3) (i := 0) dX9_cutLetters_3 rfl rfl ?_
  obtain ⟨k1, h⟩ := h
  refine r_geti (pc := 4) flX9_24 dX9_cutLetters_4 (Or.inl rfl) k1 ?_
  refine r_icmp_ge (pc := 7) (tgt := 24) dX9_cutLetters_7 (by decide) (fun c2 => ?_) (fun c2 => ?_)
  · replace h := h.1 c2
    exact h
  · replace h := h.2 c2
    refine r_aload_n (pc := 10) (i := 0) dX9_cutLetters_10 rfl rfl ?_
    refine r_iload_n (pc := 11) (i := 2) dX9_cutLetters_11 rfl rfl ?_
    refine r_callV (pc := 12) (ci := 9) (as := [_]) (st := []) okX9_isLetter lkX9_48 inX9_isLetter seX9_isLetter ⟨_, rfl, rfl⟩ dX9_cutLetters_12 rfl k1 (Nat.le_of_ble_eq_true rfl) (Nat.zero_le _) (Nat.zero_le _) (Call.mono h (fun r3 M4 h => ?_))
    obtain ⟨v5, rfl, h⟩ := h
    refine r_if_eq (pc := 15) (tgt := 24) dX9_cutLetters_15 (by decide) (fun c6 => ?_) (fun c6 => ?_)
    · replace h := h.1 c6
      exact h
    · replace h := h.2 c6
      refine r_iinc (pc := 18) (i := 2) (v := _ + 1) dX9_cutLetters_18 rfl rfl rfl ?_
      refine r_goto (pc := 21) (tgt := 2) dX9_cutLetters_21 (by decide) ?_
      exact h
theorem vX9_cutLetters_24 {G : GG} {d rc rs : Nat} (p0 : Nat) (x1 : Int32) (x2 : Int32)  {M : Mem} {Q : Option Value → Mem → Prop} (h : (¬ x2 = (x1 + 1) → LX9_cutLetters_67 G d rc rs p0 x1 x2 M Q) ∧ (x2 = (x1 + 1) → (x_h M p0).1 = 25 ∧ Call G d 0 0 mX9_byteAt [.ref p0, .int x1] M (fun r3 M4 => ∃ v5 : Int32, r3 = some (.int v5) ∧ (¬ v5 = 114 → LX9_cutLetters_67 G d rc rs p0 x1 x2 M4 Q) ∧ (v5 = 114 → (x_h M4 p0).1 = 25 ∧ Call G d 0 0 mX9_isDigit [.ref p0, .int x2] M4 (fun r8 M9 => ∃ v10 : Int32, r8 = some (.int v10) ∧ (v10 = 0 → LX9_cutLetters_67 G d rc rs p0 x1 x2 M9 Q) ∧ (¬ v10 = 0 → (x_h M9 p0).1 = 25 ∧ Call G d 0 0 mX9_byteAt [.ref p0, .int x2] M9 (fun r13 M14 => ∃ v15 : Int32, r13 = some (.int v15) ∧ (x_h M14 p0).1 = 25 ∧ Call G d 0 0 mX9_add [.ref p0, .int 4, .int x1, .int (v15 - 48)] M14 (fun r17 M18 => r17 = none ∧ Q (some (.int (x2 + 1))) M18)))))))) : LX9_cutLetters_24 G d rc rs p0 x1 x2 M Q := by
  show Wk G (d + 1) rc rs mX9_cutLetters 24 _ _ M Q
  refine r_iload_n (pc := 24) (i := 2) dX9_cutLetters_24 rfl rfl ?_
  refine r_iload_n (pc := 25) (i := 1) dX9_cutLetters_25 rfl rfl ?_
  refine r_iconst (pc := 26) (v := 1) dX9_cutLetters_26 (by decide) ?_
  refine r_iadd (pc := 27) dX9_cutLetters_27 ?_
  refine r_icmp_ne (pc := 28) (tgt := 67) dX9_cutLetters_28 (by decide) (fun c1 => ?_) (fun c1 => ?_)
  · replace h := h.1 c1
    exact h
  · replace h := h.2 c1
    refine r_aload_n (pc := 31) (i := 0) dX9_cutLetters_31 rfl rfl ?_
    refine r_iload_n (pc := 32) (i := 1) dX9_cutLetters_32 rfl rfl ?_
    obtain ⟨k2, h⟩ := h
    refine r_callV (pc := 33) (ci := 9) (as := [_]) (st := []) okX9_byteAt lkX9_37 inX9_byteAt seX9_byteAt ⟨_, rfl, rfl⟩ dX9_cutLetters_33 rfl k2 (Nat.le_of_ble_eq_true rfl) (Nat.zero_le _) (Nat.zero_le _) (Call.mono h (fun r3 M4 h => ?_))
    obtain ⟨v5, rfl, h⟩ := h
    refine r_bipush (pc := 36) (v := 114) dX9_cutLetters_36 (by decide) ?_
    refine r_icmp_ne (pc := 38) (tgt := 67) dX9_cutLetters_38 (by decide) (fun c6 => ?_) (fun c6 => ?_)
    · replace h := h.1 c6
      exact h
    · replace h := h.2 c6
      refine r_aload_n (pc := 41) (i := 0) dX9_cutLetters_41 rfl rfl ?_
      refine r_iload_n (pc := 42) (i := 2) dX9_cutLetters_42 rfl rfl ?_
      obtain ⟨k7, h⟩ := h
      refine r_callV (pc := 43) (ci := 9) (as := [_]) (st := []) okX9_isDigit lkX9_55 inX9_isDigit seX9_isDigit ⟨_, rfl, rfl⟩ dX9_cutLetters_43 rfl k7 (Nat.le_of_ble_eq_true rfl) (Nat.zero_le _) (Nat.zero_le _) (Call.mono h (fun r8 M9 h => ?_))
      obtain ⟨v10, rfl, h⟩ := h
      refine r_if_eq (pc := 46) (tgt := 67) dX9_cutLetters_46 (by decide) (fun c11 => ?_) (fun c11 => ?_)
      · replace h := h.1 c11
        exact h
      · replace h := h.2 c11
        refine r_aload_n (pc := 49) (i := 0) dX9_cutLetters_49 rfl rfl ?_
        refine r_iconst (pc := 50) (v := 4) dX9_cutLetters_50 (by decide) ?_
        refine r_iload_n (pc := 51) (i := 1) dX9_cutLetters_51 rfl rfl ?_
        refine r_aload_n (pc := 52) (i := 0) dX9_cutLetters_52 rfl rfl ?_
        refine r_iload_n (pc := 53) (i := 2) dX9_cutLetters_53 rfl rfl ?_
        obtain ⟨k12, h⟩ := h
        refine r_callV (pc := 54) (ci := 9) (as := [_]) (st := [_, _, _]) okX9_byteAt lkX9_37 inX9_byteAt seX9_byteAt ⟨_, rfl, rfl⟩ dX9_cutLetters_54 rfl k12 (Nat.le_of_ble_eq_true rfl) (Nat.zero_le _) (Nat.zero_le _) (Call.mono h (fun r13 M14 h => ?_))
        obtain ⟨v15, rfl, h⟩ := h
        refine r_bipush (pc := 57) (v := 48) dX9_cutLetters_57 (by decide) ?_
        refine r_isub (pc := 59) dX9_cutLetters_59 ?_
        obtain ⟨k16, h⟩ := h
        refine r_callV (pc := 60) (ci := 9) (as := [_, _, _]) (st := []) okX9_add lkX9_44 inX9_add seX9_add ⟨_, rfl, rfl⟩ dX9_cutLetters_60 rfl k16 (Nat.le_of_ble_eq_true rfl) (Nat.zero_le _) (Nat.zero_le _) (Call.mono h (fun r17 M18 h => ?_))
        obtain ⟨rfl, h⟩ := h
        refine r_iload_n (pc := 63) (i := 2) dX9_cutLetters_63 rfl rfl ?_
        refine r_iconst (pc := 64) (v := 1) dX9_cutLetters_64 (by decide) ?_
        refine r_iadd (pc := 65) dX9_cutLetters_65 ?_
        exact r_iret (pc := 66) dX9_cutLetters_66 rfl h
theorem vX9_cutLetters_67 {G : GG} {d rc rs : Nat} (p0 : Nat) (x1 : Int32) (x2 : Int32)  {M : Mem} {Q : Option Value → Mem → Prop} (h : (¬ x2 = (x1 + 1) → (x_h M p0).1 = 25 ∧ Call G d 0 0 mX9_key [.ref p0, .int x1, .int x2] M (fun r3 M4 => ∃ v5 : Int32, r3 = some (.int v5) ∧ (x_h M4 p0).1 = 25 ∧ Call G d 0 0 mX9_add [.ref p0, .int v5, .int x1, .int 0] M4 (fun r7 M8 => r7 = none ∧ Q (some (.int x2)) M8))) ∧ (x2 = (x1 + 1) → (x_h M p0).1 = 25 ∧ Call G d 0 0 mX9_byteAt [.ref p0, .int x1] M (fun r10 M11 => ∃ v12 : Int32, r10 = some (.int v12) ∧ (104 < v12 → (x_h M11 p0).1 = 25 ∧ Call G d 0 0 mX9_key [.ref p0, .int x1, .int x2] M11 (fun r15 M16 => ∃ v17 : Int32, r15 = some (.int v17) ∧ (x_h M16 p0).1 = 25 ∧ Call G d 0 0 mX9_add [.ref p0, .int v17, .int x1, .int 0] M16 (fun r19 M20 => r19 = none ∧ Q (some (.int x2)) M20))) ∧ (¬ 104 < v12 → (x_h M11 p0).1 = 25 ∧ Call G d 0 0 mX9_byteAt [.ref p0, .int x1] M11 (fun r22 M23 => ∃ v24 : Int32, r22 = some (.int v24) ∧ (x_h M23 p0).1 = 25 ∧ Call G d 0 0 mX9_add [.ref p0, .int 3, .int x1, .int (v24 - 97)] M23 (fun r26 M27 => r26 = none ∧ Q (some (.int x2)) M27)))))) : LX9_cutLetters_67 G d rc rs p0 x1 x2 M Q := by
  show Wk G (d + 1) rc rs mX9_cutLetters 67 _ _ M Q
  refine r_iload_n (pc := 67) (i := 2) dX9_cutLetters_67 rfl rfl ?_
  refine r_iload_n (pc := 68) (i := 1) dX9_cutLetters_68 rfl rfl ?_
  refine r_iconst (pc := 69) (v := 1) dX9_cutLetters_69 (by decide) ?_
  refine r_iadd (pc := 70) dX9_cutLetters_70 ?_
  refine r_icmp_ne (pc := 71) (tgt := 100) dX9_cutLetters_71 (by decide) (fun c1 => ?_) (fun c1 => ?_)
  · replace h := h.1 c1
    refine r_aload_n (pc := 100) (i := 0) dX9_cutLetters_100 rfl rfl ?_
    refine r_aload_n (pc := 101) (i := 0) dX9_cutLetters_101 rfl rfl ?_
    refine r_iload_n (pc := 102) (i := 1) dX9_cutLetters_102 rfl rfl ?_
    refine r_iload_n (pc := 103) (i := 2) dX9_cutLetters_103 rfl rfl ?_
    obtain ⟨k2, h⟩ := h
    refine r_callV (pc := 104) (ci := 9) (as := [_, _]) (st := [_]) okX9_key lkX9_64 inX9_key seX9_key ⟨_, rfl, rfl⟩ dX9_cutLetters_104 rfl k2 (Nat.le_of_ble_eq_true rfl) (Nat.zero_le _) (Nat.zero_le _) (Call.mono h (fun r3 M4 h => ?_))
    obtain ⟨v5, rfl, h⟩ := h
    refine r_iload_n (pc := 107) (i := 1) dX9_cutLetters_107 rfl rfl ?_
    refine r_iconst (pc := 108) (v := 0) dX9_cutLetters_108 (by decide) ?_
    obtain ⟨k6, h⟩ := h
    refine r_callV (pc := 109) (ci := 9) (as := [_, _, _]) (st := []) okX9_add lkX9_44 inX9_add seX9_add ⟨_, rfl, rfl⟩ dX9_cutLetters_109 rfl k6 (Nat.le_of_ble_eq_true rfl) (Nat.zero_le _) (Nat.zero_le _) (Call.mono h (fun r7 M8 h => ?_))
    obtain ⟨rfl, h⟩ := h
    refine r_iload_n (pc := 112) (i := 2) dX9_cutLetters_112 rfl rfl ?_
    exact r_iret (pc := 113) dX9_cutLetters_113 rfl h
  · replace h := h.2 c1
    refine r_aload_n (pc := 74) (i := 0) dX9_cutLetters_74 rfl rfl ?_
    refine r_iload_n (pc := 75) (i := 1) dX9_cutLetters_75 rfl rfl ?_
    obtain ⟨k9, h⟩ := h
    refine r_callV (pc := 76) (ci := 9) (as := [_]) (st := []) okX9_byteAt lkX9_37 inX9_byteAt seX9_byteAt ⟨_, rfl, rfl⟩ dX9_cutLetters_76 rfl k9 (Nat.le_of_ble_eq_true rfl) (Nat.zero_le _) (Nat.zero_le _) (Call.mono h (fun r10 M11 h => ?_))
    obtain ⟨v12, rfl, h⟩ := h
    refine r_bipush (pc := 79) (v := 104) dX9_cutLetters_79 (by decide) ?_
    refine r_icmp_gt (pc := 81) (tgt := 100) dX9_cutLetters_81 (by decide) (fun c13 => ?_) (fun c13 => ?_)
    · replace h := h.1 c13
      refine r_aload_n (pc := 100) (i := 0) dX9_cutLetters_100 rfl rfl ?_
      refine r_aload_n (pc := 101) (i := 0) dX9_cutLetters_101 rfl rfl ?_
      refine r_iload_n (pc := 102) (i := 1) dX9_cutLetters_102 rfl rfl ?_
      refine r_iload_n (pc := 103) (i := 2) dX9_cutLetters_103 rfl rfl ?_
      obtain ⟨k14, h⟩ := h
      refine r_callV (pc := 104) (ci := 9) (as := [_, _]) (st := [_]) okX9_key lkX9_64 inX9_key seX9_key ⟨_, rfl, rfl⟩ dX9_cutLetters_104 rfl k14 (Nat.le_of_ble_eq_true rfl) (Nat.zero_le _) (Nat.zero_le _) (Call.mono h (fun r15 M16 h => ?_))
      obtain ⟨v17, rfl, h⟩ := h
      refine r_iload_n (pc := 107) (i := 1) dX9_cutLetters_107 rfl rfl ?_
      refine r_iconst (pc := 108) (v := 0) dX9_cutLetters_108 (by decide) ?_
      obtain ⟨k18, h⟩ := h
      refine r_callV (pc := 109) (ci := 9) (as := [_, _, _]) (st := []) okX9_add lkX9_44 inX9_add seX9_add ⟨_, rfl, rfl⟩ dX9_cutLetters_109 rfl k18 (Nat.le_of_ble_eq_true rfl) (Nat.zero_le _) (Nat.zero_le _) (Call.mono h (fun r19 M20 h => ?_))
      obtain ⟨rfl, h⟩ := h
      refine r_iload_n (pc := 112) (i := 2) dX9_cutLetters_112 rfl rfl ?_
      exact r_iret (pc := 113) dX9_cutLetters_113 rfl h
    · replace h := h.2 c13
      refine r_aload_n (pc := 84) (i := 0) dX9_cutLetters_84 rfl rfl ?_
      refine r_iconst (pc := 85) (v := 3) dX9_cutLetters_85 (by decide) ?_
      refine r_iload_n (pc := 86) (i := 1) dX9_cutLetters_86 rfl rfl ?_
      refine r_aload_n (pc := 87) (i := 0) dX9_cutLetters_87 rfl rfl ?_
      refine r_iload_n (pc := 88) (i := 1) dX9_cutLetters_88 rfl rfl ?_
      obtain ⟨k21, h⟩ := h
      refine r_callV (pc := 89) (ci := 9) (as := [_]) (st := [_, _, _]) okX9_byteAt lkX9_37 inX9_byteAt seX9_byteAt ⟨_, rfl, rfl⟩ dX9_cutLetters_89 rfl k21 (Nat.le_of_ble_eq_true rfl) (Nat.zero_le _) (Nat.zero_le _) (Call.mono h (fun r22 M23 h => ?_))
      obtain ⟨v24, rfl, h⟩ := h
      refine r_bipush (pc := 92) (v := 97) dX9_cutLetters_92 (by decide) ?_
      refine r_isub (pc := 94) dX9_cutLetters_94 ?_
      obtain ⟨k25, h⟩ := h
      refine r_callV (pc := 95) (ci := 9) (as := [_, _, _]) (st := []) okX9_add lkX9_44 inX9_add seX9_add ⟨_, rfl, rfl⟩ dX9_cutLetters_95 rfl k25 (Nat.le_of_ble_eq_true rfl) (Nat.zero_le _) (Nat.zero_le _) (Call.mono h (fun r26 M27 h => ?_))
      obtain ⟨rfl, h⟩ := h
      refine r_iload_n (pc := 98) (i := 2) dX9_cutLetters_98 rfl rfl ?_
      exact r_iret (pc := 99) dX9_cutLetters_99 rfl h
