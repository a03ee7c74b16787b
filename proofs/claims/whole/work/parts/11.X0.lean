/-! EndlessRows$Acts: decode rows and verification conditions, by program -/
theorem dX0_init_0 : decode cX0_init 0 = .ok (.aload_n 0, 1) := by decide +kernel
theorem dX0_init_1 : decode cX0_init 1 = .ok (.invokespecial 3, 3) := by decide +kernel
theorem dX0_init_4 : decode cX0_init 4 = .ok (.aload_n 0, 1) := by decide +kernel
theorem dX0_init_5 : decode cX0_init 5 = .ok (.bipush 50, 2) := by decide +kernel
theorem dX0_init_7 : decode cX0_init 7 = .ok (.newarray .int, 2) := by decide +kernel
theorem dX0_init_9 : decode cX0_init 9 = .ok (.putfield 11, 3) := by decide +kernel
theorem dX0_init_12 : decode cX0_init 12 = .ok (.aload_n 0, 1) := by decide +kernel
theorem dX0_init_13 : decode cX0_init 13 = .ok (.iconst 0, 1) := by decide +kernel
theorem dX0_init_14 : decode cX0_init 14 = .ok (.putfield 15, 3) := by decide +kernel
theorem dX0_init_17 : decode cX0_init 17 = .ok (.aload_n 0, 1) := by decide +kernel
theorem dX0_init_18 : decode cX0_init 18 = .ok (.iconst 0, 1) := by decide +kernel
theorem dX0_init_19 : decode cX0_init 19 = .ok (.putfield 19, 3) := by decide +kernel
theorem dX0_init_22 : decode cX0_init 22 = .ok (.aload_n 0, 1) := by decide +kernel
theorem dX0_init_23 : decode cX0_init 23 = .ok (.iconst 0, 1) := by decide +kernel
theorem dX0_init_24 : decode cX0_init 24 = .ok (.putfield 22, 3) := by decide +kernel
theorem dX0_init_27 : decode cX0_init 27 = .ok (.aload_n 0, 1) := by decide +kernel
theorem dX0_init_28 : decode cX0_init 28 = .ok (.iconst 0, 1) := by decide +kernel
theorem dX0_init_29 : decode cX0_init 29 = .ok (.putfield 25, 3) := by decide +kernel
theorem dX0_init_32 : decode cX0_init 32 = .ok (.return_, 1) := by decide +kernel
theorem dX0_run_0 : decode cX0_run 0 = .ok (.aload_n 0, 1) := by decide +kernel
theorem dX0_run_1 : decode cX0_run 1 = .ok (.iload_n 1, 1) := by decide +kernel
theorem dX0_run_2 : decode cX0_run 2 = .ok (.putfield 19, 3) := by decide +kernel
theorem dX0_run_5 : decode cX0_run 5 = .ok (.aload_n 0, 1) := by decide +kernel
theorem dX0_run_6 : decode cX0_run 6 = .ok (.iload_n 2, 1) := by decide +kernel
theorem dX0_run_7 : decode cX0_run 7 = .ok (.putfield 22, 3) := by decide +kernel
theorem dX0_run_10 : decode cX0_run 10 = .ok (.aload_n 0, 1) := by decide +kernel
theorem dX0_run_11 : decode cX0_run 11 = .ok (.iload_n 3, 1) := by decide +kernel
theorem dX0_run_12 : decode cX0_run 12 = .ok (.putfield 25, 3) := by decide +kernel
theorem dX0_run_15 : decode cX0_run 15 = .ok (.aload_n 0, 1) := by decide +kernel
theorem dX0_run_16 : decode cX0_run 16 = .ok (.iconst 0, 1) := by decide +kernel
theorem dX0_run_17 : decode cX0_run 17 = .ok (.putfield 15, 3) := by decide +kernel
theorem dX0_run_20 : decode cX0_run 20 = .ok (.iload 4, 2) := by decide +kernel
theorem dX0_run_22 : decode cX0_run 22 = .ok (.tableswitch 47 0 2 #[26, 33, 40], 26) := by decide +kernel
theorem dX0_run_48 : decode cX0_run 48 = .ok (.aload_n 0, 1) := by decide +kernel
theorem dX0_run_49 : decode cX0_run 49 = .ok (.iload 5, 2) := by decide +kernel
theorem dX0_run_51 : decode cX0_run 51 = .ok (.invokevirtual 28, 3) := by decide +kernel
theorem dX0_run_54 : decode cX0_run 54 = .ok (.ireturn, 1) := by decide +kernel
theorem dX0_run_55 : decode cX0_run 55 = .ok (.aload_n 0, 1) := by decide +kernel
theorem dX0_run_56 : decode cX0_run 56 = .ok (.iload 5, 2) := by decide +kernel
theorem dX0_run_58 : decode cX0_run 58 = .ok (.invokevirtual 32, 3) := by decide +kernel
theorem dX0_run_61 : decode cX0_run 61 = .ok (.ireturn, 1) := by decide +kernel
theorem dX0_run_62 : decode cX0_run 62 = .ok (.aload_n 0, 1) := by decide +kernel
theorem dX0_run_63 : decode cX0_run 63 = .ok (.iload 5, 2) := by decide +kernel
theorem dX0_run_65 : decode cX0_run 65 = .ok (.invokevirtual 35, 3) := by decide +kernel
theorem dX0_run_68 : decode cX0_run 68 = .ok (.ireturn, 1) := by decide +kernel
theorem dX0_run_69 : decode cX0_run 69 = .ok (.aload_n 0, 1) := by decide +kernel
theorem dX0_run_70 : decode cX0_run 70 = .ok (.iload 5, 2) := by decide +kernel
theorem dX0_run_72 : decode cX0_run 72 = .ok (.invokevirtual 38, 3) := by decide +kernel
theorem dX0_run_75 : decode cX0_run 75 = .ok (.ireturn, 1) := by decide +kernel
theorem dX0_ran_0 : decode cX0_ran 0 = .ok (.aload_n 0, 1) := by decide +kernel
theorem dX0_ran_1 : decode cX0_ran 1 = .ok (.getfield 15, 3) := by decide +kernel
theorem dX0_ran_4 : decode cX0_ran 4 = .ok (.bipush 50, 2) := by decide +kernel
theorem dX0_ran_6 : decode cX0_ran 6 = .ok (.if_icmp .ge 23, 3) := by decide +kernel
theorem dX0_ran_9 : decode cX0_ran 9 = .ok (.aload_n 0, 1) := by decide +kernel
theorem dX0_ran_10 : decode cX0_ran 10 = .ok (.getfield 11, 3) := by decide +kernel
theorem dX0_ran_13 : decode cX0_ran 13 = .ok (.aload_n 0, 1) := by decide +kernel
theorem dX0_ran_14 : decode cX0_ran 14 = .ok (.getfield 15, 3) := by decide +kernel
theorem dX0_ran_17 : decode cX0_ran 17 = .ok (.iload_n 1, 1) := by decide +kernel
theorem dX0_ran_18 : decode cX0_ran 18 = .ok (.iastore, 1) := by decide +kernel
theorem dX0_ran_19 : decode cX0_ran 19 = .ok (.aload_n 0, 1) := by decide +kernel
theorem dX0_ran_20 : decode cX0_ran 20 = .ok (.dup, 1) := by decide +kernel
theorem dX0_ran_21 : decode cX0_ran 21 = .ok (.getfield 15, 3) := by decide +kernel
theorem dX0_ran_24 : decode cX0_ran 24 = .ok (.iconst 1, 1) := by decide +kernel
theorem dX0_ran_25 : decode cX0_ran 25 = .ok (.iadd, 1) := by decide +kernel
theorem dX0_ran_26 : decode cX0_ran 26 = .ok (.putfield 15, 3) := by decide +kernel
theorem dX0_ran_29 : decode cX0_ran 29 = .ok (.return_, 1) := by decide +kernel
theorem dX0_isGrown_0 : decode cX0_isGrown 0 = .ok (.aload_n 0, 1) := by decide +kernel
theorem dX0_isGrown_1 : decode cX0_isGrown 1 = .ok (.getfield 19, 3) := by decide +kernel
theorem dX0_isGrown_4 : decode cX0_isGrown 4 = .ok (.iconst 1, 1) := by decide +kernel
theorem dX0_isGrown_5 : decode cX0_isGrown 5 = .ok (.if_icmp .eq 11, 3) := by decide +kernel
theorem dX0_isGrown_8 : decode cX0_isGrown 8 = .ok (.aload_n 0, 1) := by decide +kernel
theorem dX0_isGrown_9 : decode cX0_isGrown 9 = .ok (.getfield 19, 3) := by decide +kernel
theorem dX0_isGrown_12 : decode cX0_isGrown 12 = .ok (.iconst 2, 1) := by decide +kernel
theorem dX0_isGrown_13 : decode cX0_isGrown 13 = .ok (.if_icmp .ne 7, 3) := by decide +kernel
theorem dX0_isGrown_16 : decode cX0_isGrown 16 = .ok (.iconst 1, 1) := by decide +kernel
theorem dX0_isGrown_17 : decode cX0_isGrown 17 = .ok (.goto 4, 3) := by decide +kernel
theorem dX0_isGrown_20 : decode cX0_isGrown 20 = .ok (.iconst 0, 1) := by decide +kernel
theorem dX0_isGrown_21 : decode cX0_isGrown 21 = .ok (.ireturn, 1) := by decide +kernel
theorem dX0_reading_0 : decode cX0_reading 0 = .ok (.aload_n 0, 1) := by decide +kernel
theorem dX0_reading_1 : decode cX0_reading 1 = .ok (.invokevirtual 41, 3) := by decide +kernel
theorem dX0_reading_4 : decode cX0_reading 4 = .ok (.ifCond .eq 9, 3) := by decide +kernel
theorem dX0_reading_7 : decode cX0_reading 7 = .ok (.aload_n 0, 1) := by decide +kernel
theorem dX0_reading_8 : decode cX0_reading 8 = .ok (.bipush 20, 2) := by decide +kernel
theorem dX0_reading_10 : decode cX0_reading 10 = .ok (.invokevirtual 45, 3) := by decide +kernel
theorem dX0_reading_13 : decode cX0_reading 13 = .ok (.aload_n 0, 1) := by decide +kernel
theorem dX0_reading_14 : decode cX0_reading 14 = .ok (.bipush 10, 2) := by decide +kernel
theorem dX0_reading_16 : decode cX0_reading 16 = .ok (.invokevirtual 45, 3) := by decide +kernel
theorem dX0_reading_19 : decode cX0_reading 19 = .ok (.iload_n 1, 1) := by decide +kernel
theorem dX0_reading_20 : decode cX0_reading 20 = .ok (.aload_n 0, 1) := by decide +kernel
theorem dX0_reading_21 : decode cX0_reading 21 = .ok (.getfield 22, 3) := by decide +kernel
theorem dX0_reading_24 : decode cX0_reading 24 = .ok (.iadd, 1) := by decide +kernel
theorem dX0_reading_25 : decode cX0_reading 25 = .ok (.istore_n 2, 1) := by decide +kernel
theorem dX0_reading_26 : decode cX0_reading 26 = .ok (.aload_n 0, 1) := by decide +kernel
theorem dX0_reading_27 : decode cX0_reading 27 = .ok (.invokevirtual 41, 3) := by decide +kernel
theorem dX0_reading_30 : decode cX0_reading 30 = .ok (.ifCond .eq 9, 3) := by decide +kernel
theorem dX0_reading_33 : decode cX0_reading 33 = .ok (.iload_n 2, 1) := by decide +kernel
theorem dX0_reading_34 : decode cX0_reading 34 = .ok (.iconst 2, 1) := by decide +kernel
theorem dX0_reading_35 : decode cX0_reading 35 = .ok (.imul, 1) := by decide +kernel
theorem dX0_reading_36 : decode cX0_reading 36 = .ok (.goto 4, 3) := by decide +kernel
theorem dX0_reading_39 : decode cX0_reading 39 = .ok (.iload_n 2, 1) := by decide +kernel
theorem dX0_reading_40 : decode cX0_reading 40 = .ok (.ireturn, 1) := by decide +kernel
theorem dX0_stepping_0 : decode cX0_stepping 0 = .ok (.iload_n 1, 1) := by decide +kernel
theorem dX0_stepping_1 : decode cX0_stepping 1 = .ok (.istore_n 2, 1) := by decide +kernel
theorem dX0_stepping_2 : decode cX0_stepping 2 = .ok (.aload_n 0, 1) := by decide +kernel
theorem dX0_stepping_3 : decode cX0_stepping 3 = .ok (.getfield 19, 3) := by decide +kernel
theorem dX0_stepping_6 : decode cX0_stepping 6 = .ok (.iconst 2, 1) := by decide +kernel
theorem dX0_stepping_7 : decode cX0_stepping 7 = .ok (.if_icmp .ne 9, 3) := by decide +kernel
theorem dX0_stepping_10 : decode cX0_stepping 10 = .ok (.aload_n 0, 1) := by decide +kernel
theorem dX0_stepping_11 : decode cX0_stepping 11 = .ok (.bipush 30, 2) := by decide +kernel
theorem dX0_stepping_13 : decode cX0_stepping 13 = .ok (.invokevirtual 45, 3) := by decide +kernel
theorem dX0_stepping_16 : decode cX0_stepping 16 = .ok (.aload_n 0, 1) := by decide +kernel
theorem dX0_stepping_17 : decode cX0_stepping 17 = .ok (.getfield 19, 3) := by decide +kernel
theorem dX0_stepping_20 : decode cX0_stepping 20 = .ok (.iconst 4, 1) := by decide +kernel
theorem dX0_stepping_21 : decode cX0_stepping 21 = .ok (.if_icmp .ne 13, 3) := by decide +kernel
theorem dX0_stepping_24 : decode cX0_stepping 24 = .ok (.aload_n 0, 1) := by decide +kernel
theorem dX0_stepping_25 : decode cX0_stepping 25 = .ok (.bipush 50, 2) := by decide +kernel
theorem dX0_stepping_27 : decode cX0_stepping 27 = .ok (.invokevirtual 45, 3) := by decide +kernel
theorem dX0_stepping_30 : decode cX0_stepping 30 = .ok (.iload_n 1, 1) := by decide +kernel
theorem dX0_stepping_31 : decode cX0_stepping 31 = .ok (.iconst 1, 1) := by decide +kernel
theorem dX0_stepping_32 : decode cX0_stepping 32 = .ok (.isub, 1) := by decide +kernel
theorem dX0_stepping_33 : decode cX0_stepping 33 = .ok (.istore_n 2, 1) := by decide +kernel
theorem dX0_stepping_34 : decode cX0_stepping 34 = .ok (.aload_n 0, 1) := by decide +kernel
theorem dX0_stepping_35 : decode cX0_stepping 35 = .ok (.bipush 11, 2) := by decide +kernel
theorem dX0_stepping_37 : decode cX0_stepping 37 = .ok (.invokevirtual 45, 3) := by decide +kernel
theorem dX0_stepping_40 : decode cX0_stepping 40 = .ok (.aload_n 0, 1) := by decide +kernel
theorem dX0_stepping_41 : decode cX0_stepping 41 = .ok (.iload_n 2, 1) := by decide +kernel
theorem dX0_stepping_42 : decode cX0_stepping 42 = .ok (.invokevirtual 28, 3) := by decide +kernel
theorem dX0_stepping_45 : decode cX0_stepping 45 = .ok (.iconst 3, 1) := by decide +kernel
theorem dX0_stepping_46 : decode cX0_stepping 46 = .ok (.imul, 1) := by decide +kernel
theorem dX0_stepping_47 : decode cX0_stepping 47 = .ok (.istore_n 3, 1) := by decide +kernel
theorem dX0_stepping_48 : decode cX0_stepping 48 = .ok (.aload_n 0, 1) := by decide +kernel
theorem dX0_stepping_49 : decode cX0_stepping 49 = .ok (.getfield 19, 3) := by decide +kernel
theorem dX0_stepping_52 : decode cX0_stepping 52 = .ok (.iconst 2, 1) := by decide +kernel
theorem dX0_stepping_53 : decode cX0_stepping 53 = .ok (.if_icmp .ne 9, 3) := by decide +kernel
theorem dX0_stepping_56 : decode cX0_stepping 56 = .ok (.iload_n 3, 1) := by decide +kernel
theorem dX0_stepping_57 : decode cX0_stepping 57 = .ok (.iconst 5, 1) := by decide +kernel
theorem dX0_stepping_58 : decode cX0_stepping 58 = .ok (.iadd, 1) := by decide +kernel
theorem dX0_stepping_59 : decode cX0_stepping 59 = .ok (.goto 4, 3) := by decide +kernel
theorem dX0_stepping_62 : decode cX0_stepping 62 = .ok (.iload_n 3, 1) := by decide +kernel
theorem dX0_stepping_63 : decode cX0_stepping 63 = .ok (.ireturn, 1) := by decide +kernel
theorem dX0_joining_0 : decode cX0_joining 0 = .ok (.aload_n 0, 1) := by decide +kernel
theorem dX0_joining_1 : decode cX0_joining 1 = .ok (.getfield 19, 3) := by decide +kernel
theorem dX0_joining_4 : decode cX0_joining 4 = .ok (.iconst 2, 1) := by decide +kernel
theorem dX0_joining_5 : decode cX0_joining 5 = .ok (.if_icmp .ne 9, 3) := by decide +kernel
theorem dX0_joining_8 : decode cX0_joining 8 = .ok (.aload_n 0, 1) := by decide +kernel
theorem dX0_joining_9 : decode cX0_joining 9 = .ok (.bipush 31, 2) := by decide +kernel
theorem dX0_joining_11 : decode cX0_joining 11 = .ok (.invokevirtual 45, 3) := by decide +kernel
theorem dX0_joining_14 : decode cX0_joining 14 = .ok (.aload_n 0, 1) := by decide +kernel
theorem dX0_joining_15 : decode cX0_joining 15 = .ok (.getfield 19, 3) := by decide +kernel
theorem dX0_joining_18 : decode cX0_joining 18 = .ok (.iconst 3, 1) := by decide +kernel
theorem dX0_joining_19 : decode cX0_joining 19 = .ok (.if_icmp .ne 9, 3) := by decide +kernel
theorem dX0_joining_22 : decode cX0_joining 22 = .ok (.aload_n 0, 1) := by decide +kernel
theorem dX0_joining_23 : decode cX0_joining 23 = .ok (.bipush 40, 2) := by decide +kernel
theorem dX0_joining_25 : decode cX0_joining 25 = .ok (.invokevirtual 45, 3) := by decide +kernel
theorem dX0_joining_28 : decode cX0_joining 28 = .ok (.aload_n 0, 1) := by decide +kernel
theorem dX0_joining_29 : decode cX0_joining 29 = .ok (.bipush 12, 2) := by decide +kernel
theorem dX0_joining_31 : decode cX0_joining 31 = .ok (.invokevirtual 45, 3) := by decide +kernel
theorem dX0_joining_34 : decode cX0_joining 34 = .ok (.iload_n 1, 1) := by decide +kernel
theorem dX0_joining_35 : decode cX0_joining 35 = .ok (.aload_n 0, 1) := by decide +kernel
theorem dX0_joining_36 : decode cX0_joining 36 = .ok (.getfield 25, 3) := by decide +kernel
theorem dX0_joining_39 : decode cX0_joining 39 = .ok (.ixor, 1) := by decide +kernel
theorem dX0_joining_40 : decode cX0_joining 40 = .ok (.istore_n 2, 1) := by decide +kernel
theorem dX0_joining_41 : decode cX0_joining 41 = .ok (.aload_n 0, 1) := by decide +kernel
theorem dX0_joining_42 : decode cX0_joining 42 = .ok (.getfield 19, 3) := by decide +kernel
theorem dX0_joining_45 : decode cX0_joining 45 = .ok (.iconst 2, 1) := by decide +kernel
theorem dX0_joining_46 : decode cX0_joining 46 = .ok (.if_icmp .ne 7, 3) := by decide +kernel
theorem dX0_joining_49 : decode cX0_joining 49 = .ok (.iload_n 2, 1) := by decide +kernel
theorem dX0_joining_50 : decode cX0_joining 50 = .ok (.iload_n 1, 1) := by decide +kernel
theorem dX0_joining_51 : decode cX0_joining 51 = .ok (.isub, 1) := by decide +kernel
theorem dX0_joining_52 : decode cX0_joining 52 = .ok (.ireturn, 1) := by decide +kernel
theorem dX0_joining_53 : decode cX0_joining 53 = .ok (.aload_n 0, 1) := by decide +kernel
theorem dX0_joining_54 : decode cX0_joining 54 = .ok (.getfield 19, 3) := by decide +kernel
theorem dX0_joining_57 : decode cX0_joining 57 = .ok (.iconst 3, 1) := by decide +kernel
theorem dX0_joining_58 : decode cX0_joining 58 = .ok (.if_icmp .ne 12, 3) := by decide +kernel
theorem dX0_joining_61 : decode cX0_joining 61 = .ok (.iload_n 2, 1) := by decide +kernel
theorem dX0_joining_62 : decode cX0_joining 62 = .ok (.aload_n 0, 1) := by decide +kernel
theorem dX0_joining_63 : decode cX0_joining 63 = .ok (.getfield 22, 3) := by decide +kernel
theorem dX0_joining_66 : decode cX0_joining 66 = .ok (.imul, 1) := by decide +kernel
theorem dX0_joining_67 : decode cX0_joining 67 = .ok (.goto 4, 3) := by decide +kernel
theorem dX0_joining_70 : decode cX0_joining 70 = .ok (.iload_n 2, 1) := by decide +kernel
theorem dX0_joining_71 : decode cX0_joining 71 = .ok (.ireturn, 1) := by decide +kernel
theorem dX0_telling_0 : decode cX0_telling 0 = .ok (.iload_n 1, 1) := by decide +kernel
theorem dX0_telling_1 : decode cX0_telling 1 = .ok (.istore_n 2, 1) := by decide +kernel
theorem dX0_telling_2 : decode cX0_telling 2 = .ok (.iconst 0, 1) := by decide +kernel
theorem dX0_telling_3 : decode cX0_telling 3 = .ok (.istore_n 3, 1) := by decide +kernel
theorem dX0_telling_4 : decode cX0_telling 4 = .ok (.aload_n 0, 1) := by decide +kernel
theorem dX0_telling_5 : decode cX0_telling 5 = .ok (.invokevirtual 41, 3) := by decide +kernel
theorem dX0_telling_8 : decode cX0_telling 8 = .ok (.ifCond .eq 13, 3) := by decide +kernel
theorem dX0_telling_11 : decode cX0_telling 11 = .ok (.aload_n 0, 1) := by decide +kernel
theorem dX0_telling_12 : decode cX0_telling 12 = .ok (.bipush 21, 2) := by decide +kernel
theorem dX0_telling_14 : decode cX0_telling 14 = .ok (.invokevirtual 45, 3) := by decide +kernel
theorem dX0_telling_17 : decode cX0_telling 17 = .ok (.iload_n 1, 1) := by decide +kernel
theorem dX0_telling_18 : decode cX0_telling 18 = .ok (.iconst 1, 1) := by decide +kernel
theorem dX0_telling_19 : decode cX0_telling 19 = .ok (.iadd, 1) := by decide +kernel
theorem dX0_telling_20 : decode cX0_telling 20 = .ok (.istore_n 2, 1) := by decide +kernel
theorem dX0_telling_21 : decode cX0_telling 21 = .ok (.aload_n 0, 1) := by decide +kernel
theorem dX0_telling_22 : decode cX0_telling 22 = .ok (.getfield 19, 3) := by decide +kernel
theorem dX0_telling_25 : decode cX0_telling 25 = .ok (.iconst 4, 1) := by decide +kernel
theorem dX0_telling_26 : decode cX0_telling 26 = .ok (.if_icmp .ne 15, 3) := by decide +kernel
theorem dX0_telling_29 : decode cX0_telling 29 = .ok (.aload_n 0, 1) := by decide +kernel
theorem dX0_telling_30 : decode cX0_telling 30 = .ok (.bipush 51, 2) := by decide +kernel
theorem dX0_telling_32 : decode cX0_telling 32 = .ok (.invokevirtual 45, 3) := by decide +kernel
theorem dX0_telling_35 : decode cX0_telling 35 = .ok (.aload_n 0, 1) := by decide +kernel
theorem dX0_telling_36 : decode cX0_telling 36 = .ok (.iload_n 1, 1) := by decide +kernel
theorem dX0_telling_37 : decode cX0_telling 37 = .ok (.invokevirtual 35, 3) := by decide +kernel
theorem dX0_telling_40 : decode cX0_telling 40 = .ok (.istore_n 3, 1) := by decide +kernel
theorem dX0_telling_41 : decode cX0_telling 41 = .ok (.aload_n 0, 1) := by decide +kernel
theorem dX0_telling_42 : decode cX0_telling 42 = .ok (.bipush 13, 2) := by decide +kernel
theorem dX0_telling_44 : decode cX0_telling 44 = .ok (.invokevirtual 45, 3) := by decide +kernel
theorem dX0_telling_47 : decode cX0_telling 47 = .ok (.aload_n 0, 1) := by decide +kernel
theorem dX0_telling_48 : decode cX0_telling 48 = .ok (.iload_n 2, 1) := by decide +kernel
theorem dX0_telling_49 : decode cX0_telling 49 = .ok (.invokevirtual 32, 3) := by decide +kernel
theorem dX0_telling_52 : decode cX0_telling 52 = .ok (.istore 4, 2) := by decide +kernel
theorem dX0_telling_54 : decode cX0_telling 54 = .ok (.iload_n 3, 1) := by decide +kernel
theorem dX0_telling_55 : decode cX0_telling 55 = .ok (.iload 4, 2) := by decide +kernel
theorem dX0_telling_57 : decode cX0_telling 57 = .ok (.aload_n 0, 1) := by decide +kernel
theorem dX0_telling_58 : decode cX0_telling 58 = .ok (.iload_n 2, 1) := by decide +kernel
theorem dX0_telling_59 : decode cX0_telling 59 = .ok (.invokevirtual 35, 3) := by decide +kernel
theorem dX0_telling_62 : decode cX0_telling 62 = .ok (.isub, 1) := by decide +kernel
theorem dX0_telling_63 : decode cX0_telling 63 = .ok (.ixor, 1) := by decide +kernel
theorem dX0_telling_64 : decode cX0_telling 64 = .ok (.ireturn, 1) := by decide +kernel
theorem eX0_init {G : GG} {d rc rs : Nat} (o : Nat)  {M : Mem} {Q : Option Value → Mem → Prop} (h : 1 ≤ rc ∧ 50 ≤ rs ∧ (∀ n1, n1 = g_b G + x_n M → ∀ M2, M2 = x_new M n1 1 50 → (x_h M2 o).1 = 16 ∧ (∀ M7, M7 = x_sr M2 o 0 (some n1) → ∀ M8, M8 = x_si M7 o 1 0 → ∀ M9, M9 = x_si M8 o 2 0 → ∀ M10, M10 = x_si M9 o 3 0 → ∀ M11, M11 = x_si M10 o 4 0 → Q none M11))) : Call G (d + 1) rc rs mX0_init [.ref o] M Q := by
  refine call_of (by decide) (Nat.le_of_ble_eq_true rfl) ?_
  show Wk G (d + 1) rc rs mX0_init 0 [some (.ref o)] [] M Q
  refine r_aload_n (pc := 0) (i := 0) dX0_init_0 rfl rfl ?_
  refine r_objInit (pc := 1) (st := []) ww_334 ww_28 ww_29 dX0_init_1 (Nat.le_of_ble_eq_true rfl) ?_
  refine r_aload_n (pc := 4) (i := 0) dX0_init_4 rfl rfl ?_
  refine r_bipush (pc := 5) (v := 50) dX0_init_5 (by decide) ?_
  obtain ⟨y4, y5, h⟩ := h
  refine r_newIV (pc := 7) (n := 50) dX0_init_7 (by decide) (by decide) (by decide) y4 y5 (fun n1 M2 enn1 eMn1 e3 => ?_)
  replace h := h n1 enn1 M2 eMn1
  obtain ⟨k6, h⟩ := h
  refine r_putr (pc := 9) (r := some _) flX0_11 dX0_init_9 rfl (fun q hq => by cases hq; exact Or.inr ⟨rfl, rfl, rfl⟩) (fun q hq _ => by cases hq; exact ww_335) k6 ?_
  replace h := h _ rfl
  refine r_aload_n (pc := 12) (i := 0) dX0_init_12 rfl rfl ?_
  refine r_iconst (pc := 13) (v := 0) dX0_init_13 (by decide) ?_
  refine r_puti (pc := 14) flX0_15 dX0_init_14 (Or.inl rfl) (fun q hq => by cases hq; rfl) k6 ?_
  replace h := h _ rfl
  refine r_aload_n (pc := 17) (i := 0) dX0_init_17 rfl rfl ?_
  refine r_iconst (pc := 18) (v := 0) dX0_init_18 (by decide) ?_
  refine r_puti (pc := 19) flX0_19 dX0_init_19 (Or.inl rfl) (fun q hq => by cases hq; rfl) k6 ?_
  replace h := h _ rfl
  refine r_aload_n (pc := 22) (i := 0) dX0_init_22 rfl rfl ?_
  refine r_iconst (pc := 23) (v := 0) dX0_init_23 (by decide) ?_
  refine r_puti (pc := 24) flX0_22 dX0_init_24 (Or.inl rfl) (fun q hq => by cases hq; rfl) k6 ?_
  replace h := h _ rfl
  refine r_aload_n (pc := 27) (i := 0) dX0_init_27 rfl rfl ?_
  refine r_iconst (pc := 28) (v := 0) dX0_init_28 (by decide) ?_
  refine r_puti (pc := 29) flX0_25 dX0_init_29 (Or.inl rfl) (fun q hq => by cases hq; rfl) k6 ?_
  replace h := h _ rfl
  exact r_vret (pc := 32) dX0_init_32 rfl h
theorem eX0_run {G : GG} {d rc rs : Nat} (o : Nat) (a1 : Int32) (a2 : Int32) (a3 : Int32) (a4 : Int32) (a5 : Int32)  {M : Mem} {Q : Option Value → Mem → Prop} (h : (x_h M o).1 = 16 ∧ (∀ M2, M2 = x_si M o 2 a1 → ∀ M3, M3 = x_si M2 o 3 a2 → ∀ M4, M4 = x_si M3 o 4 a3 → ∀ M5, M5 = x_si M4 o 1 0 → (a4 = 0 → Call G d 0 0 mX0_reading [.ref o, .int a5] M5 (fun r7 M8 => ∃ v9 : Int32, r7 = some (.int v9) ∧ Q (some (.int v9)) M8)) ∧ (a4 = 1 → Call G d 0 0 mX0_stepping [.ref o, .int a5] M5 (fun r11 M12 => ∃ v13 : Int32, r11 = some (.int v13) ∧ Q (some (.int v13)) M12)) ∧ (a4 = 2 → Call G d 0 0 mX0_joining [.ref o, .int a5] M5 (fun r15 M16 => ∃ v17 : Int32, r15 = some (.int v17) ∧ Q (some (.int v17)) M16)) ∧ (¬ a4 = 0 ∧ ¬ a4 = 1 ∧ ¬ a4 = 2 → Call G d 0 0 mX0_telling [.ref o, .int a5] M5 (fun r18 M19 => ∃ v20 : Int32, r18 = some (.int v20) ∧ Q (some (.int v20)) M19)))) : Call G (d + 1) rc rs mX0_run [.ref o, .int a1, .int a2, .int a3, .int a4, .int a5] M Q := by
  refine call_of (by decide) (Nat.le_of_ble_eq_true rfl) ?_
  show Wk G (d + 1) rc rs mX0_run 0 [some (.ref o), some (.int a1), some (.int a2), some (.int a3), some (.int a4), some (.int a5)] [] M Q
  refine r_aload_n (pc := 0) (i := 0) dX0_run_0 rfl rfl ?_
  refine r_iload_n (pc := 1) (i := 1) dX0_run_1 rfl rfl ?_
  obtain ⟨k1, h⟩ := h
  refine r_puti (pc := 2) flX0_19 dX0_run_2 (Or.inl rfl) (fun q hq => by cases hq; rfl) k1 ?_
  replace h := h _ rfl
  refine r_aload_n (pc := 5) (i := 0) dX0_run_5 rfl rfl ?_
  refine r_iload_n (pc := 6) (i := 2) dX0_run_6 rfl rfl ?_
  refine r_puti (pc := 7) flX0_22 dX0_run_7 (Or.inl rfl) (fun q hq => by cases hq; rfl) k1 ?_
  replace h := h _ rfl
  refine r_aload_n (pc := 10) (i := 0) dX0_run_10 rfl rfl ?_
  refine r_iload_n (pc := 11) (i := 3) dX0_run_11 rfl rfl ?_
  refine r_puti (pc := 12) flX0_25 dX0_run_12 (Or.inl rfl) (fun q hq => by cases hq; rfl) k1 ?_
  replace h := h _ rfl
  refine r_aload_n (pc := 15) (i := 0) dX0_run_15 rfl rfl ?_
  refine r_iconst (pc := 16) (v := 0) dX0_run_16 (by decide) ?_
  refine r_puti (pc := 17) flX0_15 dX0_run_17 (Or.inl rfl) (fun q hq => by cases hq; rfl) k1 ?_
  replace h := h _ rfl
  refine r_iload (pc := 20) (i := 4) dX0_run_20 rfl ?_
  refine dite (a4 = 0) (fun c6 => ?_) (fun c6 => ?_)
  · replace h := h.1 c6
    refine r_tabIn (pc := 22) (tgt := 48) dX0_run_22 (by rw [c6]; decide) (by rw [c6]; decide) (by rw [c6]; rfl) (by decide) ?_
    refine r_aload_n (pc := 48) (i := 0) dX0_run_48 rfl rfl ?_
    refine r_iload (pc := 49) (i := 5) dX0_run_49 rfl ?_
    refine r_callV (pc := 51) (ci := 0) (as := [_]) (st := []) okX0_reading lkX0_28 inX0_reading seX0_reading ⟨_, rfl, rfl⟩ dX0_run_51 rfl k1 (Nat.le_of_ble_eq_true rfl) (Nat.zero_le _) (Nat.zero_le _) (Call.mono h (fun r7 M8 h => ?_))
    obtain ⟨v9, rfl, h⟩ := h
    exact r_iret (pc := 54) dX0_run_54 rfl h
  refine dite (a4 = 1) (fun c10 => ?_) (fun c10 => ?_)
  · replace h := h.2.1 c10
    refine r_tabIn (pc := 22) (tgt := 55) dX0_run_22 (by rw [c10]; decide) (by rw [c10]; decide) (by rw [c10]; rfl) (by decide) ?_
    refine r_aload_n (pc := 55) (i := 0) dX0_run_55 rfl rfl ?_
    refine r_iload (pc := 56) (i := 5) dX0_run_56 rfl ?_
    refine r_callV (pc := 58) (ci := 0) (as := [_]) (st := []) okX0_stepping lkX0_32 inX0_stepping seX0_stepping ⟨_, rfl, rfl⟩ dX0_run_58 rfl k1 (Nat.le_of_ble_eq_true rfl) (Nat.zero_le _) (Nat.zero_le _) (Call.mono h (fun r11 M12 h => ?_))
    obtain ⟨v13, rfl, h⟩ := h
    exact r_iret (pc := 61) dX0_run_61 rfl h
  refine dite (a4 = 2) (fun c14 => ?_) (fun c14 => ?_)
  · replace h := h.2.2.1 c14
    refine r_tabIn (pc := 22) (tgt := 62) dX0_run_22 (by rw [c14]; decide) (by rw [c14]; decide) (by rw [c14]; rfl) (by decide) ?_
    refine r_aload_n (pc := 62) (i := 0) dX0_run_62 rfl rfl ?_
    refine r_iload (pc := 63) (i := 5) dX0_run_63 rfl ?_
    refine r_callV (pc := 65) (ci := 0) (as := [_]) (st := []) okX0_joining lkX0_35 inX0_joining seX0_joining ⟨_, rfl, rfl⟩ dX0_run_65 rfl k1 (Nat.le_of_ble_eq_true rfl) (Nat.zero_le _) (Nat.zero_le _) (Call.mono h (fun r15 M16 h => ?_))
    obtain ⟨v17, rfl, h⟩ := h
    exact r_iret (pc := 68) dX0_run_68 rfl h
  replace h := h.2.2.2 ⟨c6, c10, c14⟩
  refine r_tabOut (pc := 22) (tgt := 69) dX0_run_22 (by have tc6 : ¬ Int32.toInt _ = 0 := sw_ne c6; have tc10 : ¬ Int32.toInt _ = 1 := sw_ne c10; have tc14 : ¬ Int32.toInt _ = 2 := sw_ne c14; omega) (by decide) ?_
  refine r_aload_n (pc := 69) (i := 0) dX0_run_69 rfl rfl ?_
  refine r_iload (pc := 70) (i := 5) dX0_run_70 rfl ?_
  refine r_callV (pc := 72) (ci := 0) (as := [_]) (st := []) okX0_telling lkX0_38 inX0_telling seX0_telling ⟨_, rfl, rfl⟩ dX0_run_72 rfl k1 (Nat.le_of_ble_eq_true rfl) (Nat.zero_le _) (Nat.zero_le _) (Call.mono h (fun r18 M19 h => ?_))
  obtain ⟨v20, rfl, h⟩ := h
  exact r_iret (pc := 75) dX0_run_75 rfl h
theorem eX0_ran {G : GG} {d rc rs : Nat} (o : Nat) (a1 : Int32)  {M : Mem} {Q : Option Value → Mem → Prop} (h : (x_h M o).1 = 16 ∧ (50 ≤ (x_i M o 1) → Q none M) ∧ (¬ 50 ≤ (x_i M o 1) → ∃ b3, x_r M o 0 = some b3 ∧ (x_h M b3).1 = 1 ∧ vp_in (x_i M o 1) (x_h M b3).2 ∧ (∀ M6, M6 = x_si M b3 (x_i M o 1).toNatClampNeg a1 → ∀ M7, M7 = x_si M6 o 1 ((x_i M6 o 1) + 1) → Q none M7))) : Call G (d + 1) rc rs mX0_ran [.ref o, .int a1] M Q := by
  refine call_of (by decide) (Nat.le_of_ble_eq_true rfl) ?_
  show Wk G (d + 1) rc rs mX0_ran 0 [some (.ref o), some (.int a1)] [] M Q
  refine r_aload_n (pc := 0) (i := 0) dX0_ran_0 rfl rfl ?_
  obtain ⟨k1, h⟩ := h
  refine r_geti (pc := 1) flX0_15 dX0_ran_1 (Or.inl rfl) k1 ?_
  refine r_bipush (pc := 4) (v := 50) dX0_ran_4 (by decide) ?_
  refine r_icmp_ge (pc := 6) (tgt := 29) dX0_ran_6 (by decide) (fun c2 => ?_) (fun c2 => ?_)
  · replace h := h.1 c2
    exact r_vret (pc := 29) dX0_ran_29 rfl h
  · replace h := h.2 c2
    refine r_aload_n (pc := 9) (i := 0) dX0_ran_9 rfl rfl ?_
    obtain ⟨b3, hb3, h⟩ := h
    refine r_getr (pc := 10) flX0_11 dX0_ran_10 rfl k1 hb3 ?_
    refine r_aload_n (pc := 13) (i := 0) dX0_ran_13 rfl rfl ?_
    refine r_geti (pc := 14) flX0_15 dX0_ran_14 (Or.inl rfl) k1 ?_
    refine r_iload_n (pc := 17) (i := 1) dX0_ran_17 rfl rfl ?_
    obtain ⟨k4, h⟩ := h
    obtain ⟨i5, h⟩ := h
    refine r_iast (pc := 18) dX0_ran_18 k4 i5 ?_
    replace h := h _ rfl
    refine r_aload_n (pc := 19) (i := 0) dX0_ran_19 rfl rfl ?_
    refine r_dup (pc := 20) dX0_ran_20 rfl ?_
    refine r_geti (pc := 21) flX0_15 dX0_ran_21 (Or.inl rfl) k1 ?_
    refine r_iconst (pc := 24) (v := 1) dX0_ran_24 (by decide) ?_
    refine r_iadd (pc := 25) dX0_ran_25 ?_
    refine r_puti (pc := 26) flX0_15 dX0_ran_26 (Or.inl rfl) (fun q hq => by cases hq; rfl) k1 ?_
    replace h := h _ rfl
    exact r_vret (pc := 29) dX0_ran_29 rfl h
theorem eX0_isGrown {G : GG} {d rc rs : Nat} (o : Nat)  {M : Mem} {Q : Option Value → Mem → Prop} (h : (x_h M o).1 = 16 ∧ ((x_i M o 2) = 1 → Q (some (.int 1)) M) ∧ (¬ (x_i M o 2) = 1 → (¬ (x_i M o 2) = 2 → Q (some (.int 0)) M) ∧ ((x_i M o 2) = 2 → Q (some (.int 1)) M))) : Call G (d + 1) rc rs mX0_isGrown [.ref o] M Q := by
  refine call_of (by decide) (Nat.le_of_ble_eq_true rfl) ?_
  show Wk G (d + 1) rc rs mX0_isGrown 0 [some (.ref o)] [] M Q
  refine r_aload_n (pc := 0) (i := 0) dX0_isGrown_0 rfl rfl ?_
  obtain ⟨k1, h⟩ := h
  refine r_geti (pc := 1) flX0_19 dX0_isGrown_1 (Or.inl rfl) k1 ?_
  refine r_iconst (pc := 4) (v := 1) dX0_isGrown_4 (by decide) ?_
  refine r_icmp_eq (pc := 5) (tgt := 16) dX0_isGrown_5 (by decide) (fun c2 => ?_) (fun c2 => ?_)
  · replace h := h.1 c2
    refine r_iconst (pc := 16) (v := 1) dX0_isGrown_16 (by decide) ?_
    refine r_goto (pc := 17) (tgt := 21) dX0_isGrown_17 (by decide) ?_
    exact r_zret (pc := 21) dX0_isGrown_21 rfl (Or.inr rfl) h
  · replace h := h.2 c2
    refine r_aload_n (pc := 8) (i := 0) dX0_isGrown_8 rfl rfl ?_
    refine r_geti (pc := 9) flX0_19 dX0_isGrown_9 (Or.inl rfl) k1 ?_
    refine r_iconst (pc := 12) (v := 2) dX0_isGrown_12 (by decide) ?_
    refine r_icmp_ne (pc := 13) (tgt := 20) dX0_isGrown_13 (by decide) (fun c3 => ?_) (fun c3 => ?_)
    · replace h := h.1 c3
      refine r_iconst (pc := 20) (v := 0) dX0_isGrown_20 (by decide) ?_
      exact r_zret (pc := 21) dX0_isGrown_21 rfl (Or.inl rfl) h
    · replace h := h.2 c3
      refine r_iconst (pc := 16) (v := 1) dX0_isGrown_16 (by decide) ?_
      refine r_goto (pc := 17) (tgt := 21) dX0_isGrown_17 (by decide) ?_
      exact r_zret (pc := 21) dX0_isGrown_21 rfl (Or.inr rfl) h
theorem eX0_reading {G : GG} {d rc rs : Nat} (o : Nat) (a1 : Int32)  {M : Mem} {Q : Option Value → Mem → Prop} (h : (x_h M o).1 = 16 ∧ Call G d 0 0 mX0_isGrown [.ref o] M (fun r2 M3 => ∃ v4 : Int32, r2 = some (.int v4) ∧ (v4 = 0 → (x_h M3 o).1 = 16 ∧ Call G d 0 0 mX0_ran [.ref o, .int 10] M3 (fun r7 M8 => r7 = none ∧ (x_h M8 o).1 = 16 ∧ Call G d 0 0 mX0_isGrown [.ref o] M8 (fun r10 M11 => ∃ v12 : Int32, r10 = some (.int v12) ∧ (v12 = 0 → Q (some (.int (a1 + (x_i M8 o 3)))) M11) ∧ (¬ v12 = 0 → Q (some (.int ((a1 + (x_i M8 o 3)) * 2))) M11)))) ∧ (¬ v4 = 0 → (x_h M3 o).1 = 16 ∧ Call G d 0 0 mX0_ran [.ref o, .int 20] M3 (fun r15 M16 => r15 = none ∧ (x_h M16 o).1 = 16 ∧ Call G d 0 0 mX0_ran [.ref o, .int 10] M16 (fun r18 M19 => r18 = none ∧ (x_h M19 o).1 = 16 ∧ Call G d 0 0 mX0_isGrown [.ref o] M19 (fun r21 M22 => ∃ v23 : Int32, r21 = some (.int v23) ∧ (v23 = 0 → Q (some (.int (a1 + (x_i M19 o 3)))) M22) ∧ (¬ v23 = 0 → Q (some (.int ((a1 + (x_i M19 o 3)) * 2))) M22))))))) : Call G (d + 1) rc rs mX0_reading [.ref o, .int a1] M Q := by
  refine call_of (by decide) (Nat.le_of_ble_eq_true rfl) ?_
  show Wk G (d + 1) rc rs mX0_reading 0 [some (.ref o), some (.int a1), none] [] M Q
  refine r_aload_n (pc := 0) (i := 0) dX0_reading_0 rfl rfl ?_
  obtain ⟨k1, h⟩ := h
  refine r_callV (pc := 1) (ci := 0) (as := []) (st := []) okX0_isGrown lkX0_41 inX0_isGrown seX0_isGrown ⟨_, rfl, rfl⟩ dX0_reading_1 rfl k1 (Nat.le_of_ble_eq_true rfl) (Nat.zero_le _) (Nat.zero_le _) (Call.mono h (fun r2 M3 h => ?_))
  obtain ⟨v4, rfl, h⟩ := h
  refine r_if_eq (pc := 4) (tgt := 13) dX0_reading_4 (by decide) (fun c5 => ?_) (fun c5 => ?_)
  · replace h := h.1 c5
    refine r_aload_n (pc := 13) (i := 0) dX0_reading_13 rfl rfl ?_
    refine r_bipush (pc := 14) (v := 10) dX0_reading_14 (by decide) ?_
    obtain ⟨k6, h⟩ := h
    refine r_callV (pc := 16) (ci := 0) (as := [_]) (st := []) okX0_ran lkX0_45 inX0_ran seX0_ran ⟨_, rfl, rfl⟩ dX0_reading_16 rfl k6 (Nat.le_of_ble_eq_true rfl) (Nat.zero_le _) (Nat.zero_le _) (Call.mono h (fun r7 M8 h => ?_))
    obtain ⟨rfl, h⟩ := h
    refine r_iload_n (pc := 19) (i := 1) dX0_reading_19 rfl rfl ?_
    refine r_aload_n (pc := 20) (i := 0) dX0_reading_20 rfl rfl ?_
    obtain ⟨k9, h⟩ := h
    refine r_geti (pc := 21) flX0_22 dX0_reading_21 (Or.inl rfl) k9 ?_
    refine r_iadd (pc := 24) dX0_reading_24 ?_
    refine r_istore_n (pc := 25) (i := 2) dX0_reading_25 rfl rfl (Nat.le_of_ble_eq_true rfl) ?_
    refine r_aload_n (pc := 26) (i := 0) dX0_reading_26 rfl rfl ?_
    refine r_callV (pc := 27) (ci := 0) (as := []) (st := []) okX0_isGrown lkX0_41 inX0_isGrown seX0_isGrown ⟨_, rfl, rfl⟩ dX0_reading_27 rfl k9 (Nat.le_of_ble_eq_true rfl) (Nat.zero_le _) (Nat.zero_le _) (Call.mono h (fun r10 M11 h => ?_))
    obtain ⟨v12, rfl, h⟩ := h
    refine r_if_eq (pc := 30) (tgt := 39) dX0_reading_30 (by decide) (fun c13 => ?_) (fun c13 => ?_)
    · replace h := h.1 c13
      refine r_iload_n (pc := 39) (i := 2) dX0_reading_39 rfl rfl ?_
      exact r_iret (pc := 40) dX0_reading_40 rfl h
    · replace h := h.2 c13
      refine r_iload_n (pc := 33) (i := 2) dX0_reading_33 rfl rfl ?_
      refine r_iconst (pc := 34) (v := 2) dX0_reading_34 (by decide) ?_
      refine r_imul (pc := 35) dX0_reading_35 ?_
      refine r_goto (pc := 36) (tgt := 40) dX0_reading_36 (by decide) ?_
      exact r_iret (pc := 40) dX0_reading_40 rfl h
  · replace h := h.2 c5
    refine r_aload_n (pc := 7) (i := 0) dX0_reading_7 rfl rfl ?_
    refine r_bipush (pc := 8) (v := 20) dX0_reading_8 (by decide) ?_
    obtain ⟨k14, h⟩ := h
    refine r_callV (pc := 10) (ci := 0) (as := [_]) (st := []) okX0_ran lkX0_45 inX0_ran seX0_ran ⟨_, rfl, rfl⟩ dX0_reading_10 rfl k14 (Nat.le_of_ble_eq_true rfl) (Nat.zero_le _) (Nat.zero_le _) (Call.mono h (fun r15 M16 h => ?_))
    obtain ⟨rfl, h⟩ := h
    refine r_aload_n (pc := 13) (i := 0) dX0_reading_13 rfl rfl ?_
    refine r_bipush (pc := 14) (v := 10) dX0_reading_14 (by decide) ?_
    obtain ⟨k17, h⟩ := h
    refine r_callV (pc := 16) (ci := 0) (as := [_]) (st := []) okX0_ran lkX0_45 inX0_ran seX0_ran ⟨_, rfl, rfl⟩ dX0_reading_16 rfl k17 (Nat.le_of_ble_eq_true rfl) (Nat.zero_le _) (Nat.zero_le _) (Call.mono h (fun r18 M19 h => ?_))
    obtain ⟨rfl, h⟩ := h
    refine r_iload_n (pc := 19) (i := 1) dX0_reading_19 rfl rfl ?_
    refine r_aload_n (pc := 20) (i := 0) dX0_reading_20 rfl rfl ?_
    obtain ⟨k20, h⟩ := h
    refine r_geti (pc := 21) flX0_22 dX0_reading_21 (Or.inl rfl) k20 ?_
    refine r_iadd (pc := 24) dX0_reading_24 ?_
    refine r_istore_n (pc := 25) (i := 2) dX0_reading_25 rfl rfl (Nat.le_of_ble_eq_true rfl) ?_
    refine r_aload_n (pc := 26) (i := 0) dX0_reading_26 rfl rfl ?_
    refine r_callV (pc := 27) (ci := 0) (as := []) (st := []) okX0_isGrown lkX0_41 inX0_isGrown seX0_isGrown ⟨_, rfl, rfl⟩ dX0_reading_27 rfl k20 (Nat.le_of_ble_eq_true rfl) (Nat.zero_le _) (Nat.zero_le _) (Call.mono h (fun r21 M22 h => ?_))
    obtain ⟨v23, rfl, h⟩ := h
    refine r_if_eq (pc := 30) (tgt := 39) dX0_reading_30 (by decide) (fun c24 => ?_) (fun c24 => ?_)
    · replace h := h.1 c24
      refine r_iload_n (pc := 39) (i := 2) dX0_reading_39 rfl rfl ?_
      exact r_iret (pc := 40) dX0_reading_40 rfl h
    · replace h := h.2 c24
      refine r_iload_n (pc := 33) (i := 2) dX0_reading_33 rfl rfl ?_
      refine r_iconst (pc := 34) (v := 2) dX0_reading_34 (by decide) ?_
      refine r_imul (pc := 35) dX0_reading_35 ?_
      refine r_goto (pc := 36) (tgt := 40) dX0_reading_36 (by decide) ?_
      exact r_iret (pc := 40) dX0_reading_40 rfl h
abbrev LX0_stepping_16 (G : GG) (d rc rs : Nat) (p0 : Nat) (x1 : Int32) (x2 : Int32) (M : Mem) (Q : Option Value → Mem → Prop) : Prop := Wk G (d + 1) rc rs mX0_stepping 16 [some (.ref p0), some (.int x1), some (.int x2), none] [] M Q
theorem eX0_stepping {G : GG} {d rc rs : Nat} (o : Nat) (a1 : Int32)  {M : Mem} {Q : Option Value → Mem → Prop} (h : (x_h M o).1 = 16 ∧ (¬ (x_i M o 2) = 2 → LX0_stepping_16 G d rc rs o a1 a1 M Q) ∧ ((x_i M o 2) = 2 → Call G d 0 0 mX0_ran [.ref o, .int 30] M (fun r3 M4 => r3 = none ∧ LX0_stepping_16 G d rc rs o a1 a1 M4 Q))) : Call G (d + 1) rc rs mX0_stepping [.ref o, .int a1] M Q := by
  refine call_of (by decide) (Nat.le_of_ble_eq_true rfl) ?_
  show Wk G (d + 1) rc rs mX0_stepping 0 [some (.ref o), some (.int a1), none, none] [] M Q
  refine r_iload_n (pc := 0) (i := 1) dX0_stepping_0 rfl rfl ?_
  refine r_istore_n (pc := 1) (i := 2) dX0_stepping_1 rfl rfl (Nat.le_of_ble_eq_true rfl) ?_
  refine r_aload_n (pc := 2) (i := 0) dX0_stepping_2 rfl rfl ?_
  obtain ⟨k1, h⟩ := h
  refine r_geti (pc := 3) flX0_19 dX0_stepping_3 (Or.inl rfl) k1 ?_
  refine r_iconst (pc := 6) (v := 2) dX0_stepping_6 (by decide) ?_
  refine r_icmp_ne (pc := 7) (tgt := 16) dX0_stepping_7 (by decide) (fun c2 => ?_) (fun c2 => ?_)
  · replace h := h.1 c2
    exact h
  · replace h := h.2 c2
    refine r_aload_n (pc := 10) (i := 0) dX0_stepping_10 rfl rfl ?_
    refine r_bipush (pc := 11) (v := 30) dX0_stepping_11 (by decide) ?_
    refine r_callV (pc := 13) (ci := 0) (as := [_]) (st := []) okX0_ran lkX0_45 inX0_ran seX0_ran ⟨_, rfl, rfl⟩ dX0_stepping_13 rfl k1 (Nat.le_of_ble_eq_true rfl) (Nat.zero_le _) (Nat.zero_le _) (Call.mono h (fun r3 M4 h => ?_))
    obtain ⟨rfl, h⟩ := h
    exact h
theorem vX0_stepping_16 {G : GG} {d rc rs : Nat} (p0 : Nat) (x1 : Int32) (x2 : Int32)  {M : Mem} {Q : Option Value → Mem → Prop} (h : (x_h M p0).1 = 16 ∧ (¬ (x_i M p0 2) = 4 → Call G d 0 0 mX0_ran [.ref p0, .int 11] M (fun r3 M4 => r3 = none ∧ (x_h M4 p0).1 = 16 ∧ Call G d 0 0 mX0_reading [.ref p0, .int x2] M4 (fun r6 M7 => ∃ v8 : Int32, r6 = some (.int v8) ∧ (x_h M7 p0).1 = 16 ∧ (¬ (x_i M7 p0 2) = 2 → Q (some (.int (v8 * 3))) M7) ∧ ((x_i M7 p0 2) = 2 → Q (some (.int ((v8 * 3) + 5))) M7)))) ∧ ((x_i M p0 2) = 4 → Call G d 0 0 mX0_ran [.ref p0, .int 50] M (fun r11 M12 => r11 = none ∧ (x_h M12 p0).1 = 16 ∧ Call G d 0 0 mX0_ran [.ref p0, .int 11] M12 (fun r14 M15 => r14 = none ∧ (x_h M15 p0).1 = 16 ∧ Call G d 0 0 mX0_reading [.ref p0, .int (x1 - 1)] M15 (fun r17 M18 => ∃ v19 : Int32, r17 = some (.int v19) ∧ (x_h M18 p0).1 = 16 ∧ (¬ (x_i M18 p0 2) = 2 → Q (some (.int (v19 * 3))) M18) ∧ ((x_i M18 p0 2) = 2 → Q (some (.int ((v19 * 3) + 5))) M18)))))) : LX0_stepping_16 G d rc rs p0 x1 x2 M Q := by
  show Wk G (d + 1) rc rs mX0_stepping 16 _ _ M Q
  refine r_aload_n (pc := 16) (i := 0) dX0_stepping_16 rfl rfl ?_
  obtain ⟨k1, h⟩ := h
  refine r_geti (pc := 17) flX0_19 dX0_stepping_17 (Or.inl rfl) k1 ?_
  refine r_iconst (pc := 20) (v := 4) dX0_stepping_20 (by decide) ?_
  refine r_icmp_ne (pc := 21) (tgt := 34) dX0_stepping_21 (by decide) (fun c2 => ?_) (fun c2 => ?_)
  · replace h := h.1 c2
    refine r_aload_n (pc := 34) (i := 0) dX0_stepping_34 rfl rfl ?_
    refine r_bipush (pc := 35) (v := 11) dX0_stepping_35 (by decide) ?_
    refine r_callV (pc := 37) (ci := 0) (as := [_]) (st := []) okX0_ran lkX0_45 inX0_ran seX0_ran ⟨_, rfl, rfl⟩ dX0_stepping_37 rfl k1 (Nat.le_of_ble_eq_true rfl) (Nat.zero_le _) (Nat.zero_le _) (Call.mono h (fun r3 M4 h => ?_))
    obtain ⟨rfl, h⟩ := h
    refine r_aload_n (pc := 40) (i := 0) dX0_stepping_40 rfl rfl ?_
    refine r_iload_n (pc := 41) (i := 2) dX0_stepping_41 rfl rfl ?_
    obtain ⟨k5, h⟩ := h
    refine r_callV (pc := 42) (ci := 0) (as := [_]) (st := []) okX0_reading lkX0_28 inX0_reading seX0_reading ⟨_, rfl, rfl⟩ dX0_stepping_42 rfl k5 (Nat.le_of_ble_eq_true rfl) (Nat.zero_le _) (Nat.zero_le _) (Call.mono h (fun r6 M7 h => ?_))
    obtain ⟨v8, rfl, h⟩ := h
    refine r_iconst (pc := 45) (v := 3) dX0_stepping_45 (by decide) ?_
    refine r_imul (pc := 46) dX0_stepping_46 ?_
    refine r_istore_n (pc := 47) (i := 3) dX0_stepping_47 rfl rfl (Nat.le_of_ble_eq_true rfl) ?_
    refine r_aload_n (pc := 48) (i := 0) dX0_stepping_48 rfl rfl ?_
    obtain ⟨k9, h⟩ := h
    refine r_geti (pc := 49) flX0_19 dX0_stepping_49 (Or.inl rfl) k9 ?_
    refine r_iconst (pc := 52) (v := 2) dX0_stepping_52 (by decide) ?_
    refine r_icmp_ne (pc := 53) (tgt := 62) dX0_stepping_53 (by decide) (fun c10 => ?_) (fun c10 => ?_)
    · replace h := h.1 c10
      refine r_iload_n (pc := 62) (i := 3) dX0_stepping_62 rfl rfl ?_
      exact r_iret (pc := 63) dX0_stepping_63 rfl h
    · replace h := h.2 c10
      refine r_iload_n (pc := 56) (i := 3) dX0_stepping_56 rfl rfl ?_
      refine r_iconst (pc := 57) (v := 5) dX0_stepping_57 (by decide) ?_
      refine r_iadd (pc := 58) dX0_stepping_58 ?_
      refine r_goto (pc := 59) (tgt := 63) dX0_stepping_59 (by decide) ?_
      exact r_iret (pc := 63) dX0_stepping_63 rfl h
  · replace h := h.2 c2
    refine r_aload_n (pc := 24) (i := 0) dX0_stepping_24 rfl rfl ?_
    refine r_bipush (pc := 25) (v := 50) dX0_stepping_25 (by decide) ?_
    refine r_callV (pc := 27) (ci := 0) (as := [_]) (st := []) okX0_ran lkX0_45 inX0_ran seX0_ran ⟨_, rfl, rfl⟩ dX0_stepping_27 rfl k1 (Nat.le_of_ble_eq_true rfl) (Nat.zero_le _) (Nat.zero_le _) (Call.mono h (fun r11 M12 h => ?_))
    obtain ⟨rfl, h⟩ := h
    refine r_iload_n (pc := 30) (i := 1) dX0_stepping_30 rfl rfl ?_
    refine r_iconst (pc := 31) (v := 1) dX0_stepping_31 (by decide) ?_
    refine r_isub (pc := 32) dX0_stepping_32 ?_
    refine r_istore_n (pc := 33) (i := 2) dX0_stepping_33 rfl rfl (Nat.le_of_ble_eq_true rfl) ?_
    refine r_aload_n (pc := 34) (i := 0) dX0_stepping_34 rfl rfl ?_
    refine r_bipush (pc := 35) (v := 11) dX0_stepping_35 (by decide) ?_
    obtain ⟨k13, h⟩ := h
    refine r_callV (pc := 37) (ci := 0) (as := [_]) (st := []) okX0_ran lkX0_45 inX0_ran seX0_ran ⟨_, rfl, rfl⟩ dX0_stepping_37 rfl k13 (Nat.le_of_ble_eq_true rfl) (Nat.zero_le _) (Nat.zero_le _) (Call.mono h (fun r14 M15 h => ?_))
    obtain ⟨rfl, h⟩ := h
    refine r_aload_n (pc := 40) (i := 0) dX0_stepping_40 rfl rfl ?_
    refine r_iload_n (pc := 41) (i := 2) dX0_stepping_41 rfl rfl ?_
    obtain ⟨k16, h⟩ := h
    refine r_callV (pc := 42) (ci := 0) (as := [_]) (st := []) okX0_reading lkX0_28 inX0_reading seX0_reading ⟨_, rfl, rfl⟩ dX0_stepping_42 rfl k16 (Nat.le_of_ble_eq_true rfl) (Nat.zero_le _) (Nat.zero_le _) (Call.mono h (fun r17 M18 h => ?_))
    obtain ⟨v19, rfl, h⟩ := h
    refine r_iconst (pc := 45) (v := 3) dX0_stepping_45 (by decide) ?_
    refine r_imul (pc := 46) dX0_stepping_46 ?_
    refine r_istore_n (pc := 47) (i := 3) dX0_stepping_47 rfl rfl (Nat.le_of_ble_eq_true rfl) ?_
    refine r_aload_n (pc := 48) (i := 0) dX0_stepping_48 rfl rfl ?_
    obtain ⟨k20, h⟩ := h
    refine r_geti (pc := 49) flX0_19 dX0_stepping_49 (Or.inl rfl) k20 ?_
    refine r_iconst (pc := 52) (v := 2) dX0_stepping_52 (by decide) ?_
    refine r_icmp_ne (pc := 53) (tgt := 62) dX0_stepping_53 (by decide) (fun c21 => ?_) (fun c21 => ?_)
    · replace h := h.1 c21
      refine r_iload_n (pc := 62) (i := 3) dX0_stepping_62 rfl rfl ?_
      exact r_iret (pc := 63) dX0_stepping_63 rfl h
    · replace h := h.2 c21
      refine r_iload_n (pc := 56) (i := 3) dX0_stepping_56 rfl rfl ?_
      refine r_iconst (pc := 57) (v := 5) dX0_stepping_57 (by decide) ?_
      refine r_iadd (pc := 58) dX0_stepping_58 ?_
      refine r_goto (pc := 59) (tgt := 63) dX0_stepping_59 (by decide) ?_
      exact r_iret (pc := 63) dX0_stepping_63 rfl h
abbrev LX0_joining_28 (G : GG) (d rc rs : Nat) (p0 : Nat) (x1 : Int32) (M : Mem) (Q : Option Value → Mem → Prop) : Prop := Wk G (d + 1) rc rs mX0_joining 28 [some (.ref p0), some (.int x1), none] [] M Q
theorem eX0_joining {G : GG} {d rc rs : Nat} (o : Nat) (a1 : Int32)  {M : Mem} {Q : Option Value → Mem → Prop} (h : (x_h M o).1 = 16 ∧ (¬ (x_i M o 2) = 2 → (¬ (x_i M o 2) = 3 → LX0_joining_28 G d rc rs o a1 M Q) ∧ ((x_i M o 2) = 3 → Call G d 0 0 mX0_ran [.ref o, .int 40] M (fun r4 M5 => r4 = none ∧ LX0_joining_28 G d rc rs o a1 M5 Q))) ∧ ((x_i M o 2) = 2 → Call G d 0 0 mX0_ran [.ref o, .int 31] M (fun r6 M7 => r6 = none ∧ (x_h M7 o).1 = 16 ∧ (¬ (x_i M7 o 2) = 3 → LX0_joining_28 G d rc rs o a1 M7 Q) ∧ ((x_i M7 o 2) = 3 → Call G d 0 0 mX0_ran [.ref o, .int 40] M7 (fun r10 M11 => r10 = none ∧ LX0_joining_28 G d rc rs o a1 M11 Q))))) : Call G (d + 1) rc rs mX0_joining [.ref o, .int a1] M Q := by
  refine call_of (by decide) (Nat.le_of_ble_eq_true rfl) ?_
  show Wk G (d + 1) rc rs mX0_joining 0 [some (.ref o), some (.int a1), none] [] M Q
  refine r_aload_n (pc := 0) (i := 0) dX0_joining_0 rfl rfl ?_
  obtain ⟨k1, h⟩ := h
  refine r_geti (pc := 1) flX0_19 dX0_joining_1 (Or.inl rfl) k1 ?_
  refine r_iconst (pc := 4) (v := 2) dX0_joining_4 (by decide) ?_
  refine r_icmp_ne (pc := 5) (tgt := 14) dX0_joining_5 (by decide) (fun c2 => ?_) (fun c2 => ?_)
  · replace h := h.1 c2
    refine r_aload_n (pc := 14) (i := 0) dX0_joining_14 rfl rfl ?_
    refine r_geti (pc := 15) flX0_19 dX0_joining_15 (Or.inl rfl) k1 ?_
    refine r_iconst (pc := 18) (v := 3) dX0_joining_18 (by decide) ?_
    refine r_icmp_ne (pc := 19) (tgt := 28) dX0_joining_19 (by decide) (fun c3 => ?_) (fun c3 => ?_)
    · replace h := h.1 c3
      exact h
    · replace h := h.2 c3
      refine r_aload_n (pc := 22) (i := 0) dX0_joining_22 rfl rfl ?_
      refine r_bipush (pc := 23) (v := 40) dX0_joining_23 (by decide) ?_
      refine r_callV (pc := 25) (ci := 0) (as := [_]) (st := []) okX0_ran lkX0_45 inX0_ran seX0_ran ⟨_, rfl, rfl⟩ dX0_joining_25 rfl k1 (Nat.le_of_ble_eq_true rfl) (Nat.zero_le _) (Nat.zero_le _) (Call.mono h (fun r4 M5 h => ?_))
      obtain ⟨rfl, h⟩ := h
      exact h
  · replace h := h.2 c2
    refine r_aload_n (pc := 8) (i := 0) dX0_joining_8 rfl rfl ?_
    refine r_bipush (pc := 9) (v := 31) dX0_joining_9 (by decide) ?_
    refine r_callV (pc := 11) (ci := 0) (as := [_]) (st := []) okX0_ran lkX0_45 inX0_ran seX0_ran ⟨_, rfl, rfl⟩ dX0_joining_11 rfl k1 (Nat.le_of_ble_eq_true rfl) (Nat.zero_le _) (Nat.zero_le _) (Call.mono h (fun r6 M7 h => ?_))
    obtain ⟨rfl, h⟩ := h
    refine r_aload_n (pc := 14) (i := 0) dX0_joining_14 rfl rfl ?_
    obtain ⟨k8, h⟩ := h
    refine r_geti (pc := 15) flX0_19 dX0_joining_15 (Or.inl rfl) k8 ?_
    refine r_iconst (pc := 18) (v := 3) dX0_joining_18 (by decide) ?_
    refine r_icmp_ne (pc := 19) (tgt := 28) dX0_joining_19 (by decide) (fun c9 => ?_) (fun c9 => ?_)
    · replace h := h.1 c9
      exact h
    · replace h := h.2 c9
      refine r_aload_n (pc := 22) (i := 0) dX0_joining_22 rfl rfl ?_
      refine r_bipush (pc := 23) (v := 40) dX0_joining_23 (by decide) ?_
      refine r_callV (pc := 25) (ci := 0) (as := [_]) (st := []) okX0_ran lkX0_45 inX0_ran seX0_ran ⟨_, rfl, rfl⟩ dX0_joining_25 rfl k8 (Nat.le_of_ble_eq_true rfl) (Nat.zero_le _) (Nat.zero_le _) (Call.mono h (fun r10 M11 h => ?_))
      obtain ⟨rfl, h⟩ := h
      exact h
theorem vX0_joining_28 {G : GG} {d rc rs : Nat} (p0 : Nat) (x1 : Int32)  {M : Mem} {Q : Option Value → Mem → Prop} (h : (x_h M p0).1 = 16 ∧ Call G d 0 0 mX0_ran [.ref p0, .int 12] M (fun r2 M3 => r2 = none ∧ (x_h M3 p0).1 = 16 ∧ (¬ (x_i M3 p0 2) = 2 → (¬ (x_i M3 p0 2) = 3 → Q (some (.int (x1 ^^^ (x_i M3 p0 4)))) M3) ∧ ((x_i M3 p0 2) = 3 → Q (some (.int ((x1 ^^^ (x_i M3 p0 4)) * (x_i M3 p0 3)))) M3)) ∧ ((x_i M3 p0 2) = 2 → Q (some (.int ((x1 ^^^ (x_i M3 p0 4)) - x1))) M3))) : LX0_joining_28 G d rc rs p0 x1 M Q := by
  show Wk G (d + 1) rc rs mX0_joining 28 _ _ M Q
  refine r_aload_n (pc := 28) (i := 0) dX0_joining_28 rfl rfl ?_
  refine r_bipush (pc := 29) (v := 12) dX0_joining_29 (by decide) ?_
  obtain ⟨k1, h⟩ := h
  refine r_callV (pc := 31) (ci := 0) (as := [_]) (st := []) okX0_ran lkX0_45 inX0_ran seX0_ran ⟨_, rfl, rfl⟩ dX0_joining_31 rfl k1 (Nat.le_of_ble_eq_true rfl) (Nat.zero_le _) (Nat.zero_le _) (Call.mono h (fun r2 M3 h => ?_))
  obtain ⟨rfl, h⟩ := h
  refine r_iload_n (pc := 34) (i := 1) dX0_joining_34 rfl rfl ?_
  refine r_aload_n (pc := 35) (i := 0) dX0_joining_35 rfl rfl ?_
  obtain ⟨k4, h⟩ := h
  refine r_geti (pc := 36) flX0_25 dX0_joining_36 (Or.inl rfl) k4 ?_
  refine r_ixor (pc := 39) dX0_joining_39 ?_
  refine r_istore_n (pc := 40) (i := 2) dX0_joining_40 rfl rfl (Nat.le_of_ble_eq_true rfl) ?_
  refine r_aload_n (pc := 41) (i := 0) dX0_joining_41 rfl rfl ?_
  refine r_geti (pc := 42) flX0_19 dX0_joining_42 (Or.inl rfl) k4 ?_
  refine r_iconst (pc := 45) (v := 2) dX0_joining_45 (by decide) ?_
  refine r_icmp_ne (pc := 46) (tgt := 53) dX0_joining_46 (by decide) (fun c5 => ?_) (fun c5 => ?_)
  · replace h := h.1 c5
    refine r_aload_n (pc := 53) (i := 0) dX0_joining_53 rfl rfl ?_
    refine r_geti (pc := 54) flX0_19 dX0_joining_54 (Or.inl rfl) k4 ?_
    refine r_iconst (pc := 57) (v := 3) dX0_joining_57 (by decide) ?_
    refine r_icmp_ne (pc := 58) (tgt := 70) dX0_joining_58 (by decide) (fun c6 => ?_) (fun c6 => ?_)
    · replace h := h.1 c6
      refine r_iload_n (pc := 70) (i := 2) dX0_joining_70 rfl rfl ?_
      exact r_iret (pc := 71) dX0_joining_71 rfl h
    · replace h := h.2 c6
      refine r_iload_n (pc := 61) (i := 2) dX0_joining_61 rfl rfl ?_
      refine r_aload_n (pc := 62) (i := 0) dX0_joining_62 rfl rfl ?_
      refine r_geti (pc := 63) flX0_22 dX0_joining_63 (Or.inl rfl) k4 ?_
      refine r_imul (pc := 66) dX0_joining_66 ?_
      refine r_goto (pc := 67) (tgt := 71) dX0_joining_67 (by decide) ?_
      exact r_iret (pc := 71) dX0_joining_71 rfl h
  · replace h := h.2 c5
    refine r_iload_n (pc := 49) (i := 2) dX0_joining_49 rfl rfl ?_
    refine r_iload_n (pc := 50) (i := 1) dX0_joining_50 rfl rfl ?_
    refine r_isub (pc := 51) dX0_joining_51 ?_
    exact r_iret (pc := 52) dX0_joining_52 rfl h
abbrev LX0_telling_21 (G : GG) (d rc rs : Nat) (p0 : Nat) (x1 : Int32) (x2 : Int32) (x3 : Int32) (M : Mem) (Q : Option Value → Mem → Prop) : Prop := Wk G (d + 1) rc rs mX0_telling 21 [some (.ref p0), some (.int x1), some (.int x2), some (.int x3), none] [] M Q
theorem eX0_telling {G : GG} {d rc rs : Nat} (o : Nat) (a1 : Int32)  {M : Mem} {Q : Option Value → Mem → Prop} (h : (x_h M o).1 = 16 ∧ Call G d 0 0 mX0_isGrown [.ref o] M (fun r2 M3 => ∃ v4 : Int32, r2 = some (.int v4) ∧ (v4 = 0 → LX0_telling_21 G d rc rs o a1 a1 0 M3 Q) ∧ (¬ v4 = 0 → (x_h M3 o).1 = 16 ∧ Call G d 0 0 mX0_ran [.ref o, .int 21] M3 (fun r7 M8 => r7 = none ∧ LX0_telling_21 G d rc rs o a1 (a1 + 1) 0 M8 Q)))) : Call G (d + 1) rc rs mX0_telling [.ref o, .int a1] M Q := by
  refine call_of (by decide) (Nat.le_of_ble_eq_true rfl) ?_
  show Wk G (d + 1) rc rs mX0_telling 0 [some (.ref o), some (.int a1), none, none, none] [] M Q
  refine r_iload_n (pc := 0) (i := 1) dX0_telling_0 rfl rfl ?_
  refine r_istore_n (pc := 1) (i := 2) dX0_telling_1 rfl rfl (Nat.le_of_ble_eq_true rfl) ?_
  refine r_iconst (pc := 2) (v := 0) dX0_telling_2 (by decide) ?_
  refine r_istore_n (pc := 3) (i := 3) dX0_telling_3 rfl rfl (Nat.le_of_ble_eq_true rfl) ?_
  refine r_aload_n (pc := 4) (i := 0) dX0_telling_4 rfl rfl ?_
  obtain ⟨k1, h⟩ := h
  refine r_callV (pc := 5) (ci := 0) (as := []) (st := []) okX0_isGrown lkX0_41 inX0_isGrown seX0_isGrown ⟨_, rfl, rfl⟩ dX0_telling_5 rfl k1 (Nat.le_of_ble_eq_true rfl) (Nat.zero_le _) (Nat.zero_le _) (Call.mono h (fun r2 M3 h => ?_))
  obtain ⟨v4, rfl, h⟩ := h
  refine r_if_eq (pc := 8) (tgt := 21) dX0_telling_8 (by decide) (fun c5 => ?_) (fun c5 => ?_)
  · replace h := h.1 c5
    exact h
  · replace h := h.2 c5
    refine r_aload_n (pc := 11) (i := 0) dX0_telling_11 rfl rfl ?_
    refine r_bipush (pc := 12) (v := 21) dX0_telling_12 (by decide) ?_
    obtain ⟨k6, h⟩ := h
    refine r_callV (pc := 14) (ci := 0) (as := [_]) (st := []) okX0_ran lkX0_45 inX0_ran seX0_ran ⟨_, rfl, rfl⟩ dX0_telling_14 rfl k6 (Nat.le_of_ble_eq_true rfl) (Nat.zero_le _) (Nat.zero_le _) (Call.mono h (fun r7 M8 h => ?_))
    obtain ⟨rfl, h⟩ := h
    refine r_iload_n (pc := 17) (i := 1) dX0_telling_17 rfl rfl ?_
    refine r_iconst (pc := 18) (v := 1) dX0_telling_18 (by decide) ?_
    refine r_iadd (pc := 19) dX0_telling_19 ?_
    refine r_istore_n (pc := 20) (i := 2) dX0_telling_20 rfl rfl (Nat.le_of_ble_eq_true rfl) ?_
    exact h
theorem vX0_telling_21 {G : GG} {d rc rs : Nat} (p0 : Nat) (x1 : Int32) (x2 : Int32) (x3 : Int32)  {M : Mem} {Q : Option Value → Mem → Prop} (h : (x_h M p0).1 = 16 ∧ (¬ (x_i M p0 2) = 4 → Call G d 0 0 mX0_ran [.ref p0, .int 13] M (fun r3 M4 => r3 = none ∧ (x_h M4 p0).1 = 16 ∧ Call G d 0 0 mX0_stepping [.ref p0, .int x2] M4 (fun r6 M7 => ∃ v8 : Int32, r6 = some (.int v8) ∧ (x_h M7 p0).1 = 16 ∧ Call G d 0 0 mX0_joining [.ref p0, .int x2] M7 (fun r10 M11 => ∃ v12 : Int32, r10 = some (.int v12) ∧ Q (some (.int (x3 ^^^ (v8 - v12)))) M11)))) ∧ ((x_i M p0 2) = 4 → Call G d 0 0 mX0_ran [.ref p0, .int 51] M (fun r13 M14 => r13 = none ∧ (x_h M14 p0).1 = 16 ∧ Call G d 0 0 mX0_joining [.ref p0, .int x1] M14 (fun r16 M17 => ∃ v18 : Int32, r16 = some (.int v18) ∧ (x_h M17 p0).1 = 16 ∧ Call G d 0 0 mX0_ran [.ref p0, .int 13] M17 (fun r20 M21 => r20 = none ∧ (x_h M21 p0).1 = 16 ∧ Call G d 0 0 mX0_stepping [.ref p0, .int x2] M21 (fun r23 M24 => ∃ v25 : Int32, r23 = some (.int v25) ∧ (x_h M24 p0).1 = 16 ∧ Call G d 0 0 mX0_joining [.ref p0, .int x2] M24 (fun r27 M28 => ∃ v29 : Int32, r27 = some (.int v29) ∧ Q (some (.int (v18 ^^^ (v25 - v29)))) M28))))))) : LX0_telling_21 G d rc rs p0 x1 x2 x3 M Q := by
  show Wk G (d + 1) rc rs mX0_telling 21 _ _ M Q
  refine r_aload_n (pc := 21) (i := 0) dX0_telling_21 rfl rfl ?_
  obtain ⟨k1, h⟩ := h
  refine r_geti (pc := 22) flX0_19 dX0_telling_22 (Or.inl rfl) k1 ?_
  refine r_iconst (pc := 25) (v := 4) dX0_telling_25 (by decide) ?_
  refine r_icmp_ne (pc := 26) (tgt := 41) dX0_telling_26 (by decide) (fun c2 => ?_) (fun c2 => ?_)
  · replace h := h.1 c2
    refine r_aload_n (pc := 41) (i := 0) dX0_telling_41 rfl rfl ?_
    refine r_bipush (pc := 42) (v := 13) dX0_telling_42 (by decide) ?_
    refine r_callV (pc := 44) (ci := 0) (as := [_]) (st := []) okX0_ran lkX0_45 inX0_ran seX0_ran ⟨_, rfl, rfl⟩ dX0_telling_44 rfl k1 (Nat.le_of_ble_eq_true rfl) (Nat.zero_le _) (Nat.zero_le _) (Call.mono h (fun r3 M4 h => ?_))
    obtain ⟨rfl, h⟩ := h
    refine r_aload_n (pc := 47) (i := 0) dX0_telling_47 rfl rfl ?_
    refine r_iload_n (pc := 48) (i := 2) dX0_telling_48 rfl rfl ?_
    obtain ⟨k5, h⟩ := h
    refine r_callV (pc := 49) (ci := 0) (as := [_]) (st := []) okX0_stepping lkX0_32 inX0_stepping seX0_stepping ⟨_, rfl, rfl⟩ dX0_telling_49 rfl k5 (Nat.le_of_ble_eq_true rfl) (Nat.zero_le _) (Nat.zero_le _) (Call.mono h (fun r6 M7 h => ?_))
    obtain ⟨v8, rfl, h⟩ := h
    refine r_istore (pc := 52) (i := 4) dX0_telling_52 rfl (Nat.le_of_ble_eq_true rfl) ?_
    refine r_iload_n (pc := 54) (i := 3) dX0_telling_54 rfl rfl ?_
    refine r_iload (pc := 55) (i := 4) dX0_telling_55 rfl ?_
    refine r_aload_n (pc := 57) (i := 0) dX0_telling_57 rfl rfl ?_
    refine r_iload_n (pc := 58) (i := 2) dX0_telling_58 rfl rfl ?_
    obtain ⟨k9, h⟩ := h
    refine r_callV (pc := 59) (ci := 0) (as := [_]) (st := [_, _]) okX0_joining lkX0_35 inX0_joining seX0_joining ⟨_, rfl, rfl⟩ dX0_telling_59 rfl k9 (Nat.le_of_ble_eq_true rfl) (Nat.zero_le _) (Nat.zero_le _) (Call.mono h (fun r10 M11 h => ?_))
    obtain ⟨v12, rfl, h⟩ := h
    refine r_isub (pc := 62) dX0_telling_62 ?_
    refine r_ixor (pc := 63) dX0_telling_63 ?_
    exact r_iret (pc := 64) dX0_telling_64 rfl h
  · replace h := h.2 c2
    refine r_aload_n (pc := 29) (i := 0) dX0_telling_29 rfl rfl ?_
    refine r_bipush (pc := 30) (v := 51) dX0_telling_30 (by decide) ?_
    refine r_callV (pc := 32) (ci := 0) (as := [_]) (st := []) okX0_ran lkX0_45 inX0_ran seX0_ran ⟨_, rfl, rfl⟩ dX0_telling_32 rfl k1 (Nat.le_of_ble_eq_true rfl) (Nat.zero_le _) (Nat.zero_le _) (Call.mono h (fun r13 M14 h => ?_))
    obtain ⟨rfl, h⟩ := h
    refine r_aload_n (pc := 35) (i := 0) dX0_telling_35 rfl rfl ?_
    refine r_iload_n (pc := 36) (i := 1) dX0_telling_36 rfl rfl ?_
    obtain ⟨k15, h⟩ := h
    refine r_callV (pc := 37) (ci := 0) (as := [_]) (st := []) okX0_joining lkX0_35 inX0_joining seX0_joining ⟨_, rfl, rfl⟩ dX0_telling_37 rfl k15 (Nat.le_of_ble_eq_true rfl) (Nat.zero_le _) (Nat.zero_le _) (Call.mono h (fun r16 M17 h => ?_))
    obtain ⟨v18, rfl, h⟩ := h
    refine r_istore_n (pc := 40) (i := 3) dX0_telling_40 rfl rfl (Nat.le_of_ble_eq_true rfl) ?_
    refine r_aload_n (pc := 41) (i := 0) dX0_telling_41 rfl rfl ?_
    refine r_bipush (pc := 42) (v := 13) dX0_telling_42 (by decide) ?_
    obtain ⟨k19, h⟩ := h
    refine r_callV (pc := 44) (ci := 0) (as := [_]) (st := []) okX0_ran lkX0_45 inX0_ran seX0_ran ⟨_, rfl, rfl⟩ dX0_telling_44 rfl k19 (Nat.le_of_ble_eq_true rfl) (Nat.zero_le _) (Nat.zero_le _) (Call.mono h (fun r20 M21 h => ?_))
    obtain ⟨rfl, h⟩ := h
    refine r_aload_n (pc := 47) (i := 0) dX0_telling_47 rfl rfl ?_
    refine r_iload_n (pc := 48) (i := 2) dX0_telling_48 rfl rfl ?_
    obtain ⟨k22, h⟩ := h
    refine r_callV (pc := 49) (ci := 0) (as := [_]) (st := []) okX0_stepping lkX0_32 inX0_stepping seX0_stepping ⟨_, rfl, rfl⟩ dX0_telling_49 rfl k22 (Nat.le_of_ble_eq_true rfl) (Nat.zero_le _) (Nat.zero_le _) (Call.mono h (fun r23 M24 h => ?_))
    obtain ⟨v25, rfl, h⟩ := h
    refine r_istore (pc := 52) (i := 4) dX0_telling_52 rfl (Nat.le_of_ble_eq_true rfl) ?_
    refine r_iload_n (pc := 54) (i := 3) dX0_telling_54 rfl rfl ?_
    refine r_iload (pc := 55) (i := 4) dX0_telling_55 rfl ?_
    refine r_aload_n (pc := 57) (i := 0) dX0_telling_57 rfl rfl ?_
    refine r_iload_n (pc := 58) (i := 2) dX0_telling_58 rfl rfl ?_
    obtain ⟨k26, h⟩ := h
    refine r_callV (pc := 59) (ci := 0) (as := [_]) (st := [_, _]) okX0_joining lkX0_35 inX0_joining seX0_joining ⟨_, rfl, rfl⟩ dX0_telling_59 rfl k26 (Nat.le_of_ble_eq_true rfl) (Nat.zero_le _) (Nat.zero_le _) (Call.mono h (fun r27 M28 h => ?_))
    obtain ⟨v29, rfl, h⟩ := h
    refine r_isub (pc := 62) dX0_telling_62 ?_
    refine r_ixor (pc := 63) dX0_telling_63 ?_
    exact r_iret (pc := 64) dX0_telling_64 rfl h
