/-! EndlessRows$Loom: decode rows and verification conditions, by program -/
theorem dX2_init_0 : decode cX2_init 0 = .ok (.aload_n 0, 1) := by decide +kernel
theorem dX2_init_1 : decode cX2_init 1 = .ok (.invokespecial 3, 3) := by decide +kernel
theorem dX2_init_4 : decode cX2_init 4 = .ok (.aload_n 0, 1) := by decide +kernel
theorem dX2_init_5 : decode cX2_init 5 = .ok (.sipush 3600, 3) := by decide +kernel
theorem dX2_init_8 : decode cX2_init 8 = .ok (.newarray .int, 2) := by decide +kernel
theorem dX2_init_10 : decode cX2_init 10 = .ok (.putfield 11, 3) := by decide +kernel
theorem dX2_init_13 : decode cX2_init 13 = .ok (.aload_n 0, 1) := by decide +kernel
theorem dX2_init_14 : decode cX2_init 14 = .ok (.sipush 3600, 3) := by decide +kernel
theorem dX2_init_17 : decode cX2_init 17 = .ok (.newarray .int, 2) := by decide +kernel
theorem dX2_init_19 : decode cX2_init 19 = .ok (.putfield 15, 3) := by decide +kernel
theorem dX2_init_22 : decode cX2_init 22 = .ok (.aload_n 0, 1) := by decide +kernel
theorem dX2_init_23 : decode cX2_init 23 = .ok (.sipush 3600, 3) := by decide +kernel
theorem dX2_init_26 : decode cX2_init 26 = .ok (.newarray .int, 2) := by decide +kernel
theorem dX2_init_28 : decode cX2_init 28 = .ok (.putfield 18, 3) := by decide +kernel
theorem dX2_init_31 : decode cX2_init 31 = .ok (.aload_n 0, 1) := by decide +kernel
theorem dX2_init_32 : decode cX2_init 32 = .ok (.ldc 21, 2) := by decide +kernel
theorem dX2_init_34 : decode cX2_init 34 = .ok (.newarray .int, 2) := by decide +kernel
theorem dX2_init_36 : decode cX2_init 36 = .ok (.putfield 22, 3) := by decide +kernel
theorem dX2_init_39 : decode cX2_init 39 = .ok (.aload_n 0, 1) := by decide +kernel
theorem dX2_init_40 : decode cX2_init 40 = .ok (.sipush 3600, 3) := by decide +kernel
theorem dX2_init_43 : decode cX2_init 43 = .ok (.newarray .int, 2) := by decide +kernel
theorem dX2_init_45 : decode cX2_init 45 = .ok (.putfield 25, 3) := by decide +kernel
theorem dX2_init_48 : decode cX2_init 48 = .ok (.aload_n 0, 1) := by decide +kernel
theorem dX2_init_49 : decode cX2_init 49 = .ok (.sipush 3600, 3) := by decide +kernel
theorem dX2_init_52 : decode cX2_init 52 = .ok (.newarray .int, 2) := by decide +kernel
theorem dX2_init_54 : decode cX2_init 54 = .ok (.putfield 28, 3) := by decide +kernel
theorem dX2_init_57 : decode cX2_init 57 = .ok (.aload_n 0, 1) := by decide +kernel
theorem dX2_init_58 : decode cX2_init 58 = .ok (.sipush 3600, 3) := by decide +kernel
theorem dX2_init_61 : decode cX2_init 61 = .ok (.newarray .int, 2) := by decide +kernel
theorem dX2_init_63 : decode cX2_init 63 = .ok (.putfield 31, 3) := by decide +kernel
theorem dX2_init_66 : decode cX2_init 66 = .ok (.aload_n 0, 1) := by decide +kernel
theorem dX2_init_67 : decode cX2_init 67 = .ok (.iconst 0, 1) := by decide +kernel
theorem dX2_init_68 : decode cX2_init 68 = .ok (.putfield 34, 3) := by decide +kernel
theorem dX2_init_71 : decode cX2_init 71 = .ok (.aload_n 0, 1) := by decide +kernel
theorem dX2_init_72 : decode cX2_init 72 = .ok (.iconst 1, 1) := by decide +kernel
theorem dX2_init_73 : decode cX2_init 73 = .ok (.putfield 38, 3) := by decide +kernel
theorem dX2_init_76 : decode cX2_init 76 = .ok (.aload_n 0, 1) := by decide +kernel
theorem dX2_init_77 : decode cX2_init 77 = .ok (.iconst 0, 1) := by decide +kernel
theorem dX2_init_78 : decode cX2_init 78 = .ok (.putfield 41, 3) := by decide +kernel
theorem dX2_init_81 : decode cX2_init 81 = .ok (.return_, 1) := by decide +kernel
theorem dX2_open_0 : decode cX2_open 0 = .ok (.aload_n 0, 1) := by decide +kernel
theorem dX2_open_1 : decode cX2_open 1 = .ok (.iconst 0, 1) := by decide +kernel
theorem dX2_open_2 : decode cX2_open 2 = .ok (.iload_n 1, 1) := by decide +kernel
theorem dX2_open_3 : decode cX2_open 3 = .ok (.sipush 3600, 3) := by decide +kernel
theorem dX2_open_6 : decode cX2_open 6 = .ok (.invokestatic 44, 3) := by decide +kernel
theorem dX2_open_9 : decode cX2_open 9 = .ok (.invokestatic 50, 3) := by decide +kernel
theorem dX2_open_12 : decode cX2_open 12 = .ok (.putfield 34, 3) := by decide +kernel
theorem dX2_open_15 : decode cX2_open 15 = .ok (.aload_n 0, 1) := by decide +kernel
theorem dX2_open_16 : decode cX2_open 16 = .ok (.iload_n 2, 1) := by decide +kernel
theorem dX2_open_17 : decode cX2_open 17 = .ok (.putfield 38, 3) := by decide +kernel
theorem dX2_open_20 : decode cX2_open 20 = .ok (.aload_n 0, 1) := by decide +kernel
theorem dX2_open_21 : decode cX2_open 21 = .ok (.iconst 0, 1) := by decide +kernel
theorem dX2_open_22 : decode cX2_open 22 = .ok (.putfield 41, 3) := by decide +kernel
theorem dX2_open_25 : decode cX2_open 25 = .ok (.aload_n 0, 1) := by decide +kernel
theorem dX2_open_26 : decode cX2_open 26 = .ok (.getfield 15, 3) := by decide +kernel
theorem dX2_open_29 : decode cX2_open 29 = .ok (.iconst 0, 1) := by decide +kernel
theorem dX2_open_30 : decode cX2_open 30 = .ok (.aload_n 0, 1) := by decide +kernel
theorem dX2_open_31 : decode cX2_open 31 = .ok (.getfield 34, 3) := by decide +kernel
theorem dX2_open_34 : decode cX2_open 34 = .ok (.iconst (-1), 1) := by decide +kernel
theorem dX2_open_35 : decode cX2_open 35 = .ok (.invokestatic 53, 3) := by decide +kernel
theorem dX2_open_38 : decode cX2_open 38 = .ok (.return_, 1) := by decide +kernel
theorem dX2_meet_0 : decode cX2_meet 0 = .ok (.iload_n 1, 1) := by decide +kernel
theorem dX2_meet_1 : decode cX2_meet 1 = .ok (.aload_n 0, 1) := by decide +kernel
theorem dX2_meet_2 : decode cX2_meet 2 = .ok (.getfield 34, 3) := by decide +kernel
theorem dX2_meet_5 : decode cX2_meet 5 = .ok (.invokestatic 59, 3) := by decide +kernel
theorem dX2_meet_8 : decode cX2_meet 8 = .ok (.ifCond .ne 5, 3) := by decide +kernel
theorem dX2_meet_11 : decode cX2_meet 11 = .ok (.iconst (-1), 1) := by decide +kernel
theorem dX2_meet_12 : decode cX2_meet 12 = .ok (.ireturn, 1) := by decide +kernel
theorem dX2_meet_13 : decode cX2_meet 13 = .ok (.aload_n 0, 1) := by decide +kernel
theorem dX2_meet_14 : decode cX2_meet 14 = .ok (.getfield 15, 3) := by decide +kernel
theorem dX2_meet_17 : decode cX2_meet 17 = .ok (.iload_n 1, 1) := by decide +kernel
theorem dX2_meet_18 : decode cX2_meet 18 = .ok (.iaload, 1) := by decide +kernel
theorem dX2_meet_19 : decode cX2_meet 19 = .ok (.iconst (-1), 1) := by decide +kernel
theorem dX2_meet_20 : decode cX2_meet 20 = .ok (.if_icmp .ne 43, 3) := by decide +kernel
theorem dX2_meet_23 : decode cX2_meet 23 = .ok (.aload_n 0, 1) := by decide +kernel
theorem dX2_meet_24 : decode cX2_meet 24 = .ok (.getfield 15, 3) := by decide +kernel
theorem dX2_meet_27 : decode cX2_meet 27 = .ok (.iload_n 1, 1) := by decide +kernel
theorem dX2_meet_28 : decode cX2_meet 28 = .ok (.aload_n 0, 1) := by decide +kernel
theorem dX2_meet_29 : decode cX2_meet 29 = .ok (.getfield 41, 3) := by decide +kernel
theorem dX2_meet_32 : decode cX2_meet 32 = .ok (.iastore, 1) := by decide +kernel
theorem dX2_meet_33 : decode cX2_meet 33 = .ok (.aload_n 0, 1) := by decide +kernel
theorem dX2_meet_34 : decode cX2_meet 34 = .ok (.getfield 11, 3) := by decide +kernel
theorem dX2_meet_37 : decode cX2_meet 37 = .ok (.aload_n 0, 1) := by decide +kernel
theorem dX2_meet_38 : decode cX2_meet 38 = .ok (.getfield 41, 3) := by decide +kernel
theorem dX2_meet_41 : decode cX2_meet 41 = .ok (.iload_n 1, 1) := by decide +kernel
theorem dX2_meet_42 : decode cX2_meet 42 = .ok (.iastore, 1) := by decide +kernel
theorem dX2_meet_43 : decode cX2_meet 43 = .ok (.aload_n 0, 1) := by decide +kernel
theorem dX2_meet_44 : decode cX2_meet 44 = .ok (.getfield 18, 3) := by decide +kernel
theorem dX2_meet_47 : decode cX2_meet 47 = .ok (.aload_n 0, 1) := by decide +kernel
theorem dX2_meet_48 : decode cX2_meet 48 = .ok (.getfield 41, 3) := by decide +kernel
theorem dX2_meet_51 : decode cX2_meet 51 = .ok (.iconst 0, 1) := by decide +kernel
theorem dX2_meet_52 : decode cX2_meet 52 = .ok (.iastore, 1) := by decide +kernel
theorem dX2_meet_53 : decode cX2_meet 53 = .ok (.aload_n 0, 1) := by decide +kernel
theorem dX2_meet_54 : decode cX2_meet 54 = .ok (.dup, 1) := by decide +kernel
theorem dX2_meet_55 : decode cX2_meet 55 = .ok (.getfield 41, 3) := by decide +kernel
theorem dX2_meet_58 : decode cX2_meet 58 = .ok (.iconst 1, 1) := by decide +kernel
theorem dX2_meet_59 : decode cX2_meet 59 = .ok (.iadd, 1) := by decide +kernel
theorem dX2_meet_60 : decode cX2_meet 60 = .ok (.putfield 41, 3) := by decide +kernel
theorem dX2_meet_63 : decode cX2_meet 63 = .ok (.aload_n 0, 1) := by decide +kernel
theorem dX2_meet_64 : decode cX2_meet 64 = .ok (.getfield 15, 3) := by decide +kernel
theorem dX2_meet_67 : decode cX2_meet 67 = .ok (.iload_n 1, 1) := by decide +kernel
theorem dX2_meet_68 : decode cX2_meet 68 = .ok (.iaload, 1) := by decide +kernel
theorem dX2_meet_69 : decode cX2_meet 69 = .ok (.ireturn, 1) := by decide +kernel
theorem dX2_keyOf_0 : decode cX2_keyOf 0 = .ok (.iload_n 1, 1) := by decide +kernel
theorem dX2_keyOf_1 : decode cX2_keyOf 1 = .ok (.aload_n 0, 1) := by decide +kernel
theorem dX2_keyOf_2 : decode cX2_keyOf 2 = .ok (.getfield 41, 3) := by decide +kernel
theorem dX2_keyOf_5 : decode cX2_keyOf 5 = .ok (.invokestatic 59, 3) := by decide +kernel
theorem dX2_keyOf_8 : decode cX2_keyOf 8 = .ok (.ifCond .eq 12, 3) := by decide +kernel
theorem dX2_keyOf_11 : decode cX2_keyOf 11 = .ok (.aload_n 0, 1) := by decide +kernel
theorem dX2_keyOf_12 : decode cX2_keyOf 12 = .ok (.getfield 11, 3) := by decide +kernel
theorem dX2_keyOf_15 : decode cX2_keyOf 15 = .ok (.iload_n 1, 1) := by decide +kernel
theorem dX2_keyOf_16 : decode cX2_keyOf 16 = .ok (.iaload, 1) := by decide +kernel
theorem dX2_keyOf_17 : decode cX2_keyOf 17 = .ok (.goto 4, 3) := by decide +kernel
theorem dX2_keyOf_20 : decode cX2_keyOf 20 = .ok (.iconst 0, 1) := by decide +kernel
theorem dX2_keyOf_21 : decode cX2_keyOf 21 = .ok (.ireturn, 1) := by decide +kernel
theorem dX2_link_0 : decode cX2_link 0 = .ok (.iload_n 1, 1) := by decide +kernel
theorem dX2_link_1 : decode cX2_link 1 = .ok (.aload_n 0, 1) := by decide +kernel
theorem dX2_link_2 : decode cX2_link 2 = .ok (.getfield 38, 3) := by decide +kernel
theorem dX2_link_5 : decode cX2_link 5 = .ok (.imul, 1) := by decide +kernel
theorem dX2_link_6 : decode cX2_link 6 = .ok (.iload_n 2, 1) := by decide +kernel
theorem dX2_link_7 : decode cX2_link 7 = .ok (.iadd, 1) := by decide +kernel
theorem dX2_link_8 : decode cX2_link 8 = .ok (.istore 4, 2) := by decide +kernel
theorem dX2_link_10 : decode cX2_link 10 = .ok (.iload_n 1, 1) := by decide +kernel
theorem dX2_link_11 : decode cX2_link 11 = .ok (.aload_n 0, 1) := by decide +kernel
theorem dX2_link_12 : decode cX2_link 12 = .ok (.getfield 41, 3) := by decide +kernel
theorem dX2_link_15 : decode cX2_link 15 = .ok (.invokestatic 59, 3) := by decide +kernel
theorem dX2_link_18 : decode cX2_link 18 = .ok (.ifCond .eq 35, 3) := by decide +kernel
theorem dX2_link_21 : decode cX2_link 21 = .ok (.iload_n 2, 1) := by decide +kernel
theorem dX2_link_22 : decode cX2_link 22 = .ok (.aload_n 0, 1) := by decide +kernel
theorem dX2_link_23 : decode cX2_link 23 = .ok (.getfield 38, 3) := by decide +kernel
theorem dX2_link_26 : decode cX2_link 26 = .ok (.invokestatic 59, 3) := by decide +kernel
theorem dX2_link_29 : decode cX2_link 29 = .ok (.ifCond .eq 24, 3) := by decide +kernel
theorem dX2_link_32 : decode cX2_link 32 = .ok (.iload 4, 2) := by decide +kernel
theorem dX2_link_34 : decode cX2_link 34 = .ok (.aload_n 0, 1) := by decide +kernel
theorem dX2_link_35 : decode cX2_link 35 = .ok (.getfield 22, 3) := by decide +kernel
theorem dX2_link_38 : decode cX2_link 38 = .ok (.arraylength, 1) := by decide +kernel
theorem dX2_link_39 : decode cX2_link 39 = .ok (.invokestatic 59, 3) := by decide +kernel
theorem dX2_link_42 : decode cX2_link 42 = .ok (.ifCond .eq 11, 3) := by decide +kernel
theorem dX2_link_45 : decode cX2_link 45 = .ok (.aload_n 0, 1) := by decide +kernel
theorem dX2_link_46 : decode cX2_link 46 = .ok (.getfield 22, 3) := by decide +kernel
theorem dX2_link_49 : decode cX2_link 49 = .ok (.iload 4, 2) := by decide +kernel
theorem dX2_link_51 : decode cX2_link 51 = .ok (.iload_n 3, 1) := by decide +kernel
theorem dX2_link_52 : decode cX2_link 52 = .ok (.iastore, 1) := by decide +kernel
theorem dX2_link_53 : decode cX2_link 53 = .ok (.return_, 1) := by decide +kernel
theorem dX2_putMark_0 : decode cX2_putMark 0 = .ok (.iload_n 1, 1) := by decide +kernel
theorem dX2_putMark_1 : decode cX2_putMark 1 = .ok (.aload_n 0, 1) := by decide +kernel
theorem dX2_putMark_2 : decode cX2_putMark 2 = .ok (.getfield 41, 3) := by decide +kernel
theorem dX2_putMark_5 : decode cX2_putMark 5 = .ok (.invokestatic 59, 3) := by decide +kernel
theorem dX2_putMark_8 : decode cX2_putMark 8 = .ok (.ifCond .eq 10, 3) := by decide +kernel
theorem dX2_putMark_11 : decode cX2_putMark 11 = .ok (.aload_n 0, 1) := by decide +kernel
theorem dX2_putMark_12 : decode cX2_putMark 12 = .ok (.getfield 18, 3) := by decide +kernel
theorem dX2_putMark_15 : decode cX2_putMark 15 = .ok (.iload_n 1, 1) := by decide +kernel
theorem dX2_putMark_16 : decode cX2_putMark 16 = .ok (.iload_n 2, 1) := by decide +kernel
theorem dX2_putMark_17 : decode cX2_putMark 17 = .ok (.iastore, 1) := by decide +kernel
theorem dX2_putMark_18 : decode cX2_putMark 18 = .ok (.return_, 1) := by decide +kernel
theorem dX2_linkOf_0 : decode cX2_linkOf 0 = .ok (.iload_n 1, 1) := by decide +kernel
theorem dX2_linkOf_1 : decode cX2_linkOf 1 = .ok (.aload_n 0, 1) := by decide +kernel
theorem dX2_linkOf_2 : decode cX2_linkOf 2 = .ok (.getfield 38, 3) := by decide +kernel
theorem dX2_linkOf_5 : decode cX2_linkOf 5 = .ok (.imul, 1) := by decide +kernel
theorem dX2_linkOf_6 : decode cX2_linkOf 6 = .ok (.iload_n 2, 1) := by decide +kernel
theorem dX2_linkOf_7 : decode cX2_linkOf 7 = .ok (.iadd, 1) := by decide +kernel
theorem dX2_linkOf_8 : decode cX2_linkOf 8 = .ok (.istore_n 3, 1) := by decide +kernel
theorem dX2_linkOf_9 : decode cX2_linkOf 9 = .ok (.iload_n 3, 1) := by decide +kernel
theorem dX2_linkOf_10 : decode cX2_linkOf 10 = .ok (.ifCond .lt 12, 3) := by decide +kernel
theorem dX2_linkOf_13 : decode cX2_linkOf 13 = .ok (.iload_n 3, 1) := by decide +kernel
theorem dX2_linkOf_14 : decode cX2_linkOf 14 = .ok (.aload_n 0, 1) := by decide +kernel
theorem dX2_linkOf_15 : decode cX2_linkOf 15 = .ok (.getfield 22, 3) := by decide +kernel
theorem dX2_linkOf_18 : decode cX2_linkOf 18 = .ok (.arraylength, 1) := by decide +kernel
theorem dX2_linkOf_19 : decode cX2_linkOf 19 = .ok (.if_icmp .lt 5, 3) := by decide +kernel
theorem dX2_linkOf_22 : decode cX2_linkOf 22 = .ok (.iconst 0, 1) := by decide +kernel
theorem dX2_linkOf_23 : decode cX2_linkOf 23 = .ok (.ireturn, 1) := by decide +kernel
theorem dX2_linkOf_24 : decode cX2_linkOf 24 = .ok (.aload_n 0, 1) := by decide +kernel
theorem dX2_linkOf_25 : decode cX2_linkOf 25 = .ok (.getfield 22, 3) := by decide +kernel
theorem dX2_linkOf_28 : decode cX2_linkOf 28 = .ok (.iload_n 3, 1) := by decide +kernel
theorem dX2_linkOf_29 : decode cX2_linkOf 29 = .ok (.iaload, 1) := by decide +kernel
theorem dX2_linkOf_30 : decode cX2_linkOf 30 = .ok (.istore 4, 2) := by decide +kernel
theorem dX2_linkOf_32 : decode cX2_linkOf 32 = .ok (.iload 4, 2) := by decide +kernel
theorem dX2_linkOf_34 : decode cX2_linkOf 34 = .ok (.ifCond .lt 17, 3) := by decide +kernel
theorem dX2_linkOf_37 : decode cX2_linkOf 37 = .ok (.iload 4, 2) := by decide +kernel
theorem dX2_linkOf_39 : decode cX2_linkOf 39 = .ok (.aload_n 0, 1) := by decide +kernel
theorem dX2_linkOf_40 : decode cX2_linkOf 40 = .ok (.getfield 41, 3) := by decide +kernel
theorem dX2_linkOf_43 : decode cX2_linkOf 43 = .ok (.if_icmp .ge 8, 3) := by decide +kernel
theorem dX2_linkOf_46 : decode cX2_linkOf 46 = .ok (.iload 4, 2) := by decide +kernel
theorem dX2_linkOf_48 : decode cX2_linkOf 48 = .ok (.goto 4, 3) := by decide +kernel
theorem dX2_linkOf_51 : decode cX2_linkOf 51 = .ok (.iconst 0, 1) := by decide +kernel
theorem dX2_linkOf_52 : decode cX2_linkOf 52 = .ok (.ireturn, 1) := by decide +kernel
theorem dX2_draw_0 : decode cX2_draw 0 = .ok (.aload_n 0, 1) := by decide +kernel
theorem dX2_draw_1 : decode cX2_draw 1 = .ok (.invokevirtual 63, 3) := by decide +kernel
theorem dX2_draw_4 : decode cX2_draw 4 = .ok (.istore_n 3, 1) := by decide +kernel
theorem dX2_draw_5 : decode cX2_draw 5 = .ok (.iconst 0, 1) := by decide +kernel
theorem dX2_draw_6 : decode cX2_draw 6 = .ok (.istore 4, 2) := by decide +kernel
theorem dX2_draw_8 : decode cX2_draw 8 = .ok (.iconst 0, 1) := by decide +kernel
theorem dX2_draw_9 : decode cX2_draw 9 = .ok (.istore 5, 2) := by decide +kernel
theorem dX2_draw_11 : decode cX2_draw 11 = .ok (.iconst 0, 1) := by decide +kernel
theorem dX2_draw_12 : decode cX2_draw 12 = .ok (.istore 6, 2) := by decide +kernel
theorem dX2_draw_14 : decode cX2_draw 14 = .ok (.iload 6, 2) := by decide +kernel
theorem dX2_draw_16 : decode cX2_draw 16 = .ok (.ldc 67, 2) := by decide +kernel
theorem dX2_draw_18 : decode cX2_draw 18 = .ok (.if_icmp .ge 72, 3) := by decide +kernel
theorem dX2_draw_21 : decode cX2_draw 21 = .ok (.iload 4, 2) := by decide +kernel
theorem dX2_draw_23 : decode cX2_draw 23 = .ok (.aload_n 0, 1) := by decide +kernel
theorem dX2_draw_24 : decode cX2_draw 24 = .ok (.getfield 38, 3) := by decide +kernel
theorem dX2_draw_27 : decode cX2_draw 27 = .ok (.if_icmp .ge 63, 3) := by decide +kernel
theorem dX2_draw_30 : decode cX2_draw 30 = .ok (.iload_n 3, 1) := by decide +kernel
theorem dX2_draw_31 : decode cX2_draw 31 = .ok (.iload_n 2, 1) := by decide +kernel
theorem dX2_draw_32 : decode cX2_draw 32 = .ok (.if_icmp .gt 58, 3) := by decide +kernel
theorem dX2_draw_35 : decode cX2_draw 35 = .ok (.aload_n 0, 1) := by decide +kernel
theorem dX2_draw_36 : decode cX2_draw 36 = .ok (.iload 5, 2) := by decide +kernel
theorem dX2_draw_38 : decode cX2_draw 38 = .ok (.iload_n 3, 1) := by decide +kernel
theorem dX2_draw_39 : decode cX2_draw 39 = .ok (.invokevirtual 68, 3) := by decide +kernel
theorem dX2_draw_42 : decode cX2_draw 42 = .ok (.istore 7, 2) := by decide +kernel
theorem dX2_draw_44 : decode cX2_draw 44 = .ok (.iload 7, 2) := by decide +kernel
theorem dX2_draw_46 : decode cX2_draw 46 = .ok (.iload_n 3, 1) := by decide +kernel
theorem dX2_draw_47 : decode cX2_draw 47 = .ok (.if_icmp .ne 10, 3) := by decide +kernel
theorem dX2_draw_50 : decode cX2_draw 50 = .ok (.iload 4, 2) := by decide +kernel
theorem dX2_draw_52 : decode cX2_draw 52 = .ok (.iconst 1, 1) := by decide +kernel
theorem dX2_draw_53 : decode cX2_draw 53 = .ok (.iadd, 1) := by decide +kernel
theorem dX2_draw_54 : decode cX2_draw 54 = .ok (.goto 4, 3) := by decide +kernel
theorem dX2_draw_57 : decode cX2_draw 57 = .ok (.iconst 0, 1) := by decide +kernel
theorem dX2_draw_58 : decode cX2_draw 58 = .ok (.istore 4, 2) := by decide +kernel
theorem dX2_draw_60 : decode cX2_draw 60 = .ok (.iload 7, 2) := by decide +kernel
theorem dX2_draw_62 : decode cX2_draw 62 = .ok (.istore_n 3, 1) := by decide +kernel
theorem dX2_draw_63 : decode cX2_draw 63 = .ok (.iload 5, 2) := by decide +kernel
theorem dX2_draw_65 : decode cX2_draw 65 = .ok (.iconst 1, 1) := by decide +kernel
theorem dX2_draw_66 : decode cX2_draw 66 = .ok (.iadd, 1) := by decide +kernel
theorem dX2_draw_67 : decode cX2_draw 67 = .ok (.aload_n 0, 1) := by decide +kernel
theorem dX2_draw_68 : decode cX2_draw 68 = .ok (.getfield 38, 3) := by decide +kernel
theorem dX2_draw_71 : decode cX2_draw 71 = .ok (.if_icmp .ge 10, 3) := by decide +kernel
theorem dX2_draw_74 : decode cX2_draw 74 = .ok (.iload 5, 2) := by decide +kernel
theorem dX2_draw_76 : decode cX2_draw 76 = .ok (.iconst 1, 1) := by decide +kernel
theorem dX2_draw_77 : decode cX2_draw 77 = .ok (.iadd, 1) := by decide +kernel
theorem dX2_draw_78 : decode cX2_draw 78 = .ok (.goto 4, 3) := by decide +kernel
theorem dX2_draw_81 : decode cX2_draw 81 = .ok (.iconst 0, 1) := by decide +kernel
theorem dX2_draw_82 : decode cX2_draw 82 = .ok (.istore 5, 2) := by decide +kernel
theorem dX2_draw_84 : decode cX2_draw 84 = .ok (.iinc 6 1, 3) := by decide +kernel
theorem dX2_draw_87 : decode cX2_draw 87 = .ok (.goto (-73), 3) := by decide +kernel
theorem dX2_draw_90 : decode cX2_draw 90 = .ok (.iload_n 3, 1) := by decide +kernel
theorem dX2_draw_91 : decode cX2_draw 91 = .ok (.iconst 1, 1) := by decide +kernel
theorem dX2_draw_92 : decode cX2_draw 92 = .ok (.if_icmp .lt 8, 3) := by decide +kernel
theorem dX2_draw_95 : decode cX2_draw 95 = .ok (.iload_n 3, 1) := by decide +kernel
theorem dX2_draw_96 : decode cX2_draw 96 = .ok (.iload_n 2, 1) := by decide +kernel
theorem dX2_draw_97 : decode cX2_draw 97 = .ok (.if_icmp .le 5, 3) := by decide +kernel
theorem dX2_draw_100 : decode cX2_draw 100 = .ok (.iconst 0, 1) := by decide +kernel
theorem dX2_draw_101 : decode cX2_draw 101 = .ok (.ireturn, 1) := by decide +kernel
theorem dX2_draw_102 : decode cX2_draw 102 = .ok (.aload_n 0, 1) := by decide +kernel
theorem dX2_draw_103 : decode cX2_draw 103 = .ok (.aload_n 1, 1) := by decide +kernel
theorem dX2_draw_104 : decode cX2_draw 104 = .ok (.iload_n 3, 1) := by decide +kernel
theorem dX2_draw_105 : decode cX2_draw 105 = .ok (.invokevirtual 71, 3) := by decide +kernel
theorem dX2_draw_108 : decode cX2_draw 108 = .ok (.iconst 1, 1) := by decide +kernel
theorem dX2_draw_109 : decode cX2_draw 109 = .ok (.ireturn, 1) := by decide +kernel
theorem dX2_splitByMarks_0 : decode cX2_splitByMarks 0 = .ok (.aload_n 0, 1) := by decide +kernel
theorem dX2_splitByMarks_1 : decode cX2_splitByMarks 1 = .ok (.getfield 31, 3) := by decide +kernel
theorem dX2_splitByMarks_4 : decode cX2_splitByMarks 4 = .ok (.iconst 0, 1) := by decide +kernel
theorem dX2_splitByMarks_5 : decode cX2_splitByMarks 5 = .ok (.bipush 8, 2) := by decide +kernel
theorem dX2_splitByMarks_7 : decode cX2_splitByMarks 7 = .ok (.iconst (-1), 1) := by decide +kernel
theorem dX2_splitByMarks_8 : decode cX2_splitByMarks 8 = .ok (.invokestatic 53, 3) := by decide +kernel
theorem dX2_splitByMarks_11 : decode cX2_splitByMarks 11 = .ok (.iconst 0, 1) := by decide +kernel
theorem dX2_splitByMarks_12 : decode cX2_splitByMarks 12 = .ok (.istore_n 1, 1) := by decide +kernel
theorem dX2_splitByMarks_13 : decode cX2_splitByMarks 13 = .ok (.iconst 0, 1) := by decide +kernel
theorem dX2_splitByMarks_14 : decode cX2_splitByMarks 14 = .ok (.istore_n 2, 1) := by decide +kernel
theorem dX2_splitByMarks_15 : decode cX2_splitByMarks 15 = .ok (.iload_n 2, 1) := by decide +kernel
theorem dX2_splitByMarks_16 : decode cX2_splitByMarks 16 = .ok (.aload_n 0, 1) := by decide +kernel
theorem dX2_splitByMarks_17 : decode cX2_splitByMarks 17 = .ok (.getfield 41, 3) := by decide +kernel
theorem dX2_splitByMarks_20 : decode cX2_splitByMarks 20 = .ok (.if_icmp .ge 66, 3) := by decide +kernel
theorem dX2_splitByMarks_23 : decode cX2_splitByMarks 23 = .ok (.aload_n 0, 1) := by decide +kernel
theorem dX2_splitByMarks_24 : decode cX2_splitByMarks 24 = .ok (.getfield 18, 3) := by decide +kernel
theorem dX2_splitByMarks_27 : decode cX2_splitByMarks 27 = .ok (.iload_n 2, 1) := by decide +kernel
theorem dX2_splitByMarks_28 : decode cX2_splitByMarks 28 = .ok (.iaload, 1) := by decide +kernel
theorem dX2_splitByMarks_29 : decode cX2_splitByMarks 29 = .ok (.bipush 8, 2) := by decide +kernel
theorem dX2_splitByMarks_31 : decode cX2_splitByMarks 31 = .ok (.invokestatic 59, 3) := by decide +kernel
theorem dX2_splitByMarks_34 : decode cX2_splitByMarks 34 = .ok (.ifCond .eq 12, 3) := by decide +kernel
theorem dX2_splitByMarks_37 : decode cX2_splitByMarks 37 = .ok (.aload_n 0, 1) := by decide +kernel
theorem dX2_splitByMarks_38 : decode cX2_splitByMarks 38 = .ok (.getfield 18, 3) := by decide +kernel
theorem dX2_splitByMarks_41 : decode cX2_splitByMarks 41 = .ok (.iload_n 2, 1) := by decide +kernel
theorem dX2_splitByMarks_42 : decode cX2_splitByMarks 42 = .ok (.iaload, 1) := by decide +kernel
theorem dX2_splitByMarks_43 : decode cX2_splitByMarks 43 = .ok (.goto 4, 3) := by decide +kernel
theorem dX2_splitByMarks_46 : decode cX2_splitByMarks 46 = .ok (.iconst 0, 1) := by decide +kernel
theorem dX2_splitByMarks_47 : decode cX2_splitByMarks 47 = .ok (.istore_n 3, 1) := by decide +kernel
theorem dX2_splitByMarks_48 : decode cX2_splitByMarks 48 = .ok (.aload_n 0, 1) := by decide +kernel
theorem dX2_splitByMarks_49 : decode cX2_splitByMarks 49 = .ok (.getfield 31, 3) := by decide +kernel
theorem dX2_splitByMarks_52 : decode cX2_splitByMarks 52 = .ok (.iload_n 3, 1) := by decide +kernel
theorem dX2_splitByMarks_53 : decode cX2_splitByMarks 53 = .ok (.iaload, 1) := by decide +kernel
theorem dX2_splitByMarks_54 : decode cX2_splitByMarks 54 = .ok (.iconst (-1), 1) := by decide +kernel
theorem dX2_splitByMarks_55 : decode cX2_splitByMarks 55 = .ok (.if_icmp .ne 13, 3) := by decide +kernel
theorem dX2_splitByMarks_58 : decode cX2_splitByMarks 58 = .ok (.aload_n 0, 1) := by decide +kernel
theorem dX2_splitByMarks_59 : decode cX2_splitByMarks 59 = .ok (.getfield 31, 3) := by decide +kernel
theorem dX2_splitByMarks_62 : decode cX2_splitByMarks 62 = .ok (.iload_n 3, 1) := by decide +kernel
theorem dX2_splitByMarks_63 : decode cX2_splitByMarks 63 = .ok (.iload_n 1, 1) := by decide +kernel
theorem dX2_splitByMarks_64 : decode cX2_splitByMarks 64 = .ok (.iastore, 1) := by decide +kernel
theorem dX2_splitByMarks_65 : decode cX2_splitByMarks 65 = .ok (.iinc 1 1, 3) := by decide +kernel
theorem dX2_splitByMarks_68 : decode cX2_splitByMarks 68 = .ok (.aload_n 0, 1) := by decide +kernel
theorem dX2_splitByMarks_69 : decode cX2_splitByMarks 69 = .ok (.getfield 25, 3) := by decide +kernel
theorem dX2_splitByMarks_72 : decode cX2_splitByMarks 72 = .ok (.iload_n 2, 1) := by decide +kernel
theorem dX2_splitByMarks_73 : decode cX2_splitByMarks 73 = .ok (.aload_n 0, 1) := by decide +kernel
theorem dX2_splitByMarks_74 : decode cX2_splitByMarks 74 = .ok (.getfield 31, 3) := by decide +kernel
theorem dX2_splitByMarks_77 : decode cX2_splitByMarks 77 = .ok (.iload_n 3, 1) := by decide +kernel
theorem dX2_splitByMarks_78 : decode cX2_splitByMarks 78 = .ok (.iaload, 1) := by decide +kernel
theorem dX2_splitByMarks_79 : decode cX2_splitByMarks 79 = .ok (.iastore, 1) := by decide +kernel
theorem dX2_splitByMarks_80 : decode cX2_splitByMarks 80 = .ok (.iinc 2 1, 3) := by decide +kernel
theorem dX2_splitByMarks_83 : decode cX2_splitByMarks 83 = .ok (.goto (-68), 3) := by decide +kernel
theorem dX2_splitByMarks_86 : decode cX2_splitByMarks 86 = .ok (.iload_n 1, 1) := by decide +kernel
theorem dX2_splitByMarks_87 : decode cX2_splitByMarks 87 = .ok (.ireturn, 1) := by decide +kernel
theorem dX2_splitByLinks_0 : decode cX2_splitByLinks 0 = .ok (.iload_n 2, 1) := by decide +kernel
theorem dX2_splitByLinks_1 : decode cX2_splitByLinks 1 = .ok (.iload_n 2, 1) := by decide +kernel
theorem dX2_splitByLinks_2 : decode cX2_splitByLinks 2 = .ok (.imul, 1) := by decide +kernel
theorem dX2_splitByLinks_3 : decode cX2_splitByLinks 3 = .ok (.aload_n 0, 1) := by decide +kernel
theorem dX2_splitByLinks_4 : decode cX2_splitByLinks 4 = .ok (.getfield 31, 3) := by decide +kernel
theorem dX2_splitByLinks_7 : decode cX2_splitByLinks 7 = .ok (.arraylength, 1) := by decide +kernel
theorem dX2_splitByLinks_8 : decode cX2_splitByLinks 8 = .ok (.if_icmp .le 5, 3) := by decide +kernel
theorem dX2_splitByLinks_11 : decode cX2_splitByLinks 11 = .ok (.iload_n 2, 1) := by decide +kernel
theorem dX2_splitByLinks_12 : decode cX2_splitByLinks 12 = .ok (.ireturn, 1) := by decide +kernel
theorem dX2_splitByLinks_13 : decode cX2_splitByLinks 13 = .ok (.aload_n 0, 1) := by decide +kernel
theorem dX2_splitByLinks_14 : decode cX2_splitByLinks 14 = .ok (.getfield 31, 3) := by decide +kernel
theorem dX2_splitByLinks_17 : decode cX2_splitByLinks 17 = .ok (.iconst 0, 1) := by decide +kernel
theorem dX2_splitByLinks_18 : decode cX2_splitByLinks 18 = .ok (.iload_n 2, 1) := by decide +kernel
theorem dX2_splitByLinks_19 : decode cX2_splitByLinks 19 = .ok (.iload_n 2, 1) := by decide +kernel
theorem dX2_splitByLinks_20 : decode cX2_splitByLinks 20 = .ok (.imul, 1) := by decide +kernel
theorem dX2_splitByLinks_21 : decode cX2_splitByLinks 21 = .ok (.iconst (-1), 1) := by decide +kernel
theorem dX2_splitByLinks_22 : decode cX2_splitByLinks 22 = .ok (.invokestatic 53, 3) := by decide +kernel
theorem dX2_splitByLinks_25 : decode cX2_splitByLinks 25 = .ok (.iconst 0, 1) := by decide +kernel
theorem dX2_splitByLinks_26 : decode cX2_splitByLinks 26 = .ok (.istore_n 3, 1) := by decide +kernel
theorem dX2_splitByLinks_27 : decode cX2_splitByLinks 27 = .ok (.iconst 0, 1) := by decide +kernel
theorem dX2_splitByLinks_28 : decode cX2_splitByLinks 28 = .ok (.istore 4, 2) := by decide +kernel
theorem dX2_splitByLinks_30 : decode cX2_splitByLinks 30 = .ok (.iload 4, 2) := by decide +kernel
theorem dX2_splitByLinks_32 : decode cX2_splitByLinks 32 = .ok (.aload_n 0, 1) := by decide +kernel
theorem dX2_splitByLinks_33 : decode cX2_splitByLinks 33 = .ok (.getfield 41, 3) := by decide +kernel
theorem dX2_splitByLinks_36 : decode cX2_splitByLinks 36 = .ok (.if_icmp .ge 69, 3) := by decide +kernel
theorem dX2_splitByLinks_39 : decode cX2_splitByLinks 39 = .ok (.aload_n 0, 1) := by decide +kernel
theorem dX2_splitByLinks_40 : decode cX2_splitByLinks 40 = .ok (.getfield 25, 3) := by decide +kernel
theorem dX2_splitByLinks_43 : decode cX2_splitByLinks 43 = .ok (.iload 4, 2) := by decide +kernel
theorem dX2_splitByLinks_45 : decode cX2_splitByLinks 45 = .ok (.iaload, 1) := by decide +kernel
theorem dX2_splitByLinks_46 : decode cX2_splitByLinks 46 = .ok (.iload_n 2, 1) := by decide +kernel
theorem dX2_splitByLinks_47 : decode cX2_splitByLinks 47 = .ok (.imul, 1) := by decide +kernel
theorem dX2_splitByLinks_48 : decode cX2_splitByLinks 48 = .ok (.aload_n 0, 1) := by decide +kernel
theorem dX2_splitByLinks_49 : decode cX2_splitByLinks 49 = .ok (.getfield 25, 3) := by decide +kernel
theorem dX2_splitByLinks_52 : decode cX2_splitByLinks 52 = .ok (.aload_n 0, 1) := by decide +kernel
theorem dX2_splitByLinks_53 : decode cX2_splitByLinks 53 = .ok (.iload 4, 2) := by decide +kernel
theorem dX2_splitByLinks_55 : decode cX2_splitByLinks 55 = .ok (.iload_n 1, 1) := by decide +kernel
theorem dX2_splitByLinks_56 : decode cX2_splitByLinks 56 = .ok (.invokevirtual 75, 3) := by decide +kernel
theorem dX2_splitByLinks_59 : decode cX2_splitByLinks 59 = .ok (.iaload, 1) := by decide +kernel
theorem dX2_splitByLinks_60 : decode cX2_splitByLinks 60 = .ok (.iadd, 1) := by decide +kernel
theorem dX2_splitByLinks_61 : decode cX2_splitByLinks 61 = .ok (.istore 5, 2) := by decide +kernel
theorem dX2_splitByLinks_63 : decode cX2_splitByLinks 63 = .ok (.aload_n 0, 1) := by decide +kernel
theorem dX2_splitByLinks_64 : decode cX2_splitByLinks 64 = .ok (.getfield 31, 3) := by decide +kernel
theorem dX2_splitByLinks_67 : decode cX2_splitByLinks 67 = .ok (.iload 5, 2) := by decide +kernel
theorem dX2_splitByLinks_69 : decode cX2_splitByLinks 69 = .ok (.iaload, 1) := by decide +kernel
theorem dX2_splitByLinks_70 : decode cX2_splitByLinks 70 = .ok (.iconst (-1), 1) := by decide +kernel
theorem dX2_splitByLinks_71 : decode cX2_splitByLinks 71 = .ok (.if_icmp .ne 14, 3) := by decide +kernel
theorem dX2_splitByLinks_74 : decode cX2_splitByLinks 74 = .ok (.aload_n 0, 1) := by decide +kernel
theorem dX2_splitByLinks_75 : decode cX2_splitByLinks 75 = .ok (.getfield 31, 3) := by decide +kernel
theorem dX2_splitByLinks_78 : decode cX2_splitByLinks 78 = .ok (.iload 5, 2) := by decide +kernel
theorem dX2_splitByLinks_80 : decode cX2_splitByLinks 80 = .ok (.iload_n 3, 1) := by decide +kernel
theorem dX2_splitByLinks_81 : decode cX2_splitByLinks 81 = .ok (.iastore, 1) := by decide +kernel
theorem dX2_splitByLinks_82 : decode cX2_splitByLinks 82 = .ok (.iinc 3 1, 3) := by decide +kernel
theorem dX2_splitByLinks_85 : decode cX2_splitByLinks 85 = .ok (.aload_n 0, 1) := by decide +kernel
theorem dX2_splitByLinks_86 : decode cX2_splitByLinks 86 = .ok (.getfield 28, 3) := by decide +kernel
theorem dX2_splitByLinks_89 : decode cX2_splitByLinks 89 = .ok (.iload 4, 2) := by decide +kernel
theorem dX2_splitByLinks_91 : decode cX2_splitByLinks 91 = .ok (.aload_n 0, 1) := by decide +kernel
theorem dX2_splitByLinks_92 : decode cX2_splitByLinks 92 = .ok (.getfield 31, 3) := by decide +kernel
theorem dX2_splitByLinks_95 : decode cX2_splitByLinks 95 = .ok (.iload 5, 2) := by decide +kernel
theorem dX2_splitByLinks_97 : decode cX2_splitByLinks 97 = .ok (.iaload, 1) := by decide +kernel
theorem dX2_splitByLinks_98 : decode cX2_splitByLinks 98 = .ok (.iastore, 1) := by decide +kernel
theorem dX2_splitByLinks_99 : decode cX2_splitByLinks 99 = .ok (.iinc 4 1, 3) := by decide +kernel
theorem dX2_splitByLinks_102 : decode cX2_splitByLinks 102 = .ok (.goto (-72), 3) := by decide +kernel
theorem dX2_splitByLinks_105 : decode cX2_splitByLinks 105 = .ok (.aload_n 0, 1) := by decide +kernel
theorem dX2_splitByLinks_106 : decode cX2_splitByLinks 106 = .ok (.getfield 28, 3) := by decide +kernel
theorem dX2_splitByLinks_109 : decode cX2_splitByLinks 109 = .ok (.iconst 0, 1) := by decide +kernel
theorem dX2_splitByLinks_110 : decode cX2_splitByLinks 110 = .ok (.aload_n 0, 1) := by decide +kernel
theorem dX2_splitByLinks_111 : decode cX2_splitByLinks 111 = .ok (.getfield 25, 3) := by decide +kernel
theorem dX2_splitByLinks_114 : decode cX2_splitByLinks 114 = .ok (.iconst 0, 1) := by decide +kernel
theorem dX2_splitByLinks_115 : decode cX2_splitByLinks 115 = .ok (.aload_n 0, 1) := by decide +kernel
theorem dX2_splitByLinks_116 : decode cX2_splitByLinks 116 = .ok (.getfield 41, 3) := by decide +kernel
theorem dX2_splitByLinks_119 : decode cX2_splitByLinks 119 = .ok (.invokestatic 78, 3) := by decide +kernel
theorem dX2_splitByLinks_122 : decode cX2_splitByLinks 122 = .ok (.iload_n 3, 1) := by decide +kernel
theorem dX2_splitByLinks_123 : decode cX2_splitByLinks 123 = .ok (.ireturn, 1) := by decide +kernel
theorem dX2_number_0 : decode cX2_number 0 = .ok (.aload_n 0, 1) := by decide +kernel
theorem dX2_number_1 : decode cX2_number 1 = .ok (.getfield 31, 3) := by decide +kernel
theorem dX2_number_4 : decode cX2_number 4 = .ok (.iconst 0, 1) := by decide +kernel
theorem dX2_number_5 : decode cX2_number 5 = .ok (.iload_n 2, 1) := by decide +kernel
theorem dX2_number_6 : decode cX2_number 6 = .ok (.iconst (-1), 1) := by decide +kernel
theorem dX2_number_7 : decode cX2_number 7 = .ok (.invokestatic 53, 3) := by decide +kernel
theorem dX2_number_10 : decode cX2_number 10 = .ok (.aload_n 0, 1) := by decide +kernel
theorem dX2_number_11 : decode cX2_number 11 = .ok (.getfield 31, 3) := by decide +kernel
theorem dX2_number_14 : decode cX2_number 14 = .ok (.aload_n 0, 1) := by decide +kernel
theorem dX2_number_15 : decode cX2_number 15 = .ok (.getfield 25, 3) := by decide +kernel
theorem dX2_number_18 : decode cX2_number 18 = .ok (.iconst 0, 1) := by decide +kernel
theorem dX2_number_19 : decode cX2_number 19 = .ok (.iaload, 1) := by decide +kernel
theorem dX2_number_20 : decode cX2_number 20 = .ok (.iconst 0, 1) := by decide +kernel
theorem dX2_number_21 : decode cX2_number 21 = .ok (.iastore, 1) := by decide +kernel
theorem dX2_number_22 : decode cX2_number 22 = .ok (.aload_n 0, 1) := by decide +kernel
theorem dX2_number_23 : decode cX2_number 23 = .ok (.getfield 28, 3) := by decide +kernel
theorem dX2_number_26 : decode cX2_number 26 = .ok (.iconst 0, 1) := by decide +kernel
theorem dX2_number_27 : decode cX2_number 27 = .ok (.iconst 0, 1) := by decide +kernel
theorem dX2_number_28 : decode cX2_number 28 = .ok (.iastore, 1) := by decide +kernel
theorem dX2_number_29 : decode cX2_number 29 = .ok (.iconst 1, 1) := by decide +kernel
theorem dX2_number_30 : decode cX2_number 30 = .ok (.istore_n 3, 1) := by decide +kernel
theorem dX2_number_31 : decode cX2_number 31 = .ok (.aload_n 1, 1) := by decide +kernel
theorem dX2_number_32 : decode cX2_number 32 = .ok (.iload_n 2, 1) := by decide +kernel
theorem dX2_number_33 : decode cX2_number 33 = .ok (.aload_n 0, 1) := by decide +kernel
theorem dX2_number_34 : decode cX2_number 34 = .ok (.getfield 38, 3) := by decide +kernel
theorem dX2_number_37 : decode cX2_number 37 = .ok (.invokevirtual 84, 3) := by decide +kernel
theorem dX2_number_40 : decode cX2_number 40 = .ok (.iconst 0, 1) := by decide +kernel
theorem dX2_number_41 : decode cX2_number 41 = .ok (.istore 4, 2) := by decide +kernel
theorem dX2_number_43 : decode cX2_number 43 = .ok (.iload 4, 2) := by decide +kernel
theorem dX2_number_45 : decode cX2_number 45 = .ok (.iload_n 2, 1) := by decide +kernel
theorem dX2_number_46 : decode cX2_number 46 = .ok (.if_icmp .ge 126, 3) := by decide +kernel
theorem dX2_number_49 : decode cX2_number 49 = .ok (.iload 4, 2) := by decide +kernel
theorem dX2_number_51 : decode cX2_number 51 = .ok (.iload_n 3, 1) := by decide +kernel
theorem dX2_number_52 : decode cX2_number 52 = .ok (.if_icmp .ge 120, 3) := by decide +kernel
theorem dX2_number_55 : decode cX2_number 55 = .ok (.aload_n 1, 1) := by decide +kernel
theorem dX2_number_56 : decode cX2_number 56 = .ok (.iload 4, 2) := by decide +kernel
theorem dX2_number_58 : decode cX2_number 58 = .ok (.aload_n 0, 1) := by decide +kernel
theorem dX2_number_59 : decode cX2_number 59 = .ok (.getfield 18, 3) := by decide +kernel
theorem dX2_number_62 : decode cX2_number 62 = .ok (.aload_n 0, 1) := by decide +kernel
theorem dX2_number_63 : decode cX2_number 63 = .ok (.getfield 28, 3) := by decide +kernel
theorem dX2_number_66 : decode cX2_number 66 = .ok (.iload 4, 2) := by decide +kernel
theorem dX2_number_68 : decode cX2_number 68 = .ok (.iaload, 1) := by decide +kernel
theorem dX2_number_69 : decode cX2_number 69 = .ok (.iaload, 1) := by decide +kernel
theorem dX2_number_70 : decode cX2_number 70 = .ok (.invokevirtual 90, 3) := by decide +kernel
theorem dX2_number_73 : decode cX2_number 73 = .ok (.iconst 0, 1) := by decide +kernel
theorem dX2_number_74 : decode cX2_number 74 = .ok (.istore 5, 2) := by decide +kernel
theorem dX2_number_76 : decode cX2_number 76 = .ok (.iload 5, 2) := by decide +kernel
theorem dX2_number_78 : decode cX2_number 78 = .ok (.aload_n 0, 1) := by decide +kernel
theorem dX2_number_79 : decode cX2_number 79 = .ok (.getfield 38, 3) := by decide +kernel
theorem dX2_number_82 : decode cX2_number 82 = .ok (.if_icmp .ge 84, 3) := by decide +kernel
theorem dX2_number_85 : decode cX2_number 85 = .ok (.aload_n 0, 1) := by decide +kernel
theorem dX2_number_86 : decode cX2_number 86 = .ok (.aload_n 0, 1) := by decide +kernel
theorem dX2_number_87 : decode cX2_number 87 = .ok (.getfield 28, 3) := by decide +kernel
theorem dX2_number_90 : decode cX2_number 90 = .ok (.iload 4, 2) := by decide +kernel
theorem dX2_number_92 : decode cX2_number 92 = .ok (.iaload, 1) := by decide +kernel
theorem dX2_number_93 : decode cX2_number 93 = .ok (.iload 5, 2) := by decide +kernel
theorem dX2_number_95 : decode cX2_number 95 = .ok (.invokevirtual 75, 3) := by decide +kernel
theorem dX2_number_98 : decode cX2_number 98 = .ok (.istore 6, 2) := by decide +kernel
theorem dX2_number_100 : decode cX2_number 100 = .ok (.aload_n 0, 1) := by decide +kernel
theorem dX2_number_101 : decode cX2_number 101 = .ok (.getfield 31, 3) := by decide +kernel
theorem dX2_number_104 : decode cX2_number 104 = .ok (.aload_n 0, 1) := by decide +kernel
theorem dX2_number_105 : decode cX2_number 105 = .ok (.getfield 25, 3) := by decide +kernel
theorem dX2_number_108 : decode cX2_number 108 = .ok (.iload 6, 2) := by decide +kernel
theorem dX2_number_110 : decode cX2_number 110 = .ok (.iaload, 1) := by decide +kernel
theorem dX2_number_111 : decode cX2_number 111 = .ok (.iaload, 1) := by decide +kernel
theorem dX2_number_112 : decode cX2_number 112 = .ok (.iconst (-1), 1) := by decide +kernel
theorem dX2_number_113 : decode cX2_number 113 = .ok (.if_icmp .ne 27, 3) := by decide +kernel
theorem dX2_number_116 : decode cX2_number 116 = .ok (.aload_n 0, 1) := by decide +kernel
theorem dX2_number_117 : decode cX2_number 117 = .ok (.getfield 31, 3) := by decide +kernel
theorem dX2_number_120 : decode cX2_number 120 = .ok (.aload_n 0, 1) := by decide +kernel
theorem dX2_number_121 : decode cX2_number 121 = .ok (.getfield 25, 3) := by decide +kernel
theorem dX2_number_124 : decode cX2_number 124 = .ok (.iload 6, 2) := by decide +kernel
theorem dX2_number_126 : decode cX2_number 126 = .ok (.iaload, 1) := by decide +kernel
theorem dX2_number_127 : decode cX2_number 127 = .ok (.iload_n 3, 1) := by decide +kernel
theorem dX2_number_128 : decode cX2_number 128 = .ok (.iastore, 1) := by decide +kernel
theorem dX2_number_129 : decode cX2_number 129 = .ok (.aload_n 0, 1) := by decide +kernel
theorem dX2_number_130 : decode cX2_number 130 = .ok (.getfield 28, 3) := by decide +kernel
theorem dX2_number_133 : decode cX2_number 133 = .ok (.iload_n 3, 1) := by decide +kernel
theorem dX2_number_134 : decode cX2_number 134 = .ok (.iload 6, 2) := by decide +kernel
theorem dX2_number_136 : decode cX2_number 136 = .ok (.iastore, 1) := by decide +kernel
theorem dX2_number_137 : decode cX2_number 137 = .ok (.iinc 3 1, 3) := by decide +kernel
theorem dX2_number_140 : decode cX2_number 140 = .ok (.aload_n 1, 1) := by decide +kernel
theorem dX2_number_141 : decode cX2_number 141 = .ok (.iload 4, 2) := by decide +kernel
theorem dX2_number_143 : decode cX2_number 143 = .ok (.iload 5, 2) := by decide +kernel
theorem dX2_number_145 : decode cX2_number 145 = .ok (.aload_n 0, 1) := by decide +kernel
theorem dX2_number_146 : decode cX2_number 146 = .ok (.getfield 31, 3) := by decide +kernel
theorem dX2_number_149 : decode cX2_number 149 = .ok (.aload_n 0, 1) := by decide +kernel
theorem dX2_number_150 : decode cX2_number 150 = .ok (.getfield 25, 3) := by decide +kernel
theorem dX2_number_153 : decode cX2_number 153 = .ok (.iload 6, 2) := by decide +kernel
theorem dX2_number_155 : decode cX2_number 155 = .ok (.iaload, 1) := by decide +kernel
theorem dX2_number_156 : decode cX2_number 156 = .ok (.iaload, 1) := by decide +kernel
theorem dX2_number_157 : decode cX2_number 157 = .ok (.invokevirtual 93, 3) := by decide +kernel
theorem dX2_number_160 : decode cX2_number 160 = .ok (.iinc 5 1, 3) := by decide +kernel
theorem dX2_number_163 : decode cX2_number 163 = .ok (.goto (-87), 3) := by decide +kernel
theorem dX2_number_166 : decode cX2_number 166 = .ok (.iinc 4 1, 3) := by decide +kernel
theorem dX2_number_169 : decode cX2_number 169 = .ok (.goto (-126), 3) := by decide +kernel
theorem dX2_number_172 : decode cX2_number 172 = .ok (.return_, 1) := by decide +kernel
theorem eX2_init {G : GG} {d rc rs : Nat} (o : Nat)  {M : Mem} {Q : Option Value → Mem → Prop} (h : 1 ≤ rc ∧ 3600 ≤ rs ∧ (∀ n1, n1 = g_b G + x_n M → ∀ M2, M2 = x_new M n1 1 3600 → (x_h M2 o).1 = 18 ∧ (∀ M7, M7 = x_sr M2 o 0 (some n1) → 1 ≤ (rc - 1) ∧ 3600 ≤ (rs - 3600) ∧ (∀ n8, n8 = g_b G + x_n M7 → ∀ M9, M9 = x_new M7 n8 1 3600 → (x_h M9 o).1 = 18 ∧ (∀ M14, M14 = x_sr M9 o 1 (some n8) → 1 ≤ ((rc - 1) - 1) ∧ 3600 ≤ ((rs - 3600) - 3600) ∧ (∀ n15, n15 = g_b G + x_n M14 → ∀ M16, M16 = x_new M14 n15 1 3600 → (x_h M16 o).1 = 18 ∧ (∀ M21, M21 = x_sr M16 o 2 (some n15) → 1 ≤ (((rc - 1) - 1) - 1) ∧ 43200 ≤ (((rs - 3600) - 3600) - 3600) ∧ (∀ n22, n22 = g_b G + x_n M21 → ∀ M23, M23 = x_new M21 n22 1 43200 → (x_h M23 o).1 = 18 ∧ (∀ M28, M28 = x_sr M23 o 3 (some n22) → 1 ≤ ((((rc - 1) - 1) - 1) - 1) ∧ 3600 ≤ ((((rs - 3600) - 3600) - 3600) - 43200) ∧ (∀ n29, n29 = g_b G + x_n M28 → ∀ M30, M30 = x_new M28 n29 1 3600 → (x_h M30 o).1 = 18 ∧ (∀ M35, M35 = x_sr M30 o 4 (some n29) → 1 ≤ (((((rc - 1) - 1) - 1) - 1) - 1) ∧ 3600 ≤ (((((rs - 3600) - 3600) - 3600) - 43200) - 3600) ∧ (∀ n36, n36 = g_b G + x_n M35 → ∀ M37, M37 = x_new M35 n36 1 3600 → (x_h M37 o).1 = 18 ∧ (∀ M42, M42 = x_sr M37 o 5 (some n36) → 1 ≤ ((((((rc - 1) - 1) - 1) - 1) - 1) - 1) ∧ 3600 ≤ ((((((rs - 3600) - 3600) - 3600) - 43200) - 3600) - 3600) ∧ (∀ n43, n43 = g_b G + x_n M42 → ∀ M44, M44 = x_new M42 n43 1 3600 → (x_h M44 o).1 = 18 ∧ (∀ M49, M49 = x_sr M44 o 6 (some n43) → ∀ M50, M50 = x_si M49 o 7 0 → ∀ M51, M51 = x_si M50 o 8 1 → ∀ M52, M52 = x_si M51 o 9 0 → Q none M52))))))))))))))) : Call G (d + 1) rc rs mX2_init [.ref o] M Q := by
  refine call_of (by decide) (Nat.le_of_ble_eq_true rfl) ?_
  show Wk G (d + 1) rc rs mX2_init 0 [some (.ref o)] [] M Q
  refine r_aload_n (pc := 0) (i := 0) dX2_init_0 rfl rfl ?_
  refine r_objInit (pc := 1) (st := []) ww_221 ww_28 ww_29 dX2_init_1 (Nat.le_of_ble_eq_true rfl) ?_
  refine r_aload_n (pc := 4) (i := 0) dX2_init_4 rfl rfl ?_
  refine r_sipush (pc := 5) (v := 3600) dX2_init_5 (by decide) ?_
  obtain ⟨y4, y5, h⟩ := h
  refine r_newIV (pc := 8) (n := 3600) dX2_init_8 (by decide) (by decide) (by decide) y4 y5 (fun n1 M2 enn1 eMn1 e3 => ?_)
  replace h := h n1 enn1 M2 eMn1
  obtain ⟨k6, h⟩ := h
  refine r_putr (pc := 10) (r := some _) flX2_11 dX2_init_10 rfl (fun q hq => by cases hq; exact Or.inr ⟨rfl, rfl, rfl⟩) (fun q hq _ => by cases hq; exact ww_223) k6 ?_
  replace h := h _ rfl
  refine r_aload_n (pc := 13) (i := 0) dX2_init_13 rfl rfl ?_
  refine r_sipush (pc := 14) (v := 3600) dX2_init_14 (by decide) ?_
  obtain ⟨y11, y12, h⟩ := h
  refine r_newIV (pc := 17) (n := 3600) dX2_init_17 (by decide) (by decide) (by decide) y11 y12 (fun n8 M9 enn8 eMn8 e10 => ?_)
  replace h := h n8 enn8 M9 eMn8
  obtain ⟨k13, h⟩ := h
  refine r_putr (pc := 19) (r := some _) flX2_15 dX2_init_19 rfl (fun q hq => by cases hq; exact Or.inr ⟨rfl, rfl, rfl⟩) (fun q hq _ => by cases hq; exact ww_224) k13 ?_
  replace h := h _ rfl
  refine r_aload_n (pc := 22) (i := 0) dX2_init_22 rfl rfl ?_
  refine r_sipush (pc := 23) (v := 3600) dX2_init_23 (by decide) ?_
  obtain ⟨y18, y19, h⟩ := h
  refine r_newIV (pc := 26) (n := 3600) dX2_init_26 (by decide) (by decide) (by decide) y18 y19 (fun n15 M16 enn15 eMn15 e17 => ?_)
  replace h := h n15 enn15 M16 eMn15
  obtain ⟨k20, h⟩ := h
  refine r_putr (pc := 28) (r := some _) flX2_18 dX2_init_28 rfl (fun q hq => by cases hq; exact Or.inr ⟨rfl, rfl, rfl⟩) (fun q hq _ => by cases hq; exact ww_225) k20 ?_
  replace h := h _ rfl
  refine r_aload_n (pc := 31) (i := 0) dX2_init_31 rfl rfl ?_
  refine r_ldc (pc := 32) (v := 43200) dX2_init_32 ww_222 ?_
  obtain ⟨y25, y26, h⟩ := h
  refine r_newIV (pc := 34) (n := 43200) dX2_init_34 (by decide) (by decide) (by decide) y25 y26 (fun n22 M23 enn22 eMn22 e24 => ?_)
  replace h := h n22 enn22 M23 eMn22
  obtain ⟨k27, h⟩ := h
  refine r_putr (pc := 36) (r := some _) flX2_22 dX2_init_36 rfl (fun q hq => by cases hq; exact Or.inr ⟨rfl, rfl, rfl⟩) (fun q hq _ => by cases hq; exact ww_226) k27 ?_
  replace h := h _ rfl
  refine r_aload_n (pc := 39) (i := 0) dX2_init_39 rfl rfl ?_
  refine r_sipush (pc := 40) (v := 3600) dX2_init_40 (by decide) ?_
  obtain ⟨y32, y33, h⟩ := h
  refine r_newIV (pc := 43) (n := 3600) dX2_init_43 (by decide) (by decide) (by decide) y32 y33 (fun n29 M30 enn29 eMn29 e31 => ?_)
  replace h := h n29 enn29 M30 eMn29
  obtain ⟨k34, h⟩ := h
  refine r_putr (pc := 45) (r := some _) flX2_25 dX2_init_45 rfl (fun q hq => by cases hq; exact Or.inr ⟨rfl, rfl, rfl⟩) (fun q hq _ => by cases hq; exact ww_227) k34 ?_
  replace h := h _ rfl
  refine r_aload_n (pc := 48) (i := 0) dX2_init_48 rfl rfl ?_
  refine r_sipush (pc := 49) (v := 3600) dX2_init_49 (by decide) ?_
  obtain ⟨y39, y40, h⟩ := h
  refine r_newIV (pc := 52) (n := 3600) dX2_init_52 (by decide) (by decide) (by decide) y39 y40 (fun n36 M37 enn36 eMn36 e38 => ?_)
  replace h := h n36 enn36 M37 eMn36
  obtain ⟨k41, h⟩ := h
  refine r_putr (pc := 54) (r := some _) flX2_28 dX2_init_54 rfl (fun q hq => by cases hq; exact Or.inr ⟨rfl, rfl, rfl⟩) (fun q hq _ => by cases hq; exact ww_228) k41 ?_
  replace h := h _ rfl
  refine r_aload_n (pc := 57) (i := 0) dX2_init_57 rfl rfl ?_
  refine r_sipush (pc := 58) (v := 3600) dX2_init_58 (by decide) ?_
  obtain ⟨y46, y47, h⟩ := h
  refine r_newIV (pc := 61) (n := 3600) dX2_init_61 (by decide) (by decide) (by decide) y46 y47 (fun n43 M44 enn43 eMn43 e45 => ?_)
  replace h := h n43 enn43 M44 eMn43
  obtain ⟨k48, h⟩ := h
  refine r_putr (pc := 63) (r := some _) flX2_31 dX2_init_63 rfl (fun q hq => by cases hq; exact Or.inr ⟨rfl, rfl, rfl⟩) (fun q hq _ => by cases hq; exact ww_229) k48 ?_
  replace h := h _ rfl
  refine r_aload_n (pc := 66) (i := 0) dX2_init_66 rfl rfl ?_
  refine r_iconst (pc := 67) (v := 0) dX2_init_67 (by decide) ?_
  refine r_puti (pc := 68) flX2_34 dX2_init_68 (Or.inl rfl) (fun q hq => by cases hq; rfl) k48 ?_
  replace h := h _ rfl
  refine r_aload_n (pc := 71) (i := 0) dX2_init_71 rfl rfl ?_
  refine r_iconst (pc := 72) (v := 1) dX2_init_72 (by decide) ?_
  refine r_puti (pc := 73) flX2_38 dX2_init_73 (Or.inl rfl) (fun q hq => by cases hq; rfl) k48 ?_
  replace h := h _ rfl
  refine r_aload_n (pc := 76) (i := 0) dX2_init_76 rfl rfl ?_
  refine r_iconst (pc := 77) (v := 0) dX2_init_77 (by decide) ?_
  refine r_puti (pc := 78) flX2_41 dX2_init_78 (Or.inl rfl) (fun q hq => by cases hq; rfl) k48 ?_
  replace h := h _ rfl
  exact r_vret (pc := 81) dX2_init_81 rfl h
theorem eX2_open {G : GG} {d rc rs : Nat} (o : Nat) (a1 : Int32) (a2 : Int32)  {M : Mem} {Q : Option Value → Mem → Prop} (h : Call G d 0 0 mJ9_min_7cf53 [.int a1, .int 3600] M (fun r1 M2 => ∃ v3 : Int32, r1 = some (.int v3) ∧ Call G d 0 0 mJ9_max_7cf53 [.int 0, .int v3] M2 (fun r4 M5 => ∃ v6 : Int32, r4 = some (.int v6) ∧ (x_h M5 o).1 = 18 ∧ (∀ M8, M8 = x_si M5 o 7 v6 → ∀ M9, M9 = x_si M8 o 8 a2 → ∀ M10, M10 = x_si M9 o 9 0 → ∃ b11, x_r M10 o 1 = some b11 ∧ Call G d 0 0 mJ7_fill_fda19 [.ref b11, .int 0, .int (x_i M10 o 7), .int (-1)] M10 (fun r12 M13 => r12 = none ∧ Q none M13))))) : Call G (d + 1) rc rs mX2_open [.ref o, .int a1, .int a2] M Q := by
  refine call_of (by decide) (Nat.le_of_ble_eq_true rfl) ?_
  show Wk G (d + 1) rc rs mX2_open 0 [some (.ref o), some (.int a1), some (.int a2)] [] M Q
  refine r_aload_n (pc := 0) (i := 0) dX2_open_0 rfl rfl ?_
  refine r_iconst (pc := 1) (v := 0) dX2_open_1 (by decide) ?_
  refine r_iload_n (pc := 2) (i := 1) dX2_open_2 rfl rfl ?_
  refine r_sipush (pc := 3) (v := 3600) dX2_open_3 (by decide) ?_
  refine r_callS (pc := 6) (as := [_, _]) (st := [_, _]) okJ9_min_7cf53 lkX2_44 stJ9_min_7cf53 dX2_open_6 rfl (Nat.le_of_ble_eq_true rfl) (Nat.zero_le _) (Nat.zero_le _) (Call.mono h (fun r1 M2 h => ?_))
  obtain ⟨v3, rfl, h⟩ := h
  refine r_callS (pc := 9) (as := [_, _]) (st := [_]) okJ9_max_7cf53 lkX2_50 stJ9_max_7cf53 dX2_open_9 rfl (Nat.le_of_ble_eq_true rfl) (Nat.zero_le _) (Nat.zero_le _) (Call.mono h (fun r4 M5 h => ?_))
  obtain ⟨v6, rfl, h⟩ := h
  obtain ⟨k7, h⟩ := h
  refine r_puti (pc := 12) flX2_34 dX2_open_12 (Or.inl rfl) (fun q hq => by cases hq; rfl) k7 ?_
  replace h := h _ rfl
  refine r_aload_n (pc := 15) (i := 0) dX2_open_15 rfl rfl ?_
  refine r_iload_n (pc := 16) (i := 2) dX2_open_16 rfl rfl ?_
  refine r_puti (pc := 17) flX2_38 dX2_open_17 (Or.inl rfl) (fun q hq => by cases hq; rfl) k7 ?_
  replace h := h _ rfl
  refine r_aload_n (pc := 20) (i := 0) dX2_open_20 rfl rfl ?_
  refine r_iconst (pc := 21) (v := 0) dX2_open_21 (by decide) ?_
  refine r_puti (pc := 22) flX2_41 dX2_open_22 (Or.inl rfl) (fun q hq => by cases hq; rfl) k7 ?_
  replace h := h _ rfl
  refine r_aload_n (pc := 25) (i := 0) dX2_open_25 rfl rfl ?_
  obtain ⟨b11, hb11, h⟩ := h
  refine r_getr (pc := 26) flX2_15 dX2_open_26 rfl k7 hb11 ?_
  refine r_iconst (pc := 29) (v := 0) dX2_open_29 (by decide) ?_
  refine r_aload_n (pc := 30) (i := 0) dX2_open_30 rfl rfl ?_
  refine r_geti (pc := 31) flX2_34 dX2_open_31 (Or.inl rfl) k7 ?_
  refine r_iconst (pc := 34) (v := (-1)) dX2_open_34 (by decide) ?_
  refine r_callS (pc := 35) (as := [_, _, _, _]) (st := []) okJ7_fill_fda19 lkX2_53 stJ7_fill_fda19 dX2_open_35 rfl (Nat.le_of_ble_eq_true rfl) (Nat.zero_le _) (Nat.zero_le _) (Call.mono h (fun r12 M13 h => ?_))
  obtain ⟨rfl, h⟩ := h
  exact r_vret (pc := 38) dX2_open_38 rfl h
theorem eX2_meet {G : GG} {d rc rs : Nat} (o : Nat) (a1 : Int32)  {M : Mem} {Q : Option Value → Mem → Prop} (h : (x_h M o).1 = 18 ∧ Call G d 0 0 mX11_within [.int a1, .int (x_i M o 7)] M (fun r2 M3 => ∃ v4 : Int32, r2 = some (.int v4) ∧ (¬ v4 = 0 → (x_h M3 o).1 = 18 ∧ (∃ b7, x_r M3 o 1 = some b7 ∧ (x_h M3 b7).1 = 1 ∧ vp_in a1 (x_h M3 b7).2 ∧ (¬ (x_i M3 b7 a1.toNatClampNeg) = (-1) → Q (some (.int (x_i M3 b7 a1.toNatClampNeg))) M3) ∧ ((x_i M3 b7 a1.toNatClampNeg) = (-1) → ∀ M11, M11 = x_si M3 b7 a1.toNatClampNeg (x_i M3 o 9) → ∃ b12, x_r M11 o 0 = some b12 ∧ (x_h M3 b12).1 = 1 ∧ vp_in (x_i M11 o 9) (x_h M3 b12).2 ∧ (∀ M15, M15 = x_si M11 b12 (x_i M11 o 9).toNatClampNeg a1 → ∃ b16, x_r M15 o 2 = some b16 ∧ (x_h M3 b16).1 = 1 ∧ vp_in (x_i M15 o 9) (x_h M3 b16).2 ∧ (∀ M19, M19 = x_si M15 b16 (x_i M15 o 9).toNatClampNeg 0 → ∀ M20, M20 = x_si M19 o 9 ((x_i M19 o 9) + 1) → Q (some (.int (x_i M20 b7 a1.toNatClampNeg))) M20))))) ∧ (v4 = 0 → Q (some (.int (-1))) M3))) : Call G (d + 1) rc rs mX2_meet [.ref o, .int a1] M Q := by
  refine call_of (by decide) (Nat.le_of_ble_eq_true rfl) ?_
  show Wk G (d + 1) rc rs mX2_meet 0 [some (.ref o), some (.int a1)] [] M Q
  refine r_iload_n (pc := 0) (i := 1) dX2_meet_0 rfl rfl ?_
  refine r_aload_n (pc := 1) (i := 0) dX2_meet_1 rfl rfl ?_
  obtain ⟨k1, h⟩ := h
  refine r_geti (pc := 2) flX2_34 dX2_meet_2 (Or.inl rfl) k1 ?_
  refine r_callS (pc := 5) (as := [_, _]) (st := []) okX11_within lkX2_59 stX11_within dX2_meet_5 rfl (Nat.le_of_ble_eq_true rfl) (Nat.zero_le _) (Nat.zero_le _) (Call.mono h (fun r2 M3 h => ?_))
  obtain ⟨v4, rfl, h⟩ := h
  refine r_if_ne (pc := 8) (tgt := 13) dX2_meet_8 (by decide) (fun c5 => ?_) (fun c5 => ?_)
  · replace h := h.1 c5
    refine r_aload_n (pc := 13) (i := 0) dX2_meet_13 rfl rfl ?_
    obtain ⟨k6, h⟩ := h
    obtain ⟨b7, hb7, h⟩ := h
    refine r_getr (pc := 14) flX2_15 dX2_meet_14 rfl k6 hb7 ?_
    refine r_iload_n (pc := 17) (i := 1) dX2_meet_17 rfl rfl ?_
    obtain ⟨k8, h⟩ := h
    obtain ⟨i9, h⟩ := h
    refine r_iald (pc := 18) dX2_meet_18 k8 i9 ?_
    refine r_iconst (pc := 19) (v := (-1)) dX2_meet_19 (by decide) ?_
    refine r_icmp_ne (pc := 20) (tgt := 63) dX2_meet_20 (by decide) (fun c10 => ?_) (fun c10 => ?_)
    · replace h := h.1 c10
      refine r_aload_n (pc := 63) (i := 0) dX2_meet_63 rfl rfl ?_
      refine r_getr (pc := 64) flX2_15 dX2_meet_64 rfl k6 hb7 ?_
      refine r_iload_n (pc := 67) (i := 1) dX2_meet_67 rfl rfl ?_
      refine r_iald (pc := 68) dX2_meet_68 k8 i9 ?_
      exact r_iret (pc := 69) dX2_meet_69 rfl h
    · replace h := h.2 c10
      refine r_aload_n (pc := 23) (i := 0) dX2_meet_23 rfl rfl ?_
      refine r_getr (pc := 24) flX2_15 dX2_meet_24 rfl k6 hb7 ?_
      refine r_iload_n (pc := 27) (i := 1) dX2_meet_27 rfl rfl ?_
      refine r_aload_n (pc := 28) (i := 0) dX2_meet_28 rfl rfl ?_
      refine r_geti (pc := 29) flX2_41 dX2_meet_29 (Or.inl rfl) k6 ?_
      refine r_iast (pc := 32) dX2_meet_32 k8 i9 ?_
      replace h := h _ rfl
      refine r_aload_n (pc := 33) (i := 0) dX2_meet_33 rfl rfl ?_
      obtain ⟨b12, hb12, h⟩ := h
      refine r_getr (pc := 34) flX2_11 dX2_meet_34 rfl k6 hb12 ?_
      refine r_aload_n (pc := 37) (i := 0) dX2_meet_37 rfl rfl ?_
      refine r_geti (pc := 38) flX2_41 dX2_meet_38 (Or.inl rfl) k6 ?_
      refine r_iload_n (pc := 41) (i := 1) dX2_meet_41 rfl rfl ?_
      obtain ⟨k13, h⟩ := h
      obtain ⟨i14, h⟩ := h
      refine r_iast (pc := 42) dX2_meet_42 k13 i14 ?_
      replace h := h _ rfl
      refine r_aload_n (pc := 43) (i := 0) dX2_meet_43 rfl rfl ?_
      obtain ⟨b16, hb16, h⟩ := h
      refine r_getr (pc := 44) flX2_18 dX2_meet_44 rfl k6 hb16 ?_
      refine r_aload_n (pc := 47) (i := 0) dX2_meet_47 rfl rfl ?_
      refine r_geti (pc := 48) flX2_41 dX2_meet_48 (Or.inl rfl) k6 ?_
      refine r_iconst (pc := 51) (v := 0) dX2_meet_51 (by decide) ?_
      obtain ⟨k17, h⟩ := h
      obtain ⟨i18, h⟩ := h
      refine r_iast (pc := 52) dX2_meet_52 k17 i18 ?_
      replace h := h _ rfl
      refine r_aload_n (pc := 53) (i := 0) dX2_meet_53 rfl rfl ?_
      refine r_dup (pc := 54) dX2_meet_54 rfl ?_
      refine r_geti (pc := 55) flX2_41 dX2_meet_55 (Or.inl rfl) k6 ?_
      refine r_iconst (pc := 58) (v := 1) dX2_meet_58 (by decide) ?_
      refine r_iadd (pc := 59) dX2_meet_59 ?_
      refine r_puti (pc := 60) flX2_41 dX2_meet_60 (Or.inl rfl) (fun q hq => by cases hq; rfl) k6 ?_
      replace h := h _ rfl
      refine r_aload_n (pc := 63) (i := 0) dX2_meet_63 rfl rfl ?_
      refine r_getr (pc := 64) flX2_15 dX2_meet_64 rfl k6 hb7 ?_
      refine r_iload_n (pc := 67) (i := 1) dX2_meet_67 rfl rfl ?_
      refine r_iald (pc := 68) dX2_meet_68 k8 i9 ?_
      exact r_iret (pc := 69) dX2_meet_69 rfl h
  · replace h := h.2 c5
    refine r_iconst (pc := 11) (v := (-1)) dX2_meet_11 (by decide) ?_
    exact r_iret (pc := 12) dX2_meet_12 rfl h
theorem eX2_keyOf {G : GG} {d rc rs : Nat} (o : Nat) (a1 : Int32)  {M : Mem} {Q : Option Value → Mem → Prop} (h : (x_h M o).1 = 18 ∧ Call G d 0 0 mX11_within [.int a1, .int (x_i M o 9)] M (fun r2 M3 => ∃ v4 : Int32, r2 = some (.int v4) ∧ (v4 = 0 → Q (some (.int 0)) M3) ∧ (¬ v4 = 0 → (x_h M3 o).1 = 18 ∧ (∃ b7, x_r M3 o 0 = some b7 ∧ (x_h M3 b7).1 = 1 ∧ vp_in a1 (x_h M3 b7).2 ∧ Q (some (.int (x_i M3 b7 a1.toNatClampNeg))) M3)))) : Call G (d + 1) rc rs mX2_keyOf [.ref o, .int a1] M Q := by
  refine call_of (by decide) (Nat.le_of_ble_eq_true rfl) ?_
  show Wk G (d + 1) rc rs mX2_keyOf 0 [some (.ref o), some (.int a1)] [] M Q
  refine r_iload_n (pc := 0) (i := 1) dX2_keyOf_0 rfl rfl ?_
  refine r_aload_n (pc := 1) (i := 0) dX2_keyOf_1 rfl rfl ?_
  obtain ⟨k1, h⟩ := h
  refine r_geti (pc := 2) flX2_41 dX2_keyOf_2 (Or.inl rfl) k1 ?_
  refine r_callS (pc := 5) (as := [_, _]) (st := []) okX11_within lkX2_59 stX11_within dX2_keyOf_5 rfl (Nat.le_of_ble_eq_true rfl) (Nat.zero_le _) (Nat.zero_le _) (Call.mono h (fun r2 M3 h => ?_))
  obtain ⟨v4, rfl, h⟩ := h
  refine r_if_eq (pc := 8) (tgt := 20) dX2_keyOf_8 (by decide) (fun c5 => ?_) (fun c5 => ?_)
  · replace h := h.1 c5
    refine r_iconst (pc := 20) (v := 0) dX2_keyOf_20 (by decide) ?_
    exact r_iret (pc := 21) dX2_keyOf_21 rfl h
  · replace h := h.2 c5
    refine r_aload_n (pc := 11) (i := 0) dX2_keyOf_11 rfl rfl ?_
    obtain ⟨k6, h⟩ := h
    obtain ⟨b7, hb7, h⟩ := h
    refine r_getr (pc := 12) flX2_11 dX2_keyOf_12 rfl k6 hb7 ?_
    refine r_iload_n (pc := 15) (i := 1) dX2_keyOf_15 rfl rfl ?_
    obtain ⟨k8, h⟩ := h
    obtain ⟨i9, h⟩ := h
    refine r_iald (pc := 16) dX2_keyOf_16 k8 i9 ?_
    refine r_goto (pc := 17) (tgt := 21) dX2_keyOf_17 (by decide) ?_
    exact r_iret (pc := 21) dX2_keyOf_21 rfl h
theorem eX2_link {G : GG} {d rc rs : Nat} (o : Nat) (a1 : Int32) (a2 : Int32) (a3 : Int32)  {M : Mem} {Q : Option Value → Mem → Prop} (h : (x_h M o).1 = 18 ∧ Call G d 0 0 mX11_within [.int a1, .int (x_i M o 9)] M (fun r2 M3 => ∃ v4 : Int32, r2 = some (.int v4) ∧ (v4 = 0 → Q none M3) ∧ (¬ v4 = 0 → (x_h M3 o).1 = 18 ∧ Call G d 0 0 mX11_within [.int a2, .int (x_i M3 o 8)] M3 (fun r7 M8 => ∃ v9 : Int32, r7 = some (.int v9) ∧ (v9 = 0 → Q none M8) ∧ (¬ v9 = 0 → (x_h M8 o).1 = 18 ∧ (∃ b12, x_r M8 o 3 = some b12 ∧ (1 ≤ (x_h M8 b12).1 ∧ (x_h M8 b12).1 < 8) ∧ Call G d 0 0 mX11_within [.int ((a1 * (x_i M o 8)) + a2), .int (nI (x_h M8 b12).2)] M8 (fun r14 M15 => ∃ v16 : Int32, r14 = some (.int v16) ∧ (v16 = 0 → Q none M15) ∧ (¬ v16 = 0 → (x_h M15 o).1 = 18 ∧ (∃ b19, x_r M15 o 3 = some b19 ∧ (x_h M15 b19).1 = 1 ∧ vp_in ((a1 * (x_i M o 8)) + a2) (x_h M15 b19).2 ∧ (∀ M22, M22 = x_si M15 b19 ((a1 * (x_i M o 8)) + a2).toNatClampNeg a3 → Q none M22)))))))))) : Call G (d + 1) rc rs mX2_link [.ref o, .int a1, .int a2, .int a3] M Q := by
  refine call_of (by decide) (Nat.le_of_ble_eq_true rfl) ?_
  show Wk G (d + 1) rc rs mX2_link 0 [some (.ref o), some (.int a1), some (.int a2), some (.int a3), none] [] M Q
  refine r_iload_n (pc := 0) (i := 1) dX2_link_0 rfl rfl ?_
  refine r_aload_n (pc := 1) (i := 0) dX2_link_1 rfl rfl ?_
  obtain ⟨k1, h⟩ := h
  refine r_geti (pc := 2) flX2_38 dX2_link_2 (Or.inl rfl) k1 ?_
  refine r_imul (pc := 5) dX2_link_5 ?_
  refine r_iload_n (pc := 6) (i := 2) dX2_link_6 rfl rfl ?_
  refine r_iadd (pc := 7) dX2_link_7 ?_
  refine r_istore (pc := 8) (i := 4) dX2_link_8 rfl (Nat.le_of_ble_eq_true rfl) ?_
  refine r_iload_n (pc := 10) (i := 1) dX2_link_10 rfl rfl ?_
  refine r_aload_n (pc := 11) (i := 0) dX2_link_11 rfl rfl ?_
  refine r_geti (pc := 12) flX2_41 dX2_link_12 (Or.inl rfl) k1 ?_
  refine r_callS (pc := 15) (as := [_, _]) (st := []) okX11_within lkX2_59 stX11_within dX2_link_15 rfl (Nat.le_of_ble_eq_true rfl) (Nat.zero_le _) (Nat.zero_le _) (Call.mono h (fun r2 M3 h => ?_))
  obtain ⟨v4, rfl, h⟩ := h
  refine r_if_eq (pc := 18) (tgt := 53) dX2_link_18 (by decide) (fun c5 => ?_) (fun c5 => ?_)
  · replace h := h.1 c5
    exact r_vret (pc := 53) dX2_link_53 rfl h
  · replace h := h.2 c5
    refine r_iload_n (pc := 21) (i := 2) dX2_link_21 rfl rfl ?_
    refine r_aload_n (pc := 22) (i := 0) dX2_link_22 rfl rfl ?_
    obtain ⟨k6, h⟩ := h
    refine r_geti (pc := 23) flX2_38 dX2_link_23 (Or.inl rfl) k6 ?_
    refine r_callS (pc := 26) (as := [_, _]) (st := []) okX11_within lkX2_59 stX11_within dX2_link_26 rfl (Nat.le_of_ble_eq_true rfl) (Nat.zero_le _) (Nat.zero_le _) (Call.mono h (fun r7 M8 h => ?_))
    obtain ⟨v9, rfl, h⟩ := h
    refine r_if_eq (pc := 29) (tgt := 53) dX2_link_29 (by decide) (fun c10 => ?_) (fun c10 => ?_)
    · replace h := h.1 c10
      exact r_vret (pc := 53) dX2_link_53 rfl h
    · replace h := h.2 c10
      refine r_iload (pc := 32) (i := 4) dX2_link_32 rfl ?_
      refine r_aload_n (pc := 34) (i := 0) dX2_link_34 rfl rfl ?_
      obtain ⟨k11, h⟩ := h
      obtain ⟨b12, hb12, h⟩ := h
      refine r_getr (pc := 35) flX2_22 dX2_link_35 rfl k11 hb12 ?_
      obtain ⟨k13, h⟩ := h
      refine r_alen (pc := 38) dX2_link_38 rfl k13 ?_
      refine r_callS (pc := 39) (as := [_, _]) (st := []) okX11_within lkX2_59 stX11_within dX2_link_39 rfl (Nat.le_of_ble_eq_true rfl) (Nat.zero_le _) (Nat.zero_le _) (Call.mono h (fun r14 M15 h => ?_))
      obtain ⟨v16, rfl, h⟩ := h
      refine r_if_eq (pc := 42) (tgt := 53) dX2_link_42 (by decide) (fun c17 => ?_) (fun c17 => ?_)
      · replace h := h.1 c17
        exact r_vret (pc := 53) dX2_link_53 rfl h
      · replace h := h.2 c17
        refine r_aload_n (pc := 45) (i := 0) dX2_link_45 rfl rfl ?_
        obtain ⟨k18, h⟩ := h
        obtain ⟨b19, hb19, h⟩ := h
        refine r_getr (pc := 46) flX2_22 dX2_link_46 rfl k18 hb19 ?_
        refine r_iload (pc := 49) (i := 4) dX2_link_49 rfl ?_
        refine r_iload_n (pc := 51) (i := 3) dX2_link_51 rfl rfl ?_
        obtain ⟨k20, h⟩ := h
        obtain ⟨i21, h⟩ := h
        refine r_iast (pc := 52) dX2_link_52 k20 i21 ?_
        replace h := h _ rfl
        exact r_vret (pc := 53) dX2_link_53 rfl h
theorem eX2_putMark {G : GG} {d rc rs : Nat} (o : Nat) (a1 : Int32) (a2 : Int32)  {M : Mem} {Q : Option Value → Mem → Prop} (h : (x_h M o).1 = 18 ∧ Call G d 0 0 mX11_within [.int a1, .int (x_i M o 9)] M (fun r2 M3 => ∃ v4 : Int32, r2 = some (.int v4) ∧ (v4 = 0 → Q none M3) ∧ (¬ v4 = 0 → (x_h M3 o).1 = 18 ∧ (∃ b7, x_r M3 o 2 = some b7 ∧ (x_h M3 b7).1 = 1 ∧ vp_in a1 (x_h M3 b7).2 ∧ (∀ M10, M10 = x_si M3 b7 a1.toNatClampNeg a2 → Q none M10))))) : Call G (d + 1) rc rs mX2_putMark [.ref o, .int a1, .int a2] M Q := by
  refine call_of (by decide) (Nat.le_of_ble_eq_true rfl) ?_
  show Wk G (d + 1) rc rs mX2_putMark 0 [some (.ref o), some (.int a1), some (.int a2)] [] M Q
  refine r_iload_n (pc := 0) (i := 1) dX2_putMark_0 rfl rfl ?_
  refine r_aload_n (pc := 1) (i := 0) dX2_putMark_1 rfl rfl ?_
  obtain ⟨k1, h⟩ := h
  refine r_geti (pc := 2) flX2_41 dX2_putMark_2 (Or.inl rfl) k1 ?_
  refine r_callS (pc := 5) (as := [_, _]) (st := []) okX11_within lkX2_59 stX11_within dX2_putMark_5 rfl (Nat.le_of_ble_eq_true rfl) (Nat.zero_le _) (Nat.zero_le _) (Call.mono h (fun r2 M3 h => ?_))
  obtain ⟨v4, rfl, h⟩ := h
  refine r_if_eq (pc := 8) (tgt := 18) dX2_putMark_8 (by decide) (fun c5 => ?_) (fun c5 => ?_)
  · replace h := h.1 c5
    exact r_vret (pc := 18) dX2_putMark_18 rfl h
  · replace h := h.2 c5
    refine r_aload_n (pc := 11) (i := 0) dX2_putMark_11 rfl rfl ?_
    obtain ⟨k6, h⟩ := h
    obtain ⟨b7, hb7, h⟩ := h
    refine r_getr (pc := 12) flX2_18 dX2_putMark_12 rfl k6 hb7 ?_
    refine r_iload_n (pc := 15) (i := 1) dX2_putMark_15 rfl rfl ?_
    refine r_iload_n (pc := 16) (i := 2) dX2_putMark_16 rfl rfl ?_
    obtain ⟨k8, h⟩ := h
    obtain ⟨i9, h⟩ := h
    refine r_iast (pc := 17) dX2_putMark_17 k8 i9 ?_
    replace h := h _ rfl
    exact r_vret (pc := 18) dX2_putMark_18 rfl h
theorem eX2_linkOf {G : GG} {d rc rs : Nat} (o : Nat) (a1 : Int32) (a2 : Int32)  {M : Mem} {Q : Option Value → Mem → Prop} (h : (x_h M o).1 = 18 ∧ (((a1 * (x_i M o 8)) + a2) < 0 → Q (some (.int 0)) M) ∧ (¬ ((a1 * (x_i M o 8)) + a2) < 0 → ∃ b3, x_r M o 3 = some b3 ∧ (1 ≤ (x_h M b3).1 ∧ (x_h M b3).1 < 8) ∧ (((a1 * (x_i M o 8)) + a2) < (nI (x_h M b3).2) → (x_h M b3).1 = 1 ∧ vp_in ((a1 * (x_i M o 8)) + a2) (x_h M b3).2 ∧ ((x_i M b3 ((a1 * (x_i M o 8)) + a2).toNatClampNeg) < 0 → Q (some (.int 0)) M) ∧ (¬ (x_i M b3 ((a1 * (x_i M o 8)) + a2).toNatClampNeg) < 0 → ((x_i M o 9) ≤ (x_i M b3 ((a1 * (x_i M o 8)) + a2).toNatClampNeg) → Q (some (.int 0)) M) ∧ (¬ (x_i M o 9) ≤ (x_i M b3 ((a1 * (x_i M o 8)) + a2).toNatClampNeg) → Q (some (.int (x_i M b3 ((a1 * (x_i M o 8)) + a2).toNatClampNeg))) M))) ∧ (¬ ((a1 * (x_i M o 8)) + a2) < (nI (x_h M b3).2) → Q (some (.int 0)) M))) : Call G (d + 1) rc rs mX2_linkOf [.ref o, .int a1, .int a2] M Q := by
  refine call_of (by decide) (Nat.le_of_ble_eq_true rfl) ?_
  show Wk G (d + 1) rc rs mX2_linkOf 0 [some (.ref o), some (.int a1), some (.int a2), none, none] [] M Q
  refine r_iload_n (pc := 0) (i := 1) dX2_linkOf_0 rfl rfl ?_
  refine r_aload_n (pc := 1) (i := 0) dX2_linkOf_1 rfl rfl ?_
  obtain ⟨k1, h⟩ := h
  refine r_geti (pc := 2) flX2_38 dX2_linkOf_2 (Or.inl rfl) k1 ?_
  refine r_imul (pc := 5) dX2_linkOf_5 ?_
  refine r_iload_n (pc := 6) (i := 2) dX2_linkOf_6 rfl rfl ?_
  refine r_iadd (pc := 7) dX2_linkOf_7 ?_
  refine r_istore_n (pc := 8) (i := 3) dX2_linkOf_8 rfl rfl (Nat.le_of_ble_eq_true rfl) ?_
  refine r_iload_n (pc := 9) (i := 3) dX2_linkOf_9 rfl rfl ?_
  refine r_if_lt (pc := 10) (tgt := 22) dX2_linkOf_10 (by decide) (fun c2 => ?_) (fun c2 => ?_)
  · replace h := h.1 c2
    refine r_iconst (pc := 22) (v := 0) dX2_linkOf_22 (by decide) ?_
    exact r_iret (pc := 23) dX2_linkOf_23 rfl h
  · replace h := h.2 c2
    refine r_iload_n (pc := 13) (i := 3) dX2_linkOf_13 rfl rfl ?_
    refine r_aload_n (pc := 14) (i := 0) dX2_linkOf_14 rfl rfl ?_
    obtain ⟨b3, hb3, h⟩ := h
    refine r_getr (pc := 15) flX2_22 dX2_linkOf_15 rfl k1 hb3 ?_
    obtain ⟨k4, h⟩ := h
    refine r_alen (pc := 18) dX2_linkOf_18 rfl k4 ?_
    refine r_icmp_lt (pc := 19) (tgt := 24) dX2_linkOf_19 (by decide) (fun c5 => ?_) (fun c5 => ?_)
    · replace h := h.1 c5
      refine r_aload_n (pc := 24) (i := 0) dX2_linkOf_24 rfl rfl ?_
      refine r_getr (pc := 25) flX2_22 dX2_linkOf_25 rfl k1 hb3 ?_
      refine r_iload_n (pc := 28) (i := 3) dX2_linkOf_28 rfl rfl ?_
      obtain ⟨k6, h⟩ := h
      obtain ⟨i7, h⟩ := h
      refine r_iald (pc := 29) dX2_linkOf_29 k6 i7 ?_
      refine r_istore (pc := 30) (i := 4) dX2_linkOf_30 rfl (Nat.le_of_ble_eq_true rfl) ?_
      refine r_iload (pc := 32) (i := 4) dX2_linkOf_32 rfl ?_
      refine r_if_lt (pc := 34) (tgt := 51) dX2_linkOf_34 (by decide) (fun c8 => ?_) (fun c8 => ?_)
      · replace h := h.1 c8
        refine r_iconst (pc := 51) (v := 0) dX2_linkOf_51 (by decide) ?_
        exact r_iret (pc := 52) dX2_linkOf_52 rfl h
      · replace h := h.2 c8
        refine r_iload (pc := 37) (i := 4) dX2_linkOf_37 rfl ?_
        refine r_aload_n (pc := 39) (i := 0) dX2_linkOf_39 rfl rfl ?_
        refine r_geti (pc := 40) flX2_41 dX2_linkOf_40 (Or.inl rfl) k1 ?_
        refine r_icmp_ge (pc := 43) (tgt := 51) dX2_linkOf_43 (by decide) (fun c9 => ?_) (fun c9 => ?_)
        · replace h := h.1 c9
          refine r_iconst (pc := 51) (v := 0) dX2_linkOf_51 (by decide) ?_
          exact r_iret (pc := 52) dX2_linkOf_52 rfl h
        · replace h := h.2 c9
          refine r_iload (pc := 46) (i := 4) dX2_linkOf_46 rfl ?_
          refine r_goto (pc := 48) (tgt := 52) dX2_linkOf_48 (by decide) ?_
          exact r_iret (pc := 52) dX2_linkOf_52 rfl h
    · replace h := h.2 c5
      refine r_iconst (pc := 22) (v := 0) dX2_linkOf_22 (by decide) ?_
      exact r_iret (pc := 23) dX2_linkOf_23 rfl h
abbrev LX2_draw_14 (G : GG) (d rc rs : Nat) (p0 : Nat) (p1 : Nat) (x2 : Int32) (x3 : Int32) (x4 : Int32) (x5 : Int32) (x6 : Int32) (z7 : Option Value) (M : Mem) (Q : Option Value → Mem → Prop) : Prop := Wk G (d + 1) rc rs mX2_draw 14 [some (.ref p0), some (.ref p1), some (.int x2), some (.int x3), some (.int x4), some (.int x5), some (.int x6), z7] [] M Q
theorem eX2_draw {G : GG} {d rc rs : Nat} (o : Nat) (a1 : Nat) (a2 : Int32)  {M : Mem} {Q : Option Value → Mem → Prop} (h : (x_h M o).1 = 18 ∧ Call G d 0 0 mX2_splitByMarks [.ref o] M (fun r2 M3 => ∃ v4 : Int32, r2 = some (.int v4) ∧ LX2_draw_14 G d rc rs o a1 a2 v4 0 0 0 none M3 Q)) : Call G (d + 1) rc rs mX2_draw [.ref o, .ref a1, .int a2] M Q := by
  refine call_of (by decide) (Nat.le_of_ble_eq_true rfl) ?_
  show Wk G (d + 1) rc rs mX2_draw 0 [some (.ref o), some (.ref a1), some (.int a2), none, none, none, none, none] [] M Q
  refine r_aload_n (pc := 0) (i := 0) dX2_draw_0 rfl rfl ?_
  obtain ⟨k1, h⟩ := h
  refine r_callV (pc := 1) (ci := 2) (as := []) (st := []) okX2_splitByMarks lkX2_63 inX2_splitByMarks seX2_splitByMarks ⟨_, rfl, rfl⟩ dX2_draw_1 rfl k1 (Nat.le_of_ble_eq_true rfl) (Nat.zero_le _) (Nat.zero_le _) (Call.mono h (fun r2 M3 h => ?_))
  obtain ⟨v4, rfl, h⟩ := h
  refine r_istore_n (pc := 4) (i := 3) dX2_draw_4 rfl rfl (Nat.le_of_ble_eq_true rfl) ?_
  refine r_iconst (pc := 5) (v := 0) dX2_draw_5 (by decide) ?_
  refine r_istore (pc := 6) (i := 4) dX2_draw_6 rfl (Nat.le_of_ble_eq_true rfl) ?_
  refine r_iconst (pc := 8) (v := 0) dX2_draw_8 (by decide) ?_
  refine r_istore (pc := 9) (i := 5) dX2_draw_9 rfl (Nat.le_of_ble_eq_true rfl) ?_
  refine r_iconst (pc := 11) (v := 0) dX2_draw_11 (by decide) ?_
  refine r_istore (pc := 12) (i := 6) dX2_draw_12 rfl (Nat.le_of_ble_eq_true rfl) ?_
  exact h
theorem vX2_draw_14 {G : GG} {d rc rs : Nat} (p0 : Nat) (p1 : Nat) (x2 : Int32) (x3 : Int32) (x4 : Int32) (x5 : Int32) (x6 : Int32) (z7 : Option Value) (hz7 : c1 z7 = true) {M : Mem} {Q : Option Value → Mem → Prop} (h : (1000000 ≤ x6 → (x3 < 1 → Q (some (.int 0)) M) ∧ (¬ x3 < 1 → (x3 ≤ x2 → (x_h M p0).1 = 18 ∧ Call G d 0 0 mX2_number [.ref p0, .ref p1, .int x3] M (fun r5 M6 => r5 = none ∧ Q (some (.int 1)) M6)) ∧ (¬ x3 ≤ x2 → Q (some (.int 0)) M))) ∧ (¬ 1000000 ≤ x6 → (x_h M p0).1 = 18 ∧ ((x_i M p0 8) ≤ x4 → (x3 < 1 → Q (some (.int 0)) M) ∧ (¬ x3 < 1 → (x3 ≤ x2 → Call G d 0 0 mX2_number [.ref p0, .ref p1, .int x3] M (fun r11 M12 => r11 = none ∧ Q (some (.int 1)) M12)) ∧ (¬ x3 ≤ x2 → Q (some (.int 0)) M))) ∧ (¬ (x_i M p0 8) ≤ x4 → (x2 < x3 → (x3 < 1 → Q (some (.int 0)) M) ∧ (¬ x3 < 1 → (x3 ≤ x2 → Call G d 0 0 mX2_number [.ref p0, .ref p1, .int x3] M (fun r16 M17 => r16 = none ∧ Q (some (.int 1)) M17)) ∧ (¬ x3 ≤ x2 → Q (some (.int 0)) M))) ∧ (¬ x2 < x3 → Call G d 0 0 mX2_splitByLinks [.ref p0, .int x5, .int x3] M (fun r18 M19 => ∃ v20 : Int32, r18 = some (.int v20) ∧ (¬ v20 = x3 → (x_h M19 p0).1 = 18 ∧ ((x_i M19 p0 8) ≤ (x5 + 1) → LX2_draw_14 G d rc rs p0 p1 x2 v20 0 0 (x6 + 1) (some (.int v20)) M19 Q) ∧ (¬ (x_i M19 p0 8) ≤ (x5 + 1) → LX2_draw_14 G d rc rs p0 p1 x2 v20 0 (x5 + 1) (x6 + 1) (some (.int v20)) M19 Q)) ∧ (v20 = x3 → (x_h M19 p0).1 = 18 ∧ ((x_i M19 p0 8) ≤ (x5 + 1) → LX2_draw_14 G d rc rs p0 p1 x2 v20 (x4 + 1) 0 (x6 + 1) (some (.int v20)) M19 Q) ∧ (¬ (x_i M19 p0 8) ≤ (x5 + 1) → LX2_draw_14 G d rc rs p0 p1 x2 v20 (x4 + 1) (x5 + 1) (x6 + 1) (some (.int v20)) M19 Q))))))) : LX2_draw_14 G d rc rs p0 p1 x2 x3 x4 x5 x6 z7 M Q := by
  show Wk G (d + 1) rc rs mX2_draw 14 _ _ M Q
  refine r_iload (pc := 14) (i := 6) dX2_draw_14 rfl ?_
  refine r_ldc (pc := 16) (v := 1000000) dX2_draw_16 ww_559 ?_
  refine r_icmp_ge (pc := 18) (tgt := 90) dX2_draw_18 (by decide) (fun c1 => ?_) (fun c1 => ?_)
  · replace h := h.1 c1
    refine r_iload_n (pc := 90) (i := 3) dX2_draw_90 rfl rfl ?_
    refine r_iconst (pc := 91) (v := 1) dX2_draw_91 (by decide) ?_
    refine r_icmp_lt (pc := 92) (tgt := 100) dX2_draw_92 (by decide) (fun c2 => ?_) (fun c2 => ?_)
    · replace h := h.1 c2
      refine r_iconst (pc := 100) (v := 0) dX2_draw_100 (by decide) ?_
      exact r_zret (pc := 101) dX2_draw_101 rfl (Or.inl rfl) h
    · replace h := h.2 c2
      refine r_iload_n (pc := 95) (i := 3) dX2_draw_95 rfl rfl ?_
      refine r_iload_n (pc := 96) (i := 2) dX2_draw_96 rfl rfl ?_
      refine r_icmp_le (pc := 97) (tgt := 102) dX2_draw_97 (by decide) (fun c3 => ?_) (fun c3 => ?_)
      · replace h := h.1 c3
        refine r_aload_n (pc := 102) (i := 0) dX2_draw_102 rfl rfl ?_
        refine r_aload_n (pc := 103) (i := 1) dX2_draw_103 rfl rfl ?_
        refine r_iload_n (pc := 104) (i := 3) dX2_draw_104 rfl rfl ?_
        obtain ⟨k4, h⟩ := h
        refine r_callV (pc := 105) (ci := 2) (as := [_, _]) (st := []) okX2_number lkX2_71 inX2_number seX2_number ⟨_, rfl, rfl⟩ dX2_draw_105 rfl k4 (Nat.le_of_ble_eq_true rfl) (Nat.zero_le _) (Nat.zero_le _) (Call.mono h (fun r5 M6 h => ?_))
        obtain ⟨rfl, h⟩ := h
        refine r_iconst (pc := 108) (v := 1) dX2_draw_108 (by decide) ?_
        exact r_zret (pc := 109) dX2_draw_109 rfl (Or.inr rfl) h
      · replace h := h.2 c3
        refine r_iconst (pc := 100) (v := 0) dX2_draw_100 (by decide) ?_
        exact r_zret (pc := 101) dX2_draw_101 rfl (Or.inl rfl) h
  · replace h := h.2 c1
    refine r_iload (pc := 21) (i := 4) dX2_draw_21 rfl ?_
    refine r_aload_n (pc := 23) (i := 0) dX2_draw_23 rfl rfl ?_
    obtain ⟨k7, h⟩ := h
    refine r_geti (pc := 24) flX2_38 dX2_draw_24 (Or.inl rfl) k7 ?_
    refine r_icmp_ge (pc := 27) (tgt := 90) dX2_draw_27 (by decide) (fun c8 => ?_) (fun c8 => ?_)
    · replace h := h.1 c8
      refine r_iload_n (pc := 90) (i := 3) dX2_draw_90 rfl rfl ?_
      refine r_iconst (pc := 91) (v := 1) dX2_draw_91 (by decide) ?_
      refine r_icmp_lt (pc := 92) (tgt := 100) dX2_draw_92 (by decide) (fun c9 => ?_) (fun c9 => ?_)
      · replace h := h.1 c9
        refine r_iconst (pc := 100) (v := 0) dX2_draw_100 (by decide) ?_
        exact r_zret (pc := 101) dX2_draw_101 rfl (Or.inl rfl) h
      · replace h := h.2 c9
        refine r_iload_n (pc := 95) (i := 3) dX2_draw_95 rfl rfl ?_
        refine r_iload_n (pc := 96) (i := 2) dX2_draw_96 rfl rfl ?_
        refine r_icmp_le (pc := 97) (tgt := 102) dX2_draw_97 (by decide) (fun c10 => ?_) (fun c10 => ?_)
        · replace h := h.1 c10
          refine r_aload_n (pc := 102) (i := 0) dX2_draw_102 rfl rfl ?_
          refine r_aload_n (pc := 103) (i := 1) dX2_draw_103 rfl rfl ?_
          refine r_iload_n (pc := 104) (i := 3) dX2_draw_104 rfl rfl ?_
          refine r_callV (pc := 105) (ci := 2) (as := [_, _]) (st := []) okX2_number lkX2_71 inX2_number seX2_number ⟨_, rfl, rfl⟩ dX2_draw_105 rfl k7 (Nat.le_of_ble_eq_true rfl) (Nat.zero_le _) (Nat.zero_le _) (Call.mono h (fun r11 M12 h => ?_))
          obtain ⟨rfl, h⟩ := h
          refine r_iconst (pc := 108) (v := 1) dX2_draw_108 (by decide) ?_
          exact r_zret (pc := 109) dX2_draw_109 rfl (Or.inr rfl) h
        · replace h := h.2 c10
          refine r_iconst (pc := 100) (v := 0) dX2_draw_100 (by decide) ?_
          exact r_zret (pc := 101) dX2_draw_101 rfl (Or.inl rfl) h
    · replace h := h.2 c8
      refine r_iload_n (pc := 30) (i := 3) dX2_draw_30 rfl rfl ?_
      refine r_iload_n (pc := 31) (i := 2) dX2_draw_31 rfl rfl ?_
      refine r_icmp_gt (pc := 32) (tgt := 90) dX2_draw_32 (by decide) (fun c13 => ?_) (fun c13 => ?_)
      · replace h := h.1 c13
        refine r_iload_n (pc := 90) (i := 3) dX2_draw_90 rfl rfl ?_
        refine r_iconst (pc := 91) (v := 1) dX2_draw_91 (by decide) ?_
        refine r_icmp_lt (pc := 92) (tgt := 100) dX2_draw_92 (by decide) (fun c14 => ?_) (fun c14 => ?_)
        · replace h := h.1 c14
          refine r_iconst (pc := 100) (v := 0) dX2_draw_100 (by decide) ?_
          exact r_zret (pc := 101) dX2_draw_101 rfl (Or.inl rfl) h
        · replace h := h.2 c14
          refine r_iload_n (pc := 95) (i := 3) dX2_draw_95 rfl rfl ?_
          refine r_iload_n (pc := 96) (i := 2) dX2_draw_96 rfl rfl ?_
          refine r_icmp_le (pc := 97) (tgt := 102) dX2_draw_97 (by decide) (fun c15 => ?_) (fun c15 => ?_)
          · replace h := h.1 c15
            refine r_aload_n (pc := 102) (i := 0) dX2_draw_102 rfl rfl ?_
            refine r_aload_n (pc := 103) (i := 1) dX2_draw_103 rfl rfl ?_
            refine r_iload_n (pc := 104) (i := 3) dX2_draw_104 rfl rfl ?_
            refine r_callV (pc := 105) (ci := 2) (as := [_, _]) (st := []) okX2_number lkX2_71 inX2_number seX2_number ⟨_, rfl, rfl⟩ dX2_draw_105 rfl k7 (Nat.le_of_ble_eq_true rfl) (Nat.zero_le _) (Nat.zero_le _) (Call.mono h (fun r16 M17 h => ?_))
            obtain ⟨rfl, h⟩ := h
            refine r_iconst (pc := 108) (v := 1) dX2_draw_108 (by decide) ?_
            exact r_zret (pc := 109) dX2_draw_109 rfl (Or.inr rfl) h
          · replace h := h.2 c15
            refine r_iconst (pc := 100) (v := 0) dX2_draw_100 (by decide) ?_
            exact r_zret (pc := 101) dX2_draw_101 rfl (Or.inl rfl) h
      · replace h := h.2 c13
        refine r_aload_n (pc := 35) (i := 0) dX2_draw_35 rfl rfl ?_
        refine r_iload (pc := 36) (i := 5) dX2_draw_36 rfl ?_
        refine r_iload_n (pc := 38) (i := 3) dX2_draw_38 rfl rfl ?_
        refine r_callV (pc := 39) (ci := 2) (as := [_, _]) (st := []) okX2_splitByLinks lkX2_68 inX2_splitByLinks seX2_splitByLinks ⟨_, rfl, rfl⟩ dX2_draw_39 rfl k7 (Nat.le_of_ble_eq_true rfl) (Nat.zero_le _) (Nat.zero_le _) (Call.mono h (fun r18 M19 h => ?_))
        obtain ⟨v20, rfl, h⟩ := h
        refine r_istore (pc := 42) (i := 7) dX2_draw_42 rfl (Nat.le_of_ble_eq_true rfl) ?_
        refine r_iload (pc := 44) (i := 7) dX2_draw_44 rfl ?_
        refine r_iload_n (pc := 46) (i := 3) dX2_draw_46 rfl rfl ?_
        refine r_icmp_ne (pc := 47) (tgt := 57) dX2_draw_47 (by decide) (fun c21 => ?_) (fun c21 => ?_)
        · replace h := h.1 c21
          refine r_iconst (pc := 57) (v := 0) dX2_draw_57 (by decide) ?_
          refine r_istore (pc := 58) (i := 4) dX2_draw_58 rfl (Nat.le_of_ble_eq_true rfl) ?_
          refine r_iload (pc := 60) (i := 7) dX2_draw_60 rfl ?_
          refine r_istore_n (pc := 62) (i := 3) dX2_draw_62 rfl rfl (Nat.le_of_ble_eq_true rfl) ?_
          refine r_iload (pc := 63) (i := 5) dX2_draw_63 rfl ?_
          refine r_iconst (pc := 65) (v := 1) dX2_draw_65 (by decide) ?_
          refine r_iadd (pc := 66) dX2_draw_66 ?_
          refine r_aload_n (pc := 67) (i := 0) dX2_draw_67 rfl rfl ?_
          obtain ⟨k22, h⟩ := h
          refine r_geti (pc := 68) flX2_38 dX2_draw_68 (Or.inl rfl) k22 ?_
          refine r_icmp_ge (pc := 71) (tgt := 81) dX2_draw_71 (by decide) (fun c23 => ?_) (fun c23 => ?_)
          · replace h := h.1 c23
            refine r_iconst (pc := 81) (v := 0) dX2_draw_81 (by decide) ?_
            refine r_istore (pc := 82) (i := 5) dX2_draw_82 rfl (Nat.le_of_ble_eq_true rfl) ?_
            refine r_iinc (pc := 84) (i := 6) (v := _ + 1) dX2_draw_84 rfl rfl rfl ?_
            refine r_goto (pc := 87) (tgt := 14) dX2_draw_87 (by decide) ?_
            exact h
          · replace h := h.2 c23
            refine r_iload (pc := 74) (i := 5) dX2_draw_74 rfl ?_
            refine r_iconst (pc := 76) (v := 1) dX2_draw_76 (by decide) ?_
            refine r_iadd (pc := 77) dX2_draw_77 ?_
            refine r_goto (pc := 78) (tgt := 82) dX2_draw_78 (by decide) ?_
            refine r_istore (pc := 82) (i := 5) dX2_draw_82 rfl (Nat.le_of_ble_eq_true rfl) ?_
            refine r_iinc (pc := 84) (i := 6) (v := _ + 1) dX2_draw_84 rfl rfl rfl ?_
            refine r_goto (pc := 87) (tgt := 14) dX2_draw_87 (by decide) ?_
            exact h
        · replace h := h.2 c21
          refine r_iload (pc := 50) (i := 4) dX2_draw_50 rfl ?_
          refine r_iconst (pc := 52) (v := 1) dX2_draw_52 (by decide) ?_
          refine r_iadd (pc := 53) dX2_draw_53 ?_
          refine r_goto (pc := 54) (tgt := 58) dX2_draw_54 (by decide) ?_
          refine r_istore (pc := 58) (i := 4) dX2_draw_58 rfl (Nat.le_of_ble_eq_true rfl) ?_
          refine r_iload (pc := 60) (i := 7) dX2_draw_60 rfl ?_
          refine r_istore_n (pc := 62) (i := 3) dX2_draw_62 rfl rfl (Nat.le_of_ble_eq_true rfl) ?_
          refine r_iload (pc := 63) (i := 5) dX2_draw_63 rfl ?_
          refine r_iconst (pc := 65) (v := 1) dX2_draw_65 (by decide) ?_
          refine r_iadd (pc := 66) dX2_draw_66 ?_
          refine r_aload_n (pc := 67) (i := 0) dX2_draw_67 rfl rfl ?_
          obtain ⟨k24, h⟩ := h
          refine r_geti (pc := 68) flX2_38 dX2_draw_68 (Or.inl rfl) k24 ?_
          refine r_icmp_ge (pc := 71) (tgt := 81) dX2_draw_71 (by decide) (fun c25 => ?_) (fun c25 => ?_)
          · replace h := h.1 c25
            refine r_iconst (pc := 81) (v := 0) dX2_draw_81 (by decide) ?_
            refine r_istore (pc := 82) (i := 5) dX2_draw_82 rfl (Nat.le_of_ble_eq_true rfl) ?_
            refine r_iinc (pc := 84) (i := 6) (v := _ + 1) dX2_draw_84 rfl rfl rfl ?_
            refine r_goto (pc := 87) (tgt := 14) dX2_draw_87 (by decide) ?_
            exact h
          · replace h := h.2 c25
            refine r_iload (pc := 74) (i := 5) dX2_draw_74 rfl ?_
            refine r_iconst (pc := 76) (v := 1) dX2_draw_76 (by decide) ?_
            refine r_iadd (pc := 77) dX2_draw_77 ?_
            refine r_goto (pc := 78) (tgt := 82) dX2_draw_78 (by decide) ?_
            refine r_istore (pc := 82) (i := 5) dX2_draw_82 rfl (Nat.le_of_ble_eq_true rfl) ?_
            refine r_iinc (pc := 84) (i := 6) (v := _ + 1) dX2_draw_84 rfl rfl rfl ?_
            refine r_goto (pc := 87) (tgt := 14) dX2_draw_87 (by decide) ?_
            exact h
abbrev LX2_splitByMarks_15 (G : GG) (d rc rs : Nat) (p0 : Nat) (x1 : Int32) (x2 : Int32) (z3 : Option Value) (M : Mem) (Q : Option Value → Mem → Prop) : Prop := Wk G (d + 1) rc rs mX2_splitByMarks 15 [some (.ref p0), some (.int x1), some (.int x2), z3] [] M Q
abbrev LX2_splitByMarks_47 (G : GG) (d rc rs : Nat) (p0 : Nat) (x1 : Int32) (x2 : Int32) (z3 : Option Value) (u0 : Int32) (M : Mem) (Q : Option Value → Mem → Prop) : Prop := Wk G (d + 1) rc rs mX2_splitByMarks 47 [some (.ref p0), some (.int x1), some (.int x2), z3] [.int u0] M Q
theorem eX2_splitByMarks {G : GG} {d rc rs : Nat} (o : Nat)  {M : Mem} {Q : Option Value → Mem → Prop} (h : (x_h M o).1 = 18 ∧ (∃ b2, x_r M o 6 = some b2 ∧ Call G d 0 0 mJ7_fill_fda19 [.ref b2, .int 0, .int 8, .int (-1)] M (fun r3 M4 => r3 = none ∧ LX2_splitByMarks_15 G d rc rs o 0 0 none M4 Q))) : Call G (d + 1) rc rs mX2_splitByMarks [.ref o] M Q := by
  refine call_of (by decide) (Nat.le_of_ble_eq_true rfl) ?_
  show Wk G (d + 1) rc rs mX2_splitByMarks 0 [some (.ref o), none, none, none] [] M Q
  refine r_aload_n (pc := 0) (i := 0) dX2_splitByMarks_0 rfl rfl ?_
  obtain ⟨k1, h⟩ := h
  obtain ⟨b2, hb2, h⟩ := h
  refine r_getr (pc := 1) flX2_31 dX2_splitByMarks_1 rfl k1 hb2 ?_
  refine r_iconst (pc := 4) (v := 0) dX2_splitByMarks_4 (by decide) ?_
  refine r_bipush (pc := 5) (v := 8) dX2_splitByMarks_5 (by decide) ?_
  refine r_iconst (pc := 7) (v := (-1)) dX2_splitByMarks_7 (by decide) ?_
  refine r_callS (pc := 8) (as := [_, _, _, _]) (st := []) okJ7_fill_fda19 lkX2_53 stJ7_fill_fda19 dX2_splitByMarks_8 rfl (Nat.le_of_ble_eq_true rfl) (Nat.zero_le _) (Nat.zero_le _) (Call.mono h (fun r3 M4 h => ?_))
  obtain ⟨rfl, h⟩ := h
  refine r_iconst (pc := 11) (v := 0) dX2_splitByMarks_11 (by decide) ?_
  refine r_istore_n (pc := 12) (i := 1) dX2_splitByMarks_12 rfl rfl (Nat.le_of_ble_eq_true rfl) ?_
  refine r_iconst (pc := 13) (v := 0) dX2_splitByMarks_13 (by decide) ?_
  refine r_istore_n (pc := 14) (i := 2) dX2_splitByMarks_14 rfl rfl (Nat.le_of_ble_eq_true rfl) ?_
  exact h
theorem vX2_splitByMarks_15 {G : GG} {d rc rs : Nat} (p0 : Nat) (x1 : Int32) (x2 : Int32) (z3 : Option Value) (hz3 : c1 z3 = true) {M : Mem} {Q : Option Value → Mem → Prop} (h : (x_h M p0).1 = 18 ∧ ((x_i M p0 9) ≤ x2 → Q (some (.int x1)) M) ∧ (¬ (x_i M p0 9) ≤ x2 → ∃ b3, x_r M p0 2 = some b3 ∧ (x_h M b3).1 = 1 ∧ vp_in x2 (x_h M b3).2 ∧ Call G d 0 0 mX11_within [.int (x_i M b3 x2.toNatClampNeg), .int 8] M (fun r6 M7 => ∃ v8 : Int32, r6 = some (.int v8) ∧ (v8 = 0 → LX2_splitByMarks_47 G d rc rs p0 x1 x2 z3 0 M7 Q) ∧ (¬ v8 = 0 → (x_h M7 p0).1 = 18 ∧ (∃ b11, x_r M7 p0 2 = some b11 ∧ (x_h M7 b11).1 = 1 ∧ vp_in x2 (x_h M7 b11).2 ∧ LX2_splitByMarks_47 G d rc rs p0 x1 x2 z3 (x_i M7 b11 x2.toNatClampNeg) M7 Q))))) : LX2_splitByMarks_15 G d rc rs p0 x1 x2 z3 M Q := by
  show Wk G (d + 1) rc rs mX2_splitByMarks 15 _ _ M Q
  refine r_iload_n (pc := 15) (i := 2) dX2_splitByMarks_15 rfl rfl ?_
  refine r_aload_n (pc := 16) (i := 0) dX2_splitByMarks_16 rfl rfl ?_
  obtain ⟨k1, h⟩ := h
  refine r_geti (pc := 17) flX2_41 dX2_splitByMarks_17 (Or.inl rfl) k1 ?_
  refine r_icmp_ge (pc := 20) (tgt := 86) dX2_splitByMarks_20 (by decide) (fun c2 => ?_) (fun c2 => ?_)
  · replace h := h.1 c2
    refine r_iload_n (pc := 86) (i := 1) dX2_splitByMarks_86 rfl rfl ?_
    exact r_iret (pc := 87) dX2_splitByMarks_87 rfl h
  · replace h := h.2 c2
    refine r_aload_n (pc := 23) (i := 0) dX2_splitByMarks_23 rfl rfl ?_
    obtain ⟨b3, hb3, h⟩ := h
    refine r_getr (pc := 24) flX2_18 dX2_splitByMarks_24 rfl k1 hb3 ?_
    refine r_iload_n (pc := 27) (i := 2) dX2_splitByMarks_27 rfl rfl ?_
    obtain ⟨k4, h⟩ := h
    obtain ⟨i5, h⟩ := h
    refine r_iald (pc := 28) dX2_splitByMarks_28 k4 i5 ?_
    refine r_bipush (pc := 29) (v := 8) dX2_splitByMarks_29 (by decide) ?_
    refine r_callS (pc := 31) (as := [_, _]) (st := []) okX11_within lkX2_59 stX11_within dX2_splitByMarks_31 rfl (Nat.le_of_ble_eq_true rfl) (Nat.zero_le _) (Nat.zero_le _) (Call.mono h (fun r6 M7 h => ?_))
    obtain ⟨v8, rfl, h⟩ := h
    refine r_if_eq (pc := 34) (tgt := 46) dX2_splitByMarks_34 (by decide) (fun c9 => ?_) (fun c9 => ?_)
    · replace h := h.1 c9
      refine r_iconst (pc := 46) (v := 0) dX2_splitByMarks_46 (by decide) ?_
      exact h
    · replace h := h.2 c9
      refine r_aload_n (pc := 37) (i := 0) dX2_splitByMarks_37 rfl rfl ?_
      obtain ⟨k10, h⟩ := h
      obtain ⟨b11, hb11, h⟩ := h
      refine r_getr (pc := 38) flX2_18 dX2_splitByMarks_38 rfl k10 hb11 ?_
      refine r_iload_n (pc := 41) (i := 2) dX2_splitByMarks_41 rfl rfl ?_
      obtain ⟨k12, h⟩ := h
      obtain ⟨i13, h⟩ := h
      refine r_iald (pc := 42) dX2_splitByMarks_42 k12 i13 ?_
      refine r_goto (pc := 43) (tgt := 47) dX2_splitByMarks_43 (by decide) ?_
      exact h
theorem vX2_splitByMarks_47 {G : GG} {d rc rs : Nat} (p0 : Nat) (x1 : Int32) (x2 : Int32) (z3 : Option Value) (u0 : Int32) (hz3 : c1 z3 = true) {M : Mem} {Q : Option Value → Mem → Prop} (h : (x_h M p0).1 = 18 ∧ (∃ b2, x_r M p0 6 = some b2 ∧ (x_h M b2).1 = 1 ∧ vp_in u0 (x_h M b2).2 ∧ (¬ (x_i M b2 u0.toNatClampNeg) = (-1) → ∃ b6, x_r M p0 4 = some b6 ∧ (x_h M b6).1 = 1 ∧ vp_in x2 (x_h M b6).2 ∧ (∀ M9, M9 = x_si M b6 x2.toNatClampNeg (x_i M b2 u0.toNatClampNeg) → LX2_splitByMarks_15 G d rc rs p0 x1 (x2 + 1) (some (.int u0)) M9 Q)) ∧ ((x_i M b2 u0.toNatClampNeg) = (-1) → ∀ M10, M10 = x_si M b2 u0.toNatClampNeg x1 → ∃ b11, x_r M10 p0 4 = some b11 ∧ (x_h M b11).1 = 1 ∧ vp_in x2 (x_h M b11).2 ∧ (∀ M14, M14 = x_si M10 b11 x2.toNatClampNeg (x_i M10 b2 u0.toNatClampNeg) → LX2_splitByMarks_15 G d rc rs p0 (x1 + 1) (x2 + 1) (some (.int u0)) M14 Q)))) : LX2_splitByMarks_47 G d rc rs p0 x1 x2 z3 u0 M Q := by
  show Wk G (d + 1) rc rs mX2_splitByMarks 47 _ _ M Q
  refine r_istore_n (pc := 47) (i := 3) dX2_splitByMarks_47 rfl rfl (Nat.le_of_ble_eq_true rfl) ?_
  refine r_aload_n (pc := 48) (i := 0) dX2_splitByMarks_48 rfl rfl ?_
  obtain ⟨k1, h⟩ := h
  obtain ⟨b2, hb2, h⟩ := h
  refine r_getr (pc := 49) flX2_31 dX2_splitByMarks_49 rfl k1 hb2 ?_
  refine r_iload_n (pc := 52) (i := 3) dX2_splitByMarks_52 rfl rfl ?_
  obtain ⟨k3, h⟩ := h
  obtain ⟨i4, h⟩ := h
  refine r_iald (pc := 53) dX2_splitByMarks_53 k3 i4 ?_
  refine r_iconst (pc := 54) (v := (-1)) dX2_splitByMarks_54 (by decide) ?_
  refine r_icmp_ne (pc := 55) (tgt := 68) dX2_splitByMarks_55 (by decide) (fun c5 => ?_) (fun c5 => ?_)
  · replace h := h.1 c5
    refine r_aload_n (pc := 68) (i := 0) dX2_splitByMarks_68 rfl rfl ?_
    obtain ⟨b6, hb6, h⟩ := h
    refine r_getr (pc := 69) flX2_25 dX2_splitByMarks_69 rfl k1 hb6 ?_
    refine r_iload_n (pc := 72) (i := 2) dX2_splitByMarks_72 rfl rfl ?_
    refine r_aload_n (pc := 73) (i := 0) dX2_splitByMarks_73 rfl rfl ?_
    refine r_getr (pc := 74) flX2_31 dX2_splitByMarks_74 rfl k1 hb2 ?_
    refine r_iload_n (pc := 77) (i := 3) dX2_splitByMarks_77 rfl rfl ?_
    refine r_iald (pc := 78) dX2_splitByMarks_78 k3 i4 ?_
    obtain ⟨k7, h⟩ := h
    obtain ⟨i8, h⟩ := h
    refine r_iast (pc := 79) dX2_splitByMarks_79 k7 i8 ?_
    replace h := h _ rfl
    refine r_iinc (pc := 80) (i := 2) (v := _ + 1) dX2_splitByMarks_80 rfl rfl rfl ?_
    refine r_goto (pc := 83) (tgt := 15) dX2_splitByMarks_83 (by decide) ?_
    exact h
  · replace h := h.2 c5
    refine r_aload_n (pc := 58) (i := 0) dX2_splitByMarks_58 rfl rfl ?_
    refine r_getr (pc := 59) flX2_31 dX2_splitByMarks_59 rfl k1 hb2 ?_
    refine r_iload_n (pc := 62) (i := 3) dX2_splitByMarks_62 rfl rfl ?_
    refine r_iload_n (pc := 63) (i := 1) dX2_splitByMarks_63 rfl rfl ?_
    refine r_iast (pc := 64) dX2_splitByMarks_64 k3 i4 ?_
    replace h := h _ rfl
    refine r_iinc (pc := 65) (i := 1) (v := _ + 1) dX2_splitByMarks_65 rfl rfl rfl ?_
    refine r_aload_n (pc := 68) (i := 0) dX2_splitByMarks_68 rfl rfl ?_
    obtain ⟨b11, hb11, h⟩ := h
    refine r_getr (pc := 69) flX2_25 dX2_splitByMarks_69 rfl k1 hb11 ?_
    refine r_iload_n (pc := 72) (i := 2) dX2_splitByMarks_72 rfl rfl ?_
    refine r_aload_n (pc := 73) (i := 0) dX2_splitByMarks_73 rfl rfl ?_
    refine r_getr (pc := 74) flX2_31 dX2_splitByMarks_74 rfl k1 hb2 ?_
    refine r_iload_n (pc := 77) (i := 3) dX2_splitByMarks_77 rfl rfl ?_
    refine r_iald (pc := 78) dX2_splitByMarks_78 k3 i4 ?_
    obtain ⟨k12, h⟩ := h
    obtain ⟨i13, h⟩ := h
    refine r_iast (pc := 79) dX2_splitByMarks_79 k12 i13 ?_
    replace h := h _ rfl
    refine r_iinc (pc := 80) (i := 2) (v := _ + 1) dX2_splitByMarks_80 rfl rfl rfl ?_
    refine r_goto (pc := 83) (tgt := 15) dX2_splitByMarks_83 (by decide) ?_
    exact h
abbrev LX2_splitByLinks_30 (G : GG) (d rc rs : Nat) (p0 : Nat) (x1 : Int32) (x2 : Int32) (x3 : Int32) (x4 : Int32) (z5 : Option Value) (M : Mem) (Q : Option Value → Mem → Prop) : Prop := Wk G (d + 1) rc rs mX2_splitByLinks 30 [some (.ref p0), some (.int x1), some (.int x2), some (.int x3), some (.int x4), z5] [] M Q
theorem eX2_splitByLinks {G : GG} {d rc rs : Nat} (o : Nat) (a1 : Int32) (a2 : Int32)  {M : Mem} {Q : Option Value → Mem → Prop} (h : (x_h M o).1 = 18 ∧ (∃ b2, x_r M o 6 = some b2 ∧ (1 ≤ (x_h M b2).1 ∧ (x_h M b2).1 < 8) ∧ ((a2 * a2) ≤ (nI (x_h M b2).2) → Call G d 0 0 mJ7_fill_fda19 [.ref b2, .int 0, .int (a2 * a2), .int (-1)] M (fun r5 M6 => r5 = none ∧ LX2_splitByLinks_30 G d rc rs o a1 a2 0 0 none M6 Q)) ∧ (¬ (a2 * a2) ≤ (nI (x_h M b2).2) → Q (some (.int a2)) M))) : Call G (d + 1) rc rs mX2_splitByLinks [.ref o, .int a1, .int a2] M Q := by
  refine call_of (by decide) (Nat.le_of_ble_eq_true rfl) ?_
  show Wk G (d + 1) rc rs mX2_splitByLinks 0 [some (.ref o), some (.int a1), some (.int a2), none, none, none] [] M Q
  refine r_iload_n (pc := 0) (i := 2) dX2_splitByLinks_0 rfl rfl ?_
  refine r_iload_n (pc := 1) (i := 2) dX2_splitByLinks_1 rfl rfl ?_
  refine r_imul (pc := 2) dX2_splitByLinks_2 ?_
  refine r_aload_n (pc := 3) (i := 0) dX2_splitByLinks_3 rfl rfl ?_
  obtain ⟨k1, h⟩ := h
  obtain ⟨b2, hb2, h⟩ := h
  refine r_getr (pc := 4) flX2_31 dX2_splitByLinks_4 rfl k1 hb2 ?_
  obtain ⟨k3, h⟩ := h
  refine r_alen (pc := 7) dX2_splitByLinks_7 rfl k3 ?_
  refine r_icmp_le (pc := 8) (tgt := 13) dX2_splitByLinks_8 (by decide) (fun c4 => ?_) (fun c4 => ?_)
  · replace h := h.1 c4
    refine r_aload_n (pc := 13) (i := 0) dX2_splitByLinks_13 rfl rfl ?_
    refine r_getr (pc := 14) flX2_31 dX2_splitByLinks_14 rfl k1 hb2 ?_
    refine r_iconst (pc := 17) (v := 0) dX2_splitByLinks_17 (by decide) ?_
    refine r_iload_n (pc := 18) (i := 2) dX2_splitByLinks_18 rfl rfl ?_
    refine r_iload_n (pc := 19) (i := 2) dX2_splitByLinks_19 rfl rfl ?_
    refine r_imul (pc := 20) dX2_splitByLinks_20 ?_
    refine r_iconst (pc := 21) (v := (-1)) dX2_splitByLinks_21 (by decide) ?_
    refine r_callS (pc := 22) (as := [_, _, _, _]) (st := []) okJ7_fill_fda19 lkX2_53 stJ7_fill_fda19 dX2_splitByLinks_22 rfl (Nat.le_of_ble_eq_true rfl) (Nat.zero_le _) (Nat.zero_le _) (Call.mono h (fun r5 M6 h => ?_))
    obtain ⟨rfl, h⟩ := h
    refine r_iconst (pc := 25) (v := 0) dX2_splitByLinks_25 (by decide) ?_
    refine r_istore_n (pc := 26) (i := 3) dX2_splitByLinks_26 rfl rfl (Nat.le_of_ble_eq_true rfl) ?_
    refine r_iconst (pc := 27) (v := 0) dX2_splitByLinks_27 (by decide) ?_
    refine r_istore (pc := 28) (i := 4) dX2_splitByLinks_28 rfl (Nat.le_of_ble_eq_true rfl) ?_
    exact h
  · replace h := h.2 c4
    refine r_iload_n (pc := 11) (i := 2) dX2_splitByLinks_11 rfl rfl ?_
    exact r_iret (pc := 12) dX2_splitByLinks_12 rfl h
theorem vX2_splitByLinks_30 {G : GG} {d rc rs : Nat} (p0 : Nat) (x1 : Int32) (x2 : Int32) (x3 : Int32) (x4 : Int32) (z5 : Option Value) (hz5 : c1 z5 = true) {M : Mem} {Q : Option Value → Mem → Prop} (h : (x_h M p0).1 = 18 ∧ ((x_i M p0 9) ≤ x4 → ∃ b3, x_r M p0 5 = some b3 ∧ ∃ b4, x_r M p0 4 = some b4 ∧ (x_h M b4).1 = 1 ∧ (x_h M b3).1 = 1 ∧ ¬ (0 : Int32) < 0 ∧ ¬ (0 : Int32) < 0 ∧ ¬ (x_i M p0 9) < 0 ∧ (0 : Int32).toNatClampNeg + (x_i M p0 9).toNatClampNeg ≤ (x_h M b3).2 ∧ (0 : Int32).toNatClampNeg + (x_i M p0 9).toNatClampNeg ≤ (x_h M b4).2 ∧ (∀ M12, M12 = x_cpi M b3 (0 : Int32).toNatClampNeg b4 (0 : Int32).toNatClampNeg (x_i M p0 9).toNatClampNeg → Q (some (.int x3)) M12)) ∧ (¬ (x_i M p0 9) ≤ x4 → ∃ b13, x_r M p0 4 = some b13 ∧ (x_h M b13).1 = 1 ∧ vp_in x4 (x_h M b13).2 ∧ Call G d 0 0 mX2_linkOf [.ref p0, .int x4, .int x1] M (fun r16 M17 => ∃ v18 : Int32, r16 = some (.int v18) ∧ (x_h M17 b13).1 = 1 ∧ vp_in v18 (x_h M17 b13).2 ∧ (x_h M17 p0).1 = 18 ∧ (∃ b22, x_r M17 p0 6 = some b22 ∧ (x_h M17 b22).1 = 1 ∧ vp_in (((x_i M b13 x4.toNatClampNeg) * x2) + (x_i M17 b13 v18.toNatClampNeg)) (x_h M17 b22).2 ∧ (¬ (x_i M17 b22 (((x_i M b13 x4.toNatClampNeg) * x2) + (x_i M17 b13 v18.toNatClampNeg)).toNatClampNeg) = (-1) → ∃ b26, x_r M17 p0 5 = some b26 ∧ (x_h M17 b26).1 = 1 ∧ vp_in x4 (x_h M17 b26).2 ∧ (∀ M29, M29 = x_si M17 b26 x4.toNatClampNeg (x_i M17 b22 (((x_i M b13 x4.toNatClampNeg) * x2) + (x_i M17 b13 v18.toNatClampNeg)).toNatClampNeg) → LX2_splitByLinks_30 G d rc rs p0 x1 x2 x3 (x4 + 1) (some (.int (((x_i M b13 x4.toNatClampNeg) * x2) + (x_i M17 b13 v18.toNatClampNeg)))) M29 Q)) ∧ ((x_i M17 b22 (((x_i M b13 x4.toNatClampNeg) * x2) + (x_i M17 b13 v18.toNatClampNeg)).toNatClampNeg) = (-1) → ∀ M30, M30 = x_si M17 b22 (((x_i M b13 x4.toNatClampNeg) * x2) + (x_i M17 b13 v18.toNatClampNeg)).toNatClampNeg x3 → ∃ b31, x_r M30 p0 5 = some b31 ∧ (x_h M17 b31).1 = 1 ∧ vp_in x4 (x_h M17 b31).2 ∧ (∀ M34, M34 = x_si M30 b31 x4.toNatClampNeg (x_i M30 b22 (((x_i M b13 x4.toNatClampNeg) * x2) + (x_i M17 b13 v18.toNatClampNeg)).toNatClampNeg) → LX2_splitByLinks_30 G d rc rs p0 x1 x2 (x3 + 1) (x4 + 1) (some (.int (((x_i M b13 x4.toNatClampNeg) * x2) + (x_i M17 b13 v18.toNatClampNeg)))) M34 Q)))))) : LX2_splitByLinks_30 G d rc rs p0 x1 x2 x3 x4 z5 M Q := by
  show Wk G (d + 1) rc rs mX2_splitByLinks 30 _ _ M Q
  refine r_iload (pc := 30) (i := 4) dX2_splitByLinks_30 rfl ?_
  refine r_aload_n (pc := 32) (i := 0) dX2_splitByLinks_32 rfl rfl ?_
  obtain ⟨k1, h⟩ := h
  refine r_geti (pc := 33) flX2_41 dX2_splitByLinks_33 (Or.inl rfl) k1 ?_
  refine r_icmp_ge (pc := 36) (tgt := 105) dX2_splitByLinks_36 (by decide) (fun c2 => ?_) (fun c2 => ?_)
  · replace h := h.1 c2
    refine r_aload_n (pc := 105) (i := 0) dX2_splitByLinks_105 rfl rfl ?_
    obtain ⟨b3, hb3, h⟩ := h
    refine r_getr (pc := 106) flX2_28 dX2_splitByLinks_106 rfl k1 hb3 ?_
    refine r_iconst (pc := 109) (v := 0) dX2_splitByLinks_109 (by decide) ?_
    refine r_aload_n (pc := 110) (i := 0) dX2_splitByLinks_110 rfl rfl ?_
    obtain ⟨b4, hb4, h⟩ := h
    refine r_getr (pc := 111) flX2_25 dX2_splitByLinks_111 rfl k1 hb4 ?_
    refine r_iconst (pc := 114) (v := 0) dX2_splitByLinks_114 (by decide) ?_
    refine r_aload_n (pc := 115) (i := 0) dX2_splitByLinks_115 rfl rfl ?_
    refine r_geti (pc := 116) flX2_41 dX2_splitByLinks_116 (Or.inl rfl) k1 ?_
    obtain ⟨k5, h⟩ := h
    obtain ⟨k6, h⟩ := h
    obtain ⟨y7, y8, y9, y10, y11, h⟩ := h
    refine r_copyi (pc := 119) cokX2_78 k5 k6 y7 y8 y9 y10 y11 (Nat.le_of_ble_eq_true rfl) dX2_splitByLinks_119 ?_
    replace h := h _ rfl
    refine r_iload_n (pc := 122) (i := 3) dX2_splitByLinks_122 rfl rfl ?_
    exact r_iret (pc := 123) dX2_splitByLinks_123 rfl h
  · replace h := h.2 c2
    refine r_aload_n (pc := 39) (i := 0) dX2_splitByLinks_39 rfl rfl ?_
    obtain ⟨b13, hb13, h⟩ := h
    refine r_getr (pc := 40) flX2_25 dX2_splitByLinks_40 rfl k1 hb13 ?_
    refine r_iload (pc := 43) (i := 4) dX2_splitByLinks_43 rfl ?_
    obtain ⟨k14, h⟩ := h
    obtain ⟨i15, h⟩ := h
    refine r_iald (pc := 45) dX2_splitByLinks_45 k14 i15 ?_
    refine r_iload_n (pc := 46) (i := 2) dX2_splitByLinks_46 rfl rfl ?_
    refine r_imul (pc := 47) dX2_splitByLinks_47 ?_
    refine r_aload_n (pc := 48) (i := 0) dX2_splitByLinks_48 rfl rfl ?_
    refine r_getr (pc := 49) flX2_25 dX2_splitByLinks_49 rfl k1 hb13 ?_
    refine r_aload_n (pc := 52) (i := 0) dX2_splitByLinks_52 rfl rfl ?_
    refine r_iload (pc := 53) (i := 4) dX2_splitByLinks_53 rfl ?_
    refine r_iload_n (pc := 55) (i := 1) dX2_splitByLinks_55 rfl rfl ?_
    refine r_callV (pc := 56) (ci := 2) (as := [_, _]) (st := [_, _]) okX2_linkOf lkX2_75 inX2_linkOf seX2_linkOf ⟨_, rfl, rfl⟩ dX2_splitByLinks_56 rfl k1 (Nat.le_of_ble_eq_true rfl) (Nat.zero_le _) (Nat.zero_le _) (Call.mono h (fun r16 M17 h => ?_))
    obtain ⟨v18, rfl, h⟩ := h
    obtain ⟨k19, h⟩ := h
    obtain ⟨i20, h⟩ := h
    refine r_iald (pc := 59) dX2_splitByLinks_59 k19 i20 ?_
    refine r_iadd (pc := 60) dX2_splitByLinks_60 ?_
    refine r_istore (pc := 61) (i := 5) dX2_splitByLinks_61 rfl (Nat.le_of_ble_eq_true rfl) ?_
    refine r_aload_n (pc := 63) (i := 0) dX2_splitByLinks_63 rfl rfl ?_
    obtain ⟨k21, h⟩ := h
    obtain ⟨b22, hb22, h⟩ := h
    refine r_getr (pc := 64) flX2_31 dX2_splitByLinks_64 rfl k21 hb22 ?_
    refine r_iload (pc := 67) (i := 5) dX2_splitByLinks_67 rfl ?_
    obtain ⟨k23, h⟩ := h
    obtain ⟨i24, h⟩ := h
    refine r_iald (pc := 69) dX2_splitByLinks_69 k23 i24 ?_
    refine r_iconst (pc := 70) (v := (-1)) dX2_splitByLinks_70 (by decide) ?_
    refine r_icmp_ne (pc := 71) (tgt := 85) dX2_splitByLinks_71 (by decide) (fun c25 => ?_) (fun c25 => ?_)
    · replace h := h.1 c25
      refine r_aload_n (pc := 85) (i := 0) dX2_splitByLinks_85 rfl rfl ?_
      obtain ⟨b26, hb26, h⟩ := h
      refine r_getr (pc := 86) flX2_28 dX2_splitByLinks_86 rfl k21 hb26 ?_
      refine r_iload (pc := 89) (i := 4) dX2_splitByLinks_89 rfl ?_
      refine r_aload_n (pc := 91) (i := 0) dX2_splitByLinks_91 rfl rfl ?_
      refine r_getr (pc := 92) flX2_31 dX2_splitByLinks_92 rfl k21 hb22 ?_
      refine r_iload (pc := 95) (i := 5) dX2_splitByLinks_95 rfl ?_
      refine r_iald (pc := 97) dX2_splitByLinks_97 k23 i24 ?_
      obtain ⟨k27, h⟩ := h
      obtain ⟨i28, h⟩ := h
      refine r_iast (pc := 98) dX2_splitByLinks_98 k27 i28 ?_
      replace h := h _ rfl
      refine r_iinc (pc := 99) (i := 4) (v := _ + 1) dX2_splitByLinks_99 rfl rfl rfl ?_
      refine r_goto (pc := 102) (tgt := 30) dX2_splitByLinks_102 (by decide) ?_
      exact h
    · replace h := h.2 c25
      refine r_aload_n (pc := 74) (i := 0) dX2_splitByLinks_74 rfl rfl ?_
      refine r_getr (pc := 75) flX2_31 dX2_splitByLinks_75 rfl k21 hb22 ?_
      refine r_iload (pc := 78) (i := 5) dX2_splitByLinks_78 rfl ?_
      refine r_iload_n (pc := 80) (i := 3) dX2_splitByLinks_80 rfl rfl ?_
      refine r_iast (pc := 81) dX2_splitByLinks_81 k23 i24 ?_
      replace h := h _ rfl
      refine r_iinc (pc := 82) (i := 3) (v := _ + 1) dX2_splitByLinks_82 rfl rfl rfl ?_
      refine r_aload_n (pc := 85) (i := 0) dX2_splitByLinks_85 rfl rfl ?_
      obtain ⟨b31, hb31, h⟩ := h
      refine r_getr (pc := 86) flX2_28 dX2_splitByLinks_86 rfl k21 hb31 ?_
      refine r_iload (pc := 89) (i := 4) dX2_splitByLinks_89 rfl ?_
      refine r_aload_n (pc := 91) (i := 0) dX2_splitByLinks_91 rfl rfl ?_
      refine r_getr (pc := 92) flX2_31 dX2_splitByLinks_92 rfl k21 hb22 ?_
      refine r_iload (pc := 95) (i := 5) dX2_splitByLinks_95 rfl ?_
      refine r_iald (pc := 97) dX2_splitByLinks_97 k23 i24 ?_
      obtain ⟨k32, h⟩ := h
      obtain ⟨i33, h⟩ := h
      refine r_iast (pc := 98) dX2_splitByLinks_98 k32 i33 ?_
      replace h := h _ rfl
      refine r_iinc (pc := 99) (i := 4) (v := _ + 1) dX2_splitByLinks_99 rfl rfl rfl ?_
      refine r_goto (pc := 102) (tgt := 30) dX2_splitByLinks_102 (by decide) ?_
      exact h
abbrev LX2_number_43 (G : GG) (d rc rs : Nat) (p0 : Nat) (p1 : Nat) (x2 : Int32) (x3 : Int32) (x4 : Int32) (z5 : Option Value) (z6 : Option Value) (M : Mem) (Q : Option Value → Mem → Prop) : Prop := Wk G (d + 1) rc rs mX2_number 43 [some (.ref p0), some (.ref p1), some (.int x2), some (.int x3), some (.int x4), z5, z6] [] M Q
abbrev LX2_number_76 (G : GG) (d rc rs : Nat) (p0 : Nat) (p1 : Nat) (x2 : Int32) (x3 : Int32) (x4 : Int32) (x5 : Int32) (z6 : Option Value) (M : Mem) (Q : Option Value → Mem → Prop) : Prop := Wk G (d + 1) rc rs mX2_number 76 [some (.ref p0), some (.ref p1), some (.int x2), some (.int x3), some (.int x4), some (.int x5), z6] [] M Q
theorem eX2_number {G : GG} {d rc rs : Nat} (o : Nat) (a1 : Nat) (a2 : Int32)  {M : Mem} {Q : Option Value → Mem → Prop} (h : (x_h M o).1 = 18 ∧ (∃ b2, x_r M o 6 = some b2 ∧ Call G d 0 0 mJ7_fill_fda19 [.ref b2, .int 0, .int a2, .int (-1)] M (fun r3 M4 => r3 = none ∧ (x_h M4 o).1 = 18 ∧ (∃ b6, x_r M4 o 6 = some b6 ∧ ∃ b7, x_r M4 o 4 = some b7 ∧ (x_h M4 b7).1 = 1 ∧ vp_in 0 (x_h M4 b7).2 ∧ (x_h M4 b6).1 = 1 ∧ vp_in (x_i M4 b7 (0 : Int32).toNatClampNeg) (x_h M4 b6).2 ∧ (∀ M12, M12 = x_si M4 b6 (x_i M4 b7 (0 : Int32).toNatClampNeg).toNatClampNeg 0 → ∃ b13, x_r M12 o 5 = some b13 ∧ (x_h M4 b13).1 = 1 ∧ vp_in 0 (x_h M4 b13).2 ∧ (∀ M16, M16 = x_si M12 b13 (0 : Int32).toNatClampNeg 0 → (x_h M4 a1).1 = 17 ∧ Call G d 0 0 mX1_size [.ref a1, .int a2, .int (x_i M16 o 8)] M16 (fun r18 M19 => r18 = none ∧ LX2_number_43 G d rc rs o a1 a2 1 0 none none M19 Q))))))) : Call G (d + 1) rc rs mX2_number [.ref o, .ref a1, .int a2] M Q := by
  refine call_of (by decide) (Nat.le_of_ble_eq_true rfl) ?_
  show Wk G (d + 1) rc rs mX2_number 0 [some (.ref o), some (.ref a1), some (.int a2), none, none, none, none] [] M Q
  refine r_aload_n (pc := 0) (i := 0) dX2_number_0 rfl rfl ?_
  obtain ⟨k1, h⟩ := h
  obtain ⟨b2, hb2, h⟩ := h
  refine r_getr (pc := 1) flX2_31 dX2_number_1 rfl k1 hb2 ?_
  refine r_iconst (pc := 4) (v := 0) dX2_number_4 (by decide) ?_
  refine r_iload_n (pc := 5) (i := 2) dX2_number_5 rfl rfl ?_
  refine r_iconst (pc := 6) (v := (-1)) dX2_number_6 (by decide) ?_
  refine r_callS (pc := 7) (as := [_, _, _, _]) (st := []) okJ7_fill_fda19 lkX2_53 stJ7_fill_fda19 dX2_number_7 rfl (Nat.le_of_ble_eq_true rfl) (Nat.zero_le _) (Nat.zero_le _) (Call.mono h (fun r3 M4 h => ?_))
  obtain ⟨rfl, h⟩ := h
  refine r_aload_n (pc := 10) (i := 0) dX2_number_10 rfl rfl ?_
  obtain ⟨k5, h⟩ := h
  obtain ⟨b6, hb6, h⟩ := h
  refine r_getr (pc := 11) flX2_31 dX2_number_11 rfl k5 hb6 ?_
  refine r_aload_n (pc := 14) (i := 0) dX2_number_14 rfl rfl ?_
  obtain ⟨b7, hb7, h⟩ := h
  refine r_getr (pc := 15) flX2_25 dX2_number_15 rfl k5 hb7 ?_
  refine r_iconst (pc := 18) (v := 0) dX2_number_18 (by decide) ?_
  obtain ⟨k8, h⟩ := h
  obtain ⟨i9, h⟩ := h
  refine r_iald (pc := 19) dX2_number_19 k8 i9 ?_
  refine r_iconst (pc := 20) (v := 0) dX2_number_20 (by decide) ?_
  obtain ⟨k10, h⟩ := h
  obtain ⟨i11, h⟩ := h
  refine r_iast (pc := 21) dX2_number_21 k10 i11 ?_
  replace h := h _ rfl
  refine r_aload_n (pc := 22) (i := 0) dX2_number_22 rfl rfl ?_
  obtain ⟨b13, hb13, h⟩ := h
  refine r_getr (pc := 23) flX2_28 dX2_number_23 rfl k5 hb13 ?_
  refine r_iconst (pc := 26) (v := 0) dX2_number_26 (by decide) ?_
  refine r_iconst (pc := 27) (v := 0) dX2_number_27 (by decide) ?_
  obtain ⟨k14, h⟩ := h
  obtain ⟨i15, h⟩ := h
  refine r_iast (pc := 28) dX2_number_28 k14 i15 ?_
  replace h := h _ rfl
  refine r_iconst (pc := 29) (v := 1) dX2_number_29 (by decide) ?_
  refine r_istore_n (pc := 30) (i := 3) dX2_number_30 rfl rfl (Nat.le_of_ble_eq_true rfl) ?_
  refine r_aload_n (pc := 31) (i := 1) dX2_number_31 rfl rfl ?_
  refine r_iload_n (pc := 32) (i := 2) dX2_number_32 rfl rfl ?_
  refine r_aload_n (pc := 33) (i := 0) dX2_number_33 rfl rfl ?_
  refine r_geti (pc := 34) flX2_38 dX2_number_34 (Or.inl rfl) k5 ?_
  obtain ⟨k17, h⟩ := h
  refine r_callV (pc := 37) (ci := 1) (as := [_, _]) (st := []) okX1_size lkX2_84 inX1_size seX1_size ⟨_, rfl, rfl⟩ dX2_number_37 rfl k17 (Nat.le_of_ble_eq_true rfl) (Nat.zero_le _) (Nat.zero_le _) (Call.mono h (fun r18 M19 h => ?_))
  obtain ⟨rfl, h⟩ := h
  refine r_iconst (pc := 40) (v := 0) dX2_number_40 (by decide) ?_
  refine r_istore (pc := 41) (i := 4) dX2_number_41 rfl (Nat.le_of_ble_eq_true rfl) ?_
  exact h
theorem vX2_number_43 {G : GG} {d rc rs : Nat} (p0 : Nat) (p1 : Nat) (x2 : Int32) (x3 : Int32) (x4 : Int32) (z5 : Option Value) (z6 : Option Value) (hz5 : c1 z5 = true) (hz6 : c1 z6 = true) {M : Mem} {Q : Option Value → Mem → Prop} (h : (x2 ≤ x4 → Q none M) ∧ (¬ x2 ≤ x4 → (x3 ≤ x4 → Q none M) ∧ (¬ x3 ≤ x4 → (x_h M p0).1 = 18 ∧ (∃ b4, x_r M p0 2 = some b4 ∧ ∃ b5, x_r M p0 5 = some b5 ∧ (x_h M b5).1 = 1 ∧ vp_in x4 (x_h M b5).2 ∧ (x_h M b4).1 = 1 ∧ vp_in (x_i M b5 x4.toNatClampNeg) (x_h M b4).2 ∧ (x_h M p1).1 = 17 ∧ Call G d 0 0 mX1_putMark [.ref p1, .int x4, .int (x_i M b4 (x_i M b5 x4.toNatClampNeg).toNatClampNeg)] M (fun r11 M12 => r11 = none ∧ LX2_number_76 G d rc rs p0 p1 x2 x3 x4 0 z6 M12 Q))))) : LX2_number_43 G d rc rs p0 p1 x2 x3 x4 z5 z6 M Q := by
  show Wk G (d + 1) rc rs mX2_number 43 _ _ M Q
  refine r_iload (pc := 43) (i := 4) dX2_number_43 rfl ?_
  refine r_iload_n (pc := 45) (i := 2) dX2_number_45 rfl rfl ?_
  refine r_icmp_ge (pc := 46) (tgt := 172) dX2_number_46 (by decide) (fun c1 => ?_) (fun c1 => ?_)
  · replace h := h.1 c1
    exact r_vret (pc := 172) dX2_number_172 rfl h
  · replace h := h.2 c1
    refine r_iload (pc := 49) (i := 4) dX2_number_49 rfl ?_
    refine r_iload_n (pc := 51) (i := 3) dX2_number_51 rfl rfl ?_
    refine r_icmp_ge (pc := 52) (tgt := 172) dX2_number_52 (by decide) (fun c2 => ?_) (fun c2 => ?_)
    · replace h := h.1 c2
      exact r_vret (pc := 172) dX2_number_172 rfl h
    · replace h := h.2 c2
      refine r_aload_n (pc := 55) (i := 1) dX2_number_55 rfl rfl ?_
      refine r_iload (pc := 56) (i := 4) dX2_number_56 rfl ?_
      refine r_aload_n (pc := 58) (i := 0) dX2_number_58 rfl rfl ?_
      obtain ⟨k3, h⟩ := h
      obtain ⟨b4, hb4, h⟩ := h
      refine r_getr (pc := 59) flX2_18 dX2_number_59 rfl k3 hb4 ?_
      refine r_aload_n (pc := 62) (i := 0) dX2_number_62 rfl rfl ?_
      obtain ⟨b5, hb5, h⟩ := h
      refine r_getr (pc := 63) flX2_28 dX2_number_63 rfl k3 hb5 ?_
      refine r_iload (pc := 66) (i := 4) dX2_number_66 rfl ?_
      obtain ⟨k6, h⟩ := h
      obtain ⟨i7, h⟩ := h
      refine r_iald (pc := 68) dX2_number_68 k6 i7 ?_
      obtain ⟨k8, h⟩ := h
      obtain ⟨i9, h⟩ := h
      refine r_iald (pc := 69) dX2_number_69 k8 i9 ?_
      obtain ⟨k10, h⟩ := h
      refine r_callV (pc := 70) (ci := 1) (as := [_, _]) (st := []) okX1_putMark lkX2_90 inX1_putMark seX1_putMark ⟨_, rfl, rfl⟩ dX2_number_70 rfl k10 (Nat.le_of_ble_eq_true rfl) (Nat.zero_le _) (Nat.zero_le _) (Call.mono h (fun r11 M12 h => ?_))
      obtain ⟨rfl, h⟩ := h
      refine r_iconst (pc := 73) (v := 0) dX2_number_73 (by decide) ?_
      refine r_istore (pc := 74) (i := 5) dX2_number_74 rfl (Nat.le_of_ble_eq_true rfl) ?_
      exact h
theorem vX2_number_76 {G : GG} {d rc rs : Nat} (p0 : Nat) (p1 : Nat) (x2 : Int32) (x3 : Int32) (x4 : Int32) (x5 : Int32) (z6 : Option Value) (hz6 : c1 z6 = true) {M : Mem} {Q : Option Value → Mem → Prop} (h : (x_h M p0).1 = 18 ∧ ((x_i M p0 8) ≤ x5 → LX2_number_43 G d rc rs p0 p1 x2 x3 (x4 + 1) (some (.int x5)) z6 M Q) ∧ (¬ (x_i M p0 8) ≤ x5 → ∃ b3, x_r M p0 5 = some b3 ∧ (x_h M b3).1 = 1 ∧ vp_in x4 (x_h M b3).2 ∧ Call G d 0 0 mX2_linkOf [.ref p0, .int (x_i M b3 x4.toNatClampNeg), .int x5] M (fun r6 M7 => ∃ v8 : Int32, r6 = some (.int v8) ∧ (x_h M7 p0).1 = 18 ∧ (∃ b10, x_r M7 p0 6 = some b10 ∧ ∃ b11, x_r M7 p0 4 = some b11 ∧ (x_h M7 b11).1 = 1 ∧ vp_in v8 (x_h M7 b11).2 ∧ (x_h M7 b10).1 = 1 ∧ vp_in (x_i M7 b11 v8.toNatClampNeg) (x_h M7 b10).2 ∧ (¬ (x_i M7 b10 (x_i M7 b11 v8.toNatClampNeg).toNatClampNeg) = (-1) → (x_h M7 p1).1 = 17 ∧ Call G d 0 0 mX1_put [.ref p1, .int x4, .int x5, .int (x_i M7 b10 (x_i M7 b11 v8.toNatClampNeg).toNatClampNeg)] M7 (fun r18 M19 => r18 = none ∧ LX2_number_76 G d rc rs p0 p1 x2 x3 x4 (x5 + 1) (some (.int v8)) M19 Q)) ∧ ((x_i M7 b10 (x_i M7 b11 v8.toNatClampNeg).toNatClampNeg) = (-1) → ∀ M20, M20 = x_si M7 b10 (x_i M7 b11 v8.toNatClampNeg).toNatClampNeg x3 → ∃ b21, x_r M20 p0 5 = some b21 ∧ (x_h M7 b21).1 = 1 ∧ vp_in x3 (x_h M7 b21).2 ∧ (∀ M24, M24 = x_si M20 b21 x3.toNatClampNeg v8 → vp_in (x_i M24 b11 v8.toNatClampNeg) (x_h M7 b10).2 ∧ (x_h M7 p1).1 = 17 ∧ Call G d 0 0 mX1_put [.ref p1, .int x4, .int x5, .int (x_i M24 b10 (x_i M24 b11 v8.toNatClampNeg).toNatClampNeg)] M24 (fun r27 M28 => r27 = none ∧ LX2_number_76 G d rc rs p0 p1 x2 (x3 + 1) x4 (x5 + 1) (some (.int v8)) M28 Q))))))) : LX2_number_76 G d rc rs p0 p1 x2 x3 x4 x5 z6 M Q := by
  show Wk G (d + 1) rc rs mX2_number 76 _ _ M Q
  refine r_iload (pc := 76) (i := 5) dX2_number_76 rfl ?_
  refine r_aload_n (pc := 78) (i := 0) dX2_number_78 rfl rfl ?_
  obtain ⟨k1, h⟩ := h
  refine r_geti (pc := 79) flX2_38 dX2_number_79 (Or.inl rfl) k1 ?_
  refine r_icmp_ge (pc := 82) (tgt := 166) dX2_number_82 (by decide) (fun c2 => ?_) (fun c2 => ?_)
  · replace h := h.1 c2
    refine r_iinc (pc := 166) (i := 4) (v := _ + 1) dX2_number_166 rfl rfl rfl ?_
    refine r_goto (pc := 169) (tgt := 43) dX2_number_169 (by decide) ?_
    exact h
  · replace h := h.2 c2
    refine r_aload_n (pc := 85) (i := 0) dX2_number_85 rfl rfl ?_
    refine r_aload_n (pc := 86) (i := 0) dX2_number_86 rfl rfl ?_
    obtain ⟨b3, hb3, h⟩ := h
    refine r_getr (pc := 87) flX2_28 dX2_number_87 rfl k1 hb3 ?_
    refine r_iload (pc := 90) (i := 4) dX2_number_90 rfl ?_
    obtain ⟨k4, h⟩ := h
    obtain ⟨i5, h⟩ := h
    refine r_iald (pc := 92) dX2_number_92 k4 i5 ?_
    refine r_iload (pc := 93) (i := 5) dX2_number_93 rfl ?_
    refine r_callV (pc := 95) (ci := 2) (as := [_, _]) (st := []) okX2_linkOf lkX2_75 inX2_linkOf seX2_linkOf ⟨_, rfl, rfl⟩ dX2_number_95 rfl k1 (Nat.le_of_ble_eq_true rfl) (Nat.zero_le _) (Nat.zero_le _) (Call.mono h (fun r6 M7 h => ?_))
    obtain ⟨v8, rfl, h⟩ := h
    refine r_istore (pc := 98) (i := 6) dX2_number_98 rfl (Nat.le_of_ble_eq_true rfl) ?_
    refine r_aload_n (pc := 100) (i := 0) dX2_number_100 rfl rfl ?_
    obtain ⟨k9, h⟩ := h
    obtain ⟨b10, hb10, h⟩ := h
    refine r_getr (pc := 101) flX2_31 dX2_number_101 rfl k9 hb10 ?_
    refine r_aload_n (pc := 104) (i := 0) dX2_number_104 rfl rfl ?_
    obtain ⟨b11, hb11, h⟩ := h
    refine r_getr (pc := 105) flX2_25 dX2_number_105 rfl k9 hb11 ?_
    refine r_iload (pc := 108) (i := 6) dX2_number_108 rfl ?_
    obtain ⟨k12, h⟩ := h
    obtain ⟨i13, h⟩ := h
    refine r_iald (pc := 110) dX2_number_110 k12 i13 ?_
    obtain ⟨k14, h⟩ := h
    obtain ⟨i15, h⟩ := h
    refine r_iald (pc := 111) dX2_number_111 k14 i15 ?_
    refine r_iconst (pc := 112) (v := (-1)) dX2_number_112 (by decide) ?_
    refine r_icmp_ne (pc := 113) (tgt := 140) dX2_number_113 (by decide) (fun c16 => ?_) (fun c16 => ?_)
    · replace h := h.1 c16
      refine r_aload_n (pc := 140) (i := 1) dX2_number_140 rfl rfl ?_
      refine r_iload (pc := 141) (i := 4) dX2_number_141 rfl ?_
      refine r_iload (pc := 143) (i := 5) dX2_number_143 rfl ?_
      refine r_aload_n (pc := 145) (i := 0) dX2_number_145 rfl rfl ?_
      refine r_getr (pc := 146) flX2_31 dX2_number_146 rfl k9 hb10 ?_
      refine r_aload_n (pc := 149) (i := 0) dX2_number_149 rfl rfl ?_
      refine r_getr (pc := 150) flX2_25 dX2_number_150 rfl k9 hb11 ?_
      refine r_iload (pc := 153) (i := 6) dX2_number_153 rfl ?_
      refine r_iald (pc := 155) dX2_number_155 k12 i13 ?_
      refine r_iald (pc := 156) dX2_number_156 k14 i15 ?_
      obtain ⟨k17, h⟩ := h
      refine r_callV (pc := 157) (ci := 1) (as := [_, _, _]) (st := []) okX1_put lkX2_93 inX1_put seX1_put ⟨_, rfl, rfl⟩ dX2_number_157 rfl k17 (Nat.le_of_ble_eq_true rfl) (Nat.zero_le _) (Nat.zero_le _) (Call.mono h (fun r18 M19 h => ?_))
      obtain ⟨rfl, h⟩ := h
      refine r_iinc (pc := 160) (i := 5) (v := _ + 1) dX2_number_160 rfl rfl rfl ?_
      refine r_goto (pc := 163) (tgt := 76) dX2_number_163 (by decide) ?_
      exact h
    · replace h := h.2 c16
      refine r_aload_n (pc := 116) (i := 0) dX2_number_116 rfl rfl ?_
      refine r_getr (pc := 117) flX2_31 dX2_number_117 rfl k9 hb10 ?_
      refine r_aload_n (pc := 120) (i := 0) dX2_number_120 rfl rfl ?_
      refine r_getr (pc := 121) flX2_25 dX2_number_121 rfl k9 hb11 ?_
      refine r_iload (pc := 124) (i := 6) dX2_number_124 rfl ?_
      refine r_iald (pc := 126) dX2_number_126 k12 i13 ?_
      refine r_iload_n (pc := 127) (i := 3) dX2_number_127 rfl rfl ?_
      refine r_iast (pc := 128) dX2_number_128 k14 i15 ?_
      replace h := h _ rfl
      refine r_aload_n (pc := 129) (i := 0) dX2_number_129 rfl rfl ?_
      obtain ⟨b21, hb21, h⟩ := h
      refine r_getr (pc := 130) flX2_28 dX2_number_130 rfl k9 hb21 ?_
      refine r_iload_n (pc := 133) (i := 3) dX2_number_133 rfl rfl ?_
      refine r_iload (pc := 134) (i := 6) dX2_number_134 rfl ?_
      obtain ⟨k22, h⟩ := h
      obtain ⟨i23, h⟩ := h
      refine r_iast (pc := 136) dX2_number_136 k22 i23 ?_
      replace h := h _ rfl
      refine r_iinc (pc := 137) (i := 3) (v := _ + 1) dX2_number_137 rfl rfl rfl ?_
      refine r_aload_n (pc := 140) (i := 1) dX2_number_140 rfl rfl ?_
      refine r_iload (pc := 141) (i := 4) dX2_number_141 rfl ?_
      refine r_iload (pc := 143) (i := 5) dX2_number_143 rfl ?_
      refine r_aload_n (pc := 145) (i := 0) dX2_number_145 rfl rfl ?_
      refine r_getr (pc := 146) flX2_31 dX2_number_146 rfl k9 hb10 ?_
      refine r_aload_n (pc := 149) (i := 0) dX2_number_149 rfl rfl ?_
      refine r_getr (pc := 150) flX2_25 dX2_number_150 rfl k9 hb11 ?_
      refine r_iload (pc := 153) (i := 6) dX2_number_153 rfl ?_
      refine r_iald (pc := 155) dX2_number_155 k12 i13 ?_
      obtain ⟨i25, h⟩ := h
      refine r_iald (pc := 156) dX2_number_156 k14 i25 ?_
      obtain ⟨k26, h⟩ := h
      refine r_callV (pc := 157) (ci := 1) (as := [_, _, _]) (st := []) okX1_put lkX2_93 inX1_put seX1_put ⟨_, rfl, rfl⟩ dX2_number_157 rfl k26 (Nat.le_of_ble_eq_true rfl) (Nat.zero_le _) (Nat.zero_le _) (Call.mono h (fun r27 M28 h => ?_))
      obtain ⟨rfl, h⟩ := h
      refine r_iinc (pc := 160) (i := 5) (v := _ + 1) dX2_number_160 rfl rfl rfl ?_
      refine r_goto (pc := 163) (tgt := 76) dX2_number_163 (by decide) ?_
      exact h
