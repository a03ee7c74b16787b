/-! EndlessRows$Reader: decode rows and verification conditions, by program -/
theorem dX5_init_0 : decode cX5_init 0 = .ok (.aload_n 0, 1) := by decide +kernel
theorem dX5_init_1 : decode cX5_init 1 = .ok (.invokespecial 3, 3) := by decide +kernel
theorem dX5_init_4 : decode cX5_init 4 = .ok (.aload_n 0, 1) := by decide +kernel
theorem dX5_init_5 : decode cX5_init 5 = .ok (.new 9, 3) := by decide +kernel
theorem dX5_init_8 : decode cX5_init 8 = .ok (.dup, 1) := by decide +kernel
theorem dX5_init_9 : decode cX5_init 9 = .ok (.invokespecial 11, 3) := by decide +kernel
theorem dX5_init_12 : decode cX5_init 12 = .ok (.putfield 12, 3) := by decide +kernel
theorem dX5_init_15 : decode cX5_init 15 = .ok (.aload_n 0, 1) := by decide +kernel
theorem dX5_init_16 : decode cX5_init 16 = .ok (.bipush 60, 2) := by decide +kernel
theorem dX5_init_18 : decode cX5_init 18 = .ok (.anewarray 18, 3) := by decide +kernel
theorem dX5_init_21 : decode cX5_init 21 = .ok (.putfield 20, 3) := by decide +kernel
theorem dX5_init_24 : decode cX5_init 24 = .ok (.aload_n 0, 1) := by decide +kernel
theorem dX5_init_25 : decode cX5_init 25 = .ok (.iconst 0, 1) := by decide +kernel
theorem dX5_init_26 : decode cX5_init 26 = .ok (.anewarray 24, 3) := by decide +kernel
theorem dX5_init_29 : decode cX5_init 29 = .ok (.putfield 26, 3) := by decide +kernel
theorem dX5_init_32 : decode cX5_init 32 = .ok (.aload_n 0, 1) := by decide +kernel
theorem dX5_init_33 : decode cX5_init 33 = .ok (.iconst 0, 1) := by decide +kernel
theorem dX5_init_34 : decode cX5_init 34 = .ok (.putfield 30, 3) := by decide +kernel
theorem dX5_init_37 : decode cX5_init 37 = .ok (.aload_n 0, 1) := by decide +kernel
theorem dX5_init_38 : decode cX5_init 38 = .ok (.iconst 0, 1) := by decide +kernel
theorem dX5_init_39 : decode cX5_init 39 = .ok (.putfield 34, 3) := by decide +kernel
theorem dX5_init_42 : decode cX5_init 42 = .ok (.aload_n 0, 1) := by decide +kernel
theorem dX5_init_43 : decode cX5_init 43 = .ok (.iconst 0, 1) := by decide +kernel
theorem dX5_init_44 : decode cX5_init 44 = .ok (.putfield 37, 3) := by decide +kernel
theorem dX5_init_47 : decode cX5_init 47 = .ok (.aload_n 0, 1) := by decide +kernel
theorem dX5_init_48 : decode cX5_init 48 = .ok (.iconst (-1), 1) := by decide +kernel
theorem dX5_init_49 : decode cX5_init 49 = .ok (.putfield 40, 3) := by decide +kernel
theorem dX5_init_52 : decode cX5_init 52 = .ok (.aload_n 0, 1) := by decide +kernel
theorem dX5_init_53 : decode cX5_init 53 = .ok (.iconst (-1), 1) := by decide +kernel
theorem dX5_init_54 : decode cX5_init 54 = .ok (.putfield 43, 3) := by decide +kernel
theorem dX5_init_57 : decode cX5_init 57 = .ok (.aload_n 0, 1) := by decide +kernel
theorem dX5_init_58 : decode cX5_init 58 = .ok (.iconst 0, 1) := by decide +kernel
theorem dX5_init_59 : decode cX5_init 59 = .ok (.putfield 46, 3) := by decide +kernel
theorem dX5_init_62 : decode cX5_init 62 = .ok (.aload_n 0, 1) := by decide +kernel
theorem dX5_init_63 : decode cX5_init 63 = .ok (.iconst 0, 1) := by decide +kernel
theorem dX5_init_64 : decode cX5_init 64 = .ok (.putfield 49, 3) := by decide +kernel
theorem dX5_init_67 : decode cX5_init 67 = .ok (.iconst 0, 1) := by decide +kernel
theorem dX5_init_68 : decode cX5_init 68 = .ok (.istore_n 1, 1) := by decide +kernel
theorem dX5_init_69 : decode cX5_init 69 = .ok (.iload_n 1, 1) := by decide +kernel
theorem dX5_init_70 : decode cX5_init 70 = .ok (.bipush 60, 2) := by decide +kernel
theorem dX5_init_72 : decode cX5_init 72 = .ok (.if_icmp .ge 22, 3) := by decide +kernel
theorem dX5_init_75 : decode cX5_init 75 = .ok (.aload_n 0, 1) := by decide +kernel
theorem dX5_init_76 : decode cX5_init 76 = .ok (.getfield 20, 3) := by decide +kernel
theorem dX5_init_79 : decode cX5_init 79 = .ok (.iload_n 1, 1) := by decide +kernel
theorem dX5_init_80 : decode cX5_init 80 = .ok (.new 18, 3) := by decide +kernel
theorem dX5_init_83 : decode cX5_init 83 = .ok (.dup, 1) := by decide +kernel
theorem dX5_init_84 : decode cX5_init 84 = .ok (.invokespecial 52, 3) := by decide +kernel
theorem dX5_init_87 : decode cX5_init 87 = .ok (.aastore, 1) := by decide +kernel
theorem dX5_init_88 : decode cX5_init 88 = .ok (.iinc 1 1, 3) := by decide +kernel
theorem dX5_init_91 : decode cX5_init 91 = .ok (.goto (-22), 3) := by decide +kernel
theorem dX5_init_94 : decode cX5_init 94 = .ok (.return_, 1) := by decide +kernel
theorem dX5_readText_0 : decode cX5_readText 0 = .ok (.aload_n 0, 1) := by decide +kernel
theorem dX5_readText_1 : decode cX5_readText 1 = .ok (.getfield 12, 3) := by decide +kernel
theorem dX5_readText_4 : decode cX5_readText 4 = .ok (.aload_n 1, 1) := by decide +kernel
theorem dX5_readText_5 : decode cX5_readText 5 = .ok (.iload_n 2, 1) := by decide +kernel
theorem dX5_readText_6 : decode cX5_readText 6 = .ok (.invokevirtual 53, 3) := by decide +kernel
theorem dX5_readText_9 : decode cX5_readText 9 = .ok (.aload_n 0, 1) := by decide +kernel
theorem dX5_readText_10 : decode cX5_readText 10 = .ok (.aload_n 3, 1) := by decide +kernel
theorem dX5_readText_11 : decode cX5_readText 11 = .ok (.putfield 26, 3) := by decide +kernel
theorem dX5_readText_14 : decode cX5_readText 14 = .ok (.aload_n 0, 1) := by decide +kernel
theorem dX5_readText_15 : decode cX5_readText 15 = .ok (.iload 4, 2) := by decide +kernel
theorem dX5_readText_17 : decode cX5_readText 17 = .ok (.aload_n 3, 1) := by decide +kernel
theorem dX5_readText_18 : decode cX5_readText 18 = .ok (.arraylength, 1) := by decide +kernel
theorem dX5_readText_19 : decode cX5_readText 19 = .ok (.invokestatic 57, 3) := by decide +kernel
theorem dX5_readText_22 : decode cX5_readText 22 = .ok (.putfield 30, 3) := by decide +kernel
theorem dX5_readText_25 : decode cX5_readText 25 = .ok (.aload_n 0, 1) := by decide +kernel
theorem dX5_readText_26 : decode cX5_readText 26 = .ok (.iconst 0, 1) := by decide +kernel
theorem dX5_readText_27 : decode cX5_readText 27 = .ok (.putfield 34, 3) := by decide +kernel
theorem dX5_readText_30 : decode cX5_readText 30 = .ok (.aload_n 0, 1) := by decide +kernel
theorem dX5_readText_31 : decode cX5_readText 31 = .ok (.iconst 0, 1) := by decide +kernel
theorem dX5_readText_32 : decode cX5_readText 32 = .ok (.putfield 37, 3) := by decide +kernel
theorem dX5_readText_35 : decode cX5_readText 35 = .ok (.aload_n 0, 1) := by decide +kernel
theorem dX5_readText_36 : decode cX5_readText 36 = .ok (.iconst (-1), 1) := by decide +kernel
theorem dX5_readText_37 : decode cX5_readText 37 = .ok (.putfield 40, 3) := by decide +kernel
theorem dX5_readText_40 : decode cX5_readText 40 = .ok (.aload_n 0, 1) := by decide +kernel
theorem dX5_readText_41 : decode cX5_readText 41 = .ok (.iconst (-1), 1) := by decide +kernel
theorem dX5_readText_42 : decode cX5_readText 42 = .ok (.putfield 43, 3) := by decide +kernel
theorem dX5_readText_45 : decode cX5_readText 45 = .ok (.aload_n 0, 1) := by decide +kernel
theorem dX5_readText_46 : decode cX5_readText 46 = .ok (.iconst 0, 1) := by decide +kernel
theorem dX5_readText_47 : decode cX5_readText 47 = .ok (.putfield 46, 3) := by decide +kernel
theorem dX5_readText_50 : decode cX5_readText 50 = .ok (.aload_n 0, 1) := by decide +kernel
theorem dX5_readText_51 : decode cX5_readText 51 = .ok (.iconst 0, 1) := by decide +kernel
theorem dX5_readText_52 : decode cX5_readText 52 = .ok (.putfield 49, 3) := by decide +kernel
theorem dX5_readText_55 : decode cX5_readText 55 = .ok (.aload_n 0, 1) := by decide +kernel
theorem dX5_readText_56 : decode cX5_readText 56 = .ok (.iconst 0, 1) := by decide +kernel
theorem dX5_readText_57 : decode cX5_readText 57 = .ok (.iconst 0, 1) := by decide +kernel
theorem dX5_readText_58 : decode cX5_readText 58 = .ok (.iconst 0, 1) := by decide +kernel
theorem dX5_readText_59 : decode cX5_readText 59 = .ok (.invokevirtual 63, 3) := by decide +kernel
theorem dX5_readText_62 : decode cX5_readText 62 = .ok (.istore 6, 2) := by decide +kernel
theorem dX5_readText_64 : decode cX5_readText 64 = .ok (.iload 6, 2) := by decide +kernel
theorem dX5_readText_66 : decode cX5_readText 66 = .ok (.ifCond .lt 15, 3) := by decide +kernel
theorem dX5_readText_69 : decode cX5_readText 69 = .ok (.aload_n 0, 1) := by decide +kernel
theorem dX5_readText_70 : decode cX5_readText 70 = .ok (.invokevirtual 67, 3) := by decide +kernel
theorem dX5_readText_73 : decode cX5_readText 73 = .ok (.ifCond .eq 8, 3) := by decide +kernel
theorem dX5_readText_76 : decode cX5_readText 76 = .ok (.aload_n 0, 1) := by decide +kernel
theorem dX5_readText_77 : decode cX5_readText 77 = .ok (.invokevirtual 71, 3) := by decide +kernel
theorem dX5_readText_80 : decode cX5_readText 80 = .ok (.pop, 1) := by decide +kernel
theorem dX5_readText_81 : decode cX5_readText 81 = .ok (.aload_n 0, 1) := by decide +kernel
theorem dX5_readText_82 : decode cX5_readText 82 = .ok (.aload 5, 2) := by decide +kernel
theorem dX5_readText_84 : decode cX5_readText 84 = .ok (.invokevirtual 74, 3) := by decide +kernel
theorem dX5_readText_87 : decode cX5_readText 87 = .ok (.return_, 1) := by decide +kernel
theorem dX5_tell_0 : decode cX5_tell 0 = .ok (.aload_n 1, 1) := by decide +kernel
theorem dX5_tell_1 : decode cX5_tell 1 = .ok (.invokevirtual 78, 3) := by decide +kernel
theorem dX5_tell_4 : decode cX5_tell 4 = .ok (.aload_n 0, 1) := by decide +kernel
theorem dX5_tell_5 : decode cX5_tell 5 = .ok (.invokevirtual 83, 3) := by decide +kernel
theorem dX5_tell_8 : decode cX5_tell 8 = .ok (.istore_n 2, 1) := by decide +kernel
theorem dX5_tell_9 : decode cX5_tell 9 = .ok (.aload_n 0, 1) := by decide +kernel
theorem dX5_tell_10 : decode cX5_tell 10 = .ok (.getfield 40, 3) := by decide +kernel
theorem dX5_tell_13 : decode cX5_tell 13 = .ok (.iconst (-1), 1) := by decide +kernel
theorem dX5_tell_14 : decode cX5_tell 14 = .ok (.if_icmp .eq 23, 3) := by decide +kernel
theorem dX5_tell_17 : decode cX5_tell 17 = .ok (.aload_n 1, 1) := by decide +kernel
theorem dX5_tell_18 : decode cX5_tell 18 = .ok (.iconst 1, 1) := by decide +kernel
theorem dX5_tell_19 : decode cX5_tell 19 = .ok (.aload_n 0, 1) := by decide +kernel
theorem dX5_tell_20 : decode cX5_tell 20 = .ok (.getfield 12, 3) := by decide +kernel
theorem dX5_tell_23 : decode cX5_tell 23 = .ok (.getfield 86, 3) := by decide +kernel
theorem dX5_tell_26 : decode cX5_tell 26 = .ok (.aload_n 0, 1) := by decide +kernel
theorem dX5_tell_27 : decode cX5_tell 27 = .ok (.getfield 40, 3) := by decide +kernel
theorem dX5_tell_30 : decode cX5_tell 30 = .ok (.iaload, 1) := by decide +kernel
theorem dX5_tell_31 : decode cX5_tell 31 = .ok (.invokevirtual 90, 3) := by decide +kernel
theorem dX5_tell_34 : decode cX5_tell 34 = .ok (.goto 78, 3) := by decide +kernel
theorem dX5_tell_37 : decode cX5_tell 37 = .ok (.aload_n 0, 1) := by decide +kernel
theorem dX5_tell_38 : decode cX5_tell 38 = .ok (.getfield 43, 3) := by decide +kernel
theorem dX5_tell_41 : decode cX5_tell 41 = .ok (.iconst (-1), 1) := by decide +kernel
theorem dX5_tell_42 : decode cX5_tell 42 = .ok (.if_icmp .eq 15, 3) := by decide +kernel
theorem dX5_tell_45 : decode cX5_tell 45 = .ok (.aload_n 1, 1) := by decide +kernel
theorem dX5_tell_46 : decode cX5_tell 46 = .ok (.iconst 2, 1) := by decide +kernel
theorem dX5_tell_47 : decode cX5_tell 47 = .ok (.aload_n 0, 1) := by decide +kernel
theorem dX5_tell_48 : decode cX5_tell 48 = .ok (.getfield 43, 3) := by decide +kernel
theorem dX5_tell_51 : decode cX5_tell 51 = .ok (.invokevirtual 90, 3) := by decide +kernel
theorem dX5_tell_54 : decode cX5_tell 54 = .ok (.goto 58, 3) := by decide +kernel
theorem dX5_tell_57 : decode cX5_tell 57 = .ok (.iload_n 2, 1) := by decide +kernel
theorem dX5_tell_58 : decode cX5_tell 58 = .ok (.iconst (-1), 1) := by decide +kernel
theorem dX5_tell_59 : decode cX5_tell 59 = .ok (.if_icmp .eq 12, 3) := by decide +kernel
theorem dX5_tell_62 : decode cX5_tell 62 = .ok (.aload_n 1, 1) := by decide +kernel
theorem dX5_tell_63 : decode cX5_tell 63 = .ok (.iconst 3, 1) := by decide +kernel
theorem dX5_tell_64 : decode cX5_tell 64 = .ok (.iload_n 2, 1) := by decide +kernel
theorem dX5_tell_65 : decode cX5_tell 65 = .ok (.invokevirtual 90, 3) := by decide +kernel
theorem dX5_tell_68 : decode cX5_tell 68 = .ok (.goto 44, 3) := by decide +kernel
theorem dX5_tell_71 : decode cX5_tell 71 = .ok (.aload_n 0, 1) := by decide +kernel
theorem dX5_tell_72 : decode cX5_tell 72 = .ok (.getfield 34, 3) := by decide +kernel
theorem dX5_tell_75 : decode cX5_tell 75 = .ok (.ifCond .le 37, 3) := by decide +kernel
theorem dX5_tell_78 : decode cX5_tell 78 = .ok (.aload_n 1, 1) := by decide +kernel
theorem dX5_tell_79 : decode cX5_tell 79 = .ok (.aload_n 0, 1) := by decide +kernel
theorem dX5_tell_80 : decode cX5_tell 80 = .ok (.getfield 20, 3) := by decide +kernel
theorem dX5_tell_83 : decode cX5_tell 83 = .ok (.aload_n 0, 1) := by decide +kernel
theorem dX5_tell_84 : decode cX5_tell 84 = .ok (.getfield 34, 3) := by decide +kernel
theorem dX5_tell_87 : decode cX5_tell 87 = .ok (.iconst 1, 1) := by decide +kernel
theorem dX5_tell_88 : decode cX5_tell 88 = .ok (.isub, 1) := by decide +kernel
theorem dX5_tell_89 : decode cX5_tell 89 = .ok (.aaload, 1) := by decide +kernel
theorem dX5_tell_90 : decode cX5_tell 90 = .ok (.getfield 94, 3) := by decide +kernel
theorem dX5_tell_93 : decode cX5_tell 93 = .ok (.putfield 97, 3) := by decide +kernel
theorem dX5_tell_96 : decode cX5_tell 96 = .ok (.aload_n 1, 1) := by decide +kernel
theorem dX5_tell_97 : decode cX5_tell 97 = .ok (.aload_n 0, 1) := by decide +kernel
theorem dX5_tell_98 : decode cX5_tell 98 = .ok (.getfield 34, 3) := by decide +kernel
theorem dX5_tell_101 : decode cX5_tell 101 = .ok (.putfield 98, 3) := by decide +kernel
theorem dX5_tell_104 : decode cX5_tell 104 = .ok (.aload_n 1, 1) := by decide +kernel
theorem dX5_tell_105 : decode cX5_tell 105 = .ok (.aload_n 0, 1) := by decide +kernel
theorem dX5_tell_106 : decode cX5_tell 106 = .ok (.getfield 49, 3) := by decide +kernel
theorem dX5_tell_109 : decode cX5_tell 109 = .ok (.putfield 100, 3) := by decide +kernel
theorem dX5_tell_112 : decode cX5_tell 112 = .ok (.return_, 1) := by decide +kernel
theorem dX5_crowded_0 : decode cX5_crowded 0 = .ok (.iconst 0, 1) := by decide +kernel
theorem dX5_crowded_1 : decode cX5_crowded 1 = .ok (.istore_n 1, 1) := by decide +kernel
theorem dX5_crowded_2 : decode cX5_crowded 2 = .ok (.iload_n 1, 1) := by decide +kernel
theorem dX5_crowded_3 : decode cX5_crowded 3 = .ok (.aload_n 0, 1) := by decide +kernel
theorem dX5_crowded_4 : decode cX5_crowded 4 = .ok (.getfield 34, 3) := by decide +kernel
theorem dX5_crowded_7 : decode cX5_crowded 7 = .ok (.if_icmp .ge 35, 3) := by decide +kernel
theorem dX5_crowded_10 : decode cX5_crowded 10 = .ok (.aload_n 0, 1) := by decide +kernel
theorem dX5_crowded_11 : decode cX5_crowded 11 = .ok (.getfield 20, 3) := by decide +kernel
theorem dX5_crowded_14 : decode cX5_crowded 14 = .ok (.iload_n 1, 1) := by decide +kernel
theorem dX5_crowded_15 : decode cX5_crowded 15 = .ok (.aaload, 1) := by decide +kernel
theorem dX5_crowded_16 : decode cX5_crowded 16 = .ok (.getfield 94, 3) := by decide +kernel
theorem dX5_crowded_19 : decode cX5_crowded 19 = .ok (.invokestatic 102, 3) := by decide +kernel
theorem dX5_crowded_22 : decode cX5_crowded 22 = .ok (.iconst 3, 1) := by decide +kernel
theorem dX5_crowded_23 : decode cX5_crowded 23 = .ok (.if_icmp .le 13, 3) := by decide +kernel
theorem dX5_crowded_26 : decode cX5_crowded 26 = .ok (.aload_n 0, 1) := by decide +kernel
theorem dX5_crowded_27 : decode cX5_crowded 27 = .ok (.getfield 20, 3) := by decide +kernel
theorem dX5_crowded_30 : decode cX5_crowded 30 = .ok (.iload_n 1, 1) := by decide +kernel
theorem dX5_crowded_31 : decode cX5_crowded 31 = .ok (.aaload, 1) := by decide +kernel
theorem dX5_crowded_32 : decode cX5_crowded 32 = .ok (.getfield 108, 3) := by decide +kernel
theorem dX5_crowded_35 : decode cX5_crowded 35 = .ok (.ireturn, 1) := by decide +kernel
theorem dX5_crowded_36 : decode cX5_crowded 36 = .ok (.iinc 1 1, 3) := by decide +kernel
theorem dX5_crowded_39 : decode cX5_crowded 39 = .ok (.goto (-37), 3) := by decide +kernel
theorem dX5_crowded_42 : decode cX5_crowded 42 = .ok (.iconst (-1), 1) := by decide +kernel
theorem dX5_crowded_43 : decode cX5_crowded 43 = .ok (.ireturn, 1) := by decide +kernel
theorem dX5_peek_0 : decode cX5_peek 0 = .ok (.aload_n 0, 1) := by decide +kernel
theorem dX5_peek_1 : decode cX5_peek 1 = .ok (.getfield 37, 3) := by decide +kernel
theorem dX5_peek_4 : decode cX5_peek 4 = .ok (.aload_n 0, 1) := by decide +kernel
theorem dX5_peek_5 : decode cX5_peek 5 = .ok (.getfield 12, 3) := by decide +kernel
theorem dX5_peek_8 : decode cX5_peek 8 = .ok (.getfield 111, 3) := by decide +kernel
theorem dX5_peek_11 : decode cX5_peek 11 = .ok (.if_icmp .ge 18, 3) := by decide +kernel
theorem dX5_peek_14 : decode cX5_peek 14 = .ok (.aload_n 0, 1) := by decide +kernel
theorem dX5_peek_15 : decode cX5_peek 15 = .ok (.getfield 12, 3) := by decide +kernel
theorem dX5_peek_18 : decode cX5_peek 18 = .ok (.getfield 114, 3) := by decide +kernel
theorem dX5_peek_21 : decode cX5_peek 21 = .ok (.aload_n 0, 1) := by decide +kernel
theorem dX5_peek_22 : decode cX5_peek 22 = .ok (.getfield 37, 3) := by decide +kernel
theorem dX5_peek_25 : decode cX5_peek 25 = .ok (.iaload, 1) := by decide +kernel
theorem dX5_peek_26 : decode cX5_peek 26 = .ok (.goto 4, 3) := by decide +kernel
theorem dX5_peek_29 : decode cX5_peek 29 = .ok (.iconst 0, 1) := by decide +kernel
theorem dX5_peek_30 : decode cX5_peek 30 = .ok (.ireturn, 1) := by decide +kernel
theorem dX5_place_0 : decode cX5_place 0 = .ok (.aload_n 0, 1) := by decide +kernel
theorem dX5_place_1 : decode cX5_place 1 = .ok (.getfield 37, 3) := by decide +kernel
theorem dX5_place_4 : decode cX5_place 4 = .ok (.aload_n 0, 1) := by decide +kernel
theorem dX5_place_5 : decode cX5_place 5 = .ok (.getfield 12, 3) := by decide +kernel
theorem dX5_place_8 : decode cX5_place 8 = .ok (.getfield 111, 3) := by decide +kernel
theorem dX5_place_11 : decode cX5_place 11 = .ok (.if_icmp .ge 18, 3) := by decide +kernel
theorem dX5_place_14 : decode cX5_place 14 = .ok (.aload_n 0, 1) := by decide +kernel
theorem dX5_place_15 : decode cX5_place 15 = .ok (.getfield 12, 3) := by decide +kernel
theorem dX5_place_18 : decode cX5_place 18 = .ok (.getfield 86, 3) := by decide +kernel
theorem dX5_place_21 : decode cX5_place 21 = .ok (.aload_n 0, 1) := by decide +kernel
theorem dX5_place_22 : decode cX5_place 22 = .ok (.getfield 37, 3) := by decide +kernel
theorem dX5_place_25 : decode cX5_place 25 = .ok (.iaload, 1) := by decide +kernel
theorem dX5_place_26 : decode cX5_place 26 = .ok (.goto 10, 3) := by decide +kernel
theorem dX5_place_29 : decode cX5_place 29 = .ok (.aload_n 0, 1) := by decide +kernel
theorem dX5_place_30 : decode cX5_place 30 = .ok (.getfield 12, 3) := by decide +kernel
theorem dX5_place_33 : decode cX5_place 33 = .ok (.getfield 117, 3) := by decide +kernel
theorem dX5_place_36 : decode cX5_place 36 = .ok (.ireturn, 1) := by decide +kernel
theorem dX5_worth_0 : decode cX5_worth 0 = .ok (.aload_n 0, 1) := by decide +kernel
theorem dX5_worth_1 : decode cX5_worth 1 = .ok (.getfield 37, 3) := by decide +kernel
theorem dX5_worth_4 : decode cX5_worth 4 = .ok (.aload_n 0, 1) := by decide +kernel
theorem dX5_worth_5 : decode cX5_worth 5 = .ok (.getfield 12, 3) := by decide +kernel
theorem dX5_worth_8 : decode cX5_worth 8 = .ok (.getfield 111, 3) := by decide +kernel
theorem dX5_worth_11 : decode cX5_worth 11 = .ok (.if_icmp .ge 18, 3) := by decide +kernel
theorem dX5_worth_14 : decode cX5_worth 14 = .ok (.aload_n 0, 1) := by decide +kernel
theorem dX5_worth_15 : decode cX5_worth 15 = .ok (.getfield 12, 3) := by decide +kernel
theorem dX5_worth_18 : decode cX5_worth 18 = .ok (.getfield 120, 3) := by decide +kernel
theorem dX5_worth_21 : decode cX5_worth 21 = .ok (.aload_n 0, 1) := by decide +kernel
theorem dX5_worth_22 : decode cX5_worth 22 = .ok (.getfield 37, 3) := by decide +kernel
theorem dX5_worth_25 : decode cX5_worth 25 = .ok (.iaload, 1) := by decide +kernel
theorem dX5_worth_26 : decode cX5_worth 26 = .ok (.goto 4, 3) := by decide +kernel
theorem dX5_worth_29 : decode cX5_worth 29 = .ok (.iconst 0, 1) := by decide +kernel
theorem dX5_worth_30 : decode cX5_worth 30 = .ok (.ireturn, 1) := by decide +kernel
theorem dX5_eat_0 : decode cX5_eat 0 = .ok (.aload_n 0, 1) := by decide +kernel
theorem dX5_eat_1 : decode cX5_eat 1 = .ok (.invokevirtual 67, 3) := by decide +kernel
theorem dX5_eat_4 : decode cX5_eat 4 = .ok (.iload_n 1, 1) := by decide +kernel
theorem dX5_eat_5 : decode cX5_eat 5 = .ok (.if_icmp .eq 10, 3) := by decide +kernel
theorem dX5_eat_8 : decode cX5_eat 8 = .ok (.aload_n 0, 1) := by decide +kernel
theorem dX5_eat_9 : decode cX5_eat 9 = .ok (.invokevirtual 71, 3) := by decide +kernel
theorem dX5_eat_12 : decode cX5_eat 12 = .ok (.pop, 1) := by decide +kernel
theorem dX5_eat_13 : decode cX5_eat 13 = .ok (.iconst 0, 1) := by decide +kernel
theorem dX5_eat_14 : decode cX5_eat 14 = .ok (.ireturn, 1) := by decide +kernel
theorem dX5_eat_15 : decode cX5_eat 15 = .ok (.aload_n 0, 1) := by decide +kernel
theorem dX5_eat_16 : decode cX5_eat 16 = .ok (.dup, 1) := by decide +kernel
theorem dX5_eat_17 : decode cX5_eat 17 = .ok (.getfield 37, 3) := by decide +kernel
theorem dX5_eat_20 : decode cX5_eat 20 = .ok (.iconst 1, 1) := by decide +kernel
theorem dX5_eat_21 : decode cX5_eat 21 = .ok (.iadd, 1) := by decide +kernel
theorem dX5_eat_22 : decode cX5_eat 22 = .ok (.putfield 37, 3) := by decide +kernel
theorem dX5_eat_25 : decode cX5_eat 25 = .ok (.iconst 1, 1) := by decide +kernel
theorem dX5_eat_26 : decode cX5_eat 26 = .ok (.ireturn, 1) := by decide +kernel
theorem dX5_fail_0 : decode cX5_fail 0 = .ok (.aload_n 0, 1) := by decide +kernel
theorem dX5_fail_1 : decode cX5_fail 1 = .ok (.getfield 40, 3) := by decide +kernel
theorem dX5_fail_4 : decode cX5_fail 4 = .ok (.iconst (-1), 1) := by decide +kernel
theorem dX5_fail_5 : decode cX5_fail 5 = .ok (.if_icmp .ne 16, 3) := by decide +kernel
theorem dX5_fail_8 : decode cX5_fail 8 = .ok (.aload_n 0, 1) := by decide +kernel
theorem dX5_fail_9 : decode cX5_fail 9 = .ok (.aload_n 0, 1) := by decide +kernel
theorem dX5_fail_10 : decode cX5_fail 10 = .ok (.getfield 37, 3) := by decide +kernel
theorem dX5_fail_13 : decode cX5_fail 13 = .ok (.bipush 120, 2) := by decide +kernel
theorem dX5_fail_15 : decode cX5_fail 15 = .ok (.invokestatic 57, 3) := by decide +kernel
theorem dX5_fail_18 : decode cX5_fail 18 = .ok (.putfield 40, 3) := by decide +kernel
theorem dX5_fail_21 : decode cX5_fail 21 = .ok (.iconst (-1), 1) := by decide +kernel
theorem dX5_fail_22 : decode cX5_fail 22 = .ok (.ireturn, 1) := by decide +kernel
theorem dX5_blame_0 : decode cX5_blame 0 = .ok (.aload_n 0, 1) := by decide +kernel
theorem dX5_blame_1 : decode cX5_blame 1 = .ok (.getfield 43, 3) := by decide +kernel
theorem dX5_blame_4 : decode cX5_blame 4 = .ok (.iconst (-1), 1) := by decide +kernel
theorem dX5_blame_5 : decode cX5_blame 5 = .ok (.if_icmp .eq 11, 3) := by decide +kernel
theorem dX5_blame_8 : decode cX5_blame 8 = .ok (.iload_n 1, 1) := by decide +kernel
theorem dX5_blame_9 : decode cX5_blame 9 = .ok (.aload_n 0, 1) := by decide +kernel
theorem dX5_blame_10 : decode cX5_blame 10 = .ok (.getfield 43, 3) := by decide +kernel
theorem dX5_blame_13 : decode cX5_blame 13 = .ok (.if_icmp .ge 8, 3) := by decide +kernel
theorem dX5_blame_16 : decode cX5_blame 16 = .ok (.aload_n 0, 1) := by decide +kernel
theorem dX5_blame_17 : decode cX5_blame 17 = .ok (.iload_n 1, 1) := by decide +kernel
theorem dX5_blame_18 : decode cX5_blame 18 = .ok (.putfield 43, 3) := by decide +kernel
theorem dX5_blame_21 : decode cX5_blame 21 = .ok (.return_, 1) := by decide +kernel
theorem dX5_formula_0 : decode cX5_formula 0 = .ok (.iload_n 1, 1) := by decide +kernel
theorem dX5_formula_1 : decode cX5_formula 1 = .ok (.iconst 2, 1) := by decide +kernel
theorem dX5_formula_2 : decode cX5_formula 2 = .ok (.if_icmp .le 10, 3) := by decide +kernel
theorem dX5_formula_5 : decode cX5_formula 5 = .ok (.aload_n 0, 1) := by decide +kernel
theorem dX5_formula_6 : decode cX5_formula 6 = .ok (.iload_n 2, 1) := by decide +kernel
theorem dX5_formula_7 : decode cX5_formula 7 = .ok (.iload_n 3, 1) := by decide +kernel
theorem dX5_formula_8 : decode cX5_formula 8 = .ok (.invokevirtual 123, 3) := by decide +kernel
theorem dX5_formula_11 : decode cX5_formula 11 = .ok (.ireturn, 1) := by decide +kernel
theorem dX5_formula_12 : decode cX5_formula 12 = .ok (.iload_n 3, 1) := by decide +kernel
theorem dX5_formula_13 : decode cX5_formula 13 = .ok (.bipush 40, 2) := by decide +kernel
theorem dX5_formula_15 : decode cX5_formula 15 = .ok (.if_icmp .le 8, 3) := by decide +kernel
theorem dX5_formula_18 : decode cX5_formula 18 = .ok (.aload_n 0, 1) := by decide +kernel
theorem dX5_formula_19 : decode cX5_formula 19 = .ok (.invokevirtual 71, 3) := by decide +kernel
theorem dX5_formula_22 : decode cX5_formula 22 = .ok (.ireturn, 1) := by decide +kernel
theorem dX5_formula_23 : decode cX5_formula 23 = .ok (.iload_n 1, 1) := by decide +kernel
theorem dX5_formula_24 : decode cX5_formula 24 = .ok (.ifCond .ne 8, 3) := by decide +kernel
theorem dX5_formula_27 : decode cX5_formula 27 = .ok (.bipush 10, 2) := by decide +kernel
theorem dX5_formula_29 : decode cX5_formula 29 = .ok (.goto 15, 3) := by decide +kernel
theorem dX5_formula_32 : decode cX5_formula 32 = .ok (.iload_n 1, 1) := by decide +kernel
theorem dX5_formula_33 : decode cX5_formula 33 = .ok (.iconst 1, 1) := by decide +kernel
theorem dX5_formula_34 : decode cX5_formula 34 = .ok (.if_icmp .ne 8, 3) := by decide +kernel
theorem dX5_formula_37 : decode cX5_formula 37 = .ok (.bipush 9, 2) := by decide +kernel
theorem dX5_formula_39 : decode cX5_formula 39 = .ok (.goto 5, 3) := by decide +kernel
theorem dX5_formula_42 : decode cX5_formula 42 = .ok (.bipush 8, 2) := by decide +kernel
theorem dX5_formula_44 : decode cX5_formula 44 = .ok (.istore 4, 2) := by decide +kernel
theorem dX5_formula_46 : decode cX5_formula 46 = .ok (.iload_n 1, 1) := by decide +kernel
theorem dX5_formula_47 : decode cX5_formula 47 = .ok (.ifCond .ne 7, 3) := by decide +kernel
theorem dX5_formula_50 : decode cX5_formula 50 = .ok (.iconst 5, 1) := by decide +kernel
theorem dX5_formula_51 : decode cX5_formula 51 = .ok (.goto 13, 3) := by decide +kernel
theorem dX5_formula_54 : decode cX5_formula 54 = .ok (.iload_n 1, 1) := by decide +kernel
theorem dX5_formula_55 : decode cX5_formula 55 = .ok (.iconst 1, 1) := by decide +kernel
theorem dX5_formula_56 : decode cX5_formula 56 = .ok (.if_icmp .ne 7, 3) := by decide +kernel
theorem dX5_formula_59 : decode cX5_formula 59 = .ok (.iconst 4, 1) := by decide +kernel
theorem dX5_formula_60 : decode cX5_formula 60 = .ok (.goto 4, 3) := by decide +kernel
theorem dX5_formula_63 : decode cX5_formula 63 = .ok (.iconst 3, 1) := by decide +kernel
theorem dX5_formula_64 : decode cX5_formula 64 = .ok (.istore 5, 2) := by decide +kernel
theorem dX5_formula_66 : decode cX5_formula 66 = .ok (.aload_n 0, 1) := by decide +kernel
theorem dX5_formula_67 : decode cX5_formula 67 = .ok (.iload_n 1, 1) := by decide +kernel
theorem dX5_formula_68 : decode cX5_formula 68 = .ok (.iconst 1, 1) := by decide +kernel
theorem dX5_formula_69 : decode cX5_formula 69 = .ok (.iadd, 1) := by decide +kernel
theorem dX5_formula_70 : decode cX5_formula 70 = .ok (.iload_n 2, 1) := by decide +kernel
theorem dX5_formula_71 : decode cX5_formula 71 = .ok (.iload_n 3, 1) := by decide +kernel
theorem dX5_formula_72 : decode cX5_formula 72 = .ok (.invokevirtual 63, 3) := by decide +kernel
theorem dX5_formula_75 : decode cX5_formula 75 = .ok (.istore 6, 2) := by decide +kernel
theorem dX5_formula_77 : decode cX5_formula 77 = .ok (.iconst 0, 1) := by decide +kernel
theorem dX5_formula_78 : decode cX5_formula 78 = .ok (.istore 7, 2) := by decide +kernel
theorem dX5_formula_80 : decode cX5_formula 80 = .ok (.iload 7, 2) := by decide +kernel
theorem dX5_formula_82 : decode cX5_formula 82 = .ok (.bipush 120, 2) := by decide +kernel
theorem dX5_formula_84 : decode cX5_formula 84 = .ok (.if_icmp .ge 89, 3) := by decide +kernel
theorem dX5_formula_87 : decode cX5_formula 87 = .ok (.iload 6, 2) := by decide +kernel
theorem dX5_formula_89 : decode cX5_formula 89 = .ok (.ifCond .lt 84, 3) := by decide +kernel
theorem dX5_formula_92 : decode cX5_formula 92 = .ok (.aload_n 0, 1) := by decide +kernel
theorem dX5_formula_93 : decode cX5_formula 93 = .ok (.invokevirtual 67, 3) := by decide +kernel
theorem dX5_formula_96 : decode cX5_formula 96 = .ok (.iload 4, 2) := by decide +kernel
theorem dX5_formula_98 : decode cX5_formula 98 = .ok (.if_icmp .ne 75, 3) := by decide +kernel
theorem dX5_formula_101 : decode cX5_formula 101 = .ok (.aload_n 0, 1) := by decide +kernel
theorem dX5_formula_102 : decode cX5_formula 102 = .ok (.invokevirtual 126, 3) := by decide +kernel
theorem dX5_formula_105 : decode cX5_formula 105 = .ok (.istore 8, 2) := by decide +kernel
theorem dX5_formula_107 : decode cX5_formula 107 = .ok (.aload_n 0, 1) := by decide +kernel
theorem dX5_formula_108 : decode cX5_formula 108 = .ok (.dup, 1) := by decide +kernel
theorem dX5_formula_109 : decode cX5_formula 109 = .ok (.getfield 37, 3) := by decide +kernel
theorem dX5_formula_112 : decode cX5_formula 112 = .ok (.iconst 1, 1) := by decide +kernel
theorem dX5_formula_113 : decode cX5_formula 113 = .ok (.iadd, 1) := by decide +kernel
theorem dX5_formula_114 : decode cX5_formula 114 = .ok (.putfield 37, 3) := by decide +kernel
theorem dX5_formula_117 : decode cX5_formula 117 = .ok (.iload_n 1, 1) := by decide +kernel
theorem dX5_formula_118 : decode cX5_formula 118 = .ok (.ifCond .ne 15, 3) := by decide +kernel
theorem dX5_formula_121 : decode cX5_formula 121 = .ok (.aload_n 0, 1) := by decide +kernel
theorem dX5_formula_122 : decode cX5_formula 122 = .ok (.iconst 0, 1) := by decide +kernel
theorem dX5_formula_123 : decode cX5_formula 123 = .ok (.iload_n 2, 1) := by decide +kernel
theorem dX5_formula_124 : decode cX5_formula 124 = .ok (.iload_n 3, 1) := by decide +kernel
theorem dX5_formula_125 : decode cX5_formula 125 = .ok (.iconst 1, 1) := by decide +kernel
theorem dX5_formula_126 : decode cX5_formula 126 = .ok (.iadd, 1) := by decide +kernel
theorem dX5_formula_127 : decode cX5_formula 127 = .ok (.invokevirtual 63, 3) := by decide +kernel
theorem dX5_formula_130 : decode cX5_formula 130 = .ok (.goto 12, 3) := by decide +kernel
theorem dX5_formula_133 : decode cX5_formula 133 = .ok (.aload_n 0, 1) := by decide +kernel
theorem dX5_formula_134 : decode cX5_formula 134 = .ok (.iload_n 1, 1) := by decide +kernel
theorem dX5_formula_135 : decode cX5_formula 135 = .ok (.iconst 1, 1) := by decide +kernel
theorem dX5_formula_136 : decode cX5_formula 136 = .ok (.iadd, 1) := by decide +kernel
theorem dX5_formula_137 : decode cX5_formula 137 = .ok (.iload_n 2, 1) := by decide +kernel
theorem dX5_formula_138 : decode cX5_formula 138 = .ok (.iload_n 3, 1) := by decide +kernel
theorem dX5_formula_139 : decode cX5_formula 139 = .ok (.invokevirtual 63, 3) := by decide +kernel
theorem dX5_formula_142 : decode cX5_formula 142 = .ok (.istore 9, 2) := by decide +kernel
theorem dX5_formula_144 : decode cX5_formula 144 = .ok (.iload 9, 2) := by decide +kernel
theorem dX5_formula_146 : decode cX5_formula 146 = .ok (.ifCond .ge 7, 3) := by decide +kernel
theorem dX5_formula_149 : decode cX5_formula 149 = .ok (.iconst (-1), 1) := by decide +kernel
theorem dX5_formula_150 : decode cX5_formula 150 = .ok (.goto 15, 3) := by decide +kernel
theorem dX5_formula_153 : decode cX5_formula 153 = .ok (.aload_n 0, 1) := by decide +kernel
theorem dX5_formula_154 : decode cX5_formula 154 = .ok (.iload 5, 2) := by decide +kernel
theorem dX5_formula_156 : decode cX5_formula 156 = .ok (.iload 8, 2) := by decide +kernel
theorem dX5_formula_158 : decode cX5_formula 158 = .ok (.iload 6, 2) := by decide +kernel
theorem dX5_formula_160 : decode cX5_formula 160 = .ok (.iload 9, 2) := by decide +kernel
theorem dX5_formula_162 : decode cX5_formula 162 = .ok (.invokevirtual 128, 3) := by decide +kernel
theorem dX5_formula_165 : decode cX5_formula 165 = .ok (.istore 6, 2) := by decide +kernel
theorem dX5_formula_167 : decode cX5_formula 167 = .ok (.iinc 7 1, 3) := by decide +kernel
theorem dX5_formula_170 : decode cX5_formula 170 = .ok (.goto (-90), 3) := by decide +kernel
theorem dX5_formula_173 : decode cX5_formula 173 = .ok (.iload 6, 2) := by decide +kernel
theorem dX5_formula_175 : decode cX5_formula 175 = .ok (.ireturn, 1) := by decide +kernel
theorem dX5_piece_0 : decode cX5_piece 0 = .ok (.iload_n 1, 1) := by decide +kernel
theorem dX5_piece_1 : decode cX5_piece 1 = .ok (.bipush 10, 2) := by decide +kernel
theorem dX5_piece_3 : decode cX5_piece 3 = .ok (.if_icmp .lt 8, 3) := by decide +kernel
theorem dX5_piece_6 : decode cX5_piece 6 = .ok (.aload_n 0, 1) := by decide +kernel
theorem dX5_piece_7 : decode cX5_piece 7 = .ok (.invokevirtual 71, 3) := by decide +kernel
theorem dX5_piece_10 : decode cX5_piece 10 = .ok (.ireturn, 1) := by decide +kernel
theorem dX5_piece_11 : decode cX5_piece 11 = .ok (.aload_n 0, 1) := by decide +kernel
theorem dX5_piece_12 : decode cX5_piece 12 = .ok (.invokevirtual 67, 3) := by decide +kernel
theorem dX5_piece_15 : decode cX5_piece 15 = .ok (.tableswitch 95 2 11 #[90, 90, 85, 60, 69, 53, 95, 95, 95, 78], 53) := by decide +kernel
theorem dX5_piece_68 : decode cX5_piece 68 = .ok (.aload_n 0, 1) := by decide +kernel
theorem dX5_piece_69 : decode cX5_piece 69 = .ok (.iload_n 1, 1) := by decide +kernel
theorem dX5_piece_70 : decode cX5_piece 70 = .ok (.iload_n 2, 1) := by decide +kernel
theorem dX5_piece_71 : decode cX5_piece 71 = .ok (.invokevirtual 132, 3) := by decide +kernel
theorem dX5_piece_74 : decode cX5_piece 74 = .ok (.ireturn, 1) := by decide +kernel
theorem dX5_piece_75 : decode cX5_piece 75 = .ok (.aload_n 0, 1) := by decide +kernel
theorem dX5_piece_76 : decode cX5_piece 76 = .ok (.bipush 6, 2) := by decide +kernel
theorem dX5_piece_78 : decode cX5_piece 78 = .ok (.iload_n 1, 1) := by decide +kernel
theorem dX5_piece_79 : decode cX5_piece 79 = .ok (.iload_n 2, 1) := by decide +kernel
theorem dX5_piece_80 : decode cX5_piece 80 = .ok (.invokevirtual 135, 3) := by decide +kernel
theorem dX5_piece_83 : decode cX5_piece 83 = .ok (.ireturn, 1) := by decide +kernel
theorem dX5_piece_84 : decode cX5_piece 84 = .ok (.aload_n 0, 1) := by decide +kernel
theorem dX5_piece_85 : decode cX5_piece 85 = .ok (.bipush 7, 2) := by decide +kernel
theorem dX5_piece_87 : decode cX5_piece 87 = .ok (.iload_n 1, 1) := by decide +kernel
theorem dX5_piece_88 : decode cX5_piece 88 = .ok (.iload_n 2, 1) := by decide +kernel
theorem dX5_piece_89 : decode cX5_piece 89 = .ok (.invokevirtual 135, 3) := by decide +kernel
theorem dX5_piece_92 : decode cX5_piece 92 = .ok (.ireturn, 1) := by decide +kernel
theorem dX5_piece_93 : decode cX5_piece 93 = .ok (.aload_n 0, 1) := by decide +kernel
theorem dX5_piece_94 : decode cX5_piece 94 = .ok (.iload_n 1, 1) := by decide +kernel
theorem dX5_piece_95 : decode cX5_piece 95 = .ok (.iload_n 2, 1) := by decide +kernel
theorem dX5_piece_96 : decode cX5_piece 96 = .ok (.invokevirtual 138, 3) := by decide +kernel
theorem dX5_piece_99 : decode cX5_piece 99 = .ok (.ireturn, 1) := by decide +kernel
theorem dX5_piece_100 : decode cX5_piece 100 = .ok (.aload_n 0, 1) := by decide +kernel
theorem dX5_piece_101 : decode cX5_piece 101 = .ok (.invokevirtual 141, 3) := by decide +kernel
theorem dX5_piece_104 : decode cX5_piece 104 = .ok (.ireturn, 1) := by decide +kernel
theorem dX5_piece_105 : decode cX5_piece 105 = .ok (.aload_n 0, 1) := by decide +kernel
theorem dX5_piece_106 : decode cX5_piece 106 = .ok (.invokevirtual 144, 3) := by decide +kernel
theorem dX5_piece_109 : decode cX5_piece 109 = .ok (.ireturn, 1) := by decide +kernel
theorem dX5_piece_110 : decode cX5_piece 110 = .ok (.aload_n 0, 1) := by decide +kernel
theorem dX5_piece_111 : decode cX5_piece 111 = .ok (.invokevirtual 71, 3) := by decide +kernel
theorem dX5_piece_114 : decode cX5_piece 114 = .ok (.ireturn, 1) := by decide +kernel
theorem dX5_contrary_0 : decode cX5_contrary 0 = .ok (.aload_n 0, 1) := by decide +kernel
theorem dX5_contrary_1 : decode cX5_contrary 1 = .ok (.invokevirtual 126, 3) := by decide +kernel
theorem dX5_contrary_4 : decode cX5_contrary 4 = .ok (.istore_n 3, 1) := by decide +kernel
theorem dX5_contrary_5 : decode cX5_contrary 5 = .ok (.aload_n 0, 1) := by decide +kernel
theorem dX5_contrary_6 : decode cX5_contrary 6 = .ok (.dup, 1) := by decide +kernel
theorem dX5_contrary_7 : decode cX5_contrary 7 = .ok (.getfield 37, 3) := by decide +kernel
theorem dX5_contrary_10 : decode cX5_contrary 10 = .ok (.iconst 1, 1) := by decide +kernel
theorem dX5_contrary_11 : decode cX5_contrary 11 = .ok (.iadd, 1) := by decide +kernel
theorem dX5_contrary_12 : decode cX5_contrary 12 = .ok (.putfield 37, 3) := by decide +kernel
theorem dX5_contrary_15 : decode cX5_contrary 15 = .ok (.aload_n 0, 1) := by decide +kernel
theorem dX5_contrary_16 : decode cX5_contrary 16 = .ok (.iload_n 1, 1) := by decide +kernel
theorem dX5_contrary_17 : decode cX5_contrary 17 = .ok (.iconst 1, 1) := by decide +kernel
theorem dX5_contrary_18 : decode cX5_contrary 18 = .ok (.iadd, 1) := by decide +kernel
theorem dX5_contrary_19 : decode cX5_contrary 19 = .ok (.iload_n 2, 1) := by decide +kernel
theorem dX5_contrary_20 : decode cX5_contrary 20 = .ok (.invokevirtual 123, 3) := by decide +kernel
theorem dX5_contrary_23 : decode cX5_contrary 23 = .ok (.istore 4, 2) := by decide +kernel
theorem dX5_contrary_25 : decode cX5_contrary 25 = .ok (.iload 4, 2) := by decide +kernel
theorem dX5_contrary_27 : decode cX5_contrary 27 = .ok (.ifCond .ge 7, 3) := by decide +kernel
theorem dX5_contrary_30 : decode cX5_contrary 30 = .ok (.iconst (-1), 1) := by decide +kernel
theorem dX5_contrary_31 : decode cX5_contrary 31 = .ok (.goto 12, 3) := by decide +kernel
theorem dX5_contrary_34 : decode cX5_contrary 34 = .ok (.aload_n 0, 1) := by decide +kernel
theorem dX5_contrary_35 : decode cX5_contrary 35 = .ok (.iconst 2, 1) := by decide +kernel
theorem dX5_contrary_36 : decode cX5_contrary 36 = .ok (.iload_n 3, 1) := by decide +kernel
theorem dX5_contrary_37 : decode cX5_contrary 37 = .ok (.iload 4, 2) := by decide +kernel
theorem dX5_contrary_39 : decode cX5_contrary 39 = .ok (.iconst (-1), 1) := by decide +kernel
theorem dX5_contrary_40 : decode cX5_contrary 40 = .ok (.invokevirtual 128, 3) := by decide +kernel
theorem dX5_contrary_43 : decode cX5_contrary 43 = .ok (.ireturn, 1) := by decide +kernel
theorem dX5_enclosed_0 : decode cX5_enclosed 0 = .ok (.aload_n 0, 1) := by decide +kernel
theorem dX5_enclosed_1 : decode cX5_enclosed 1 = .ok (.dup, 1) := by decide +kernel
theorem dX5_enclosed_2 : decode cX5_enclosed 2 = .ok (.getfield 37, 3) := by decide +kernel
theorem dX5_enclosed_5 : decode cX5_enclosed 5 = .ok (.iconst 1, 1) := by decide +kernel
theorem dX5_enclosed_6 : decode cX5_enclosed 6 = .ok (.iadd, 1) := by decide +kernel
theorem dX5_enclosed_7 : decode cX5_enclosed 7 = .ok (.putfield 37, 3) := by decide +kernel
theorem dX5_enclosed_10 : decode cX5_enclosed 10 = .ok (.aload_n 0, 1) := by decide +kernel
theorem dX5_enclosed_11 : decode cX5_enclosed 11 = .ok (.iconst 0, 1) := by decide +kernel
theorem dX5_enclosed_12 : decode cX5_enclosed 12 = .ok (.iload_n 1, 1) := by decide +kernel
theorem dX5_enclosed_13 : decode cX5_enclosed 13 = .ok (.iconst 1, 1) := by decide +kernel
theorem dX5_enclosed_14 : decode cX5_enclosed 14 = .ok (.iadd, 1) := by decide +kernel
theorem dX5_enclosed_15 : decode cX5_enclosed 15 = .ok (.iload_n 2, 1) := by decide +kernel
theorem dX5_enclosed_16 : decode cX5_enclosed 16 = .ok (.iconst 1, 1) := by decide +kernel
theorem dX5_enclosed_17 : decode cX5_enclosed 17 = .ok (.iadd, 1) := by decide +kernel
theorem dX5_enclosed_18 : decode cX5_enclosed 18 = .ok (.invokevirtual 63, 3) := by decide +kernel
theorem dX5_enclosed_21 : decode cX5_enclosed 21 = .ok (.istore_n 3, 1) := by decide +kernel
theorem dX5_enclosed_22 : decode cX5_enclosed 22 = .ok (.iload_n 3, 1) := by decide +kernel
theorem dX5_enclosed_23 : decode cX5_enclosed 23 = .ok (.ifCond .lt 16, 3) := by decide +kernel
theorem dX5_enclosed_26 : decode cX5_enclosed 26 = .ok (.aload_n 0, 1) := by decide +kernel
theorem dX5_enclosed_27 : decode cX5_enclosed 27 = .ok (.bipush 12, 2) := by decide +kernel
theorem dX5_enclosed_29 : decode cX5_enclosed 29 = .ok (.invokevirtual 147, 3) := by decide +kernel
theorem dX5_enclosed_32 : decode cX5_enclosed 32 = .ok (.ifCond .eq 7, 3) := by decide +kernel
theorem dX5_enclosed_35 : decode cX5_enclosed 35 = .ok (.iload_n 3, 1) := by decide +kernel
theorem dX5_enclosed_36 : decode cX5_enclosed 36 = .ok (.goto 4, 3) := by decide +kernel
theorem dX5_enclosed_39 : decode cX5_enclosed 39 = .ok (.iconst (-1), 1) := by decide +kernel
theorem dX5_enclosed_40 : decode cX5_enclosed 40 = .ok (.ireturn, 1) := by decide +kernel
theorem dX5_bind_0 : decode cX5_bind 0 = .ok (.aload_n 0, 1) := by decide +kernel
theorem dX5_bind_1 : decode cX5_bind 1 = .ok (.invokevirtual 126, 3) := by decide +kernel
theorem dX5_bind_4 : decode cX5_bind 4 = .ok (.istore 4, 2) := by decide +kernel
theorem dX5_bind_6 : decode cX5_bind 6 = .ok (.aload_n 0, 1) := by decide +kernel
theorem dX5_bind_7 : decode cX5_bind 7 = .ok (.dup, 1) := by decide +kernel
theorem dX5_bind_8 : decode cX5_bind 8 = .ok (.getfield 37, 3) := by decide +kernel
theorem dX5_bind_11 : decode cX5_bind 11 = .ok (.iconst 1, 1) := by decide +kernel
theorem dX5_bind_12 : decode cX5_bind 12 = .ok (.iadd, 1) := by decide +kernel
theorem dX5_bind_13 : decode cX5_bind 13 = .ok (.putfield 37, 3) := by decide +kernel
theorem dX5_bind_16 : decode cX5_bind 16 = .ok (.iconst 1, 1) := by decide +kernel
theorem dX5_bind_17 : decode cX5_bind 17 = .ok (.aload_n 0, 1) := by decide +kernel
theorem dX5_bind_18 : decode cX5_bind 18 = .ok (.invokevirtual 151, 3) := by decide +kernel
theorem dX5_bind_21 : decode cX5_bind 21 = .ok (.ishl, 1) := by decide +kernel
theorem dX5_bind_22 : decode cX5_bind 22 = .ok (.istore 5, 2) := by decide +kernel
theorem dX5_bind_24 : decode cX5_bind 24 = .ok (.aload_n 0, 1) := by decide +kernel
theorem dX5_bind_25 : decode cX5_bind 25 = .ok (.invokevirtual 67, 3) := by decide +kernel
theorem dX5_bind_28 : decode cX5_bind 28 = .ok (.iconst 3, 1) := by decide +kernel
theorem dX5_bind_29 : decode cX5_bind 29 = .ok (.if_icmp .ne 21, 3) := by decide +kernel
theorem dX5_bind_32 : decode cX5_bind 32 = .ok (.aload_n 0, 1) := by decide +kernel
theorem dX5_bind_33 : decode cX5_bind 33 = .ok (.getfield 46, 3) := by decide +kernel
theorem dX5_bind_36 : decode cX5_bind 36 = .ok (.iload 5, 2) := by decide +kernel
theorem dX5_bind_38 : decode cX5_bind 38 = .ok (.iand, 1) := by decide +kernel
theorem dX5_bind_39 : decode cX5_bind 39 = .ok (.ifCond .eq 11, 3) := by decide +kernel
theorem dX5_bind_42 : decode cX5_bind 42 = .ok (.aload_n 0, 1) := by decide +kernel
theorem dX5_bind_43 : decode cX5_bind 43 = .ok (.aload_n 0, 1) := by decide +kernel
theorem dX5_bind_44 : decode cX5_bind 44 = .ok (.invokevirtual 126, 3) := by decide +kernel
theorem dX5_bind_47 : decode cX5_bind 47 = .ok (.invokevirtual 154, 3) := by decide +kernel
theorem dX5_bind_50 : decode cX5_bind 50 = .ok (.aload_n 0, 1) := by decide +kernel
theorem dX5_bind_51 : decode cX5_bind 51 = .ok (.iconst 3, 1) := by decide +kernel
theorem dX5_bind_52 : decode cX5_bind 52 = .ok (.invokevirtual 147, 3) := by decide +kernel
theorem dX5_bind_55 : decode cX5_bind 55 = .ok (.ifCond .ne 5, 3) := by decide +kernel
theorem dX5_bind_58 : decode cX5_bind 58 = .ok (.iconst (-1), 1) := by decide +kernel
theorem dX5_bind_59 : decode cX5_bind 59 = .ok (.ireturn, 1) := by decide +kernel
theorem dX5_bind_60 : decode cX5_bind 60 = .ok (.aload_n 0, 1) := by decide +kernel
theorem dX5_bind_61 : decode cX5_bind 61 = .ok (.getfield 46, 3) := by decide +kernel
theorem dX5_bind_64 : decode cX5_bind 64 = .ok (.istore 6, 2) := by decide +kernel
theorem dX5_bind_66 : decode cX5_bind 66 = .ok (.aload_n 0, 1) := by decide +kernel
theorem dX5_bind_67 : decode cX5_bind 67 = .ok (.dup, 1) := by decide +kernel
theorem dX5_bind_68 : decode cX5_bind 68 = .ok (.getfield 46, 3) := by decide +kernel
theorem dX5_bind_71 : decode cX5_bind 71 = .ok (.iload 5, 2) := by decide +kernel
theorem dX5_bind_73 : decode cX5_bind 73 = .ok (.ior, 1) := by decide +kernel
theorem dX5_bind_74 : decode cX5_bind 74 = .ok (.putfield 46, 3) := by decide +kernel
theorem dX5_bind_77 : decode cX5_bind 77 = .ok (.aload_n 0, 1) := by decide +kernel
theorem dX5_bind_78 : decode cX5_bind 78 = .ok (.iload_n 2, 1) := by decide +kernel
theorem dX5_bind_79 : decode cX5_bind 79 = .ok (.iconst 1, 1) := by decide +kernel
theorem dX5_bind_80 : decode cX5_bind 80 = .ok (.iadd, 1) := by decide +kernel
theorem dX5_bind_81 : decode cX5_bind 81 = .ok (.iload_n 3, 1) := by decide +kernel
theorem dX5_bind_82 : decode cX5_bind 82 = .ok (.invokevirtual 123, 3) := by decide +kernel
theorem dX5_bind_85 : decode cX5_bind 85 = .ok (.istore 7, 2) := by decide +kernel
theorem dX5_bind_87 : decode cX5_bind 87 = .ok (.aload_n 0, 1) := by decide +kernel
theorem dX5_bind_88 : decode cX5_bind 88 = .ok (.iload 6, 2) := by decide +kernel
theorem dX5_bind_90 : decode cX5_bind 90 = .ok (.putfield 46, 3) := by decide +kernel
theorem dX5_bind_93 : decode cX5_bind 93 = .ok (.iload 7, 2) := by decide +kernel
theorem dX5_bind_95 : decode cX5_bind 95 = .ok (.ifCond .ge 5, 3) := by decide +kernel
theorem dX5_bind_98 : decode cX5_bind 98 = .ok (.iconst (-1), 1) := by decide +kernel
theorem dX5_bind_99 : decode cX5_bind 99 = .ok (.ireturn, 1) := by decide +kernel
theorem dX5_bind_100 : decode cX5_bind 100 = .ok (.aload_n 0, 1) := by decide +kernel
theorem dX5_bind_101 : decode cX5_bind 101 = .ok (.iload_n 1, 1) := by decide +kernel
theorem dX5_bind_102 : decode cX5_bind 102 = .ok (.iload 4, 2) := by decide +kernel
theorem dX5_bind_104 : decode cX5_bind 104 = .ok (.iload 7, 2) := by decide +kernel
theorem dX5_bind_106 : decode cX5_bind 106 = .ok (.iconst (-1), 1) := by decide +kernel
theorem dX5_bind_107 : decode cX5_bind 107 = .ok (.invokevirtual 128, 3) := by decide +kernel
theorem dX5_bind_110 : decode cX5_bind 110 = .ok (.istore 8, 2) := by decide +kernel
theorem dX5_bind_112 : decode cX5_bind 112 = .ok (.iload 8, 2) := by decide +kernel
theorem dX5_bind_114 : decode cX5_bind 114 = .ok (.ifCond .lt 22, 3) := by decide +kernel
theorem dX5_bind_117 : decode cX5_bind 117 = .ok (.aload_n 0, 1) := by decide +kernel
theorem dX5_bind_118 : decode cX5_bind 118 = .ok (.getfield 20, 3) := by decide +kernel
theorem dX5_bind_121 : decode cX5_bind 121 = .ok (.iload 8, 2) := by decide +kernel
theorem dX5_bind_123 : decode cX5_bind 123 = .ok (.aaload, 1) := by decide +kernel
theorem dX5_bind_124 : decode cX5_bind 124 = .ok (.dup, 1) := by decide +kernel
theorem dX5_bind_125 : decode cX5_bind 125 = .ok (.getfield 94, 3) := by decide +kernel
theorem dX5_bind_128 : decode cX5_bind 128 = .ok (.iload 5, 2) := by decide +kernel
theorem dX5_bind_130 : decode cX5_bind 130 = .ok (.iconst (-1), 1) := by decide +kernel
theorem dX5_bind_131 : decode cX5_bind 131 = .ok (.ixor, 1) := by decide +kernel
theorem dX5_bind_132 : decode cX5_bind 132 = .ok (.iand, 1) := by decide +kernel
theorem dX5_bind_133 : decode cX5_bind 133 = .ok (.putfield 94, 3) := by decide +kernel
theorem dX5_bind_136 : decode cX5_bind 136 = .ok (.iload 8, 2) := by decide +kernel
theorem dX5_bind_138 : decode cX5_bind 138 = .ok (.ireturn, 1) := by decide +kernel
theorem dX5_join_0 : decode cX5_join 0 = .ok (.aload_n 0, 1) := by decide +kernel
theorem dX5_join_1 : decode cX5_join 1 = .ok (.getfield 34, 3) := by decide +kernel
theorem dX5_join_4 : decode cX5_join 4 = .ok (.bipush 60, 2) := by decide +kernel
theorem dX5_join_6 : decode cX5_join 6 = .ok (.if_icmp .lt 8, 3) := by decide +kernel
theorem dX5_join_9 : decode cX5_join 9 = .ok (.aload_n 0, 1) := by decide +kernel
theorem dX5_join_10 : decode cX5_join 10 = .ok (.invokevirtual 71, 3) := by decide +kernel
theorem dX5_join_13 : decode cX5_join 13 = .ok (.ireturn, 1) := by decide +kernel
theorem dX5_join_14 : decode cX5_join 14 = .ok (.aload_n 0, 1) := by decide +kernel
theorem dX5_join_15 : decode cX5_join 15 = .ok (.getfield 20, 3) := by decide +kernel
theorem dX5_join_18 : decode cX5_join 18 = .ok (.aload_n 0, 1) := by decide +kernel
theorem dX5_join_19 : decode cX5_join 19 = .ok (.getfield 34, 3) := by decide +kernel
theorem dX5_join_22 : decode cX5_join 22 = .ok (.aaload, 1) := by decide +kernel
theorem dX5_join_23 : decode cX5_join 23 = .ok (.astore 5, 2) := by decide +kernel
theorem dX5_join_25 : decode cX5_join 25 = .ok (.aload 5, 2) := by decide +kernel
theorem dX5_join_27 : decode cX5_join 27 = .ok (.iload_n 1, 1) := by decide +kernel
theorem dX5_join_28 : decode cX5_join 28 = .ok (.putfield 157, 3) := by decide +kernel
theorem dX5_join_31 : decode cX5_join 31 = .ok (.aload 5, 2) := by decide +kernel
theorem dX5_join_33 : decode cX5_join 33 = .ok (.iload_n 2, 1) := by decide +kernel
theorem dX5_join_34 : decode cX5_join 34 = .ok (.putfield 108, 3) := by decide +kernel
theorem dX5_join_37 : decode cX5_join 37 = .ok (.aload 5, 2) := by decide +kernel
theorem dX5_join_39 : decode cX5_join 39 = .ok (.iload_n 3, 1) := by decide +kernel
theorem dX5_join_40 : decode cX5_join 40 = .ok (.putfield 160, 3) := by decide +kernel
theorem dX5_join_43 : decode cX5_join 43 = .ok (.aload 5, 2) := by decide +kernel
theorem dX5_join_45 : decode cX5_join 45 = .ok (.iload 4, 2) := by decide +kernel
theorem dX5_join_47 : decode cX5_join 47 = .ok (.putfield 163, 3) := by decide +kernel
theorem dX5_join_50 : decode cX5_join 50 = .ok (.aload 5, 2) := by decide +kernel
theorem dX5_join_52 : decode cX5_join 52 = .ok (.iconst 0, 1) := by decide +kernel
theorem dX5_join_53 : decode cX5_join 53 = .ok (.putfield 94, 3) := by decide +kernel
theorem dX5_join_56 : decode cX5_join 56 = .ok (.iload_n 3, 1) := by decide +kernel
theorem dX5_join_57 : decode cX5_join 57 = .ok (.aload_n 0, 1) := by decide +kernel
theorem dX5_join_58 : decode cX5_join 58 = .ok (.getfield 34, 3) := by decide +kernel
theorem dX5_join_61 : decode cX5_join 61 = .ok (.invokestatic 166, 3) := by decide +kernel
theorem dX5_join_64 : decode cX5_join 64 = .ok (.ifCond .eq 22, 3) := by decide +kernel
theorem dX5_join_67 : decode cX5_join 67 = .ok (.aload 5, 2) := by decide +kernel
theorem dX5_join_69 : decode cX5_join 69 = .ok (.dup, 1) := by decide +kernel
theorem dX5_join_70 : decode cX5_join 70 = .ok (.getfield 94, 3) := by decide +kernel
theorem dX5_join_73 : decode cX5_join 73 = .ok (.aload_n 0, 1) := by decide +kernel
theorem dX5_join_74 : decode cX5_join 74 = .ok (.getfield 20, 3) := by decide +kernel
theorem dX5_join_77 : decode cX5_join 77 = .ok (.iload_n 3, 1) := by decide +kernel
theorem dX5_join_78 : decode cX5_join 78 = .ok (.aaload, 1) := by decide +kernel
theorem dX5_join_79 : decode cX5_join 79 = .ok (.getfield 94, 3) := by decide +kernel
theorem dX5_join_82 : decode cX5_join 82 = .ok (.ior, 1) := by decide +kernel
theorem dX5_join_83 : decode cX5_join 83 = .ok (.putfield 94, 3) := by decide +kernel
theorem dX5_join_86 : decode cX5_join 86 = .ok (.iload 4, 2) := by decide +kernel
theorem dX5_join_88 : decode cX5_join 88 = .ok (.aload_n 0, 1) := by decide +kernel
theorem dX5_join_89 : decode cX5_join 89 = .ok (.getfield 34, 3) := by decide +kernel
theorem dX5_join_92 : decode cX5_join 92 = .ok (.invokestatic 166, 3) := by decide +kernel
theorem dX5_join_95 : decode cX5_join 95 = .ok (.ifCond .eq 23, 3) := by decide +kernel
theorem dX5_join_98 : decode cX5_join 98 = .ok (.aload 5, 2) := by decide +kernel
theorem dX5_join_100 : decode cX5_join 100 = .ok (.dup, 1) := by decide +kernel
theorem dX5_join_101 : decode cX5_join 101 = .ok (.getfield 94, 3) := by decide +kernel
theorem dX5_join_104 : decode cX5_join 104 = .ok (.aload_n 0, 1) := by decide +kernel
theorem dX5_join_105 : decode cX5_join 105 = .ok (.getfield 20, 3) := by decide +kernel
theorem dX5_join_108 : decode cX5_join 108 = .ok (.iload 4, 2) := by decide +kernel
theorem dX5_join_110 : decode cX5_join 110 = .ok (.aaload, 1) := by decide +kernel
theorem dX5_join_111 : decode cX5_join 111 = .ok (.getfield 94, 3) := by decide +kernel
theorem dX5_join_114 : decode cX5_join 114 = .ok (.ior, 1) := by decide +kernel
theorem dX5_join_115 : decode cX5_join 115 = .ok (.putfield 94, 3) := by decide +kernel
theorem dX5_join_118 : decode cX5_join 118 = .ok (.aload_n 0, 1) := by decide +kernel
theorem dX5_join_119 : decode cX5_join 119 = .ok (.dup, 1) := by decide +kernel
theorem dX5_join_120 : decode cX5_join 120 = .ok (.getfield 34, 3) := by decide +kernel
theorem dX5_join_123 : decode cX5_join 123 = .ok (.iconst 1, 1) := by decide +kernel
theorem dX5_join_124 : decode cX5_join 124 = .ok (.iadd, 1) := by decide +kernel
theorem dX5_join_125 : decode cX5_join 125 = .ok (.putfield 34, 3) := by decide +kernel
theorem dX5_join_128 : decode cX5_join 128 = .ok (.aload_n 0, 1) := by decide +kernel
theorem dX5_join_129 : decode cX5_join 129 = .ok (.getfield 34, 3) := by decide +kernel
theorem dX5_join_132 : decode cX5_join 132 = .ok (.iconst 1, 1) := by decide +kernel
theorem dX5_join_133 : decode cX5_join 133 = .ok (.isub, 1) := by decide +kernel
theorem dX5_join_134 : decode cX5_join 134 = .ok (.ireturn, 1) := by decide +kernel
theorem dX5_rowAtom_0 : decode cX5_rowAtom 0 = .ok (.aload_n 0, 1) := by decide +kernel
theorem dX5_rowAtom_1 : decode cX5_rowAtom 1 = .ok (.getfield 34, 3) := by decide +kernel
theorem dX5_rowAtom_4 : decode cX5_rowAtom 4 = .ok (.bipush 60, 2) := by decide +kernel
theorem dX5_rowAtom_6 : decode cX5_rowAtom 6 = .ok (.if_icmp .lt 8, 3) := by decide +kernel
theorem dX5_rowAtom_9 : decode cX5_rowAtom 9 = .ok (.aload_n 0, 1) := by decide +kernel
theorem dX5_rowAtom_10 : decode cX5_rowAtom 10 = .ok (.invokevirtual 71, 3) := by decide +kernel
theorem dX5_rowAtom_13 : decode cX5_rowAtom 13 = .ok (.ireturn, 1) := by decide +kernel
theorem dX5_rowAtom_14 : decode cX5_rowAtom 14 = .ok (.aload_n 0, 1) := by decide +kernel
theorem dX5_rowAtom_15 : decode cX5_rowAtom 15 = .ok (.getfield 20, 3) := by decide +kernel
theorem dX5_rowAtom_18 : decode cX5_rowAtom 18 = .ok (.aload_n 0, 1) := by decide +kernel
theorem dX5_rowAtom_19 : decode cX5_rowAtom 19 = .ok (.getfield 34, 3) := by decide +kernel
theorem dX5_rowAtom_22 : decode cX5_rowAtom 22 = .ok (.aaload, 1) := by decide +kernel
theorem dX5_rowAtom_23 : decode cX5_rowAtom 23 = .ok (.astore_n 1, 1) := by decide +kernel
theorem dX5_rowAtom_24 : decode cX5_rowAtom 24 = .ok (.aload_n 0, 1) := by decide +kernel
theorem dX5_rowAtom_25 : decode cX5_rowAtom 25 = .ok (.aload_n 1, 1) := by decide +kernel
theorem dX5_rowAtom_26 : decode cX5_rowAtom 26 = .ok (.getfield 170, 3) := by decide +kernel
theorem dX5_rowAtom_29 : decode cX5_rowAtom 29 = .ok (.invokevirtual 174, 3) := by decide +kernel
theorem dX5_rowAtom_32 : decode cX5_rowAtom 32 = .ok (.ifCond .ne 5, 3) := by decide +kernel
theorem dX5_rowAtom_35 : decode cX5_rowAtom 35 = .ok (.iconst (-1), 1) := by decide +kernel
theorem dX5_rowAtom_36 : decode cX5_rowAtom 36 = .ok (.ireturn, 1) := by decide +kernel
theorem dX5_rowAtom_37 : decode cX5_rowAtom 37 = .ok (.aload_n 0, 1) := by decide +kernel
theorem dX5_rowAtom_38 : decode cX5_rowAtom 38 = .ok (.invokevirtual 126, 3) := by decide +kernel
theorem dX5_rowAtom_41 : decode cX5_rowAtom 41 = .ok (.istore_n 2, 1) := by decide +kernel
theorem dX5_rowAtom_42 : decode cX5_rowAtom 42 = .ok (.aload_n 0, 1) := by decide +kernel
theorem dX5_rowAtom_43 : decode cX5_rowAtom 43 = .ok (.bipush 16, 2) := by decide +kernel
theorem dX5_rowAtom_45 : decode cX5_rowAtom 45 = .ok (.invokevirtual 147, 3) := by decide +kernel
theorem dX5_rowAtom_48 : decode cX5_rowAtom 48 = .ok (.ifCond .ne 5, 3) := by decide +kernel
theorem dX5_rowAtom_51 : decode cX5_rowAtom 51 = .ok (.iconst (-1), 1) := by decide +kernel
theorem dX5_rowAtom_52 : decode cX5_rowAtom 52 = .ok (.ireturn, 1) := by decide +kernel
theorem dX5_rowAtom_53 : decode cX5_rowAtom 53 = .ok (.aload_n 0, 1) := by decide +kernel
theorem dX5_rowAtom_54 : decode cX5_rowAtom 54 = .ok (.invokevirtual 67, 3) := by decide +kernel
theorem dX5_rowAtom_57 : decode cX5_rowAtom 57 = .ok (.iconst 2, 1) := by decide +kernel
theorem dX5_rowAtom_58 : decode cX5_rowAtom 58 = .ok (.if_icmp .ne 51, 3) := by decide +kernel
theorem dX5_rowAtom_61 : decode cX5_rowAtom 61 = .ok (.aload_n 1, 1) := by decide +kernel
theorem dX5_rowAtom_62 : decode cX5_rowAtom 62 = .ok (.getfield 178, 3) := by decide +kernel
theorem dX5_rowAtom_65 : decode cX5_rowAtom 65 = .ok (.invokevirtual 181, 3) := by decide +kernel
theorem dX5_rowAtom_68 : decode cX5_rowAtom 68 = .ok (.aload_n 1, 1) := by decide +kernel
theorem dX5_rowAtom_69 : decode cX5_rowAtom 69 = .ok (.getfield 178, 3) := by decide +kernel
theorem dX5_rowAtom_72 : decode cX5_rowAtom 72 = .ok (.aload_n 0, 1) := by decide +kernel
theorem dX5_rowAtom_73 : decode cX5_rowAtom 73 = .ok (.invokevirtual 151, 3) := by decide +kernel
theorem dX5_rowAtom_76 : decode cX5_rowAtom 76 = .ok (.putfield 184, 3) := by decide +kernel
theorem dX5_rowAtom_79 : decode cX5_rowAtom 79 = .ok (.aload_n 0, 1) := by decide +kernel
theorem dX5_rowAtom_80 : decode cX5_rowAtom 80 = .ok (.invokevirtual 151, 3) := by decide +kernel
theorem dX5_rowAtom_83 : decode cX5_rowAtom 83 = .ok (.bipush 8, 2) := by decide +kernel
theorem dX5_rowAtom_85 : decode cX5_rowAtom 85 = .ok (.if_icmp .lt 11, 3) := by decide +kernel
theorem dX5_rowAtom_88 : decode cX5_rowAtom 88 = .ok (.aload_n 0, 1) := by decide +kernel
theorem dX5_rowAtom_89 : decode cX5_rowAtom 89 = .ok (.aload_n 0, 1) := by decide +kernel
theorem dX5_rowAtom_90 : decode cX5_rowAtom 90 = .ok (.invokevirtual 126, 3) := by decide +kernel
theorem dX5_rowAtom_93 : decode cX5_rowAtom 93 = .ok (.invokevirtual 154, 3) := by decide +kernel
theorem dX5_rowAtom_96 : decode cX5_rowAtom 96 = .ok (.aload_n 0, 1) := by decide +kernel
theorem dX5_rowAtom_97 : decode cX5_rowAtom 97 = .ok (.dup, 1) := by decide +kernel
theorem dX5_rowAtom_98 : decode cX5_rowAtom 98 = .ok (.getfield 37, 3) := by decide +kernel
theorem dX5_rowAtom_101 : decode cX5_rowAtom 101 = .ok (.iconst 1, 1) := by decide +kernel
theorem dX5_rowAtom_102 : decode cX5_rowAtom 102 = .ok (.iadd, 1) := by decide +kernel
theorem dX5_rowAtom_103 : decode cX5_rowAtom 103 = .ok (.putfield 37, 3) := by decide +kernel
theorem dX5_rowAtom_106 : decode cX5_rowAtom 106 = .ok (.goto 16, 3) := by decide +kernel
theorem dX5_rowAtom_109 : decode cX5_rowAtom 109 = .ok (.aload_n 0, 1) := by decide +kernel
theorem dX5_rowAtom_110 : decode cX5_rowAtom 110 = .ok (.aload_n 1, 1) := by decide +kernel
theorem dX5_rowAtom_111 : decode cX5_rowAtom 111 = .ok (.getfield 178, 3) := by decide +kernel
theorem dX5_rowAtom_114 : decode cX5_rowAtom 114 = .ok (.invokevirtual 174, 3) := by decide +kernel
theorem dX5_rowAtom_117 : decode cX5_rowAtom 117 = .ok (.ifCond .ne 5, 3) := by decide +kernel
theorem dX5_rowAtom_120 : decode cX5_rowAtom 120 = .ok (.iconst (-1), 1) := by decide +kernel
theorem dX5_rowAtom_121 : decode cX5_rowAtom 121 = .ok (.ireturn, 1) := by decide +kernel
theorem dX5_rowAtom_122 : decode cX5_rowAtom 122 = .ok (.aload_n 0, 1) := by decide +kernel
theorem dX5_rowAtom_123 : decode cX5_rowAtom 123 = .ok (.iconst 1, 1) := by decide +kernel
theorem dX5_rowAtom_124 : decode cX5_rowAtom 124 = .ok (.iload_n 2, 1) := by decide +kernel
theorem dX5_rowAtom_125 : decode cX5_rowAtom 125 = .ok (.bipush 16, 2) := by decide +kernel
theorem dX5_rowAtom_127 : decode cX5_rowAtom 127 = .ok (.invokevirtual 187, 3) := by decide +kernel
theorem dX5_rowAtom_130 : decode cX5_rowAtom 130 = .ok (.ireturn, 1) := by decide +kernel
theorem dX5_atom_0 : decode cX5_atom 0 = .ok (.aload_n 0, 1) := by decide +kernel
theorem dX5_atom_1 : decode cX5_atom 1 = .ok (.iload_n 1, 1) := by decide +kernel
theorem dX5_atom_2 : decode cX5_atom 2 = .ok (.iload_n 2, 1) := by decide +kernel
theorem dX5_atom_3 : decode cX5_atom 3 = .ok (.iconst (-1), 1) := by decide +kernel
theorem dX5_atom_4 : decode cX5_atom 4 = .ok (.iconst (-1), 1) := by decide +kernel
theorem dX5_atom_5 : decode cX5_atom 5 = .ok (.invokevirtual 128, 3) := by decide +kernel
theorem dX5_atom_8 : decode cX5_atom 8 = .ok (.istore 4, 2) := by decide +kernel
theorem dX5_atom_10 : decode cX5_atom 10 = .ok (.iload 4, 2) := by decide +kernel
theorem dX5_atom_12 : decode cX5_atom 12 = .ok (.ifCond .lt 51, 3) := by decide +kernel
theorem dX5_atom_15 : decode cX5_atom 15 = .ok (.aload_n 0, 1) := by decide +kernel
theorem dX5_atom_16 : decode cX5_atom 16 = .ok (.getfield 20, 3) := by decide +kernel
theorem dX5_atom_19 : decode cX5_atom 19 = .ok (.iload 4, 2) := by decide +kernel
theorem dX5_atom_21 : decode cX5_atom 21 = .ok (.aaload, 1) := by decide +kernel
theorem dX5_atom_22 : decode cX5_atom 22 = .ok (.iload_n 3, 1) := by decide +kernel
theorem dX5_atom_23 : decode cX5_atom 23 = .ok (.putfield 190, 3) := by decide +kernel
theorem dX5_atom_26 : decode cX5_atom 26 = .ok (.aload_n 0, 1) := by decide +kernel
theorem dX5_atom_27 : decode cX5_atom 27 = .ok (.getfield 20, 3) := by decide +kernel
theorem dX5_atom_30 : decode cX5_atom 30 = .ok (.iload 4, 2) := by decide +kernel
theorem dX5_atom_32 : decode cX5_atom 32 = .ok (.aaload, 1) := by decide +kernel
theorem dX5_atom_33 : decode cX5_atom 33 = .ok (.aload_n 0, 1) := by decide +kernel
theorem dX5_atom_34 : decode cX5_atom 34 = .ok (.getfield 20, 3) := by decide +kernel
theorem dX5_atom_37 : decode cX5_atom 37 = .ok (.iload 4, 2) := by decide +kernel
theorem dX5_atom_39 : decode cX5_atom 39 = .ok (.aaload, 1) := by decide +kernel
theorem dX5_atom_40 : decode cX5_atom 40 = .ok (.getfield 170, 3) := by decide +kernel
theorem dX5_atom_43 : decode cX5_atom 43 = .ok (.getfield 193, 3) := by decide +kernel
theorem dX5_atom_46 : decode cX5_atom 46 = .ok (.aload_n 0, 1) := by decide +kernel
theorem dX5_atom_47 : decode cX5_atom 47 = .ok (.getfield 20, 3) := by decide +kernel
theorem dX5_atom_50 : decode cX5_atom 50 = .ok (.iload 4, 2) := by decide +kernel
theorem dX5_atom_52 : decode cX5_atom 52 = .ok (.aaload, 1) := by decide +kernel
theorem dX5_atom_53 : decode cX5_atom 53 = .ok (.getfield 178, 3) := by decide +kernel
theorem dX5_atom_56 : decode cX5_atom 56 = .ok (.getfield 193, 3) := by decide +kernel
theorem dX5_atom_59 : decode cX5_atom 59 = .ok (.ior, 1) := by decide +kernel
theorem dX5_atom_60 : decode cX5_atom 60 = .ok (.putfield 94, 3) := by decide +kernel
theorem dX5_atom_63 : decode cX5_atom 63 = .ok (.iload 4, 2) := by decide +kernel
theorem dX5_atom_65 : decode cX5_atom 65 = .ok (.ireturn, 1) := by decide +kernel
theorem dX5_entry_0 : decode cX5_entry 0 = .ok (.aload_n 1, 1) := by decide +kernel
theorem dX5_entry_1 : decode cX5_entry 1 = .ok (.invokevirtual 181, 3) := by decide +kernel
theorem dX5_entry_4 : decode cX5_entry 4 = .ok (.aload_n 0, 1) := by decide +kernel
theorem dX5_entry_5 : decode cX5_entry 5 = .ok (.invokevirtual 151, 3) := by decide +kernel
theorem dX5_entry_8 : decode cX5_entry 8 = .ok (.istore_n 2, 1) := by decide +kernel
theorem dX5_entry_9 : decode cX5_entry 9 = .ok (.aload_n 0, 1) := by decide +kernel
theorem dX5_entry_10 : decode cX5_entry 10 = .ok (.invokevirtual 126, 3) := by decide +kernel
theorem dX5_entry_13 : decode cX5_entry 13 = .ok (.istore_n 3, 1) := by decide +kernel
theorem dX5_entry_14 : decode cX5_entry 14 = .ok (.aload_n 0, 1) := by decide +kernel
theorem dX5_entry_15 : decode cX5_entry 15 = .ok (.iconst 4, 1) := by decide +kernel
theorem dX5_entry_16 : decode cX5_entry 16 = .ok (.invokevirtual 147, 3) := by decide +kernel
theorem dX5_entry_19 : decode cX5_entry 19 = .ok (.ifCond .eq 12, 3) := by decide +kernel
theorem dX5_entry_22 : decode cX5_entry 22 = .ok (.aload_n 0, 1) := by decide +kernel
theorem dX5_entry_23 : decode cX5_entry 23 = .ok (.bipush 13, 2) := by decide +kernel
theorem dX5_entry_25 : decode cX5_entry 25 = .ok (.invokevirtual 147, 3) := by decide +kernel
theorem dX5_entry_28 : decode cX5_entry 28 = .ok (.ifCond .ne 5, 3) := by decide +kernel
theorem dX5_entry_31 : decode cX5_entry 31 = .ok (.iconst 0, 1) := by decide +kernel
theorem dX5_entry_32 : decode cX5_entry 32 = .ok (.ireturn, 1) := by decide +kernel
theorem dX5_entry_33 : decode cX5_entry 33 = .ok (.aload_n 1, 1) := by decide +kernel
theorem dX5_entry_34 : decode cX5_entry 34 = .ok (.iload_n 2, 1) := by decide +kernel
theorem dX5_entry_35 : decode cX5_entry 35 = .ok (.putfield 194, 3) := by decide +kernel
theorem dX5_entry_38 : decode cX5_entry 38 = .ok (.aload_n 1, 1) := by decide +kernel
theorem dX5_entry_39 : decode cX5_entry 39 = .ok (.aload_n 0, 1) := by decide +kernel
theorem dX5_entry_40 : decode cX5_entry 40 = .ok (.invokevirtual 151, 3) := by decide +kernel
theorem dX5_entry_43 : decode cX5_entry 43 = .ok (.invokevirtual 197, 3) := by decide +kernel
theorem dX5_entry_46 : decode cX5_entry 46 = .ok (.aload_n 0, 1) := by decide +kernel
theorem dX5_entry_47 : decode cX5_entry 47 = .ok (.iconst 3, 1) := by decide +kernel
theorem dX5_entry_48 : decode cX5_entry 48 = .ok (.invokevirtual 147, 3) := by decide +kernel
theorem dX5_entry_51 : decode cX5_entry 51 = .ok (.ifCond .ne 5, 3) := by decide +kernel
theorem dX5_entry_54 : decode cX5_entry 54 = .ok (.iconst 0, 1) := by decide +kernel
theorem dX5_entry_55 : decode cX5_entry 55 = .ok (.ireturn, 1) := by decide +kernel
theorem dX5_entry_56 : decode cX5_entry 56 = .ok (.aload_n 0, 1) := by decide +kernel
theorem dX5_entry_57 : decode cX5_entry 57 = .ok (.invokevirtual 67, 3) := by decide +kernel
theorem dX5_entry_60 : decode cX5_entry 60 = .ok (.bipush 15, 2) := by decide +kernel
theorem dX5_entry_62 : decode cX5_entry 62 = .ok (.if_icmp .ne 7, 3) := by decide +kernel
theorem dX5_entry_65 : decode cX5_entry 65 = .ok (.iconst 1, 1) := by decide +kernel
theorem dX5_entry_66 : decode cX5_entry 66 = .ok (.goto 4, 3) := by decide +kernel
theorem dX5_entry_69 : decode cX5_entry 69 = .ok (.iconst 0, 1) := by decide +kernel
theorem dX5_entry_70 : decode cX5_entry 70 = .ok (.istore 4, 2) := by decide +kernel
theorem dX5_entry_72 : decode cX5_entry 72 = .ok (.iload 4, 2) := by decide +kernel
theorem dX5_entry_74 : decode cX5_entry 74 = .ok (.ifCond .eq 24, 3) := by decide +kernel
theorem dX5_entry_77 : decode cX5_entry 77 = .ok (.aload_n 0, 1) := by decide +kernel
theorem dX5_entry_78 : decode cX5_entry 78 = .ok (.dup, 1) := by decide +kernel
theorem dX5_entry_79 : decode cX5_entry 79 = .ok (.getfield 37, 3) := by decide +kernel
theorem dX5_entry_82 : decode cX5_entry 82 = .ok (.iconst 1, 1) := by decide +kernel
theorem dX5_entry_83 : decode cX5_entry 83 = .ok (.iadd, 1) := by decide +kernel
theorem dX5_entry_84 : decode cX5_entry 84 = .ok (.putfield 37, 3) := by decide +kernel
theorem dX5_entry_87 : decode cX5_entry 87 = .ok (.aload_n 0, 1) := by decide +kernel
theorem dX5_entry_88 : decode cX5_entry 88 = .ok (.aload_n 1, 1) := by decide +kernel
theorem dX5_entry_89 : decode cX5_entry 89 = .ok (.iconst 3, 1) := by decide +kernel
theorem dX5_entry_90 : decode cX5_entry 90 = .ok (.invokevirtual 200, 3) := by decide +kernel
theorem dX5_entry_93 : decode cX5_entry 93 = .ok (.ifCond .ne 5, 3) := by decide +kernel
theorem dX5_entry_96 : decode cX5_entry 96 = .ok (.iconst 0, 1) := by decide +kernel
theorem dX5_entry_97 : decode cX5_entry 97 = .ok (.ireturn, 1) := by decide +kernel
theorem dX5_entry_98 : decode cX5_entry 98 = .ok (.iload_n 2, 1) := by decide +kernel
theorem dX5_entry_99 : decode cX5_entry 99 = .ok (.aload_n 0, 1) := by decide +kernel
theorem dX5_entry_100 : decode cX5_entry 100 = .ok (.getfield 30, 3) := by decide +kernel
theorem dX5_entry_103 : decode cX5_entry 103 = .ok (.if_icmp .ge 25, 3) := by decide +kernel
theorem dX5_entry_106 : decode cX5_entry 106 = .ok (.iload 4, 2) := by decide +kernel
theorem dX5_entry_108 : decode cX5_entry 108 = .ok (.ifCond .eq 28, 3) := by decide +kernel
theorem dX5_entry_111 : decode cX5_entry 111 = .ok (.aload_n 0, 1) := by decide +kernel
theorem dX5_entry_112 : decode cX5_entry 112 = .ok (.getfield 26, 3) := by decide +kernel
theorem dX5_entry_115 : decode cX5_entry 115 = .ok (.iload_n 2, 1) := by decide +kernel
theorem dX5_entry_116 : decode cX5_entry 116 = .ok (.aaload, 1) := by decide +kernel
theorem dX5_entry_117 : decode cX5_entry 117 = .ok (.getfield 204, 3) := by decide +kernel
theorem dX5_entry_120 : decode cX5_entry 120 = .ok (.getfield 208, 3) := by decide +kernel
theorem dX5_entry_123 : decode cX5_entry 123 = .ok (.bipush 6, 2) := by decide +kernel
theorem dX5_entry_125 : decode cX5_entry 125 = .ok (.if_icmp .le 11, 3) := by decide +kernel
theorem dX5_entry_128 : decode cX5_entry 128 = .ok (.aload_n 0, 1) := by decide +kernel
theorem dX5_entry_129 : decode cX5_entry 129 = .ok (.iload_n 3, 1) := by decide +kernel
theorem dX5_entry_130 : decode cX5_entry 130 = .ok (.invokevirtual 154, 3) := by decide +kernel
theorem dX5_entry_133 : decode cX5_entry 133 = .ok (.goto 15, 3) := by decide +kernel
theorem dX5_entry_136 : decode cX5_entry 136 = .ok (.aload_n 0, 1) := by decide +kernel
theorem dX5_entry_137 : decode cX5_entry 137 = .ok (.dup, 1) := by decide +kernel
theorem dX5_entry_138 : decode cX5_entry 138 = .ok (.getfield 49, 3) := by decide +kernel
theorem dX5_entry_141 : decode cX5_entry 141 = .ok (.iconst 1, 1) := by decide +kernel
theorem dX5_entry_142 : decode cX5_entry 142 = .ok (.iload_n 2, 1) := by decide +kernel
theorem dX5_entry_143 : decode cX5_entry 143 = .ok (.ishl, 1) := by decide +kernel
theorem dX5_entry_144 : decode cX5_entry 144 = .ok (.ior, 1) := by decide +kernel
theorem dX5_entry_145 : decode cX5_entry 145 = .ok (.putfield 49, 3) := by decide +kernel
theorem dX5_entry_148 : decode cX5_entry 148 = .ok (.aload_n 0, 1) := by decide +kernel
theorem dX5_entry_149 : decode cX5_entry 149 = .ok (.bipush 14, 2) := by decide +kernel
theorem dX5_entry_151 : decode cX5_entry 151 = .ok (.invokevirtual 147, 3) := by decide +kernel
theorem dX5_entry_154 : decode cX5_entry 154 = .ok (.ireturn, 1) := by decide +kernel
theorem dX5_sumAtom_0 : decode cX5_sumAtom 0 = .ok (.aload_n 0, 1) := by decide +kernel
theorem dX5_sumAtom_1 : decode cX5_sumAtom 1 = .ok (.getfield 34, 3) := by decide +kernel
theorem dX5_sumAtom_4 : decode cX5_sumAtom 4 = .ok (.bipush 60, 2) := by decide +kernel
theorem dX5_sumAtom_6 : decode cX5_sumAtom 6 = .ok (.if_icmp .lt 8, 3) := by decide +kernel
theorem dX5_sumAtom_9 : decode cX5_sumAtom 9 = .ok (.aload_n 0, 1) := by decide +kernel
theorem dX5_sumAtom_10 : decode cX5_sumAtom 10 = .ok (.invokevirtual 71, 3) := by decide +kernel
theorem dX5_sumAtom_13 : decode cX5_sumAtom 13 = .ok (.ireturn, 1) := by decide +kernel
theorem dX5_sumAtom_14 : decode cX5_sumAtom 14 = .ok (.aload_n 0, 1) := by decide +kernel
theorem dX5_sumAtom_15 : decode cX5_sumAtom 15 = .ok (.getfield 20, 3) := by decide +kernel
theorem dX5_sumAtom_18 : decode cX5_sumAtom 18 = .ok (.aload_n 0, 1) := by decide +kernel
theorem dX5_sumAtom_19 : decode cX5_sumAtom 19 = .ok (.getfield 34, 3) := by decide +kernel
theorem dX5_sumAtom_22 : decode cX5_sumAtom 22 = .ok (.aaload, 1) := by decide +kernel
theorem dX5_sumAtom_23 : decode cX5_sumAtom 23 = .ok (.astore_n 1, 1) := by decide +kernel
theorem dX5_sumAtom_24 : decode cX5_sumAtom 24 = .ok (.aload_n 0, 1) := by decide +kernel
theorem dX5_sumAtom_25 : decode cX5_sumAtom 25 = .ok (.aload_n 1, 1) := by decide +kernel
theorem dX5_sumAtom_26 : decode cX5_sumAtom 26 = .ok (.getfield 170, 3) := by decide +kernel
theorem dX5_sumAtom_29 : decode cX5_sumAtom 29 = .ok (.invokevirtual 213, 3) := by decide +kernel
theorem dX5_sumAtom_32 : decode cX5_sumAtom 32 = .ok (.ifCond .ne 5, 3) := by decide +kernel
theorem dX5_sumAtom_35 : decode cX5_sumAtom 35 = .ok (.iconst (-1), 1) := by decide +kernel
theorem dX5_sumAtom_36 : decode cX5_sumAtom 36 = .ok (.ireturn, 1) := by decide +kernel
theorem dX5_sumAtom_37 : decode cX5_sumAtom 37 = .ok (.aload_n 0, 1) := by decide +kernel
theorem dX5_sumAtom_38 : decode cX5_sumAtom 38 = .ok (.invokevirtual 126, 3) := by decide +kernel
theorem dX5_sumAtom_41 : decode cX5_sumAtom 41 = .ok (.istore_n 2, 1) := by decide +kernel
theorem dX5_sumAtom_42 : decode cX5_sumAtom 42 = .ok (.aload_n 0, 1) := by decide +kernel
theorem dX5_sumAtom_43 : decode cX5_sumAtom 43 = .ok (.invokevirtual 67, 3) := by decide +kernel
theorem dX5_sumAtom_46 : decode cX5_sumAtom 46 = .ok (.istore_n 3, 1) := by decide +kernel
theorem dX5_sumAtom_47 : decode cX5_sumAtom 47 = .ok (.iload_n 3, 1) := by decide +kernel
theorem dX5_sumAtom_48 : decode cX5_sumAtom 48 = .ok (.bipush 16, 2) := by decide +kernel
theorem dX5_sumAtom_50 : decode cX5_sumAtom 50 = .ok (.if_icmp .eq 20, 3) := by decide +kernel
theorem dX5_sumAtom_53 : decode cX5_sumAtom 53 = .ok (.iload_n 3, 1) := by decide +kernel
theorem dX5_sumAtom_54 : decode cX5_sumAtom 54 = .ok (.bipush 17, 2) := by decide +kernel
theorem dX5_sumAtom_56 : decode cX5_sumAtom 56 = .ok (.if_icmp .eq 14, 3) := by decide +kernel
theorem dX5_sumAtom_59 : decode cX5_sumAtom 59 = .ok (.iload_n 3, 1) := by decide +kernel
theorem dX5_sumAtom_60 : decode cX5_sumAtom 60 = .ok (.bipush 18, 2) := by decide +kernel
theorem dX5_sumAtom_62 : decode cX5_sumAtom 62 = .ok (.if_icmp .eq 8, 3) := by decide +kernel
theorem dX5_sumAtom_65 : decode cX5_sumAtom 65 = .ok (.aload_n 0, 1) := by decide +kernel
theorem dX5_sumAtom_66 : decode cX5_sumAtom 66 = .ok (.invokevirtual 71, 3) := by decide +kernel
theorem dX5_sumAtom_69 : decode cX5_sumAtom 69 = .ok (.ireturn, 1) := by decide +kernel
theorem dX5_sumAtom_70 : decode cX5_sumAtom 70 = .ok (.aload_n 0, 1) := by decide +kernel
theorem dX5_sumAtom_71 : decode cX5_sumAtom 71 = .ok (.dup, 1) := by decide +kernel
theorem dX5_sumAtom_72 : decode cX5_sumAtom 72 = .ok (.getfield 37, 3) := by decide +kernel
theorem dX5_sumAtom_75 : decode cX5_sumAtom 75 = .ok (.iconst 1, 1) := by decide +kernel
theorem dX5_sumAtom_76 : decode cX5_sumAtom 76 = .ok (.iadd, 1) := by decide +kernel
theorem dX5_sumAtom_77 : decode cX5_sumAtom 77 = .ok (.putfield 37, 3) := by decide +kernel
theorem dX5_sumAtom_80 : decode cX5_sumAtom 80 = .ok (.aload_n 0, 1) := by decide +kernel
theorem dX5_sumAtom_81 : decode cX5_sumAtom 81 = .ok (.aload_n 1, 1) := by decide +kernel
theorem dX5_sumAtom_82 : decode cX5_sumAtom 82 = .ok (.getfield 178, 3) := by decide +kernel
theorem dX5_sumAtom_85 : decode cX5_sumAtom 85 = .ok (.invokevirtual 213, 3) := by decide +kernel
theorem dX5_sumAtom_88 : decode cX5_sumAtom 88 = .ok (.ifCond .eq 13, 3) := by decide +kernel
theorem dX5_sumAtom_91 : decode cX5_sumAtom 91 = .ok (.aload_n 0, 1) := by decide +kernel
theorem dX5_sumAtom_92 : decode cX5_sumAtom 92 = .ok (.iconst 0, 1) := by decide +kernel
theorem dX5_sumAtom_93 : decode cX5_sumAtom 93 = .ok (.iload_n 2, 1) := by decide +kernel
theorem dX5_sumAtom_94 : decode cX5_sumAtom 94 = .ok (.iload_n 3, 1) := by decide +kernel
theorem dX5_sumAtom_95 : decode cX5_sumAtom 95 = .ok (.invokevirtual 187, 3) := by decide +kernel
theorem dX5_sumAtom_98 : decode cX5_sumAtom 98 = .ok (.goto 4, 3) := by decide +kernel
theorem dX5_sumAtom_101 : decode cX5_sumAtom 101 = .ok (.iconst (-1), 1) := by decide +kernel
theorem dX5_sumAtom_102 : decode cX5_sumAtom 102 = .ok (.ireturn, 1) := by decide +kernel
theorem dX5_sum_0 : decode cX5_sum 0 = .ok (.aload_n 1, 1) := by decide +kernel
theorem dX5_sum_1 : decode cX5_sum 1 = .ok (.invokevirtual 181, 3) := by decide +kernel
theorem dX5_sum_4 : decode cX5_sum 4 = .ok (.iconst 0, 1) := by decide +kernel
theorem dX5_sum_5 : decode cX5_sum 5 = .ok (.istore_n 2, 1) := by decide +kernel
theorem dX5_sum_6 : decode cX5_sum 6 = .ok (.iload_n 2, 1) := by decide +kernel
theorem dX5_sum_7 : decode cX5_sum 7 = .ok (.bipush 120, 2) := by decide +kernel
theorem dX5_sum_9 : decode cX5_sum 9 = .ok (.if_icmp .ge 42, 3) := by decide +kernel
theorem dX5_sum_12 : decode cX5_sum 12 = .ok (.aload_n 0, 1) := by decide +kernel
theorem dX5_sum_13 : decode cX5_sum 13 = .ok (.aload_n 1, 1) := by decide +kernel
theorem dX5_sum_14 : decode cX5_sum 14 = .ok (.bipush 99, 2) := by decide +kernel
theorem dX5_sum_16 : decode cX5_sum 16 = .ok (.invokevirtual 200, 3) := by decide +kernel
theorem dX5_sum_19 : decode cX5_sum 19 = .ok (.ifCond .ne 5, 3) := by decide +kernel
theorem dX5_sum_22 : decode cX5_sum 22 = .ok (.iconst 0, 1) := by decide +kernel
theorem dX5_sum_23 : decode cX5_sum 23 = .ok (.ireturn, 1) := by decide +kernel
theorem dX5_sum_24 : decode cX5_sum 24 = .ok (.aload_n 0, 1) := by decide +kernel
theorem dX5_sum_25 : decode cX5_sum 25 = .ok (.invokevirtual 67, 3) := by decide +kernel
theorem dX5_sum_28 : decode cX5_sum 28 = .ok (.bipush 15, 2) := by decide +kernel
theorem dX5_sum_30 : decode cX5_sum 30 = .ok (.if_icmp .eq 5, 3) := by decide +kernel
theorem dX5_sum_33 : decode cX5_sum 33 = .ok (.iconst 1, 1) := by decide +kernel
theorem dX5_sum_34 : decode cX5_sum 34 = .ok (.ireturn, 1) := by decide +kernel
theorem dX5_sum_35 : decode cX5_sum 35 = .ok (.aload_n 0, 1) := by decide +kernel
theorem dX5_sum_36 : decode cX5_sum 36 = .ok (.dup, 1) := by decide +kernel
theorem dX5_sum_37 : decode cX5_sum 37 = .ok (.getfield 37, 3) := by decide +kernel
theorem dX5_sum_40 : decode cX5_sum 40 = .ok (.iconst 1, 1) := by decide +kernel
theorem dX5_sum_41 : decode cX5_sum 41 = .ok (.iadd, 1) := by decide +kernel
theorem dX5_sum_42 : decode cX5_sum 42 = .ok (.putfield 37, 3) := by decide +kernel
theorem dX5_sum_45 : decode cX5_sum 45 = .ok (.iinc 2 1, 3) := by decide +kernel
theorem dX5_sum_48 : decode cX5_sum 48 = .ok (.goto (-42), 3) := by decide +kernel
theorem dX5_sum_51 : decode cX5_sum 51 = .ok (.iconst 0, 1) := by decide +kernel
theorem dX5_sum_52 : decode cX5_sum 52 = .ok (.ireturn, 1) := by decide +kernel
theorem dX5_takeTerm_0 : decode cX5_takeTerm 0 = .ok (.aload_n 0, 1) := by decide +kernel
theorem dX5_takeTerm_1 : decode cX5_takeTerm 1 = .ok (.invokevirtual 67, 3) := by decide +kernel
theorem dX5_takeTerm_4 : decode cX5_takeTerm 4 = .ok (.iconst 2, 1) := by decide +kernel
theorem dX5_takeTerm_5 : decode cX5_takeTerm 5 = .ok (.if_icmp .ne 35, 3) := by decide +kernel
theorem dX5_takeTerm_8 : decode cX5_takeTerm 8 = .ok (.aload_n 1, 1) := by decide +kernel
theorem dX5_takeTerm_9 : decode cX5_takeTerm 9 = .ok (.dup, 1) := by decide +kernel
theorem dX5_takeTerm_10 : decode cX5_takeTerm 10 = .ok (.getfield 184, 3) := by decide +kernel
theorem dX5_takeTerm_13 : decode cX5_takeTerm 13 = .ok (.aload_n 0, 1) := by decide +kernel
theorem dX5_takeTerm_14 : decode cX5_takeTerm 14 = .ok (.invokevirtual 151, 3) := by decide +kernel
theorem dX5_takeTerm_17 : decode cX5_takeTerm 17 = .ok (.iadd, 1) := by decide +kernel
theorem dX5_takeTerm_18 : decode cX5_takeTerm 18 = .ok (.putfield 184, 3) := by decide +kernel
theorem dX5_takeTerm_21 : decode cX5_takeTerm 21 = .ok (.aload_n 1, 1) := by decide +kernel
theorem dX5_takeTerm_22 : decode cX5_takeTerm 22 = .ok (.getfield 184, 3) := by decide +kernel
theorem dX5_takeTerm_25 : decode cX5_takeTerm 25 = .ok (.iload_n 2, 1) := by decide +kernel
theorem dX5_takeTerm_26 : decode cX5_takeTerm 26 = .ok (.if_icmp .le 40, 3) := by decide +kernel
theorem dX5_takeTerm_29 : decode cX5_takeTerm 29 = .ok (.aload_n 0, 1) := by decide +kernel
theorem dX5_takeTerm_30 : decode cX5_takeTerm 30 = .ok (.aload_n 0, 1) := by decide +kernel
theorem dX5_takeTerm_31 : decode cX5_takeTerm 31 = .ok (.invokevirtual 126, 3) := by decide +kernel
theorem dX5_takeTerm_34 : decode cX5_takeTerm 34 = .ok (.invokevirtual 154, 3) := by decide +kernel
theorem dX5_takeTerm_37 : decode cX5_takeTerm 37 = .ok (.goto 29, 3) := by decide +kernel
theorem dX5_takeTerm_40 : decode cX5_takeTerm 40 = .ok (.aload_n 0, 1) := by decide +kernel
theorem dX5_takeTerm_41 : decode cX5_takeTerm 41 = .ok (.invokevirtual 67, 3) := by decide +kernel
theorem dX5_takeTerm_44 : decode cX5_takeTerm 44 = .ok (.iconst 3, 1) := by decide +kernel
theorem dX5_takeTerm_45 : decode cX5_takeTerm 45 = .ok (.if_icmp .ne 14, 3) := by decide +kernel
theorem dX5_takeTerm_48 : decode cX5_takeTerm 48 = .ok (.aload_n 1, 1) := by decide +kernel
theorem dX5_takeTerm_49 : decode cX5_takeTerm 49 = .ok (.aload_n 0, 1) := by decide +kernel
theorem dX5_takeTerm_50 : decode cX5_takeTerm 50 = .ok (.invokevirtual 151, 3) := by decide +kernel
theorem dX5_takeTerm_53 : decode cX5_takeTerm 53 = .ok (.invokevirtual 197, 3) := by decide +kernel
theorem dX5_takeTerm_56 : decode cX5_takeTerm 56 = .ok (.goto 10, 3) := by decide +kernel
theorem dX5_takeTerm_59 : decode cX5_takeTerm 59 = .ok (.aload_n 0, 1) := by decide +kernel
theorem dX5_takeTerm_60 : decode cX5_takeTerm 60 = .ok (.invokevirtual 71, 3) := by decide +kernel
theorem dX5_takeTerm_63 : decode cX5_takeTerm 63 = .ok (.pop, 1) := by decide +kernel
theorem dX5_takeTerm_64 : decode cX5_takeTerm 64 = .ok (.iconst 0, 1) := by decide +kernel
theorem dX5_takeTerm_65 : decode cX5_takeTerm 65 = .ok (.ireturn, 1) := by decide +kernel
theorem dX5_takeTerm_66 : decode cX5_takeTerm 66 = .ok (.aload_n 0, 1) := by decide +kernel
theorem dX5_takeTerm_67 : decode cX5_takeTerm 67 = .ok (.dup, 1) := by decide +kernel
theorem dX5_takeTerm_68 : decode cX5_takeTerm 68 = .ok (.getfield 37, 3) := by decide +kernel
theorem dX5_takeTerm_71 : decode cX5_takeTerm 71 = .ok (.iconst 1, 1) := by decide +kernel
theorem dX5_takeTerm_72 : decode cX5_takeTerm 72 = .ok (.iadd, 1) := by decide +kernel
theorem dX5_takeTerm_73 : decode cX5_takeTerm 73 = .ok (.putfield 37, 3) := by decide +kernel
theorem dX5_takeTerm_76 : decode cX5_takeTerm 76 = .ok (.iconst 1, 1) := by decide +kernel
theorem dX5_takeTerm_77 : decode cX5_takeTerm 77 = .ok (.ireturn, 1) := by decide +kernel
abbrev LX5_init_69 (G : GG) (d rc rs : Nat) (p0 : Nat) (x1 : Int32) (M : Mem) (Q : Option Value → Mem → Prop) : Prop := Wk G (d + 1) rc rs mX5_init 69 [some (.ref p0), some (.int x1)] [] M Q
theorem eX5_init {G : GG} {d rc rs : Nat} (o : Nat)  {M : Mem} {Q : Option Value → Mem → Prop} (h : 1 ≤ rc ∧ 6 ≤ rs ∧ (∀ n3, n3 = g_b G + x_n M → ∀ M4, M4 = x_new M n3 25 0 → 4 ≤ (rc - 1) ∧ 363 ≤ (rs - 6) ∧ Call G d 4 363 mX9_init [.ref n3] M4 (fun r8 M9 => r8 = none ∧ (x_h M9 o).1 = 21 ∧ (∀ M11, M11 = x_sr M9 o 0 (some n3) → 1 ≤ ((rc - 1) - 4) ∧ 60 ≤ ((rs - 6) - 363) ∧ (∀ n12, n12 = g_b G + x_n M11 → ∀ M13, M13 = x_new M11 n12 6 60 → (x_h M13 o).1 = 21 ∧ (∀ M18, M18 = x_sr M13 o 1 (some n12) → 1 ≤ (((rc - 1) - 4) - 1) ∧ 0 ≤ (((rs - 6) - 363) - 60) ∧ (∀ n19, n19 = g_b G + x_n M18 → ∀ M20, M20 = x_new M18 n19 4 0 → (x_h M20 o).1 = 21 ∧ (∀ M25, M25 = x_sr M20 o 2 (some n19) → ∀ M26, M26 = x_si M25 o 3 0 → ∀ M27, M27 = x_si M26 o 4 0 → ∀ M28, M28 = x_si M27 o 5 0 → ∀ M29, M29 = x_si M28 o 6 (-1) → ∀ M30, M30 = x_si M29 o 7 (-1) → ∀ M31, M31 = x_si M30 o 8 0 → ∀ M32, M32 = x_si M31 o 9 0 → LX5_init_69 G d ((((rc - 1) - 4) - 1) - 1) ((((rs - 6) - 363) - 60) - 0) o 0 M32 Q)))))))) : Call G (d + 1) rc rs mX5_init [.ref o] M Q := by
  refine call_of (by decide) (Nat.le_of_ble_eq_true rfl) ?_
  show Wk G (d + 1) rc rs mX5_init 0 [some (.ref o), none] [] M Q
  refine r_aload_n (pc := 0) (i := 0) dX5_init_0 rfl rfl ?_
  refine r_objInit (pc := 1) (st := []) ww_41 ww_28 ww_29 dX5_init_1 (Nat.le_of_ble_eq_true rfl) ?_
  refine r_aload_n (pc := 4) (i := 0) dX5_init_4 rfl rfl ?_
  obtain ⟨y1, y2, h⟩ := h
  refine r_newV (pc := 5) (ci := 9) (q := (RX9, TX9, 6)) dX5_init_5 rfl ww_42 ww_43 ww_3 y1 y2 (fun n3 M4 enn3 eMn3 e5 => ?_)
  replace h := h n3 enn3 M4 eMn3
  refine r_dup (pc := 8) dX5_init_8 rfl ?_
  obtain ⟨y6, y7, h⟩ := h
  refine r_callI (pc := 9) (as := []) (st := [_, _]) okX9_init lkX5_11 inX9_init rfl dX5_init_9 rfl (Nat.le_of_ble_eq_true rfl) y6 y7 (Call.mono h (fun r8 M9 h => ?_))
  obtain ⟨rfl, h⟩ := h
  obtain ⟨k10, h⟩ := h
  refine r_putr (pc := 12) (r := some _) flX5_12 dX5_init_12 rfl (fun q hq => by cases hq; exact Or.inr ⟨rfl, rfl, rfl⟩) (fun q hq _ => by cases hq; exact ww_178) k10 ?_
  replace h := h _ rfl
  refine r_aload_n (pc := 15) (i := 0) dX5_init_15 rfl rfl ?_
  refine r_bipush (pc := 16) (v := 60) dX5_init_16 (by decide) ?_
  obtain ⟨y15, y16, h⟩ := h
  refine r_newRV (pc := 18) (n := 60) (kd := 6) dX5_init_18 (by decide) rfl ww_73 ww_74 (by decide) (by decide) (by decide) y15 y16 (fun n12 M13 enn12 eMn12 e14 => ?_)
  replace h := h n12 enn12 M13 eMn12
  obtain ⟨k17, h⟩ := h
  refine r_putr (pc := 21) (r := some _) flX5_20 dX5_init_21 rfl (fun q hq => by cases hq; exact Or.inr ⟨rfl, rfl, rfl⟩) (fun q hq _ => by cases hq; exact ww_179) k17 ?_
  replace h := h _ rfl
  refine r_aload_n (pc := 24) (i := 0) dX5_init_24 rfl rfl ?_
  refine r_iconst (pc := 25) (v := 0) dX5_init_25 (by decide) ?_
  obtain ⟨y22, y23, h⟩ := h
  refine r_newRV (pc := 26) (n := 0) (kd := 4) dX5_init_26 (by decide) rfl ww_75 ww_31 (by decide) (by decide) (by decide) y22 y23 (fun n19 M20 enn19 eMn19 e21 => ?_)
  replace h := h n19 enn19 M20 eMn19
  obtain ⟨k24, h⟩ := h
  refine r_putr (pc := 29) (r := some _) flX5_26 dX5_init_29 rfl (fun q hq => by cases hq; exact Or.inl rfl) (fun q hq h => by cases hq; cases h) k24 ?_
  replace h := h _ rfl
  refine r_aload_n (pc := 32) (i := 0) dX5_init_32 rfl rfl ?_
  refine r_iconst (pc := 33) (v := 0) dX5_init_33 (by decide) ?_
  refine r_puti (pc := 34) flX5_30 dX5_init_34 (Or.inl rfl) (fun q hq => by cases hq; rfl) k24 ?_
  replace h := h _ rfl
  refine r_aload_n (pc := 37) (i := 0) dX5_init_37 rfl rfl ?_
  refine r_iconst (pc := 38) (v := 0) dX5_init_38 (by decide) ?_
  refine r_puti (pc := 39) flX5_34 dX5_init_39 (Or.inl rfl) (fun q hq => by cases hq; rfl) k24 ?_
  replace h := h _ rfl
  refine r_aload_n (pc := 42) (i := 0) dX5_init_42 rfl rfl ?_
  refine r_iconst (pc := 43) (v := 0) dX5_init_43 (by decide) ?_
  refine r_puti (pc := 44) flX5_37 dX5_init_44 (Or.inl rfl) (fun q hq => by cases hq; rfl) k24 ?_
  replace h := h _ rfl
  refine r_aload_n (pc := 47) (i := 0) dX5_init_47 rfl rfl ?_
  refine r_iconst (pc := 48) (v := (-1)) dX5_init_48 (by decide) ?_
  refine r_puti (pc := 49) flX5_40 dX5_init_49 (Or.inl rfl) (fun q hq => by cases hq; rfl) k24 ?_
  replace h := h _ rfl
  refine r_aload_n (pc := 52) (i := 0) dX5_init_52 rfl rfl ?_
  refine r_iconst (pc := 53) (v := (-1)) dX5_init_53 (by decide) ?_
  refine r_puti (pc := 54) flX5_43 dX5_init_54 (Or.inl rfl) (fun q hq => by cases hq; rfl) k24 ?_
  replace h := h _ rfl
  refine r_aload_n (pc := 57) (i := 0) dX5_init_57 rfl rfl ?_
  refine r_iconst (pc := 58) (v := 0) dX5_init_58 (by decide) ?_
  refine r_puti (pc := 59) flX5_46 dX5_init_59 (Or.inl rfl) (fun q hq => by cases hq; rfl) k24 ?_
  replace h := h _ rfl
  refine r_aload_n (pc := 62) (i := 0) dX5_init_62 rfl rfl ?_
  refine r_iconst (pc := 63) (v := 0) dX5_init_63 (by decide) ?_
  refine r_puti (pc := 64) flX5_49 dX5_init_64 (Or.inl rfl) (fun q hq => by cases hq; rfl) k24 ?_
  replace h := h _ rfl
  refine r_iconst (pc := 67) (v := 0) dX5_init_67 (by decide) ?_
  refine r_istore_n (pc := 68) (i := 1) dX5_init_68 rfl rfl (Nat.le_of_ble_eq_true rfl) ?_
  exact h
theorem vX5_init_69 {G : GG} {d rc rs : Nat} (p0 : Nat) (x1 : Int32)  {M : Mem} {Q : Option Value → Mem → Prop} (h : (60 ≤ x1 → Q none M) ∧ (¬ 60 ≤ x1 → (x_h M p0).1 = 21 ∧ (∃ b3, x_r M p0 1 = some b3 ∧ 1 ≤ rc ∧ 9 ≤ rs ∧ (∀ n6, n6 = g_b G + x_n M → ∀ M7, M7 = x_new M n6 19 0 → 7 ≤ (rc - 1) ∧ 1148 ≤ (rs - 9) ∧ Call G d 7 1148 mX3_init [.ref n6] M7 (fun r11 M12 => r11 = none ∧ (x_h M12 b3).1 = 6 ∧ (x_h M12 n6).1 = 19 ∧ vp_in x1 (x_h M12 b3).2 ∧ (∀ M16, M16 = x_sr M12 b3 x1.toNatClampNeg (some n6) → LX5_init_69 G d ((rc - 1) - 7) ((rs - 9) - 1148) p0 (x1 + 1) M16 Q)))))) : LX5_init_69 G d rc rs p0 x1 M Q := by
  show Wk G (d + 1) rc rs mX5_init 69 _ _ M Q
  refine r_iload_n (pc := 69) (i := 1) dX5_init_69 rfl rfl ?_
  refine r_bipush (pc := 70) (v := 60) dX5_init_70 (by decide) ?_
  refine r_icmp_ge (pc := 72) (tgt := 94) dX5_init_72 (by decide) (fun c1 => ?_) (fun c1 => ?_)
  · replace h := h.1 c1
    exact r_vret (pc := 94) dX5_init_94 rfl h
  · replace h := h.2 c1
    refine r_aload_n (pc := 75) (i := 0) dX5_init_75 rfl rfl ?_
    obtain ⟨k2, h⟩ := h
    obtain ⟨b3, hb3, h⟩ := h
    refine r_getr (pc := 76) flX5_20 dX5_init_76 rfl k2 hb3 ?_
    refine r_iload_n (pc := 79) (i := 1) dX5_init_79 rfl rfl ?_
    obtain ⟨y4, y5, h⟩ := h
    refine r_newV (pc := 80) (ci := 3) (q := (RX3, TX3, 9)) dX5_init_80 rfl ww_73 ww_76 ww_4 y4 y5 (fun n6 M7 enn6 eMn6 e8 => ?_)
    replace h := h n6 enn6 M7 eMn6
    refine r_dup (pc := 83) dX5_init_83 rfl ?_
    obtain ⟨y9, y10, h⟩ := h
    refine r_callI (pc := 84) (as := []) (st := [_, _, _]) okX3_init lkX5_52 inX3_init rfl dX5_init_84 rfl (Nat.le_of_ble_eq_true rfl) y9 y10 (Call.mono h (fun r11 M12 h => ?_))
    obtain ⟨rfl, h⟩ := h
    obtain ⟨k13, h⟩ := h
    obtain ⟨k14, h⟩ := h
    obtain ⟨i15, h⟩ := h
    refine r_aast (pc := 87) (ci := 3) dX5_init_87 k13 (by decide) rfl rfl k14 i15 ?_
    replace h := h _ rfl
    refine r_iinc (pc := 88) (i := 1) (v := _ + 1) dX5_init_88 rfl rfl rfl ?_
    refine r_goto (pc := 91) (tgt := 69) dX5_init_91 (by decide) ?_
    exact h
theorem eX5_readText {G : GG} {d rc rs : Nat} (o : Nat) (a1 : Nat) (a2 : Int32) (a3 : Nat) (a4 : Int32) (a5 : Nat)  {M : Mem} {Q : Option Value → Mem → Prop} (h : (x_h M o).1 = 21 ∧ (∃ b2, x_r M o 0 = some b2 ∧ (x_h M b2).1 = 25 ∧ Call G d 0 0 mX9_cut [.ref b2, .ref a1, .int a2] M (fun r4 M5 => r4 = none ∧ (x_h M5 o).1 = 21 ∧ (∀ M7, M7 = x_sr M5 o 2 (some a3) → (1 ≤ (x_h M5 a3).1 ∧ (x_h M5 a3).1 < 8) ∧ Call G d 0 0 mJ9_min_7cf53 [.int a4, .int (nI (x_h M5 a3).2)] M7 (fun r9 M10 => ∃ v11 : Int32, r9 = some (.int v11) ∧ (x_h M10 o).1 = 21 ∧ (∀ M13, M13 = x_si M10 o 3 v11 → ∀ M14, M14 = x_si M13 o 4 0 → ∀ M15, M15 = x_si M14 o 5 0 → ∀ M16, M16 = x_si M15 o 6 (-1) → ∀ M17, M17 = x_si M16 o 7 (-1) → ∀ M18, M18 = x_si M17 o 8 0 → ∀ M19, M19 = x_si M18 o 9 0 → Call G d 0 0 mX5_formula [.ref o, .int 0, .int 0, .int 0] M19 (fun r20 M21 => ∃ v22 : Int32, r20 = some (.int v22) ∧ (v22 < 0 → (x_h M21 o).1 = 21 ∧ Call G d 0 0 mX5_tell [.ref o, .ref a5] M21 (fun r25 M26 => r25 = none ∧ Q none M26)) ∧ (¬ v22 < 0 → (x_h M21 o).1 = 21 ∧ Call G d 0 0 mX5_peek [.ref o] M21 (fun r28 M29 => ∃ v30 : Int32, r28 = some (.int v30) ∧ (v30 = 0 → (x_h M29 o).1 = 21 ∧ Call G d 0 0 mX5_tell [.ref o, .ref a5] M29 (fun r33 M34 => r33 = none ∧ Q none M34)) ∧ (¬ v30 = 0 → (x_h M29 o).1 = 21 ∧ Call G d 0 0 mX5_fail [.ref o] M29 (fun r36 M37 => ∃ v38 : Int32, r36 = some (.int v38) ∧ (x_h M37 o).1 = 21 ∧ Call G d 0 0 mX5_tell [.ref o, .ref a5] M37 (fun r40 M41 => r40 = none ∧ Q none M41)))))))))))) : Call G (d + 1) rc rs mX5_readText [.ref o, .ref a1, .int a2, .ref a3, .int a4, .ref a5] M Q := by
  refine call_of (by decide) (Nat.le_of_ble_eq_true rfl) ?_
  show Wk G (d + 1) rc rs mX5_readText 0 [some (.ref o), some (.ref a1), some (.int a2), some (.ref a3), some (.int a4), some (.ref a5), none] [] M Q
  refine r_aload_n (pc := 0) (i := 0) dX5_readText_0 rfl rfl ?_
  obtain ⟨k1, h⟩ := h
  obtain ⟨b2, hb2, h⟩ := h
  refine r_getr (pc := 1) flX5_12 dX5_readText_1 rfl k1 hb2 ?_
  refine r_aload_n (pc := 4) (i := 1) dX5_readText_4 rfl rfl ?_
  refine r_iload_n (pc := 5) (i := 2) dX5_readText_5 rfl rfl ?_
  obtain ⟨k3, h⟩ := h
  refine r_callV (pc := 6) (ci := 9) (as := [_, _]) (st := []) okX9_cut lkX5_53 inX9_cut seX9_cut ⟨_, rfl, rfl⟩ dX5_readText_6 rfl k3 (Nat.le_of_ble_eq_true rfl) (Nat.zero_le _) (Nat.zero_le _) (Call.mono h (fun r4 M5 h => ?_))
  obtain ⟨rfl, h⟩ := h
  refine r_aload_n (pc := 9) (i := 0) dX5_readText_9 rfl rfl ?_
  refine r_aload_n (pc := 10) (i := 3) dX5_readText_10 rfl rfl ?_
  obtain ⟨k6, h⟩ := h
  refine r_putr (pc := 11) (r := some _) flX5_26 dX5_readText_11 rfl (fun q hq => by cases hq; exact Or.inl rfl) (fun q hq h => by cases hq; cases h) k6 ?_
  replace h := h _ rfl
  refine r_aload_n (pc := 14) (i := 0) dX5_readText_14 rfl rfl ?_
  refine r_iload (pc := 15) (i := 4) dX5_readText_15 rfl ?_
  refine r_aload_n (pc := 17) (i := 3) dX5_readText_17 rfl rfl ?_
  obtain ⟨k8, h⟩ := h
  refine r_alen (pc := 18) dX5_readText_18 rfl k8 ?_
  refine r_callS (pc := 19) (as := [_, _]) (st := [_]) okJ9_min_7cf53 lkX5_57 stJ9_min_7cf53 dX5_readText_19 rfl (Nat.le_of_ble_eq_true rfl) (Nat.zero_le _) (Nat.zero_le _) (Call.mono h (fun r9 M10 h => ?_))
  obtain ⟨v11, rfl, h⟩ := h
  obtain ⟨k12, h⟩ := h
  refine r_puti (pc := 22) flX5_30 dX5_readText_22 (Or.inl rfl) (fun q hq => by cases hq; rfl) k12 ?_
  replace h := h _ rfl
  refine r_aload_n (pc := 25) (i := 0) dX5_readText_25 rfl rfl ?_
  refine r_iconst (pc := 26) (v := 0) dX5_readText_26 (by decide) ?_
  refine r_puti (pc := 27) flX5_34 dX5_readText_27 (Or.inl rfl) (fun q hq => by cases hq; rfl) k12 ?_
  replace h := h _ rfl
  refine r_aload_n (pc := 30) (i := 0) dX5_readText_30 rfl rfl ?_
  refine r_iconst (pc := 31) (v := 0) dX5_readText_31 (by decide) ?_
  refine r_puti (pc := 32) flX5_37 dX5_readText_32 (Or.inl rfl) (fun q hq => by cases hq; rfl) k12 ?_
  replace h := h _ rfl
  refine r_aload_n (pc := 35) (i := 0) dX5_readText_35 rfl rfl ?_
  refine r_iconst (pc := 36) (v := (-1)) dX5_readText_36 (by decide) ?_
  refine r_puti (pc := 37) flX5_40 dX5_readText_37 (Or.inl rfl) (fun q hq => by cases hq; rfl) k12 ?_
  replace h := h _ rfl
  refine r_aload_n (pc := 40) (i := 0) dX5_readText_40 rfl rfl ?_
  refine r_iconst (pc := 41) (v := (-1)) dX5_readText_41 (by decide) ?_
  refine r_puti (pc := 42) flX5_43 dX5_readText_42 (Or.inl rfl) (fun q hq => by cases hq; rfl) k12 ?_
  replace h := h _ rfl
  refine r_aload_n (pc := 45) (i := 0) dX5_readText_45 rfl rfl ?_
  refine r_iconst (pc := 46) (v := 0) dX5_readText_46 (by decide) ?_
  refine r_puti (pc := 47) flX5_46 dX5_readText_47 (Or.inl rfl) (fun q hq => by cases hq; rfl) k12 ?_
  replace h := h _ rfl
  refine r_aload_n (pc := 50) (i := 0) dX5_readText_50 rfl rfl ?_
  refine r_iconst (pc := 51) (v := 0) dX5_readText_51 (by decide) ?_
  refine r_puti (pc := 52) flX5_49 dX5_readText_52 (Or.inl rfl) (fun q hq => by cases hq; rfl) k12 ?_
  replace h := h _ rfl
  refine r_aload_n (pc := 55) (i := 0) dX5_readText_55 rfl rfl ?_
  refine r_iconst (pc := 56) (v := 0) dX5_readText_56 (by decide) ?_
  refine r_iconst (pc := 57) (v := 0) dX5_readText_57 (by decide) ?_
  refine r_iconst (pc := 58) (v := 0) dX5_readText_58 (by decide) ?_
  refine r_callV (pc := 59) (ci := 5) (as := [_, _, _]) (st := []) okX5_formula lkX5_63 inX5_formula seX5_formula ⟨_, rfl, rfl⟩ dX5_readText_59 rfl k12 (Nat.le_of_ble_eq_true rfl) (Nat.zero_le _) (Nat.zero_le _) (Call.mono h (fun r20 M21 h => ?_))
  obtain ⟨v22, rfl, h⟩ := h
  refine r_istore (pc := 62) (i := 6) dX5_readText_62 rfl (Nat.le_of_ble_eq_true rfl) ?_
  refine r_iload (pc := 64) (i := 6) dX5_readText_64 rfl ?_
  refine r_if_lt (pc := 66) (tgt := 81) dX5_readText_66 (by decide) (fun c23 => ?_) (fun c23 => ?_)
  · replace h := h.1 c23
    refine r_aload_n (pc := 81) (i := 0) dX5_readText_81 rfl rfl ?_
    refine r_aload (pc := 82) (i := 5) dX5_readText_82 rfl ?_
    obtain ⟨k24, h⟩ := h
    refine r_callV (pc := 84) (ci := 5) (as := [_]) (st := []) okX5_tell lkX5_74 inX5_tell seX5_tell ⟨_, rfl, rfl⟩ dX5_readText_84 rfl k24 (Nat.le_of_ble_eq_true rfl) (Nat.zero_le _) (Nat.zero_le _) (Call.mono h (fun r25 M26 h => ?_))
    obtain ⟨rfl, h⟩ := h
    exact r_vret (pc := 87) dX5_readText_87 rfl h
  · replace h := h.2 c23
    refine r_aload_n (pc := 69) (i := 0) dX5_readText_69 rfl rfl ?_
    obtain ⟨k27, h⟩ := h
    refine r_callV (pc := 70) (ci := 5) (as := []) (st := []) okX5_peek lkX5_67 inX5_peek seX5_peek ⟨_, rfl, rfl⟩ dX5_readText_70 rfl k27 (Nat.le_of_ble_eq_true rfl) (Nat.zero_le _) (Nat.zero_le _) (Call.mono h (fun r28 M29 h => ?_))
    obtain ⟨v30, rfl, h⟩ := h
    refine r_if_eq (pc := 73) (tgt := 81) dX5_readText_73 (by decide) (fun c31 => ?_) (fun c31 => ?_)
    · replace h := h.1 c31
      refine r_aload_n (pc := 81) (i := 0) dX5_readText_81 rfl rfl ?_
      refine r_aload (pc := 82) (i := 5) dX5_readText_82 rfl ?_
      obtain ⟨k32, h⟩ := h
      refine r_callV (pc := 84) (ci := 5) (as := [_]) (st := []) okX5_tell lkX5_74 inX5_tell seX5_tell ⟨_, rfl, rfl⟩ dX5_readText_84 rfl k32 (Nat.le_of_ble_eq_true rfl) (Nat.zero_le _) (Nat.zero_le _) (Call.mono h (fun r33 M34 h => ?_))
      obtain ⟨rfl, h⟩ := h
      exact r_vret (pc := 87) dX5_readText_87 rfl h
    · replace h := h.2 c31
      refine r_aload_n (pc := 76) (i := 0) dX5_readText_76 rfl rfl ?_
      obtain ⟨k35, h⟩ := h
      refine r_callV (pc := 77) (ci := 5) (as := []) (st := []) okX5_fail lkX5_71 inX5_fail seX5_fail ⟨_, rfl, rfl⟩ dX5_readText_77 rfl k35 (Nat.le_of_ble_eq_true rfl) (Nat.zero_le _) (Nat.zero_le _) (Call.mono h (fun r36 M37 h => ?_))
      obtain ⟨v38, rfl, h⟩ := h
      refine r_pop (pc := 80) dX5_readText_80 rfl ?_
      refine r_aload_n (pc := 81) (i := 0) dX5_readText_81 rfl rfl ?_
      refine r_aload (pc := 82) (i := 5) dX5_readText_82 rfl ?_
      obtain ⟨k39, h⟩ := h
      refine r_callV (pc := 84) (ci := 5) (as := [_]) (st := []) okX5_tell lkX5_74 inX5_tell seX5_tell ⟨_, rfl, rfl⟩ dX5_readText_84 rfl k39 (Nat.le_of_ble_eq_true rfl) (Nat.zero_le _) (Nat.zero_le _) (Call.mono h (fun r40 M41 h => ?_))
      obtain ⟨rfl, h⟩ := h
      exact r_vret (pc := 87) dX5_readText_87 rfl h
theorem eX5_tell {G : GG} {d rc rs : Nat} (o : Nat) (a1 : Nat)  {M : Mem} {Q : Option Value → Mem → Prop} (h : (x_h M a1).1 = 20 ∧ Call G d 0 0 mX4_clear [.ref a1] M (fun r2 M3 => r2 = none ∧ (x_h M3 o).1 = 21 ∧ Call G d 0 0 mX5_crowded [.ref o] M3 (fun r5 M6 => ∃ v7 : Int32, r5 = some (.int v7) ∧ (x_h M6 o).1 = 21 ∧ ((x_i M6 o 6) = (-1) → ((x_i M6 o 7) = (-1) → (v7 = (-1) → ((x_i M6 o 4) ≤ 0 → Q none M6) ∧ (¬ (x_i M6 o 4) ≤ 0 → ∃ b13, x_r M6 o 1 = some b13 ∧ (4 ≤ (x_h M6 b13).1 ∧ (x_h M6 b13).1 < 8) ∧ vp_in ((x_i M6 o 4) - 1) (x_h M6 b13).2 ∧ (∃ b16, x_r M6 b13 ((x_i M6 o 4) - 1).toNatClampNeg = some b16 ∧ (x_h M6 b16).1 = 19 ∧ (x_h M6 a1).1 = 20 ∧ (∀ M19, M19 = x_si M6 a1 4 (x_i M6 b16 8) → ∀ M20, M20 = x_si M19 a1 5 (x_i M19 o 4) → ∀ M21, M21 = x_si M20 a1 6 (x_i M20 o 9) → Q none M21)))) ∧ (¬ v7 = (-1) → (x_h M6 a1).1 = 20 ∧ Call G d 0 0 mX4_blame [.ref a1, .int 3, .int v7] M6 (fun r23 M24 => r23 = none ∧ Q none M24))) ∧ (¬ (x_i M6 o 7) = (-1) → (x_h M6 a1).1 = 20 ∧ Call G d 0 0 mX4_blame [.ref a1, .int 2, .int (x_i M6 o 7)] M6 (fun r26 M27 => r26 = none ∧ Q none M27))) ∧ (¬ (x_i M6 o 6) = (-1) → ∃ b28, x_r M6 o 0 = some b28 ∧ (x_h M6 b28).1 = 25 ∧ (∃ b30, x_r M6 b28 1 = some b30 ∧ (x_h M6 b30).1 = 1 ∧ vp_in (x_i M6 o 6) (x_h M6 b30).2 ∧ (x_h M6 a1).1 = 20 ∧ Call G d 0 0 mX4_blame [.ref a1, .int 1, .int (x_i M6 b30 (x_i M6 o 6).toNatClampNeg)] M6 (fun r34 M35 => r34 = none ∧ Q none M35)))))) : Call G (d + 1) rc rs mX5_tell [.ref o, .ref a1] M Q := by
  refine call_of (by decide) (Nat.le_of_ble_eq_true rfl) ?_
  show Wk G (d + 1) rc rs mX5_tell 0 [some (.ref o), some (.ref a1), none] [] M Q
  refine r_aload_n (pc := 0) (i := 1) dX5_tell_0 rfl rfl ?_
  obtain ⟨k1, h⟩ := h
  refine r_callV (pc := 1) (ci := 4) (as := []) (st := []) okX4_clear lkX5_78 inX4_clear seX4_clear ⟨_, rfl, rfl⟩ dX5_tell_1 rfl k1 (Nat.le_of_ble_eq_true rfl) (Nat.zero_le _) (Nat.zero_le _) (Call.mono h (fun r2 M3 h => ?_))
  obtain ⟨rfl, h⟩ := h
  refine r_aload_n (pc := 4) (i := 0) dX5_tell_4 rfl rfl ?_
  obtain ⟨k4, h⟩ := h
  refine r_callV (pc := 5) (ci := 5) (as := []) (st := []) okX5_crowded lkX5_83 inX5_crowded seX5_crowded ⟨_, rfl, rfl⟩ dX5_tell_5 rfl k4 (Nat.le_of_ble_eq_true rfl) (Nat.zero_le _) (Nat.zero_le _) (Call.mono h (fun r5 M6 h => ?_))
  obtain ⟨v7, rfl, h⟩ := h
  refine r_istore_n (pc := 8) (i := 2) dX5_tell_8 rfl rfl (Nat.le_of_ble_eq_true rfl) ?_
  refine r_aload_n (pc := 9) (i := 0) dX5_tell_9 rfl rfl ?_
  obtain ⟨k8, h⟩ := h
  refine r_geti (pc := 10) flX5_40 dX5_tell_10 (Or.inl rfl) k8 ?_
  refine r_iconst (pc := 13) (v := (-1)) dX5_tell_13 (by decide) ?_
  refine r_icmp_eq (pc := 14) (tgt := 37) dX5_tell_14 (by decide) (fun c9 => ?_) (fun c9 => ?_)
  · replace h := h.1 c9
    refine r_aload_n (pc := 37) (i := 0) dX5_tell_37 rfl rfl ?_
    refine r_geti (pc := 38) flX5_43 dX5_tell_38 (Or.inl rfl) k8 ?_
    refine r_iconst (pc := 41) (v := (-1)) dX5_tell_41 (by decide) ?_
    refine r_icmp_eq (pc := 42) (tgt := 57) dX5_tell_42 (by decide) (fun c10 => ?_) (fun c10 => ?_)
    · replace h := h.1 c10
      refine r_iload_n (pc := 57) (i := 2) dX5_tell_57 rfl rfl ?_
      refine r_iconst (pc := 58) (v := (-1)) dX5_tell_58 (by decide) ?_
      refine r_icmp_eq (pc := 59) (tgt := 71) dX5_tell_59 (by decide) (fun c11 => ?_) (fun c11 => ?_)
      · replace h := h.1 c11
        refine r_aload_n (pc := 71) (i := 0) dX5_tell_71 rfl rfl ?_
        refine r_geti (pc := 72) flX5_34 dX5_tell_72 (Or.inl rfl) k8 ?_
        refine r_if_le (pc := 75) (tgt := 112) dX5_tell_75 (by decide) (fun c12 => ?_) (fun c12 => ?_)
        · replace h := h.1 c12
          exact r_vret (pc := 112) dX5_tell_112 rfl h
        · replace h := h.2 c12
          refine r_aload_n (pc := 78) (i := 1) dX5_tell_78 rfl rfl ?_
          refine r_aload_n (pc := 79) (i := 0) dX5_tell_79 rfl rfl ?_
          obtain ⟨b13, hb13, h⟩ := h
          refine r_getr (pc := 80) flX5_20 dX5_tell_80 rfl k8 hb13 ?_
          refine r_aload_n (pc := 83) (i := 0) dX5_tell_83 rfl rfl ?_
          refine r_geti (pc := 84) flX5_34 dX5_tell_84 (Or.inl rfl) k8 ?_
          refine r_iconst (pc := 87) (v := 1) dX5_tell_87 (by decide) ?_
          refine r_isub (pc := 88) dX5_tell_88 ?_
          obtain ⟨k14, h⟩ := h
          obtain ⟨i15, h⟩ := h
          obtain ⟨b16, hb16, h⟩ := h
          refine r_aald (pc := 89) dX5_tell_89 rfl k14 i15 hb16 ?_
          obtain ⟨k17, h⟩ := h
          refine r_geti (pc := 90) flX5_94 dX5_tell_90 (Or.inl rfl) k17 ?_
          obtain ⟨k18, h⟩ := h
          refine r_puti (pc := 93) flX5_97 dX5_tell_93 (Or.inl rfl) (fun q hq => by cases hq; rfl) k18 ?_
          replace h := h _ rfl
          refine r_aload_n (pc := 96) (i := 1) dX5_tell_96 rfl rfl ?_
          refine r_aload_n (pc := 97) (i := 0) dX5_tell_97 rfl rfl ?_
          refine r_geti (pc := 98) flX5_34 dX5_tell_98 (Or.inl rfl) k8 ?_
          refine r_puti (pc := 101) flX5_98 dX5_tell_101 (Or.inl rfl) (fun q hq => by cases hq; rfl) k18 ?_
          replace h := h _ rfl
          refine r_aload_n (pc := 104) (i := 1) dX5_tell_104 rfl rfl ?_
          refine r_aload_n (pc := 105) (i := 0) dX5_tell_105 rfl rfl ?_
          refine r_geti (pc := 106) flX5_49 dX5_tell_106 (Or.inl rfl) k8 ?_
          refine r_puti (pc := 109) flX5_100 dX5_tell_109 (Or.inl rfl) (fun q hq => by cases hq; rfl) k18 ?_
          replace h := h _ rfl
          exact r_vret (pc := 112) dX5_tell_112 rfl h
      · replace h := h.2 c11
        refine r_aload_n (pc := 62) (i := 1) dX5_tell_62 rfl rfl ?_
        refine r_iconst (pc := 63) (v := 3) dX5_tell_63 (by decide) ?_
        refine r_iload_n (pc := 64) (i := 2) dX5_tell_64 rfl rfl ?_
        obtain ⟨k22, h⟩ := h
        refine r_callV (pc := 65) (ci := 4) (as := [_, _]) (st := []) okX4_blame lkX5_90 inX4_blame seX4_blame ⟨_, rfl, rfl⟩ dX5_tell_65 rfl k22 (Nat.le_of_ble_eq_true rfl) (Nat.zero_le _) (Nat.zero_le _) (Call.mono h (fun r23 M24 h => ?_))
        obtain ⟨rfl, h⟩ := h
        refine r_goto (pc := 68) (tgt := 112) dX5_tell_68 (by decide) ?_
        exact r_vret (pc := 112) dX5_tell_112 rfl h
    · replace h := h.2 c10
      refine r_aload_n (pc := 45) (i := 1) dX5_tell_45 rfl rfl ?_
      refine r_iconst (pc := 46) (v := 2) dX5_tell_46 (by decide) ?_
      refine r_aload_n (pc := 47) (i := 0) dX5_tell_47 rfl rfl ?_
      refine r_geti (pc := 48) flX5_43 dX5_tell_48 (Or.inl rfl) k8 ?_
      obtain ⟨k25, h⟩ := h
      refine r_callV (pc := 51) (ci := 4) (as := [_, _]) (st := []) okX4_blame lkX5_90 inX4_blame seX4_blame ⟨_, rfl, rfl⟩ dX5_tell_51 rfl k25 (Nat.le_of_ble_eq_true rfl) (Nat.zero_le _) (Nat.zero_le _) (Call.mono h (fun r26 M27 h => ?_))
      obtain ⟨rfl, h⟩ := h
      refine r_goto (pc := 54) (tgt := 112) dX5_tell_54 (by decide) ?_
      exact r_vret (pc := 112) dX5_tell_112 rfl h
  · replace h := h.2 c9
    refine r_aload_n (pc := 17) (i := 1) dX5_tell_17 rfl rfl ?_
    refine r_iconst (pc := 18) (v := 1) dX5_tell_18 (by decide) ?_
    refine r_aload_n (pc := 19) (i := 0) dX5_tell_19 rfl rfl ?_
    obtain ⟨b28, hb28, h⟩ := h
    refine r_getr (pc := 20) flX5_12 dX5_tell_20 rfl k8 hb28 ?_
    obtain ⟨k29, h⟩ := h
    obtain ⟨b30, hb30, h⟩ := h
    refine r_getr (pc := 23) flX5_86 dX5_tell_23 rfl k29 hb30 ?_
    refine r_aload_n (pc := 26) (i := 0) dX5_tell_26 rfl rfl ?_
    refine r_geti (pc := 27) flX5_40 dX5_tell_27 (Or.inl rfl) k8 ?_
    obtain ⟨k31, h⟩ := h
    obtain ⟨i32, h⟩ := h
    refine r_iald (pc := 30) dX5_tell_30 k31 i32 ?_
    obtain ⟨k33, h⟩ := h
    refine r_callV (pc := 31) (ci := 4) (as := [_, _]) (st := []) okX4_blame lkX5_90 inX4_blame seX4_blame ⟨_, rfl, rfl⟩ dX5_tell_31 rfl k33 (Nat.le_of_ble_eq_true rfl) (Nat.zero_le _) (Nat.zero_le _) (Call.mono h (fun r34 M35 h => ?_))
    obtain ⟨rfl, h⟩ := h
    refine r_goto (pc := 34) (tgt := 112) dX5_tell_34 (by decide) ?_
    exact r_vret (pc := 112) dX5_tell_112 rfl h
abbrev LX5_crowded_2 (G : GG) (d rc rs : Nat) (p0 : Nat) (x1 : Int32) (M : Mem) (Q : Option Value → Mem → Prop) : Prop := Wk G (d + 1) rc rs mX5_crowded 2 [some (.ref p0), some (.int x1)] [] M Q
theorem eX5_crowded {G : GG} {d rc rs : Nat} (o : Nat)  {M : Mem} {Q : Option Value → Mem → Prop} (h : LX5_crowded_2 G d rc rs o 0 M Q) : Call G (d + 1) rc rs mX5_crowded [.ref o] M Q := by
  refine call_of (by decide) (Nat.le_of_ble_eq_true rfl) ?_
  show Wk G (d + 1) rc rs mX5_crowded 0 [some (.ref o), none] [] M Q
  refine r_iconst (pc := 0) (v := 0) dX5_crowded_0 (by decide) ?_
  refine r_istore_n (pc := 1) (i := 1) dX5_crowded_1 rfl rfl (Nat.le_of_ble_eq_true rfl) ?_
  exact h
theorem vX5_crowded_2 {G : GG} {d rc rs : Nat} (p0 : Nat) (x1 : Int32)  {M : Mem} {Q : Option Value → Mem → Prop} (h : (x_h M p0).1 = 21 ∧ ((x_i M p0 4) ≤ x1 → Q (some (.int (-1))) M) ∧ (¬ (x_i M p0 4) ≤ x1 → ∃ b3, x_r M p0 1 = some b3 ∧ (4 ≤ (x_h M b3).1 ∧ (x_h M b3).1 < 8) ∧ vp_in x1 (x_h M b3).2 ∧ (∃ b6, x_r M b3 x1.toNatClampNeg = some b6 ∧ (x_h M b6).1 = 19 ∧ Call G d 0 0 mJ6_bitCount_0f7a4 [.int (x_i M b6 8)] M (fun r8 M9 => ∃ v10 : Int32, r8 = some (.int v10) ∧ (v10 ≤ 3 → LX5_crowded_2 G d rc rs p0 (x1 + 1) M9 Q) ∧ (¬ v10 ≤ 3 → (x_h M9 p0).1 = 21 ∧ (∃ b13, x_r M9 p0 1 = some b13 ∧ (4 ≤ (x_h M9 b13).1 ∧ (x_h M9 b13).1 < 8) ∧ vp_in x1 (x_h M9 b13).2 ∧ (∃ b16, x_r M9 b13 x1.toNatClampNeg = some b16 ∧ (x_h M9 b16).1 = 19 ∧ Q (some (.int (x_i M9 b16 4))) M9))))))) : LX5_crowded_2 G d rc rs p0 x1 M Q := by
  show Wk G (d + 1) rc rs mX5_crowded 2 _ _ M Q
  refine r_iload_n (pc := 2) (i := 1) dX5_crowded_2 rfl rfl ?_
  refine r_aload_n (pc := 3) (i := 0) dX5_crowded_3 rfl rfl ?_
  obtain ⟨k1, h⟩ := h
  refine r_geti (pc := 4) flX5_34 dX5_crowded_4 (Or.inl rfl) k1 ?_
  refine r_icmp_ge (pc := 7) (tgt := 42) dX5_crowded_7 (by decide) (fun c2 => ?_) (fun c2 => ?_)
  · replace h := h.1 c2
    refine r_iconst (pc := 42) (v := (-1)) dX5_crowded_42 (by decide) ?_
    exact r_iret (pc := 43) dX5_crowded_43 rfl h
  · replace h := h.2 c2
    refine r_aload_n (pc := 10) (i := 0) dX5_crowded_10 rfl rfl ?_
    obtain ⟨b3, hb3, h⟩ := h
    refine r_getr (pc := 11) flX5_20 dX5_crowded_11 rfl k1 hb3 ?_
    refine r_iload_n (pc := 14) (i := 1) dX5_crowded_14 rfl rfl ?_
    obtain ⟨k4, h⟩ := h
    obtain ⟨i5, h⟩ := h
    obtain ⟨b6, hb6, h⟩ := h
    refine r_aald (pc := 15) dX5_crowded_15 rfl k4 i5 hb6 ?_
    obtain ⟨k7, h⟩ := h
    refine r_geti (pc := 16) flX5_94 dX5_crowded_16 (Or.inl rfl) k7 ?_
    refine r_callS (pc := 19) (as := [_]) (st := []) okJ6_bitCount_0f7a4 lkX5_102 stJ6_bitCount_0f7a4 dX5_crowded_19 rfl (Nat.le_of_ble_eq_true rfl) (Nat.zero_le _) (Nat.zero_le _) (Call.mono h (fun r8 M9 h => ?_))
    obtain ⟨v10, rfl, h⟩ := h
    refine r_iconst (pc := 22) (v := 3) dX5_crowded_22 (by decide) ?_
    refine r_icmp_le (pc := 23) (tgt := 36) dX5_crowded_23 (by decide) (fun c11 => ?_) (fun c11 => ?_)
    · replace h := h.1 c11
      refine r_iinc (pc := 36) (i := 1) (v := _ + 1) dX5_crowded_36 rfl rfl rfl ?_
      refine r_goto (pc := 39) (tgt := 2) dX5_crowded_39 (by decide) ?_
      exact h
    · replace h := h.2 c11
      refine r_aload_n (pc := 26) (i := 0) dX5_crowded_26 rfl rfl ?_
      obtain ⟨k12, h⟩ := h
      obtain ⟨b13, hb13, h⟩ := h
      refine r_getr (pc := 27) flX5_20 dX5_crowded_27 rfl k12 hb13 ?_
      refine r_iload_n (pc := 30) (i := 1) dX5_crowded_30 rfl rfl ?_
      obtain ⟨k14, h⟩ := h
      obtain ⟨i15, h⟩ := h
      obtain ⟨b16, hb16, h⟩ := h
      refine r_aald (pc := 31) dX5_crowded_31 rfl k14 i15 hb16 ?_
      obtain ⟨k17, h⟩ := h
      refine r_geti (pc := 32) flX5_108 dX5_crowded_32 (Or.inl rfl) k17 ?_
      exact r_iret (pc := 35) dX5_crowded_35 rfl h
theorem eX5_peek {G : GG} {d rc rs : Nat} (o : Nat)  {M : Mem} {Q : Option Value → Mem → Prop} (h : (x_h M o).1 = 21 ∧ (∃ b2, x_r M o 0 = some b2 ∧ (x_h M b2).1 = 25 ∧ ((x_i M b2 5) ≤ (x_i M o 5) → Q (some (.int 0)) M) ∧ (¬ (x_i M b2 5) ≤ (x_i M o 5) → ∃ b5, x_r M b2 0 = some b5 ∧ (x_h M b5).1 = 1 ∧ vp_in (x_i M o 5) (x_h M b5).2 ∧ Q (some (.int (x_i M b5 (x_i M o 5).toNatClampNeg))) M))) : Call G (d + 1) rc rs mX5_peek [.ref o] M Q := by
  refine call_of (by decide) (Nat.le_of_ble_eq_true rfl) ?_
  show Wk G (d + 1) rc rs mX5_peek 0 [some (.ref o)] [] M Q
  refine r_aload_n (pc := 0) (i := 0) dX5_peek_0 rfl rfl ?_
  obtain ⟨k1, h⟩ := h
  refine r_geti (pc := 1) flX5_37 dX5_peek_1 (Or.inl rfl) k1 ?_
  refine r_aload_n (pc := 4) (i := 0) dX5_peek_4 rfl rfl ?_
  obtain ⟨b2, hb2, h⟩ := h
  refine r_getr (pc := 5) flX5_12 dX5_peek_5 rfl k1 hb2 ?_
  obtain ⟨k3, h⟩ := h
  refine r_geti (pc := 8) flX5_111 dX5_peek_8 (Or.inl rfl) k3 ?_
  refine r_icmp_ge (pc := 11) (tgt := 29) dX5_peek_11 (by decide) (fun c4 => ?_) (fun c4 => ?_)
  · replace h := h.1 c4
    refine r_iconst (pc := 29) (v := 0) dX5_peek_29 (by decide) ?_
    exact r_iret (pc := 30) dX5_peek_30 rfl h
  · replace h := h.2 c4
    refine r_aload_n (pc := 14) (i := 0) dX5_peek_14 rfl rfl ?_
    refine r_getr (pc := 15) flX5_12 dX5_peek_15 rfl k1 hb2 ?_
    obtain ⟨b5, hb5, h⟩ := h
    refine r_getr (pc := 18) flX5_114 dX5_peek_18 rfl k3 hb5 ?_
    refine r_aload_n (pc := 21) (i := 0) dX5_peek_21 rfl rfl ?_
    refine r_geti (pc := 22) flX5_37 dX5_peek_22 (Or.inl rfl) k1 ?_
    obtain ⟨k6, h⟩ := h
    obtain ⟨i7, h⟩ := h
    refine r_iald (pc := 25) dX5_peek_25 k6 i7 ?_
    refine r_goto (pc := 26) (tgt := 30) dX5_peek_26 (by decide) ?_
    exact r_iret (pc := 30) dX5_peek_30 rfl h
theorem eX5_place {G : GG} {d rc rs : Nat} (o : Nat)  {M : Mem} {Q : Option Value → Mem → Prop} (h : (x_h M o).1 = 21 ∧ (∃ b2, x_r M o 0 = some b2 ∧ (x_h M b2).1 = 25 ∧ ((x_i M b2 5) ≤ (x_i M o 5) → Q (some (.int (x_i M b2 4))) M) ∧ (¬ (x_i M b2 5) ≤ (x_i M o 5) → ∃ b5, x_r M b2 1 = some b5 ∧ (x_h M b5).1 = 1 ∧ vp_in (x_i M o 5) (x_h M b5).2 ∧ Q (some (.int (x_i M b5 (x_i M o 5).toNatClampNeg))) M))) : Call G (d + 1) rc rs mX5_place [.ref o] M Q := by
  refine call_of (by decide) (Nat.le_of_ble_eq_true rfl) ?_
  show Wk G (d + 1) rc rs mX5_place 0 [some (.ref o)] [] M Q
  refine r_aload_n (pc := 0) (i := 0) dX5_place_0 rfl rfl ?_
  obtain ⟨k1, h⟩ := h
  refine r_geti (pc := 1) flX5_37 dX5_place_1 (Or.inl rfl) k1 ?_
  refine r_aload_n (pc := 4) (i := 0) dX5_place_4 rfl rfl ?_
  obtain ⟨b2, hb2, h⟩ := h
  refine r_getr (pc := 5) flX5_12 dX5_place_5 rfl k1 hb2 ?_
  obtain ⟨k3, h⟩ := h
  refine r_geti (pc := 8) flX5_111 dX5_place_8 (Or.inl rfl) k3 ?_
  refine r_icmp_ge (pc := 11) (tgt := 29) dX5_place_11 (by decide) (fun c4 => ?_) (fun c4 => ?_)
  · replace h := h.1 c4
    refine r_aload_n (pc := 29) (i := 0) dX5_place_29 rfl rfl ?_
    refine r_getr (pc := 30) flX5_12 dX5_place_30 rfl k1 hb2 ?_
    refine r_geti (pc := 33) flX5_117 dX5_place_33 (Or.inl rfl) k3 ?_
    exact r_iret (pc := 36) dX5_place_36 rfl h
  · replace h := h.2 c4
    refine r_aload_n (pc := 14) (i := 0) dX5_place_14 rfl rfl ?_
    refine r_getr (pc := 15) flX5_12 dX5_place_15 rfl k1 hb2 ?_
    obtain ⟨b5, hb5, h⟩ := h
    refine r_getr (pc := 18) flX5_86 dX5_place_18 rfl k3 hb5 ?_
    refine r_aload_n (pc := 21) (i := 0) dX5_place_21 rfl rfl ?_
    refine r_geti (pc := 22) flX5_37 dX5_place_22 (Or.inl rfl) k1 ?_
    obtain ⟨k6, h⟩ := h
    obtain ⟨i7, h⟩ := h
    refine r_iald (pc := 25) dX5_place_25 k6 i7 ?_
    refine r_goto (pc := 26) (tgt := 36) dX5_place_26 (by decide) ?_
    exact r_iret (pc := 36) dX5_place_36 rfl h
theorem eX5_worth {G : GG} {d rc rs : Nat} (o : Nat)  {M : Mem} {Q : Option Value → Mem → Prop} (h : (x_h M o).1 = 21 ∧ (∃ b2, x_r M o 0 = some b2 ∧ (x_h M b2).1 = 25 ∧ ((x_i M b2 5) ≤ (x_i M o 5) → Q (some (.int 0)) M) ∧ (¬ (x_i M b2 5) ≤ (x_i M o 5) → ∃ b5, x_r M b2 2 = some b5 ∧ (x_h M b5).1 = 1 ∧ vp_in (x_i M o 5) (x_h M b5).2 ∧ Q (some (.int (x_i M b5 (x_i M o 5).toNatClampNeg))) M))) : Call G (d + 1) rc rs mX5_worth [.ref o] M Q := by
  refine call_of (by decide) (Nat.le_of_ble_eq_true rfl) ?_
  show Wk G (d + 1) rc rs mX5_worth 0 [some (.ref o)] [] M Q
  refine r_aload_n (pc := 0) (i := 0) dX5_worth_0 rfl rfl ?_
  obtain ⟨k1, h⟩ := h
  refine r_geti (pc := 1) flX5_37 dX5_worth_1 (Or.inl rfl) k1 ?_
  refine r_aload_n (pc := 4) (i := 0) dX5_worth_4 rfl rfl ?_
  obtain ⟨b2, hb2, h⟩ := h
  refine r_getr (pc := 5) flX5_12 dX5_worth_5 rfl k1 hb2 ?_
  obtain ⟨k3, h⟩ := h
  refine r_geti (pc := 8) flX5_111 dX5_worth_8 (Or.inl rfl) k3 ?_
  refine r_icmp_ge (pc := 11) (tgt := 29) dX5_worth_11 (by decide) (fun c4 => ?_) (fun c4 => ?_)
  · replace h := h.1 c4
    refine r_iconst (pc := 29) (v := 0) dX5_worth_29 (by decide) ?_
    exact r_iret (pc := 30) dX5_worth_30 rfl h
  · replace h := h.2 c4
    refine r_aload_n (pc := 14) (i := 0) dX5_worth_14 rfl rfl ?_
    refine r_getr (pc := 15) flX5_12 dX5_worth_15 rfl k1 hb2 ?_
    obtain ⟨b5, hb5, h⟩ := h
    refine r_getr (pc := 18) flX5_120 dX5_worth_18 rfl k3 hb5 ?_
    refine r_aload_n (pc := 21) (i := 0) dX5_worth_21 rfl rfl ?_
    refine r_geti (pc := 22) flX5_37 dX5_worth_22 (Or.inl rfl) k1 ?_
    obtain ⟨k6, h⟩ := h
    obtain ⟨i7, h⟩ := h
    refine r_iald (pc := 25) dX5_worth_25 k6 i7 ?_
    refine r_goto (pc := 26) (tgt := 30) dX5_worth_26 (by decide) ?_
    exact r_iret (pc := 30) dX5_worth_30 rfl h
theorem eX5_eat {G : GG} {d rc rs : Nat} (o : Nat) (a1 : Int32)  {M : Mem} {Q : Option Value → Mem → Prop} (h : (x_h M o).1 = 21 ∧ Call G d 0 0 mX5_peek [.ref o] M (fun r2 M3 => ∃ v4 : Int32, r2 = some (.int v4) ∧ (v4 = a1 → (x_h M3 o).1 = 21 ∧ (∀ M7, M7 = x_si M3 o 5 ((x_i M3 o 5) + 1) → Q (some (.int 1)) M7)) ∧ (¬ v4 = a1 → (x_h M3 o).1 = 21 ∧ Call G d 0 0 mX5_fail [.ref o] M3 (fun r9 M10 => ∃ v11 : Int32, r9 = some (.int v11) ∧ Q (some (.int 0)) M10)))) : Call G (d + 1) rc rs mX5_eat [.ref o, .int a1] M Q := by
  refine call_of (by decide) (Nat.le_of_ble_eq_true rfl) ?_
  show Wk G (d + 1) rc rs mX5_eat 0 [some (.ref o), some (.int a1)] [] M Q
  refine r_aload_n (pc := 0) (i := 0) dX5_eat_0 rfl rfl ?_
  obtain ⟨k1, h⟩ := h
  refine r_callV (pc := 1) (ci := 5) (as := []) (st := []) okX5_peek lkX5_67 inX5_peek seX5_peek ⟨_, rfl, rfl⟩ dX5_eat_1 rfl k1 (Nat.le_of_ble_eq_true rfl) (Nat.zero_le _) (Nat.zero_le _) (Call.mono h (fun r2 M3 h => ?_))
  obtain ⟨v4, rfl, h⟩ := h
  refine r_iload_n (pc := 4) (i := 1) dX5_eat_4 rfl rfl ?_
  refine r_icmp_eq (pc := 5) (tgt := 15) dX5_eat_5 (by decide) (fun c5 => ?_) (fun c5 => ?_)
  · replace h := h.1 c5
    refine r_aload_n (pc := 15) (i := 0) dX5_eat_15 rfl rfl ?_
    refine r_dup (pc := 16) dX5_eat_16 rfl ?_
    obtain ⟨k6, h⟩ := h
    refine r_geti (pc := 17) flX5_37 dX5_eat_17 (Or.inl rfl) k6 ?_
    refine r_iconst (pc := 20) (v := 1) dX5_eat_20 (by decide) ?_
    refine r_iadd (pc := 21) dX5_eat_21 ?_
    refine r_puti (pc := 22) flX5_37 dX5_eat_22 (Or.inl rfl) (fun q hq => by cases hq; rfl) k6 ?_
    replace h := h _ rfl
    refine r_iconst (pc := 25) (v := 1) dX5_eat_25 (by decide) ?_
    exact r_zret (pc := 26) dX5_eat_26 rfl (Or.inr rfl) h
  · replace h := h.2 c5
    refine r_aload_n (pc := 8) (i := 0) dX5_eat_8 rfl rfl ?_
    obtain ⟨k8, h⟩ := h
    refine r_callV (pc := 9) (ci := 5) (as := []) (st := []) okX5_fail lkX5_71 inX5_fail seX5_fail ⟨_, rfl, rfl⟩ dX5_eat_9 rfl k8 (Nat.le_of_ble_eq_true rfl) (Nat.zero_le _) (Nat.zero_le _) (Call.mono h (fun r9 M10 h => ?_))
    obtain ⟨v11, rfl, h⟩ := h
    refine r_pop (pc := 12) dX5_eat_12 rfl ?_
    refine r_iconst (pc := 13) (v := 0) dX5_eat_13 (by decide) ?_
    exact r_zret (pc := 14) dX5_eat_14 rfl (Or.inl rfl) h
theorem eX5_fail {G : GG} {d rc rs : Nat} (o : Nat)  {M : Mem} {Q : Option Value → Mem → Prop} (h : (x_h M o).1 = 21 ∧ (¬ (x_i M o 6) = (-1) → Q (some (.int (-1))) M) ∧ ((x_i M o 6) = (-1) → Call G d 0 0 mJ9_min_7cf53 [.int (x_i M o 5), .int 120] M (fun r3 M4 => ∃ v5 : Int32, r3 = some (.int v5) ∧ (x_h M4 o).1 = 21 ∧ (∀ M7, M7 = x_si M4 o 6 v5 → Q (some (.int (-1))) M7)))) : Call G (d + 1) rc rs mX5_fail [.ref o] M Q := by
  refine call_of (by decide) (Nat.le_of_ble_eq_true rfl) ?_
  show Wk G (d + 1) rc rs mX5_fail 0 [some (.ref o)] [] M Q
  refine r_aload_n (pc := 0) (i := 0) dX5_fail_0 rfl rfl ?_
  obtain ⟨k1, h⟩ := h
  refine r_geti (pc := 1) flX5_40 dX5_fail_1 (Or.inl rfl) k1 ?_
  refine r_iconst (pc := 4) (v := (-1)) dX5_fail_4 (by decide) ?_
  refine r_icmp_ne (pc := 5) (tgt := 21) dX5_fail_5 (by decide) (fun c2 => ?_) (fun c2 => ?_)
  · replace h := h.1 c2
    refine r_iconst (pc := 21) (v := (-1)) dX5_fail_21 (by decide) ?_
    exact r_iret (pc := 22) dX5_fail_22 rfl h
  · replace h := h.2 c2
    refine r_aload_n (pc := 8) (i := 0) dX5_fail_8 rfl rfl ?_
    refine r_aload_n (pc := 9) (i := 0) dX5_fail_9 rfl rfl ?_
    refine r_geti (pc := 10) flX5_37 dX5_fail_10 (Or.inl rfl) k1 ?_
    refine r_bipush (pc := 13) (v := 120) dX5_fail_13 (by decide) ?_
    refine r_callS (pc := 15) (as := [_, _]) (st := [_]) okJ9_min_7cf53 lkX5_57 stJ9_min_7cf53 dX5_fail_15 rfl (Nat.le_of_ble_eq_true rfl) (Nat.zero_le _) (Nat.zero_le _) (Call.mono h (fun r3 M4 h => ?_))
    obtain ⟨v5, rfl, h⟩ := h
    obtain ⟨k6, h⟩ := h
    refine r_puti (pc := 18) flX5_40 dX5_fail_18 (Or.inl rfl) (fun q hq => by cases hq; rfl) k6 ?_
    replace h := h _ rfl
    refine r_iconst (pc := 21) (v := (-1)) dX5_fail_21 (by decide) ?_
    exact r_iret (pc := 22) dX5_fail_22 rfl h
theorem eX5_blame {G : GG} {d rc rs : Nat} (o : Nat) (a1 : Int32)  {M : Mem} {Q : Option Value → Mem → Prop} (h : (x_h M o).1 = 21 ∧ ((x_i M o 7) = (-1) → ∀ M3, M3 = x_si M o 7 a1 → Q none M3) ∧ (¬ (x_i M o 7) = (-1) → ((x_i M o 7) ≤ a1 → Q none M) ∧ (¬ (x_i M o 7) ≤ a1 → ∀ M5, M5 = x_si M o 7 a1 → Q none M5))) : Call G (d + 1) rc rs mX5_blame [.ref o, .int a1] M Q := by
  refine call_of (by decide) (Nat.le_of_ble_eq_true rfl) ?_
  show Wk G (d + 1) rc rs mX5_blame 0 [some (.ref o), some (.int a1)] [] M Q
  refine r_aload_n (pc := 0) (i := 0) dX5_blame_0 rfl rfl ?_
  obtain ⟨k1, h⟩ := h
  refine r_geti (pc := 1) flX5_43 dX5_blame_1 (Or.inl rfl) k1 ?_
  refine r_iconst (pc := 4) (v := (-1)) dX5_blame_4 (by decide) ?_
  refine r_icmp_eq (pc := 5) (tgt := 16) dX5_blame_5 (by decide) (fun c2 => ?_) (fun c2 => ?_)
  · replace h := h.1 c2
    refine r_aload_n (pc := 16) (i := 0) dX5_blame_16 rfl rfl ?_
    refine r_iload_n (pc := 17) (i := 1) dX5_blame_17 rfl rfl ?_
    refine r_puti (pc := 18) flX5_43 dX5_blame_18 (Or.inl rfl) (fun q hq => by cases hq; rfl) k1 ?_
    replace h := h _ rfl
    exact r_vret (pc := 21) dX5_blame_21 rfl h
  · replace h := h.2 c2
    refine r_iload_n (pc := 8) (i := 1) dX5_blame_8 rfl rfl ?_
    refine r_aload_n (pc := 9) (i := 0) dX5_blame_9 rfl rfl ?_
    refine r_geti (pc := 10) flX5_43 dX5_blame_10 (Or.inl rfl) k1 ?_
    refine r_icmp_ge (pc := 13) (tgt := 21) dX5_blame_13 (by decide) (fun c4 => ?_) (fun c4 => ?_)
    · replace h := h.1 c4
      exact r_vret (pc := 21) dX5_blame_21 rfl h
    · replace h := h.2 c4
      refine r_aload_n (pc := 16) (i := 0) dX5_blame_16 rfl rfl ?_
      refine r_iload_n (pc := 17) (i := 1) dX5_blame_17 rfl rfl ?_
      refine r_puti (pc := 18) flX5_43 dX5_blame_18 (Or.inl rfl) (fun q hq => by cases hq; rfl) k1 ?_
      replace h := h _ rfl
      exact r_vret (pc := 21) dX5_blame_21 rfl h
abbrev LX5_formula_44 (G : GG) (d rc rs : Nat) (p0 : Nat) (x1 : Int32) (x2 : Int32) (x3 : Int32) (u0 : Int32) (M : Mem) (Q : Option Value → Mem → Prop) : Prop := Wk G (d + 1) rc rs mX5_formula 44 [some (.ref p0), some (.int x1), some (.int x2), some (.int x3), none, none, none, none, none, none] [.int u0] M Q
abbrev LX5_formula_80 (G : GG) (d rc rs : Nat) (p0 : Nat) (x1 : Int32) (x2 : Int32) (x3 : Int32) (x4 : Int32) (x5 : Int32) (x6 : Int32) (x7 : Int32) (z8 : Option Value) (z9 : Option Value) (M : Mem) (Q : Option Value → Mem → Prop) : Prop := Wk G (d + 1) rc rs mX5_formula 80 [some (.ref p0), some (.int x1), some (.int x2), some (.int x3), some (.int x4), some (.int x5), some (.int x6), some (.int x7), z8, z9] [] M Q
theorem eX5_formula {G : GG} {d rc rs : Nat} (o : Nat) (a1 : Int32) (a2 : Int32) (a3 : Int32)  {M : Mem} {Q : Option Value → Mem → Prop} (h : (a1 ≤ 2 → (a3 ≤ 40 → (¬ a1 = 0 → (¬ a1 = 1 → LX5_formula_44 G d rc rs o a1 a2 a3 8 M Q) ∧ (a1 = 1 → LX5_formula_44 G d rc rs o a1 a2 a3 9 M Q)) ∧ (a1 = 0 → LX5_formula_44 G d rc rs o a1 a2 a3 10 M Q)) ∧ (¬ a3 ≤ 40 → (x_h M o).1 = 21 ∧ Call G d 0 0 mX5_fail [.ref o] M (fun r6 M7 => ∃ v8 : Int32, r6 = some (.int v8) ∧ Q (some (.int v8)) M7))) ∧ (¬ a1 ≤ 2 → (x_h M o).1 = 21 ∧ Call G d 0 0 mX5_piece [.ref o, .int a2, .int a3] M (fun r10 M11 => ∃ v12 : Int32, r10 = some (.int v12) ∧ Q (some (.int v12)) M11))) : Call G (d + 1) rc rs mX5_formula [.ref o, .int a1, .int a2, .int a3] M Q := by
  refine call_of (by decide) (Nat.le_of_ble_eq_true rfl) ?_
  show Wk G (d + 1) rc rs mX5_formula 0 [some (.ref o), some (.int a1), some (.int a2), some (.int a3), none, none, none, none, none, none] [] M Q
  refine r_iload_n (pc := 0) (i := 1) dX5_formula_0 rfl rfl ?_
  refine r_iconst (pc := 1) (v := 2) dX5_formula_1 (by decide) ?_
  refine r_icmp_le (pc := 2) (tgt := 12) dX5_formula_2 (by decide) (fun c1 => ?_) (fun c1 => ?_)
  · replace h := h.1 c1
    refine r_iload_n (pc := 12) (i := 3) dX5_formula_12 rfl rfl ?_
    refine r_bipush (pc := 13) (v := 40) dX5_formula_13 (by decide) ?_
    refine r_icmp_le (pc := 15) (tgt := 23) dX5_formula_15 (by decide) (fun c2 => ?_) (fun c2 => ?_)
    · replace h := h.1 c2
      refine r_iload_n (pc := 23) (i := 1) dX5_formula_23 rfl rfl ?_
      refine r_if_ne (pc := 24) (tgt := 32) dX5_formula_24 (by decide) (fun c3 => ?_) (fun c3 => ?_)
      · replace h := h.1 c3
        refine r_iload_n (pc := 32) (i := 1) dX5_formula_32 rfl rfl ?_
        refine r_iconst (pc := 33) (v := 1) dX5_formula_33 (by decide) ?_
        refine r_icmp_ne (pc := 34) (tgt := 42) dX5_formula_34 (by decide) (fun c4 => ?_) (fun c4 => ?_)
        · replace h := h.1 c4
          refine r_bipush (pc := 42) (v := 8) dX5_formula_42 (by decide) ?_
          exact h
        · replace h := h.2 c4
          refine r_bipush (pc := 37) (v := 9) dX5_formula_37 (by decide) ?_
          refine r_goto (pc := 39) (tgt := 44) dX5_formula_39 (by decide) ?_
          exact h
      · replace h := h.2 c3
        refine r_bipush (pc := 27) (v := 10) dX5_formula_27 (by decide) ?_
        refine r_goto (pc := 29) (tgt := 44) dX5_formula_29 (by decide) ?_
        exact h
    · replace h := h.2 c2
      refine r_aload_n (pc := 18) (i := 0) dX5_formula_18 rfl rfl ?_
      obtain ⟨k5, h⟩ := h
      refine r_callV (pc := 19) (ci := 5) (as := []) (st := []) okX5_fail lkX5_71 inX5_fail seX5_fail ⟨_, rfl, rfl⟩ dX5_formula_19 rfl k5 (Nat.le_of_ble_eq_true rfl) (Nat.zero_le _) (Nat.zero_le _) (Call.mono h (fun r6 M7 h => ?_))
      obtain ⟨v8, rfl, h⟩ := h
      exact r_iret (pc := 22) dX5_formula_22 rfl h
  · replace h := h.2 c1
    refine r_aload_n (pc := 5) (i := 0) dX5_formula_5 rfl rfl ?_
    refine r_iload_n (pc := 6) (i := 2) dX5_formula_6 rfl rfl ?_
    refine r_iload_n (pc := 7) (i := 3) dX5_formula_7 rfl rfl ?_
    obtain ⟨k9, h⟩ := h
    refine r_callV (pc := 8) (ci := 5) (as := [_, _]) (st := []) okX5_piece lkX5_123 inX5_piece seX5_piece ⟨_, rfl, rfl⟩ dX5_formula_8 rfl k9 (Nat.le_of_ble_eq_true rfl) (Nat.zero_le _) (Nat.zero_le _) (Call.mono h (fun r10 M11 h => ?_))
    obtain ⟨v12, rfl, h⟩ := h
    exact r_iret (pc := 11) dX5_formula_11 rfl h
theorem vX5_formula_44 {G : GG} {d rc rs : Nat} (p0 : Nat) (x1 : Int32) (x2 : Int32) (x3 : Int32) (u0 : Int32)  {M : Mem} {Q : Option Value → Mem → Prop} (h : (¬ x1 = 0 → (¬ x1 = 1 → (x_h M p0).1 = 21 ∧ Call G d 0 0 mX5_formula [.ref p0, .int (x1 + 1), .int x2, .int x3] M (fun r4 M5 => ∃ v6 : Int32, r4 = some (.int v6) ∧ LX5_formula_80 G d rc rs p0 x1 x2 x3 u0 3 v6 0 none none M5 Q)) ∧ (x1 = 1 → (x_h M p0).1 = 21 ∧ Call G d 0 0 mX5_formula [.ref p0, .int (x1 + 1), .int x2, .int x3] M (fun r8 M9 => ∃ v10 : Int32, r8 = some (.int v10) ∧ LX5_formula_80 G d rc rs p0 x1 x2 x3 u0 4 v10 0 none none M9 Q))) ∧ (x1 = 0 → (x_h M p0).1 = 21 ∧ Call G d 0 0 mX5_formula [.ref p0, .int (x1 + 1), .int x2, .int x3] M (fun r12 M13 => ∃ v14 : Int32, r12 = some (.int v14) ∧ LX5_formula_80 G d rc rs p0 x1 x2 x3 u0 5 v14 0 none none M13 Q))) : LX5_formula_44 G d rc rs p0 x1 x2 x3 u0 M Q := by
  show Wk G (d + 1) rc rs mX5_formula 44 _ _ M Q
  refine r_istore (pc := 44) (i := 4) dX5_formula_44 rfl (Nat.le_of_ble_eq_true rfl) ?_
  refine r_iload_n (pc := 46) (i := 1) dX5_formula_46 rfl rfl ?_
  refine r_if_ne (pc := 47) (tgt := 54) dX5_formula_47 (by decide) (fun c1 => ?_) (fun c1 => ?_)
  · replace h := h.1 c1
    refine r_iload_n (pc := 54) (i := 1) dX5_formula_54 rfl rfl ?_
    refine r_iconst (pc := 55) (v := 1) dX5_formula_55 (by decide) ?_
    refine r_icmp_ne (pc := 56) (tgt := 63) dX5_formula_56 (by decide) (fun c2 => ?_) (fun c2 => ?_)
    · replace h := h.1 c2
      refine r_iconst (pc := 63) (v := 3) dX5_formula_63 (by decide) ?_
      refine r_istore (pc := 64) (i := 5) dX5_formula_64 rfl (Nat.le_of_ble_eq_true rfl) ?_
      refine r_aload_n (pc := 66) (i := 0) dX5_formula_66 rfl rfl ?_
      refine r_iload_n (pc := 67) (i := 1) dX5_formula_67 rfl rfl ?_
      refine r_iconst (pc := 68) (v := 1) dX5_formula_68 (by decide) ?_
      refine r_iadd (pc := 69) dX5_formula_69 ?_
      refine r_iload_n (pc := 70) (i := 2) dX5_formula_70 rfl rfl ?_
      refine r_iload_n (pc := 71) (i := 3) dX5_formula_71 rfl rfl ?_
      obtain ⟨k3, h⟩ := h
      refine r_callV (pc := 72) (ci := 5) (as := [_, _, _]) (st := []) okX5_formula lkX5_63 inX5_formula seX5_formula ⟨_, rfl, rfl⟩ dX5_formula_72 rfl k3 (Nat.le_of_ble_eq_true rfl) (Nat.zero_le _) (Nat.zero_le _) (Call.mono h (fun r4 M5 h => ?_))
      obtain ⟨v6, rfl, h⟩ := h
      refine r_istore (pc := 75) (i := 6) dX5_formula_75 rfl (Nat.le_of_ble_eq_true rfl) ?_
      refine r_iconst (pc := 77) (v := 0) dX5_formula_77 (by decide) ?_
      refine r_istore (pc := 78) (i := 7) dX5_formula_78 rfl (Nat.le_of_ble_eq_true rfl) ?_
      exact h
    · replace h := h.2 c2
      refine r_iconst (pc := 59) (v := 4) dX5_formula_59 (by decide) ?_
      refine r_goto (pc := 60) (tgt := 64) dX5_formula_60 (by decide) ?_
      refine r_istore (pc := 64) (i := 5) dX5_formula_64 rfl (Nat.le_of_ble_eq_true rfl) ?_
      refine r_aload_n (pc := 66) (i := 0) dX5_formula_66 rfl rfl ?_
      refine r_iload_n (pc := 67) (i := 1) dX5_formula_67 rfl rfl ?_
      refine r_iconst (pc := 68) (v := 1) dX5_formula_68 (by decide) ?_
      refine r_iadd (pc := 69) dX5_formula_69 ?_
      refine r_iload_n (pc := 70) (i := 2) dX5_formula_70 rfl rfl ?_
      refine r_iload_n (pc := 71) (i := 3) dX5_formula_71 rfl rfl ?_
      obtain ⟨k7, h⟩ := h
      refine r_callV (pc := 72) (ci := 5) (as := [_, _, _]) (st := []) okX5_formula lkX5_63 inX5_formula seX5_formula ⟨_, rfl, rfl⟩ dX5_formula_72 rfl k7 (Nat.le_of_ble_eq_true rfl) (Nat.zero_le _) (Nat.zero_le _) (Call.mono h (fun r8 M9 h => ?_))
      obtain ⟨v10, rfl, h⟩ := h
      refine r_istore (pc := 75) (i := 6) dX5_formula_75 rfl (Nat.le_of_ble_eq_true rfl) ?_
      refine r_iconst (pc := 77) (v := 0) dX5_formula_77 (by decide) ?_
      refine r_istore (pc := 78) (i := 7) dX5_formula_78 rfl (Nat.le_of_ble_eq_true rfl) ?_
      exact h
  · replace h := h.2 c1
    refine r_iconst (pc := 50) (v := 5) dX5_formula_50 (by decide) ?_
    refine r_goto (pc := 51) (tgt := 64) dX5_formula_51 (by decide) ?_
    refine r_istore (pc := 64) (i := 5) dX5_formula_64 rfl (Nat.le_of_ble_eq_true rfl) ?_
    refine r_aload_n (pc := 66) (i := 0) dX5_formula_66 rfl rfl ?_
    refine r_iload_n (pc := 67) (i := 1) dX5_formula_67 rfl rfl ?_
    refine r_iconst (pc := 68) (v := 1) dX5_formula_68 (by decide) ?_
    refine r_iadd (pc := 69) dX5_formula_69 ?_
    refine r_iload_n (pc := 70) (i := 2) dX5_formula_70 rfl rfl ?_
    refine r_iload_n (pc := 71) (i := 3) dX5_formula_71 rfl rfl ?_
    obtain ⟨k11, h⟩ := h
    refine r_callV (pc := 72) (ci := 5) (as := [_, _, _]) (st := []) okX5_formula lkX5_63 inX5_formula seX5_formula ⟨_, rfl, rfl⟩ dX5_formula_72 rfl k11 (Nat.le_of_ble_eq_true rfl) (Nat.zero_le _) (Nat.zero_le _) (Call.mono h (fun r12 M13 h => ?_))
    obtain ⟨v14, rfl, h⟩ := h
    refine r_istore (pc := 75) (i := 6) dX5_formula_75 rfl (Nat.le_of_ble_eq_true rfl) ?_
    refine r_iconst (pc := 77) (v := 0) dX5_formula_77 (by decide) ?_
    refine r_istore (pc := 78) (i := 7) dX5_formula_78 rfl (Nat.le_of_ble_eq_true rfl) ?_
    exact h
theorem vX5_formula_80 {G : GG} {d rc rs : Nat} (p0 : Nat) (x1 : Int32) (x2 : Int32) (x3 : Int32) (x4 : Int32) (x5 : Int32) (x6 : Int32) (x7 : Int32) (z8 : Option Value) (z9 : Option Value) (hz8 : c1 z8 = true) (hz9 : c1 z9 = true) {M : Mem} {Q : Option Value → Mem → Prop} (h : (120 ≤ x7 → Q (some (.int x6)) M) ∧ (¬ 120 ≤ x7 → (x6 < 0 → Q (some (.int x6)) M) ∧ (¬ x6 < 0 → (x_h M p0).1 = 21 ∧ Call G d 0 0 mX5_peek [.ref p0] M (fun r4 M5 => ∃ v6 : Int32, r4 = some (.int v6) ∧ (¬ v6 = x4 → Q (some (.int x6)) M5) ∧ (v6 = x4 → (x_h M5 p0).1 = 21 ∧ Call G d 0 0 mX5_place [.ref p0] M5 (fun r9 M10 => ∃ v11 : Int32, r9 = some (.int v11) ∧ (x_h M10 p0).1 = 21 ∧ (∀ M13, M13 = x_si M10 p0 5 ((x_i M10 p0 5) + 1) → (¬ x1 = 0 → Call G d 0 0 mX5_formula [.ref p0, .int (x1 + 1), .int x2, .int x3] M13 (fun r15 M16 => ∃ v17 : Int32, r15 = some (.int v17) ∧ (0 ≤ v17 → (x_h M16 p0).1 = 21 ∧ Call G d 0 0 mX5_join [.ref p0, .int x5, .int v11, .int x6, .int v17] M16 (fun r20 M21 => ∃ v22 : Int32, r20 = some (.int v22) ∧ LX5_formula_80 G d rc rs p0 x1 x2 x3 x4 x5 v22 (x7 + 1) (some (.int v11)) (some (.int v17)) M21 Q)) ∧ (¬ 0 ≤ v17 → LX5_formula_80 G d rc rs p0 x1 x2 x3 x4 x5 (-1) (x7 + 1) (some (.int v11)) (some (.int v17)) M16 Q))) ∧ (x1 = 0 → Call G d 0 0 mX5_formula [.ref p0, .int 0, .int x2, .int (x3 + 1)] M13 (fun r23 M24 => ∃ v25 : Int32, r23 = some (.int v25) ∧ (0 ≤ v25 → (x_h M24 p0).1 = 21 ∧ Call G d 0 0 mX5_join [.ref p0, .int x5, .int v11, .int x6, .int v25] M24 (fun r28 M29 => ∃ v30 : Int32, r28 = some (.int v30) ∧ LX5_formula_80 G d rc rs p0 x1 x2 x3 x4 x5 v30 (x7 + 1) (some (.int v11)) (some (.int v25)) M29 Q)) ∧ (¬ 0 ≤ v25 → LX5_formula_80 G d rc rs p0 x1 x2 x3 x4 x5 (-1) (x7 + 1) (some (.int v11)) (some (.int v25)) M24 Q)))))))))) : LX5_formula_80 G d rc rs p0 x1 x2 x3 x4 x5 x6 x7 z8 z9 M Q := by
  show Wk G (d + 1) rc rs mX5_formula 80 _ _ M Q
  refine r_iload (pc := 80) (i := 7) dX5_formula_80 rfl ?_
  refine r_bipush (pc := 82) (v := 120) dX5_formula_82 (by decide) ?_
  refine r_icmp_ge (pc := 84) (tgt := 173) dX5_formula_84 (by decide) (fun c1 => ?_) (fun c1 => ?_)
  · replace h := h.1 c1
    refine r_iload (pc := 173) (i := 6) dX5_formula_173 rfl ?_
    exact r_iret (pc := 175) dX5_formula_175 rfl h
  · replace h := h.2 c1
    refine r_iload (pc := 87) (i := 6) dX5_formula_87 rfl ?_
    refine r_if_lt (pc := 89) (tgt := 173) dX5_formula_89 (by decide) (fun c2 => ?_) (fun c2 => ?_)
    · replace h := h.1 c2
      refine r_iload (pc := 173) (i := 6) dX5_formula_173 rfl ?_
      exact r_iret (pc := 175) dX5_formula_175 rfl h
    · replace h := h.2 c2
      refine r_aload_n (pc := 92) (i := 0) dX5_formula_92 rfl rfl ?_
      obtain ⟨k3, h⟩ := h
      refine r_callV (pc := 93) (ci := 5) (as := []) (st := []) okX5_peek lkX5_67 inX5_peek seX5_peek ⟨_, rfl, rfl⟩ dX5_formula_93 rfl k3 (Nat.le_of_ble_eq_true rfl) (Nat.zero_le _) (Nat.zero_le _) (Call.mono h (fun r4 M5 h => ?_))
      obtain ⟨v6, rfl, h⟩ := h
      refine r_iload (pc := 96) (i := 4) dX5_formula_96 rfl ?_
      refine r_icmp_ne (pc := 98) (tgt := 173) dX5_formula_98 (by decide) (fun c7 => ?_) (fun c7 => ?_)
      · replace h := h.1 c7
        refine r_iload (pc := 173) (i := 6) dX5_formula_173 rfl ?_
        exact r_iret (pc := 175) dX5_formula_175 rfl h
      · replace h := h.2 c7
        refine r_aload_n (pc := 101) (i := 0) dX5_formula_101 rfl rfl ?_
        obtain ⟨k8, h⟩ := h
        refine r_callV (pc := 102) (ci := 5) (as := []) (st := []) okX5_place lkX5_126 inX5_place seX5_place ⟨_, rfl, rfl⟩ dX5_formula_102 rfl k8 (Nat.le_of_ble_eq_true rfl) (Nat.zero_le _) (Nat.zero_le _) (Call.mono h (fun r9 M10 h => ?_))
        obtain ⟨v11, rfl, h⟩ := h
        refine r_istore (pc := 105) (i := 8) dX5_formula_105 rfl (Nat.le_of_ble_eq_true rfl) ?_
        refine r_aload_n (pc := 107) (i := 0) dX5_formula_107 rfl rfl ?_
        refine r_dup (pc := 108) dX5_formula_108 rfl ?_
        obtain ⟨k12, h⟩ := h
        refine r_geti (pc := 109) flX5_37 dX5_formula_109 (Or.inl rfl) k12 ?_
        refine r_iconst (pc := 112) (v := 1) dX5_formula_112 (by decide) ?_
        refine r_iadd (pc := 113) dX5_formula_113 ?_
        refine r_puti (pc := 114) flX5_37 dX5_formula_114 (Or.inl rfl) (fun q hq => by cases hq; rfl) k12 ?_
        replace h := h _ rfl
        refine r_iload_n (pc := 117) (i := 1) dX5_formula_117 rfl rfl ?_
        refine r_if_ne (pc := 118) (tgt := 133) dX5_formula_118 (by decide) (fun c14 => ?_) (fun c14 => ?_)
        · replace h := h.1 c14
          refine r_aload_n (pc := 133) (i := 0) dX5_formula_133 rfl rfl ?_
          refine r_iload_n (pc := 134) (i := 1) dX5_formula_134 rfl rfl ?_
          refine r_iconst (pc := 135) (v := 1) dX5_formula_135 (by decide) ?_
          refine r_iadd (pc := 136) dX5_formula_136 ?_
          refine r_iload_n (pc := 137) (i := 2) dX5_formula_137 rfl rfl ?_
          refine r_iload_n (pc := 138) (i := 3) dX5_formula_138 rfl rfl ?_
          refine r_callV (pc := 139) (ci := 5) (as := [_, _, _]) (st := []) okX5_formula lkX5_63 inX5_formula seX5_formula ⟨_, rfl, rfl⟩ dX5_formula_139 rfl k12 (Nat.le_of_ble_eq_true rfl) (Nat.zero_le _) (Nat.zero_le _) (Call.mono h (fun r15 M16 h => ?_))
          obtain ⟨v17, rfl, h⟩ := h
          refine r_istore (pc := 142) (i := 9) dX5_formula_142 rfl (Nat.le_of_ble_eq_true rfl) ?_
          refine r_iload (pc := 144) (i := 9) dX5_formula_144 rfl ?_
          refine r_if_ge (pc := 146) (tgt := 153) dX5_formula_146 (by decide) (fun c18 => ?_) (fun c18 => ?_)
          · replace h := h.1 c18
            refine r_aload_n (pc := 153) (i := 0) dX5_formula_153 rfl rfl ?_
            refine r_iload (pc := 154) (i := 5) dX5_formula_154 rfl ?_
            refine r_iload (pc := 156) (i := 8) dX5_formula_156 rfl ?_
            refine r_iload (pc := 158) (i := 6) dX5_formula_158 rfl ?_
            refine r_iload (pc := 160) (i := 9) dX5_formula_160 rfl ?_
            obtain ⟨k19, h⟩ := h
            refine r_callV (pc := 162) (ci := 5) (as := [_, _, _, _]) (st := []) okX5_join lkX5_128 inX5_join seX5_join ⟨_, rfl, rfl⟩ dX5_formula_162 rfl k19 (Nat.le_of_ble_eq_true rfl) (Nat.zero_le _) (Nat.zero_le _) (Call.mono h (fun r20 M21 h => ?_))
            obtain ⟨v22, rfl, h⟩ := h
            refine r_istore (pc := 165) (i := 6) dX5_formula_165 rfl (Nat.le_of_ble_eq_true rfl) ?_
            refine r_iinc (pc := 167) (i := 7) (v := _ + 1) dX5_formula_167 rfl rfl rfl ?_
            refine r_goto (pc := 170) (tgt := 80) dX5_formula_170 (by decide) ?_
            exact h
          · replace h := h.2 c18
            refine r_iconst (pc := 149) (v := (-1)) dX5_formula_149 (by decide) ?_
            refine r_goto (pc := 150) (tgt := 165) dX5_formula_150 (by decide) ?_
            refine r_istore (pc := 165) (i := 6) dX5_formula_165 rfl (Nat.le_of_ble_eq_true rfl) ?_
            refine r_iinc (pc := 167) (i := 7) (v := _ + 1) dX5_formula_167 rfl rfl rfl ?_
            refine r_goto (pc := 170) (tgt := 80) dX5_formula_170 (by decide) ?_
            exact h
        · replace h := h.2 c14
          refine r_aload_n (pc := 121) (i := 0) dX5_formula_121 rfl rfl ?_
          refine r_iconst (pc := 122) (v := 0) dX5_formula_122 (by decide) ?_
          refine r_iload_n (pc := 123) (i := 2) dX5_formula_123 rfl rfl ?_
          refine r_iload_n (pc := 124) (i := 3) dX5_formula_124 rfl rfl ?_
          refine r_iconst (pc := 125) (v := 1) dX5_formula_125 (by decide) ?_
          refine r_iadd (pc := 126) dX5_formula_126 ?_
          refine r_callV (pc := 127) (ci := 5) (as := [_, _, _]) (st := []) okX5_formula lkX5_63 inX5_formula seX5_formula ⟨_, rfl, rfl⟩ dX5_formula_127 rfl k12 (Nat.le_of_ble_eq_true rfl) (Nat.zero_le _) (Nat.zero_le _) (Call.mono h (fun r23 M24 h => ?_))
          obtain ⟨v25, rfl, h⟩ := h
          refine r_goto (pc := 130) (tgt := 142) dX5_formula_130 (by decide) ?_
          refine r_istore (pc := 142) (i := 9) dX5_formula_142 rfl (Nat.le_of_ble_eq_true rfl) ?_
          refine r_iload (pc := 144) (i := 9) dX5_formula_144 rfl ?_
          refine r_if_ge (pc := 146) (tgt := 153) dX5_formula_146 (by decide) (fun c26 => ?_) (fun c26 => ?_)
          · replace h := h.1 c26
            refine r_aload_n (pc := 153) (i := 0) dX5_formula_153 rfl rfl ?_
            refine r_iload (pc := 154) (i := 5) dX5_formula_154 rfl ?_
            refine r_iload (pc := 156) (i := 8) dX5_formula_156 rfl ?_
            refine r_iload (pc := 158) (i := 6) dX5_formula_158 rfl ?_
            refine r_iload (pc := 160) (i := 9) dX5_formula_160 rfl ?_
            obtain ⟨k27, h⟩ := h
            refine r_callV (pc := 162) (ci := 5) (as := [_, _, _, _]) (st := []) okX5_join lkX5_128 inX5_join seX5_join ⟨_, rfl, rfl⟩ dX5_formula_162 rfl k27 (Nat.le_of_ble_eq_true rfl) (Nat.zero_le _) (Nat.zero_le _) (Call.mono h (fun r28 M29 h => ?_))
            obtain ⟨v30, rfl, h⟩ := h
            refine r_istore (pc := 165) (i := 6) dX5_formula_165 rfl (Nat.le_of_ble_eq_true rfl) ?_
            refine r_iinc (pc := 167) (i := 7) (v := _ + 1) dX5_formula_167 rfl rfl rfl ?_
            refine r_goto (pc := 170) (tgt := 80) dX5_formula_170 (by decide) ?_
            exact h
          · replace h := h.2 c26
            refine r_iconst (pc := 149) (v := (-1)) dX5_formula_149 (by decide) ?_
            refine r_goto (pc := 150) (tgt := 165) dX5_formula_150 (by decide) ?_
            refine r_istore (pc := 165) (i := 6) dX5_formula_165 rfl (Nat.le_of_ble_eq_true rfl) ?_
            refine r_iinc (pc := 167) (i := 7) (v := _ + 1) dX5_formula_167 rfl rfl rfl ?_
            refine r_goto (pc := 170) (tgt := 80) dX5_formula_170 (by decide) ?_
            exact h
theorem eX5_piece {G : GG} {d rc rs : Nat} (o : Nat) (a1 : Int32) (a2 : Int32)  {M : Mem} {Q : Option Value → Mem → Prop} (h : (a1 < 10 → (x_h M o).1 = 21 ∧ Call G d 0 0 mX5_peek [.ref o] M (fun r3 M4 => ∃ v5 : Int32, r3 = some (.int v5) ∧ (v5 = 2 → (x_h M4 o).1 = 21 ∧ Call G d 0 0 mX5_sumAtom [.ref o] M4 (fun r8 M9 => ∃ v10 : Int32, r8 = some (.int v10) ∧ Q (some (.int v10)) M9)) ∧ (v5 = 3 → (x_h M4 o).1 = 21 ∧ Call G d 0 0 mX5_sumAtom [.ref o] M4 (fun r13 M14 => ∃ v15 : Int32, r13 = some (.int v15) ∧ Q (some (.int v15)) M14)) ∧ (v5 = 4 → (x_h M4 o).1 = 21 ∧ Call G d 0 0 mX5_rowAtom [.ref o] M4 (fun r18 M19 => ∃ v20 : Int32, r18 = some (.int v20) ∧ Q (some (.int v20)) M19)) ∧ (v5 = 5 → (x_h M4 o).1 = 21 ∧ Call G d 0 0 mX5_bind [.ref o, .int 6, .int a1, .int a2] M4 (fun r23 M24 => ∃ v25 : Int32, r23 = some (.int v25) ∧ Q (some (.int v25)) M24)) ∧ (v5 = 6 → (x_h M4 o).1 = 21 ∧ Call G d 0 0 mX5_bind [.ref o, .int 7, .int a1, .int a2] M4 (fun r28 M29 => ∃ v30 : Int32, r28 = some (.int v30) ∧ Q (some (.int v30)) M29)) ∧ (v5 = 7 → (x_h M4 o).1 = 21 ∧ Call G d 0 0 mX5_contrary [.ref o, .int a1, .int a2] M4 (fun r33 M34 => ∃ v35 : Int32, r33 = some (.int v35) ∧ Q (some (.int v35)) M34)) ∧ (v5 = 8 → (x_h M4 o).1 = 21 ∧ Call G d 0 0 mX5_fail [.ref o] M4 (fun r38 M39 => ∃ v40 : Int32, r38 = some (.int v40) ∧ Q (some (.int v40)) M39)) ∧ (v5 = 9 → (x_h M4 o).1 = 21 ∧ Call G d 0 0 mX5_fail [.ref o] M4 (fun r43 M44 => ∃ v45 : Int32, r43 = some (.int v45) ∧ Q (some (.int v45)) M44)) ∧ (v5 = 10 → (x_h M4 o).1 = 21 ∧ Call G d 0 0 mX5_fail [.ref o] M4 (fun r48 M49 => ∃ v50 : Int32, r48 = some (.int v50) ∧ Q (some (.int v50)) M49)) ∧ (v5 = 11 → (x_h M4 o).1 = 21 ∧ Call G d 0 0 mX5_enclosed [.ref o, .int a1, .int a2] M4 (fun r53 M54 => ∃ v55 : Int32, r53 = some (.int v55) ∧ Q (some (.int v55)) M54)) ∧ (¬ v5 = 2 ∧ ¬ v5 = 3 ∧ ¬ v5 = 4 ∧ ¬ v5 = 5 ∧ ¬ v5 = 6 ∧ ¬ v5 = 7 ∧ ¬ v5 = 8 ∧ ¬ v5 = 9 ∧ ¬ v5 = 10 ∧ ¬ v5 = 11 → (x_h M4 o).1 = 21 ∧ Call G d 0 0 mX5_fail [.ref o] M4 (fun r57 M58 => ∃ v59 : Int32, r57 = some (.int v59) ∧ Q (some (.int v59)) M58)))) ∧ (¬ a1 < 10 → (x_h M o).1 = 21 ∧ Call G d 0 0 mX5_fail [.ref o] M (fun r61 M62 => ∃ v63 : Int32, r61 = some (.int v63) ∧ Q (some (.int v63)) M62))) : Call G (d + 1) rc rs mX5_piece [.ref o, .int a1, .int a2] M Q := by
  refine call_of (by decide) (Nat.le_of_ble_eq_true rfl) ?_
  show Wk G (d + 1) rc rs mX5_piece 0 [some (.ref o), some (.int a1), some (.int a2)] [] M Q
  refine r_iload_n (pc := 0) (i := 1) dX5_piece_0 rfl rfl ?_
  refine r_bipush (pc := 1) (v := 10) dX5_piece_1 (by decide) ?_
  refine r_icmp_lt (pc := 3) (tgt := 11) dX5_piece_3 (by decide) (fun c1 => ?_) (fun c1 => ?_)
  · replace h := h.1 c1
    refine r_aload_n (pc := 11) (i := 0) dX5_piece_11 rfl rfl ?_
    obtain ⟨k2, h⟩ := h
    refine r_callV (pc := 12) (ci := 5) (as := []) (st := []) okX5_peek lkX5_67 inX5_peek seX5_peek ⟨_, rfl, rfl⟩ dX5_piece_12 rfl k2 (Nat.le_of_ble_eq_true rfl) (Nat.zero_le _) (Nat.zero_le _) (Call.mono h (fun r3 M4 h => ?_))
    obtain ⟨v5, rfl, h⟩ := h
    refine dite (v5 = 2) (fun c6 => ?_) (fun c6 => ?_)
    · replace h := h.1 c6
      refine r_tabIn (pc := 15) (tgt := 105) dX5_piece_15 (by rw [c6]; decide) (by rw [c6]; decide) (by rw [c6]; rfl) (by decide) ?_
      refine r_aload_n (pc := 105) (i := 0) dX5_piece_105 rfl rfl ?_
      obtain ⟨k7, h⟩ := h
      refine r_callV (pc := 106) (ci := 5) (as := []) (st := []) okX5_sumAtom lkX5_144 inX5_sumAtom seX5_sumAtom ⟨_, rfl, rfl⟩ dX5_piece_106 rfl k7 (Nat.le_of_ble_eq_true rfl) (Nat.zero_le _) (Nat.zero_le _) (Call.mono h (fun r8 M9 h => ?_))
      obtain ⟨v10, rfl, h⟩ := h
      exact r_iret (pc := 109) dX5_piece_109 rfl h
    refine dite (v5 = 3) (fun c11 => ?_) (fun c11 => ?_)
    · replace h := h.2.1 c11
      refine r_tabIn (pc := 15) (tgt := 105) dX5_piece_15 (by rw [c11]; decide) (by rw [c11]; decide) (by rw [c11]; rfl) (by decide) ?_
      refine r_aload_n (pc := 105) (i := 0) dX5_piece_105 rfl rfl ?_
      obtain ⟨k12, h⟩ := h
      refine r_callV (pc := 106) (ci := 5) (as := []) (st := []) okX5_sumAtom lkX5_144 inX5_sumAtom seX5_sumAtom ⟨_, rfl, rfl⟩ dX5_piece_106 rfl k12 (Nat.le_of_ble_eq_true rfl) (Nat.zero_le _) (Nat.zero_le _) (Call.mono h (fun r13 M14 h => ?_))
      obtain ⟨v15, rfl, h⟩ := h
      exact r_iret (pc := 109) dX5_piece_109 rfl h
    refine dite (v5 = 4) (fun c16 => ?_) (fun c16 => ?_)
    · replace h := h.2.2.1 c16
      refine r_tabIn (pc := 15) (tgt := 100) dX5_piece_15 (by rw [c16]; decide) (by rw [c16]; decide) (by rw [c16]; rfl) (by decide) ?_
      refine r_aload_n (pc := 100) (i := 0) dX5_piece_100 rfl rfl ?_
      obtain ⟨k17, h⟩ := h
      refine r_callV (pc := 101) (ci := 5) (as := []) (st := []) okX5_rowAtom lkX5_141 inX5_rowAtom seX5_rowAtom ⟨_, rfl, rfl⟩ dX5_piece_101 rfl k17 (Nat.le_of_ble_eq_true rfl) (Nat.zero_le _) (Nat.zero_le _) (Call.mono h (fun r18 M19 h => ?_))
      obtain ⟨v20, rfl, h⟩ := h
      exact r_iret (pc := 104) dX5_piece_104 rfl h
    refine dite (v5 = 5) (fun c21 => ?_) (fun c21 => ?_)
    · replace h := h.2.2.2.1 c21
      refine r_tabIn (pc := 15) (tgt := 75) dX5_piece_15 (by rw [c21]; decide) (by rw [c21]; decide) (by rw [c21]; rfl) (by decide) ?_
      refine r_aload_n (pc := 75) (i := 0) dX5_piece_75 rfl rfl ?_
      refine r_bipush (pc := 76) (v := 6) dX5_piece_76 (by decide) ?_
      refine r_iload_n (pc := 78) (i := 1) dX5_piece_78 rfl rfl ?_
      refine r_iload_n (pc := 79) (i := 2) dX5_piece_79 rfl rfl ?_
      obtain ⟨k22, h⟩ := h
      refine r_callV (pc := 80) (ci := 5) (as := [_, _, _]) (st := []) okX5_bind lkX5_135 inX5_bind seX5_bind ⟨_, rfl, rfl⟩ dX5_piece_80 rfl k22 (Nat.le_of_ble_eq_true rfl) (Nat.zero_le _) (Nat.zero_le _) (Call.mono h (fun r23 M24 h => ?_))
      obtain ⟨v25, rfl, h⟩ := h
      exact r_iret (pc := 83) dX5_piece_83 rfl h
    refine dite (v5 = 6) (fun c26 => ?_) (fun c26 => ?_)
    · replace h := h.2.2.2.2.1 c26
      refine r_tabIn (pc := 15) (tgt := 84) dX5_piece_15 (by rw [c26]; decide) (by rw [c26]; decide) (by rw [c26]; rfl) (by decide) ?_
      refine r_aload_n (pc := 84) (i := 0) dX5_piece_84 rfl rfl ?_
      refine r_bipush (pc := 85) (v := 7) dX5_piece_85 (by decide) ?_
      refine r_iload_n (pc := 87) (i := 1) dX5_piece_87 rfl rfl ?_
      refine r_iload_n (pc := 88) (i := 2) dX5_piece_88 rfl rfl ?_
      obtain ⟨k27, h⟩ := h
      refine r_callV (pc := 89) (ci := 5) (as := [_, _, _]) (st := []) okX5_bind lkX5_135 inX5_bind seX5_bind ⟨_, rfl, rfl⟩ dX5_piece_89 rfl k27 (Nat.le_of_ble_eq_true rfl) (Nat.zero_le _) (Nat.zero_le _) (Call.mono h (fun r28 M29 h => ?_))
      obtain ⟨v30, rfl, h⟩ := h
      exact r_iret (pc := 92) dX5_piece_92 rfl h
    refine dite (v5 = 7) (fun c31 => ?_) (fun c31 => ?_)
    · replace h := h.2.2.2.2.2.1 c31
      refine r_tabIn (pc := 15) (tgt := 68) dX5_piece_15 (by rw [c31]; decide) (by rw [c31]; decide) (by rw [c31]; rfl) (by decide) ?_
      refine r_aload_n (pc := 68) (i := 0) dX5_piece_68 rfl rfl ?_
      refine r_iload_n (pc := 69) (i := 1) dX5_piece_69 rfl rfl ?_
      refine r_iload_n (pc := 70) (i := 2) dX5_piece_70 rfl rfl ?_
      obtain ⟨k32, h⟩ := h
      refine r_callV (pc := 71) (ci := 5) (as := [_, _]) (st := []) okX5_contrary lkX5_132 inX5_contrary seX5_contrary ⟨_, rfl, rfl⟩ dX5_piece_71 rfl k32 (Nat.le_of_ble_eq_true rfl) (Nat.zero_le _) (Nat.zero_le _) (Call.mono h (fun r33 M34 h => ?_))
      obtain ⟨v35, rfl, h⟩ := h
      exact r_iret (pc := 74) dX5_piece_74 rfl h
    refine dite (v5 = 8) (fun c36 => ?_) (fun c36 => ?_)
    · replace h := h.2.2.2.2.2.2.1 c36
      refine r_tabIn (pc := 15) (tgt := 110) dX5_piece_15 (by rw [c36]; decide) (by rw [c36]; decide) (by rw [c36]; rfl) (by decide) ?_
      refine r_aload_n (pc := 110) (i := 0) dX5_piece_110 rfl rfl ?_
      obtain ⟨k37, h⟩ := h
      refine r_callV (pc := 111) (ci := 5) (as := []) (st := []) okX5_fail lkX5_71 inX5_fail seX5_fail ⟨_, rfl, rfl⟩ dX5_piece_111 rfl k37 (Nat.le_of_ble_eq_true rfl) (Nat.zero_le _) (Nat.zero_le _) (Call.mono h (fun r38 M39 h => ?_))
      obtain ⟨v40, rfl, h⟩ := h
      exact r_iret (pc := 114) dX5_piece_114 rfl h
    refine dite (v5 = 9) (fun c41 => ?_) (fun c41 => ?_)
    · replace h := h.2.2.2.2.2.2.2.1 c41
      refine r_tabIn (pc := 15) (tgt := 110) dX5_piece_15 (by rw [c41]; decide) (by rw [c41]; decide) (by rw [c41]; rfl) (by decide) ?_
      refine r_aload_n (pc := 110) (i := 0) dX5_piece_110 rfl rfl ?_
      obtain ⟨k42, h⟩ := h
      refine r_callV (pc := 111) (ci := 5) (as := []) (st := []) okX5_fail lkX5_71 inX5_fail seX5_fail ⟨_, rfl, rfl⟩ dX5_piece_111 rfl k42 (Nat.le_of_ble_eq_true rfl) (Nat.zero_le _) (Nat.zero_le _) (Call.mono h (fun r43 M44 h => ?_))
      obtain ⟨v45, rfl, h⟩ := h
      exact r_iret (pc := 114) dX5_piece_114 rfl h
    refine dite (v5 = 10) (fun c46 => ?_) (fun c46 => ?_)
    · replace h := h.2.2.2.2.2.2.2.2.1 c46
      refine r_tabIn (pc := 15) (tgt := 110) dX5_piece_15 (by rw [c46]; decide) (by rw [c46]; decide) (by rw [c46]; rfl) (by decide) ?_
      refine r_aload_n (pc := 110) (i := 0) dX5_piece_110 rfl rfl ?_
      obtain ⟨k47, h⟩ := h
      refine r_callV (pc := 111) (ci := 5) (as := []) (st := []) okX5_fail lkX5_71 inX5_fail seX5_fail ⟨_, rfl, rfl⟩ dX5_piece_111 rfl k47 (Nat.le_of_ble_eq_true rfl) (Nat.zero_le _) (Nat.zero_le _) (Call.mono h (fun r48 M49 h => ?_))
      obtain ⟨v50, rfl, h⟩ := h
      exact r_iret (pc := 114) dX5_piece_114 rfl h
    refine dite (v5 = 11) (fun c51 => ?_) (fun c51 => ?_)
    · replace h := h.2.2.2.2.2.2.2.2.2.1 c51
      refine r_tabIn (pc := 15) (tgt := 93) dX5_piece_15 (by rw [c51]; decide) (by rw [c51]; decide) (by rw [c51]; rfl) (by decide) ?_
      refine r_aload_n (pc := 93) (i := 0) dX5_piece_93 rfl rfl ?_
      refine r_iload_n (pc := 94) (i := 1) dX5_piece_94 rfl rfl ?_
      refine r_iload_n (pc := 95) (i := 2) dX5_piece_95 rfl rfl ?_
      obtain ⟨k52, h⟩ := h
      refine r_callV (pc := 96) (ci := 5) (as := [_, _]) (st := []) okX5_enclosed lkX5_138 inX5_enclosed seX5_enclosed ⟨_, rfl, rfl⟩ dX5_piece_96 rfl k52 (Nat.le_of_ble_eq_true rfl) (Nat.zero_le _) (Nat.zero_le _) (Call.mono h (fun r53 M54 h => ?_))
      obtain ⟨v55, rfl, h⟩ := h
      exact r_iret (pc := 99) dX5_piece_99 rfl h
    replace h := h.2.2.2.2.2.2.2.2.2.2 ⟨c6, c11, c16, c21, c26, c31, c36, c41, c46, c51⟩
    refine r_tabOut (pc := 15) (tgt := 110) dX5_piece_15 (by have tc6 : ¬ Int32.toInt _ = 2 := sw_ne c6; have tc11 : ¬ Int32.toInt _ = 3 := sw_ne c11; have tc16 : ¬ Int32.toInt _ = 4 := sw_ne c16; have tc21 : ¬ Int32.toInt _ = 5 := sw_ne c21; have tc26 : ¬ Int32.toInt _ = 6 := sw_ne c26; have tc31 : ¬ Int32.toInt _ = 7 := sw_ne c31; have tc36 : ¬ Int32.toInt _ = 8 := sw_ne c36; have tc41 : ¬ Int32.toInt _ = 9 := sw_ne c41; have tc46 : ¬ Int32.toInt _ = 10 := sw_ne c46; have tc51 : ¬ Int32.toInt _ = 11 := sw_ne c51; omega) (by decide) ?_
    refine r_aload_n (pc := 110) (i := 0) dX5_piece_110 rfl rfl ?_
    obtain ⟨k56, h⟩ := h
    refine r_callV (pc := 111) (ci := 5) (as := []) (st := []) okX5_fail lkX5_71 inX5_fail seX5_fail ⟨_, rfl, rfl⟩ dX5_piece_111 rfl k56 (Nat.le_of_ble_eq_true rfl) (Nat.zero_le _) (Nat.zero_le _) (Call.mono h (fun r57 M58 h => ?_))
    obtain ⟨v59, rfl, h⟩ := h
    exact r_iret (pc := 114) dX5_piece_114 rfl h
  · replace h := h.2 c1
    refine r_aload_n (pc := 6) (i := 0) dX5_piece_6 rfl rfl ?_
    obtain ⟨k60, h⟩ := h
    refine r_callV (pc := 7) (ci := 5) (as := []) (st := []) okX5_fail lkX5_71 inX5_fail seX5_fail ⟨_, rfl, rfl⟩ dX5_piece_7 rfl k60 (Nat.le_of_ble_eq_true rfl) (Nat.zero_le _) (Nat.zero_le _) (Call.mono h (fun r61 M62 h => ?_))
    obtain ⟨v63, rfl, h⟩ := h
    exact r_iret (pc := 10) dX5_piece_10 rfl h
theorem eX5_contrary {G : GG} {d rc rs : Nat} (o : Nat) (a1 : Int32) (a2 : Int32)  {M : Mem} {Q : Option Value → Mem → Prop} (h : (x_h M o).1 = 21 ∧ Call G d 0 0 mX5_place [.ref o] M (fun r2 M3 => ∃ v4 : Int32, r2 = some (.int v4) ∧ (x_h M3 o).1 = 21 ∧ (∀ M6, M6 = x_si M3 o 5 ((x_i M3 o 5) + 1) → Call G d 0 0 mX5_piece [.ref o, .int (a1 + 1), .int a2] M6 (fun r7 M8 => ∃ v9 : Int32, r7 = some (.int v9) ∧ (0 ≤ v9 → (x_h M8 o).1 = 21 ∧ Call G d 0 0 mX5_join [.ref o, .int 2, .int v4, .int v9, .int (-1)] M8 (fun r12 M13 => ∃ v14 : Int32, r12 = some (.int v14) ∧ Q (some (.int v14)) M13)) ∧ (¬ 0 ≤ v9 → Q (some (.int (-1))) M8))))) : Call G (d + 1) rc rs mX5_contrary [.ref o, .int a1, .int a2] M Q := by
  refine call_of (by decide) (Nat.le_of_ble_eq_true rfl) ?_
  show Wk G (d + 1) rc rs mX5_contrary 0 [some (.ref o), some (.int a1), some (.int a2), none, none] [] M Q
  refine r_aload_n (pc := 0) (i := 0) dX5_contrary_0 rfl rfl ?_
  obtain ⟨k1, h⟩ := h
  refine r_callV (pc := 1) (ci := 5) (as := []) (st := []) okX5_place lkX5_126 inX5_place seX5_place ⟨_, rfl, rfl⟩ dX5_contrary_1 rfl k1 (Nat.le_of_ble_eq_true rfl) (Nat.zero_le _) (Nat.zero_le _) (Call.mono h (fun r2 M3 h => ?_))
  obtain ⟨v4, rfl, h⟩ := h
  refine r_istore_n (pc := 4) (i := 3) dX5_contrary_4 rfl rfl (Nat.le_of_ble_eq_true rfl) ?_
  refine r_aload_n (pc := 5) (i := 0) dX5_contrary_5 rfl rfl ?_
  refine r_dup (pc := 6) dX5_contrary_6 rfl ?_
  obtain ⟨k5, h⟩ := h
  refine r_geti (pc := 7) flX5_37 dX5_contrary_7 (Or.inl rfl) k5 ?_
  refine r_iconst (pc := 10) (v := 1) dX5_contrary_10 (by decide) ?_
  refine r_iadd (pc := 11) dX5_contrary_11 ?_
  refine r_puti (pc := 12) flX5_37 dX5_contrary_12 (Or.inl rfl) (fun q hq => by cases hq; rfl) k5 ?_
  replace h := h _ rfl
  refine r_aload_n (pc := 15) (i := 0) dX5_contrary_15 rfl rfl ?_
  refine r_iload_n (pc := 16) (i := 1) dX5_contrary_16 rfl rfl ?_
  refine r_iconst (pc := 17) (v := 1) dX5_contrary_17 (by decide) ?_
  refine r_iadd (pc := 18) dX5_contrary_18 ?_
  refine r_iload_n (pc := 19) (i := 2) dX5_contrary_19 rfl rfl ?_
  refine r_callV (pc := 20) (ci := 5) (as := [_, _]) (st := []) okX5_piece lkX5_123 inX5_piece seX5_piece ⟨_, rfl, rfl⟩ dX5_contrary_20 rfl k5 (Nat.le_of_ble_eq_true rfl) (Nat.zero_le _) (Nat.zero_le _) (Call.mono h (fun r7 M8 h => ?_))
  obtain ⟨v9, rfl, h⟩ := h
  refine r_istore (pc := 23) (i := 4) dX5_contrary_23 rfl (Nat.le_of_ble_eq_true rfl) ?_
  refine r_iload (pc := 25) (i := 4) dX5_contrary_25 rfl ?_
  refine r_if_ge (pc := 27) (tgt := 34) dX5_contrary_27 (by decide) (fun c10 => ?_) (fun c10 => ?_)
  · replace h := h.1 c10
    refine r_aload_n (pc := 34) (i := 0) dX5_contrary_34 rfl rfl ?_
    refine r_iconst (pc := 35) (v := 2) dX5_contrary_35 (by decide) ?_
    refine r_iload_n (pc := 36) (i := 3) dX5_contrary_36 rfl rfl ?_
    refine r_iload (pc := 37) (i := 4) dX5_contrary_37 rfl ?_
    refine r_iconst (pc := 39) (v := (-1)) dX5_contrary_39 (by decide) ?_
    obtain ⟨k11, h⟩ := h
    refine r_callV (pc := 40) (ci := 5) (as := [_, _, _, _]) (st := []) okX5_join lkX5_128 inX5_join seX5_join ⟨_, rfl, rfl⟩ dX5_contrary_40 rfl k11 (Nat.le_of_ble_eq_true rfl) (Nat.zero_le _) (Nat.zero_le _) (Call.mono h (fun r12 M13 h => ?_))
    obtain ⟨v14, rfl, h⟩ := h
    exact r_iret (pc := 43) dX5_contrary_43 rfl h
  · replace h := h.2 c10
    refine r_iconst (pc := 30) (v := (-1)) dX5_contrary_30 (by decide) ?_
    refine r_goto (pc := 31) (tgt := 43) dX5_contrary_31 (by decide) ?_
    exact r_iret (pc := 43) dX5_contrary_43 rfl h
theorem eX5_enclosed {G : GG} {d rc rs : Nat} (o : Nat) (a1 : Int32) (a2 : Int32)  {M : Mem} {Q : Option Value → Mem → Prop} (h : (x_h M o).1 = 21 ∧ (∀ M2, M2 = x_si M o 5 ((x_i M o 5) + 1) → Call G d 0 0 mX5_formula [.ref o, .int 0, .int (a1 + 1), .int (a2 + 1)] M2 (fun r3 M4 => ∃ v5 : Int32, r3 = some (.int v5) ∧ (v5 < 0 → Q (some (.int (-1))) M4) ∧ (¬ v5 < 0 → (x_h M4 o).1 = 21 ∧ Call G d 0 0 mX5_eat [.ref o, .int 12] M4 (fun r8 M9 => ∃ v10 : Int32, r8 = some (.int v10) ∧ (v10 = 0 → Q (some (.int (-1))) M9) ∧ (¬ v10 = 0 → Q (some (.int v5)) M9)))))) : Call G (d + 1) rc rs mX5_enclosed [.ref o, .int a1, .int a2] M Q := by
  refine call_of (by decide) (Nat.le_of_ble_eq_true rfl) ?_
  show Wk G (d + 1) rc rs mX5_enclosed 0 [some (.ref o), some (.int a1), some (.int a2), none] [] M Q
  refine r_aload_n (pc := 0) (i := 0) dX5_enclosed_0 rfl rfl ?_
  refine r_dup (pc := 1) dX5_enclosed_1 rfl ?_
  obtain ⟨k1, h⟩ := h
  refine r_geti (pc := 2) flX5_37 dX5_enclosed_2 (Or.inl rfl) k1 ?_
  refine r_iconst (pc := 5) (v := 1) dX5_enclosed_5 (by decide) ?_
  refine r_iadd (pc := 6) dX5_enclosed_6 ?_
  refine r_puti (pc := 7) flX5_37 dX5_enclosed_7 (Or.inl rfl) (fun q hq => by cases hq; rfl) k1 ?_
  replace h := h _ rfl
  refine r_aload_n (pc := 10) (i := 0) dX5_enclosed_10 rfl rfl ?_
  refine r_iconst (pc := 11) (v := 0) dX5_enclosed_11 (by decide) ?_
  refine r_iload_n (pc := 12) (i := 1) dX5_enclosed_12 rfl rfl ?_
  refine r_iconst (pc := 13) (v := 1) dX5_enclosed_13 (by decide) ?_
  refine r_iadd (pc := 14) dX5_enclosed_14 ?_
  refine r_iload_n (pc := 15) (i := 2) dX5_enclosed_15 rfl rfl ?_
  refine r_iconst (pc := 16) (v := 1) dX5_enclosed_16 (by decide) ?_
  refine r_iadd (pc := 17) dX5_enclosed_17 ?_
  refine r_callV (pc := 18) (ci := 5) (as := [_, _, _]) (st := []) okX5_formula lkX5_63 inX5_formula seX5_formula ⟨_, rfl, rfl⟩ dX5_enclosed_18 rfl k1 (Nat.le_of_ble_eq_true rfl) (Nat.zero_le _) (Nat.zero_le _) (Call.mono h (fun r3 M4 h => ?_))
  obtain ⟨v5, rfl, h⟩ := h
  refine r_istore_n (pc := 21) (i := 3) dX5_enclosed_21 rfl rfl (Nat.le_of_ble_eq_true rfl) ?_
  refine r_iload_n (pc := 22) (i := 3) dX5_enclosed_22 rfl rfl ?_
  refine r_if_lt (pc := 23) (tgt := 39) dX5_enclosed_23 (by decide) (fun c6 => ?_) (fun c6 => ?_)
  · replace h := h.1 c6
    refine r_iconst (pc := 39) (v := (-1)) dX5_enclosed_39 (by decide) ?_
    exact r_iret (pc := 40) dX5_enclosed_40 rfl h
  · replace h := h.2 c6
    refine r_aload_n (pc := 26) (i := 0) dX5_enclosed_26 rfl rfl ?_
    refine r_bipush (pc := 27) (v := 12) dX5_enclosed_27 (by decide) ?_
    obtain ⟨k7, h⟩ := h
    refine r_callV (pc := 29) (ci := 5) (as := [_]) (st := []) okX5_eat lkX5_147 inX5_eat seX5_eat ⟨_, rfl, rfl⟩ dX5_enclosed_29 rfl k7 (Nat.le_of_ble_eq_true rfl) (Nat.zero_le _) (Nat.zero_le _) (Call.mono h (fun r8 M9 h => ?_))
    obtain ⟨v10, rfl, h⟩ := h
    refine r_if_eq (pc := 32) (tgt := 39) dX5_enclosed_32 (by decide) (fun c11 => ?_) (fun c11 => ?_)
    · replace h := h.1 c11
      refine r_iconst (pc := 39) (v := (-1)) dX5_enclosed_39 (by decide) ?_
      exact r_iret (pc := 40) dX5_enclosed_40 rfl h
    · replace h := h.2 c11
      refine r_iload_n (pc := 35) (i := 3) dX5_enclosed_35 rfl rfl ?_
      refine r_goto (pc := 36) (tgt := 40) dX5_enclosed_36 (by decide) ?_
      exact r_iret (pc := 40) dX5_enclosed_40 rfl h
abbrev LX5_bind_50 (G : GG) (d rc rs : Nat) (p0 : Nat) (x1 : Int32) (x2 : Int32) (x3 : Int32) (x4 : Int32) (x5 : Int32) (M : Mem) (Q : Option Value → Mem → Prop) : Prop := Wk G (d + 1) rc rs mX5_bind 50 [some (.ref p0), some (.int x1), some (.int x2), some (.int x3), some (.int x4), some (.int x5), none, none, none] [] M Q
theorem eX5_bind {G : GG} {d rc rs : Nat} (o : Nat) (a1 : Int32) (a2 : Int32) (a3 : Int32)  {M : Mem} {Q : Option Value → Mem → Prop} (h : (x_h M o).1 = 21 ∧ Call G d 0 0 mX5_place [.ref o] M (fun r2 M3 => ∃ v4 : Int32, r2 = some (.int v4) ∧ (x_h M3 o).1 = 21 ∧ (∀ M6, M6 = x_si M3 o 5 ((x_i M3 o 5) + 1) → Call G d 0 0 mX5_worth [.ref o] M6 (fun r7 M8 => ∃ v9 : Int32, r7 = some (.int v9) ∧ (x_h M8 o).1 = 21 ∧ Call G d 0 0 mX5_peek [.ref o] M8 (fun r11 M12 => ∃ v13 : Int32, r11 = some (.int v13) ∧ (¬ v13 = 3 → LX5_bind_50 G d rc rs o a1 a2 a3 v4 (1 <<< (v9 &&& 31)) M12 Q) ∧ (v13 = 3 → (x_h M12 o).1 = 21 ∧ (((x_i M12 o 8) &&& (1 <<< (v9 &&& 31))) = 0 → LX5_bind_50 G d rc rs o a1 a2 a3 v4 (1 <<< (v9 &&& 31)) M12 Q) ∧ (¬ ((x_i M12 o 8) &&& (1 <<< (v9 &&& 31))) = 0 → Call G d 0 0 mX5_place [.ref o] M12 (fun r17 M18 => ∃ v19 : Int32, r17 = some (.int v19) ∧ (x_h M18 o).1 = 21 ∧ Call G d 0 0 mX5_blame [.ref o, .int v19] M18 (fun r21 M22 => r21 = none ∧ LX5_bind_50 G d rc rs o a1 a2 a3 v4 (1 <<< (v9 &&& 31)) M22 Q))))))))) : Call G (d + 1) rc rs mX5_bind [.ref o, .int a1, .int a2, .int a3] M Q := by
  refine call_of (by decide) (Nat.le_of_ble_eq_true rfl) ?_
  show Wk G (d + 1) rc rs mX5_bind 0 [some (.ref o), some (.int a1), some (.int a2), some (.int a3), none, none, none, none, none] [] M Q
  refine r_aload_n (pc := 0) (i := 0) dX5_bind_0 rfl rfl ?_
  obtain ⟨k1, h⟩ := h
  refine r_callV (pc := 1) (ci := 5) (as := []) (st := []) okX5_place lkX5_126 inX5_place seX5_place ⟨_, rfl, rfl⟩ dX5_bind_1 rfl k1 (Nat.le_of_ble_eq_true rfl) (Nat.zero_le _) (Nat.zero_le _) (Call.mono h (fun r2 M3 h => ?_))
  obtain ⟨v4, rfl, h⟩ := h
  refine r_istore (pc := 4) (i := 4) dX5_bind_4 rfl (Nat.le_of_ble_eq_true rfl) ?_
  refine r_aload_n (pc := 6) (i := 0) dX5_bind_6 rfl rfl ?_
  refine r_dup (pc := 7) dX5_bind_7 rfl ?_
  obtain ⟨k5, h⟩ := h
  refine r_geti (pc := 8) flX5_37 dX5_bind_8 (Or.inl rfl) k5 ?_
  refine r_iconst (pc := 11) (v := 1) dX5_bind_11 (by decide) ?_
  refine r_iadd (pc := 12) dX5_bind_12 ?_
  refine r_puti (pc := 13) flX5_37 dX5_bind_13 (Or.inl rfl) (fun q hq => by cases hq; rfl) k5 ?_
  replace h := h _ rfl
  refine r_iconst (pc := 16) (v := 1) dX5_bind_16 (by decide) ?_
  refine r_aload_n (pc := 17) (i := 0) dX5_bind_17 rfl rfl ?_
  refine r_callV (pc := 18) (ci := 5) (as := []) (st := [_]) okX5_worth lkX5_151 inX5_worth seX5_worth ⟨_, rfl, rfl⟩ dX5_bind_18 rfl k5 (Nat.le_of_ble_eq_true rfl) (Nat.zero_le _) (Nat.zero_le _) (Call.mono h (fun r7 M8 h => ?_))
  obtain ⟨v9, rfl, h⟩ := h
  refine r_ishl (pc := 21) dX5_bind_21 ?_
  refine r_istore (pc := 22) (i := 5) dX5_bind_22 rfl (Nat.le_of_ble_eq_true rfl) ?_
  refine r_aload_n (pc := 24) (i := 0) dX5_bind_24 rfl rfl ?_
  obtain ⟨k10, h⟩ := h
  refine r_callV (pc := 25) (ci := 5) (as := []) (st := []) okX5_peek lkX5_67 inX5_peek seX5_peek ⟨_, rfl, rfl⟩ dX5_bind_25 rfl k10 (Nat.le_of_ble_eq_true rfl) (Nat.zero_le _) (Nat.zero_le _) (Call.mono h (fun r11 M12 h => ?_))
  obtain ⟨v13, rfl, h⟩ := h
  refine r_iconst (pc := 28) (v := 3) dX5_bind_28 (by decide) ?_
  refine r_icmp_ne (pc := 29) (tgt := 50) dX5_bind_29 (by decide) (fun c14 => ?_) (fun c14 => ?_)
  · replace h := h.1 c14
    exact h
  · replace h := h.2 c14
    refine r_aload_n (pc := 32) (i := 0) dX5_bind_32 rfl rfl ?_
    obtain ⟨k15, h⟩ := h
    refine r_geti (pc := 33) flX5_46 dX5_bind_33 (Or.inl rfl) k15 ?_
    refine r_iload (pc := 36) (i := 5) dX5_bind_36 rfl ?_
    refine r_iand (pc := 38) dX5_bind_38 ?_
    refine r_if_eq (pc := 39) (tgt := 50) dX5_bind_39 (by decide) (fun c16 => ?_) (fun c16 => ?_)
    · replace h := h.1 c16
      exact h
    · replace h := h.2 c16
      refine r_aload_n (pc := 42) (i := 0) dX5_bind_42 rfl rfl ?_
      refine r_aload_n (pc := 43) (i := 0) dX5_bind_43 rfl rfl ?_
      refine r_callV (pc := 44) (ci := 5) (as := []) (st := [_]) okX5_place lkX5_126 inX5_place seX5_place ⟨_, rfl, rfl⟩ dX5_bind_44 rfl k15 (Nat.le_of_ble_eq_true rfl) (Nat.zero_le _) (Nat.zero_le _) (Call.mono h (fun r17 M18 h => ?_))
      obtain ⟨v19, rfl, h⟩ := h
      obtain ⟨k20, h⟩ := h
      refine r_callV (pc := 47) (ci := 5) (as := [_]) (st := []) okX5_blame lkX5_154 inX5_blame seX5_blame ⟨_, rfl, rfl⟩ dX5_bind_47 rfl k20 (Nat.le_of_ble_eq_true rfl) (Nat.zero_le _) (Nat.zero_le _) (Call.mono h (fun r21 M22 h => ?_))
      obtain ⟨rfl, h⟩ := h
      exact h
theorem vX5_bind_50 {G : GG} {d rc rs : Nat} (p0 : Nat) (x1 : Int32) (x2 : Int32) (x3 : Int32) (x4 : Int32) (x5 : Int32)  {M : Mem} {Q : Option Value → Mem → Prop} (h : (x_h M p0).1 = 21 ∧ Call G d 0 0 mX5_eat [.ref p0, .int 3] M (fun r2 M3 => ∃ v4 : Int32, r2 = some (.int v4) ∧ (¬ v4 = 0 → (x_h M3 p0).1 = 21 ∧ (∀ M7, M7 = x_si M3 p0 8 ((x_i M3 p0 8) ||| x5) → Call G d 0 0 mX5_piece [.ref p0, .int (x2 + 1), .int x3] M7 (fun r8 M9 => ∃ v10 : Int32, r8 = some (.int v10) ∧ (x_h M9 p0).1 = 21 ∧ (∀ M12, M12 = x_si M9 p0 8 (x_i M3 p0 8) → (0 ≤ v10 → Call G d 0 0 mX5_join [.ref p0, .int x1, .int x4, .int v10, .int (-1)] M12 (fun r14 M15 => ∃ v16 : Int32, r14 = some (.int v16) ∧ (v16 < 0 → Q (some (.int v16)) M15) ∧ (¬ v16 < 0 → (x_h M15 p0).1 = 21 ∧ (∃ b19, x_r M15 p0 1 = some b19 ∧ (4 ≤ (x_h M15 b19).1 ∧ (x_h M15 b19).1 < 8) ∧ vp_in v16 (x_h M15 b19).2 ∧ (∃ b22, x_r M15 b19 v16.toNatClampNeg = some b22 ∧ (x_h M15 b22).1 = 19 ∧ (∀ M24, M24 = x_si M15 b22 8 ((x_i M15 b22 8) &&& (x5 ^^^ (-1))) → Q (some (.int v16)) M24)))))) ∧ (¬ 0 ≤ v10 → Q (some (.int (-1))) M12))))) ∧ (v4 = 0 → Q (some (.int (-1))) M3))) : LX5_bind_50 G d rc rs p0 x1 x2 x3 x4 x5 M Q := by
  show Wk G (d + 1) rc rs mX5_bind 50 _ _ M Q
  refine r_aload_n (pc := 50) (i := 0) dX5_bind_50 rfl rfl ?_
  refine r_iconst (pc := 51) (v := 3) dX5_bind_51 (by decide) ?_
  obtain ⟨k1, h⟩ := h
  refine r_callV (pc := 52) (ci := 5) (as := [_]) (st := []) okX5_eat lkX5_147 inX5_eat seX5_eat ⟨_, rfl, rfl⟩ dX5_bind_52 rfl k1 (Nat.le_of_ble_eq_true rfl) (Nat.zero_le _) (Nat.zero_le _) (Call.mono h (fun r2 M3 h => ?_))
  obtain ⟨v4, rfl, h⟩ := h
  refine r_if_ne (pc := 55) (tgt := 60) dX5_bind_55 (by decide) (fun c5 => ?_) (fun c5 => ?_)
  · replace h := h.1 c5
    refine r_aload_n (pc := 60) (i := 0) dX5_bind_60 rfl rfl ?_
    obtain ⟨k6, h⟩ := h
    refine r_geti (pc := 61) flX5_46 dX5_bind_61 (Or.inl rfl) k6 ?_
    refine r_istore (pc := 64) (i := 6) dX5_bind_64 rfl (Nat.le_of_ble_eq_true rfl) ?_
    refine r_aload_n (pc := 66) (i := 0) dX5_bind_66 rfl rfl ?_
    refine r_dup (pc := 67) dX5_bind_67 rfl ?_
    refine r_geti (pc := 68) flX5_46 dX5_bind_68 (Or.inl rfl) k6 ?_
    refine r_iload (pc := 71) (i := 5) dX5_bind_71 rfl ?_
    refine r_ior (pc := 73) dX5_bind_73 ?_
    refine r_puti (pc := 74) flX5_46 dX5_bind_74 (Or.inl rfl) (fun q hq => by cases hq; rfl) k6 ?_
    replace h := h _ rfl
    refine r_aload_n (pc := 77) (i := 0) dX5_bind_77 rfl rfl ?_
    refine r_iload_n (pc := 78) (i := 2) dX5_bind_78 rfl rfl ?_
    refine r_iconst (pc := 79) (v := 1) dX5_bind_79 (by decide) ?_
    refine r_iadd (pc := 80) dX5_bind_80 ?_
    refine r_iload_n (pc := 81) (i := 3) dX5_bind_81 rfl rfl ?_
    refine r_callV (pc := 82) (ci := 5) (as := [_, _]) (st := []) okX5_piece lkX5_123 inX5_piece seX5_piece ⟨_, rfl, rfl⟩ dX5_bind_82 rfl k6 (Nat.le_of_ble_eq_true rfl) (Nat.zero_le _) (Nat.zero_le _) (Call.mono h (fun r8 M9 h => ?_))
    obtain ⟨v10, rfl, h⟩ := h
    refine r_istore (pc := 85) (i := 7) dX5_bind_85 rfl (Nat.le_of_ble_eq_true rfl) ?_
    refine r_aload_n (pc := 87) (i := 0) dX5_bind_87 rfl rfl ?_
    refine r_iload (pc := 88) (i := 6) dX5_bind_88 rfl ?_
    obtain ⟨k11, h⟩ := h
    refine r_puti (pc := 90) flX5_46 dX5_bind_90 (Or.inl rfl) (fun q hq => by cases hq; rfl) k11 ?_
    replace h := h _ rfl
    refine r_iload (pc := 93) (i := 7) dX5_bind_93 rfl ?_
    refine r_if_ge (pc := 95) (tgt := 100) dX5_bind_95 (by decide) (fun c13 => ?_) (fun c13 => ?_)
    · replace h := h.1 c13
      refine r_aload_n (pc := 100) (i := 0) dX5_bind_100 rfl rfl ?_
      refine r_iload_n (pc := 101) (i := 1) dX5_bind_101 rfl rfl ?_
      refine r_iload (pc := 102) (i := 4) dX5_bind_102 rfl ?_
      refine r_iload (pc := 104) (i := 7) dX5_bind_104 rfl ?_
      refine r_iconst (pc := 106) (v := (-1)) dX5_bind_106 (by decide) ?_
      refine r_callV (pc := 107) (ci := 5) (as := [_, _, _, _]) (st := []) okX5_join lkX5_128 inX5_join seX5_join ⟨_, rfl, rfl⟩ dX5_bind_107 rfl k11 (Nat.le_of_ble_eq_true rfl) (Nat.zero_le _) (Nat.zero_le _) (Call.mono h (fun r14 M15 h => ?_))
      obtain ⟨v16, rfl, h⟩ := h
      refine r_istore (pc := 110) (i := 8) dX5_bind_110 rfl (Nat.le_of_ble_eq_true rfl) ?_
      refine r_iload (pc := 112) (i := 8) dX5_bind_112 rfl ?_
      refine r_if_lt (pc := 114) (tgt := 136) dX5_bind_114 (by decide) (fun c17 => ?_) (fun c17 => ?_)
      · replace h := h.1 c17
        refine r_iload (pc := 136) (i := 8) dX5_bind_136 rfl ?_
        exact r_iret (pc := 138) dX5_bind_138 rfl h
      · replace h := h.2 c17
        refine r_aload_n (pc := 117) (i := 0) dX5_bind_117 rfl rfl ?_
        obtain ⟨k18, h⟩ := h
        obtain ⟨b19, hb19, h⟩ := h
        refine r_getr (pc := 118) flX5_20 dX5_bind_118 rfl k18 hb19 ?_
        refine r_iload (pc := 121) (i := 8) dX5_bind_121 rfl ?_
        obtain ⟨k20, h⟩ := h
        obtain ⟨i21, h⟩ := h
        obtain ⟨b22, hb22, h⟩ := h
        refine r_aald (pc := 123) dX5_bind_123 rfl k20 i21 hb22 ?_
        refine r_dup (pc := 124) dX5_bind_124 rfl ?_
        obtain ⟨k23, h⟩ := h
        refine r_geti (pc := 125) flX5_94 dX5_bind_125 (Or.inl rfl) k23 ?_
        refine r_iload (pc := 128) (i := 5) dX5_bind_128 rfl ?_
        refine r_iconst (pc := 130) (v := (-1)) dX5_bind_130 (by decide) ?_
        refine r_ixor (pc := 131) dX5_bind_131 ?_
        refine r_iand (pc := 132) dX5_bind_132 ?_
        refine r_puti (pc := 133) flX5_94 dX5_bind_133 (Or.inl rfl) (fun q hq => by cases hq; rfl) k23 ?_
        replace h := h _ rfl
        refine r_iload (pc := 136) (i := 8) dX5_bind_136 rfl ?_
        exact r_iret (pc := 138) dX5_bind_138 rfl h
    · replace h := h.2 c13
      refine r_iconst (pc := 98) (v := (-1)) dX5_bind_98 (by decide) ?_
      exact r_iret (pc := 99) dX5_bind_99 rfl h
  · replace h := h.2 c5
    refine r_iconst (pc := 58) (v := (-1)) dX5_bind_58 (by decide) ?_
    exact r_iret (pc := 59) dX5_bind_59 rfl h
abbrev LX5_join_86 (G : GG) (d rc rs : Nat) (p0 : Nat) (x1 : Int32) (x2 : Int32) (x3 : Int32) (x4 : Int32) (p5 : Nat) (M : Mem) (Q : Option Value → Mem → Prop) : Prop := Wk G (d + 1) rc rs mX5_join 86 [some (.ref p0), some (.int x1), some (.int x2), some (.int x3), some (.int x4), some (.ref p5)] [] M Q
theorem eX5_join {G : GG} {d rc rs : Nat} (o : Nat) (a1 : Int32) (a2 : Int32) (a3 : Int32) (a4 : Int32)  {M : Mem} {Q : Option Value → Mem → Prop} (h : (x_h M o).1 = 21 ∧ ((x_i M o 4) < 60 → ∃ b3, x_r M o 1 = some b3 ∧ (4 ≤ (x_h M b3).1 ∧ (x_h M b3).1 < 8) ∧ vp_in (x_i M o 4) (x_h M b3).2 ∧ (∃ b6, x_r M b3 (x_i M o 4).toNatClampNeg = some b6 ∧ (x_h M b6).1 = 19 ∧ (∀ M8, M8 = x_si M b6 3 a1 → ∀ M9, M9 = x_si M8 b6 4 a2 → ∀ M10, M10 = x_si M9 b6 5 a3 → ∀ M11, M11 = x_si M10 b6 6 a4 → ∀ M12, M12 = x_si M11 b6 8 0 → Call G d 0 0 mX11_within [.int a3, .int (x_i M12 o 4)] M12 (fun r13 M14 => ∃ v15 : Int32, r13 = some (.int v15) ∧ (v15 = 0 → LX5_join_86 G d rc rs o a1 a2 a3 a4 b6 M14 Q) ∧ (¬ v15 = 0 → (x_h M14 b6).1 = 19 ∧ (x_h M14 o).1 = 21 ∧ (∃ b19, x_r M14 o 1 = some b19 ∧ (4 ≤ (x_h M14 b19).1 ∧ (x_h M14 b19).1 < 8) ∧ vp_in a3 (x_h M14 b19).2 ∧ (∃ b22, x_r M14 b19 a3.toNatClampNeg = some b22 ∧ (x_h M14 b22).1 = 19 ∧ (∀ M24, M24 = x_si M14 b6 8 ((x_i M14 b6 8) ||| (x_i M14 b22 8)) → LX5_join_86 G d rc rs o a1 a2 a3 a4 b6 M24 Q)))))))) ∧ (¬ (x_i M o 4) < 60 → Call G d 0 0 mX5_fail [.ref o] M (fun r25 M26 => ∃ v27 : Int32, r25 = some (.int v27) ∧ Q (some (.int v27)) M26))) : Call G (d + 1) rc rs mX5_join [.ref o, .int a1, .int a2, .int a3, .int a4] M Q := by
  refine call_of (by decide) (Nat.le_of_ble_eq_true rfl) ?_
  show Wk G (d + 1) rc rs mX5_join 0 [some (.ref o), some (.int a1), some (.int a2), some (.int a3), some (.int a4), none] [] M Q
  refine r_aload_n (pc := 0) (i := 0) dX5_join_0 rfl rfl ?_
  obtain ⟨k1, h⟩ := h
  refine r_geti (pc := 1) flX5_34 dX5_join_1 (Or.inl rfl) k1 ?_
  refine r_bipush (pc := 4) (v := 60) dX5_join_4 (by decide) ?_
  refine r_icmp_lt (pc := 6) (tgt := 14) dX5_join_6 (by decide) (fun c2 => ?_) (fun c2 => ?_)
  · replace h := h.1 c2
    refine r_aload_n (pc := 14) (i := 0) dX5_join_14 rfl rfl ?_
    obtain ⟨b3, hb3, h⟩ := h
    refine r_getr (pc := 15) flX5_20 dX5_join_15 rfl k1 hb3 ?_
    refine r_aload_n (pc := 18) (i := 0) dX5_join_18 rfl rfl ?_
    refine r_geti (pc := 19) flX5_34 dX5_join_19 (Or.inl rfl) k1 ?_
    obtain ⟨k4, h⟩ := h
    obtain ⟨i5, h⟩ := h
    obtain ⟨b6, hb6, h⟩ := h
    refine r_aald (pc := 22) dX5_join_22 rfl k4 i5 hb6 ?_
    refine r_astore (pc := 23) (i := 5) dX5_join_23 rfl (Nat.le_of_ble_eq_true rfl) ?_
    refine r_aload (pc := 25) (i := 5) dX5_join_25 rfl ?_
    refine r_iload_n (pc := 27) (i := 1) dX5_join_27 rfl rfl ?_
    obtain ⟨k7, h⟩ := h
    refine r_puti (pc := 28) flX5_157 dX5_join_28 (Or.inl rfl) (fun q hq => by cases hq; rfl) k7 ?_
    replace h := h _ rfl
    refine r_aload (pc := 31) (i := 5) dX5_join_31 rfl ?_
    refine r_iload_n (pc := 33) (i := 2) dX5_join_33 rfl rfl ?_
    refine r_puti (pc := 34) flX5_108 dX5_join_34 (Or.inl rfl) (fun q hq => by cases hq; rfl) k7 ?_
    replace h := h _ rfl
    refine r_aload (pc := 37) (i := 5) dX5_join_37 rfl ?_
    refine r_iload_n (pc := 39) (i := 3) dX5_join_39 rfl rfl ?_
    refine r_puti (pc := 40) flX5_160 dX5_join_40 (Or.inl rfl) (fun q hq => by cases hq; rfl) k7 ?_
    replace h := h _ rfl
    refine r_aload (pc := 43) (i := 5) dX5_join_43 rfl ?_
    refine r_iload (pc := 45) (i := 4) dX5_join_45 rfl ?_
    refine r_puti (pc := 47) flX5_163 dX5_join_47 (Or.inl rfl) (fun q hq => by cases hq; rfl) k7 ?_
    replace h := h _ rfl
    refine r_aload (pc := 50) (i := 5) dX5_join_50 rfl ?_
    refine r_iconst (pc := 52) (v := 0) dX5_join_52 (by decide) ?_
    refine r_puti (pc := 53) flX5_94 dX5_join_53 (Or.inl rfl) (fun q hq => by cases hq; rfl) k7 ?_
    replace h := h _ rfl
    refine r_iload_n (pc := 56) (i := 3) dX5_join_56 rfl rfl ?_
    refine r_aload_n (pc := 57) (i := 0) dX5_join_57 rfl rfl ?_
    refine r_geti (pc := 58) flX5_34 dX5_join_58 (Or.inl rfl) k1 ?_
    refine r_callS (pc := 61) (as := [_, _]) (st := []) okX11_within lkX5_166 stX11_within dX5_join_61 rfl (Nat.le_of_ble_eq_true rfl) (Nat.zero_le _) (Nat.zero_le _) (Call.mono h (fun r13 M14 h => ?_))
    obtain ⟨v15, rfl, h⟩ := h
    refine r_if_eq (pc := 64) (tgt := 86) dX5_join_64 (by decide) (fun c16 => ?_) (fun c16 => ?_)
    · replace h := h.1 c16
      exact h
    · replace h := h.2 c16
      refine r_aload (pc := 67) (i := 5) dX5_join_67 rfl ?_
      refine r_dup (pc := 69) dX5_join_69 rfl ?_
      obtain ⟨k17, h⟩ := h
      refine r_geti (pc := 70) flX5_94 dX5_join_70 (Or.inl rfl) k17 ?_
      refine r_aload_n (pc := 73) (i := 0) dX5_join_73 rfl rfl ?_
      obtain ⟨k18, h⟩ := h
      obtain ⟨b19, hb19, h⟩ := h
      refine r_getr (pc := 74) flX5_20 dX5_join_74 rfl k18 hb19 ?_
      refine r_iload_n (pc := 77) (i := 3) dX5_join_77 rfl rfl ?_
      obtain ⟨k20, h⟩ := h
      obtain ⟨i21, h⟩ := h
      obtain ⟨b22, hb22, h⟩ := h
      refine r_aald (pc := 78) dX5_join_78 rfl k20 i21 hb22 ?_
      obtain ⟨k23, h⟩ := h
      refine r_geti (pc := 79) flX5_94 dX5_join_79 (Or.inl rfl) k23 ?_
      refine r_ior (pc := 82) dX5_join_82 ?_
      refine r_puti (pc := 83) flX5_94 dX5_join_83 (Or.inl rfl) (fun q hq => by cases hq; rfl) k17 ?_
      replace h := h _ rfl
      exact h
  · replace h := h.2 c2
    refine r_aload_n (pc := 9) (i := 0) dX5_join_9 rfl rfl ?_
    refine r_callV (pc := 10) (ci := 5) (as := []) (st := []) okX5_fail lkX5_71 inX5_fail seX5_fail ⟨_, rfl, rfl⟩ dX5_join_10 rfl k1 (Nat.le_of_ble_eq_true rfl) (Nat.zero_le _) (Nat.zero_le _) (Call.mono h (fun r25 M26 h => ?_))
    obtain ⟨v27, rfl, h⟩ := h
    exact r_iret (pc := 13) dX5_join_13 rfl h
theorem vX5_join_86 {G : GG} {d rc rs : Nat} (p0 : Nat) (x1 : Int32) (x2 : Int32) (x3 : Int32) (x4 : Int32) (p5 : Nat)  {M : Mem} {Q : Option Value → Mem → Prop} (h : (x_h M p0).1 = 21 ∧ Call G d 0 0 mX11_within [.int x4, .int (x_i M p0 4)] M (fun r2 M3 => ∃ v4 : Int32, r2 = some (.int v4) ∧ (v4 = 0 → (x_h M3 p0).1 = 21 ∧ (∀ M7, M7 = x_si M3 p0 4 ((x_i M3 p0 4) + 1) → Q (some (.int ((x_i M7 p0 4) - 1))) M7)) ∧ (¬ v4 = 0 → (x_h M3 p5).1 = 19 ∧ (x_h M3 p0).1 = 21 ∧ (∃ b10, x_r M3 p0 1 = some b10 ∧ (4 ≤ (x_h M3 b10).1 ∧ (x_h M3 b10).1 < 8) ∧ vp_in x4 (x_h M3 b10).2 ∧ (∃ b13, x_r M3 b10 x4.toNatClampNeg = some b13 ∧ (x_h M3 b13).1 = 19 ∧ (∀ M15, M15 = x_si M3 p5 8 ((x_i M3 p5 8) ||| (x_i M3 b13 8)) → ∀ M16, M16 = x_si M15 p0 4 ((x_i M15 p0 4) + 1) → Q (some (.int ((x_i M16 p0 4) - 1))) M16)))))) : LX5_join_86 G d rc rs p0 x1 x2 x3 x4 p5 M Q := by
  show Wk G (d + 1) rc rs mX5_join 86 _ _ M Q
  refine r_iload (pc := 86) (i := 4) dX5_join_86 rfl ?_
  refine r_aload_n (pc := 88) (i := 0) dX5_join_88 rfl rfl ?_
  obtain ⟨k1, h⟩ := h
  refine r_geti (pc := 89) flX5_34 dX5_join_89 (Or.inl rfl) k1 ?_
  refine r_callS (pc := 92) (as := [_, _]) (st := []) okX11_within lkX5_166 stX11_within dX5_join_92 rfl (Nat.le_of_ble_eq_true rfl) (Nat.zero_le _) (Nat.zero_le _) (Call.mono h (fun r2 M3 h => ?_))
  obtain ⟨v4, rfl, h⟩ := h
  refine r_if_eq (pc := 95) (tgt := 118) dX5_join_95 (by decide) (fun c5 => ?_) (fun c5 => ?_)
  · replace h := h.1 c5
    refine r_aload_n (pc := 118) (i := 0) dX5_join_118 rfl rfl ?_
    refine r_dup (pc := 119) dX5_join_119 rfl ?_
    obtain ⟨k6, h⟩ := h
    refine r_geti (pc := 120) flX5_34 dX5_join_120 (Or.inl rfl) k6 ?_
    refine r_iconst (pc := 123) (v := 1) dX5_join_123 (by decide) ?_
    refine r_iadd (pc := 124) dX5_join_124 ?_
    refine r_puti (pc := 125) flX5_34 dX5_join_125 (Or.inl rfl) (fun q hq => by cases hq; rfl) k6 ?_
    replace h := h _ rfl
    refine r_aload_n (pc := 128) (i := 0) dX5_join_128 rfl rfl ?_
    refine r_geti (pc := 129) flX5_34 dX5_join_129 (Or.inl rfl) k6 ?_
    refine r_iconst (pc := 132) (v := 1) dX5_join_132 (by decide) ?_
    refine r_isub (pc := 133) dX5_join_133 ?_
    exact r_iret (pc := 134) dX5_join_134 rfl h
  · replace h := h.2 c5
    refine r_aload (pc := 98) (i := 5) dX5_join_98 rfl ?_
    refine r_dup (pc := 100) dX5_join_100 rfl ?_
    obtain ⟨k8, h⟩ := h
    refine r_geti (pc := 101) flX5_94 dX5_join_101 (Or.inl rfl) k8 ?_
    refine r_aload_n (pc := 104) (i := 0) dX5_join_104 rfl rfl ?_
    obtain ⟨k9, h⟩ := h
    obtain ⟨b10, hb10, h⟩ := h
    refine r_getr (pc := 105) flX5_20 dX5_join_105 rfl k9 hb10 ?_
    refine r_iload (pc := 108) (i := 4) dX5_join_108 rfl ?_
    obtain ⟨k11, h⟩ := h
    obtain ⟨i12, h⟩ := h
    obtain ⟨b13, hb13, h⟩ := h
    refine r_aald (pc := 110) dX5_join_110 rfl k11 i12 hb13 ?_
    obtain ⟨k14, h⟩ := h
    refine r_geti (pc := 111) flX5_94 dX5_join_111 (Or.inl rfl) k14 ?_
    refine r_ior (pc := 114) dX5_join_114 ?_
    refine r_puti (pc := 115) flX5_94 dX5_join_115 (Or.inl rfl) (fun q hq => by cases hq; rfl) k8 ?_
    replace h := h _ rfl
    refine r_aload_n (pc := 118) (i := 0) dX5_join_118 rfl rfl ?_
    refine r_dup (pc := 119) dX5_join_119 rfl ?_
    refine r_geti (pc := 120) flX5_34 dX5_join_120 (Or.inl rfl) k9 ?_
    refine r_iconst (pc := 123) (v := 1) dX5_join_123 (by decide) ?_
    refine r_iadd (pc := 124) dX5_join_124 ?_
    refine r_puti (pc := 125) flX5_34 dX5_join_125 (Or.inl rfl) (fun q hq => by cases hq; rfl) k9 ?_
    replace h := h _ rfl
    refine r_aload_n (pc := 128) (i := 0) dX5_join_128 rfl rfl ?_
    refine r_geti (pc := 129) flX5_34 dX5_join_129 (Or.inl rfl) k9 ?_
    refine r_iconst (pc := 132) (v := 1) dX5_join_132 (by decide) ?_
    refine r_isub (pc := 133) dX5_join_133 ?_
    exact r_iret (pc := 134) dX5_join_134 rfl h
theorem eX5_rowAtom {G : GG} {d rc rs : Nat} (o : Nat)  {M : Mem} {Q : Option Value → Mem → Prop} (h : (x_h M o).1 = 21 ∧ ((x_i M o 4) < 60 → ∃ b3, x_r M o 1 = some b3 ∧ (4 ≤ (x_h M b3).1 ∧ (x_h M b3).1 < 8) ∧ vp_in (x_i M o 4) (x_h M b3).2 ∧ (∃ b6, x_r M b3 (x_i M o 4).toNatClampNeg = some b6 ∧ (x_h M b6).1 = 19 ∧ (∃ b8, x_r M b6 0 = some b8 ∧ Call G d 0 0 mX5_entry [.ref o, .ref b8] M (fun r9 M10 => ∃ v11 : Int32, r9 = some (.int v11) ∧ (¬ v11 = 0 → (x_h M10 o).1 = 21 ∧ Call G d 0 0 mX5_place [.ref o] M10 (fun r14 M15 => ∃ v16 : Int32, r14 = some (.int v16) ∧ (x_h M15 o).1 = 21 ∧ Call G d 0 0 mX5_eat [.ref o, .int 16] M15 (fun r18 M19 => ∃ v20 : Int32, r18 = some (.int v20) ∧ (¬ v20 = 0 → (x_h M19 o).1 = 21 ∧ Call G d 0 0 mX5_peek [.ref o] M19 (fun r23 M24 => ∃ v25 : Int32, r23 = some (.int v25) ∧ (¬ v25 = 2 → (x_h M24 b6).1 = 19 ∧ (∃ b28, x_r M24 b6 1 = some b28 ∧ (x_h M24 o).1 = 21 ∧ Call G d 0 0 mX5_entry [.ref o, .ref b28] M24 (fun r30 M31 => ∃ v32 : Int32, r30 = some (.int v32) ∧ (¬ v32 = 0 → (x_h M31 o).1 = 21 ∧ Call G d 0 0 mX5_atom [.ref o, .int 1, .int v16, .int 16] M31 (fun r35 M36 => ∃ v37 : Int32, r35 = some (.int v37) ∧ Q (some (.int v37)) M36)) ∧ (v32 = 0 → Q (some (.int (-1))) M31)))) ∧ (v25 = 2 → (x_h M24 b6).1 = 19 ∧ (∃ b39, x_r M24 b6 1 = some b39 ∧ (x_h M24 b39).1 = 24 ∧ Call G d 0 0 mX8_clear [.ref b39] M24 (fun r41 M42 => r41 = none ∧ (x_h M42 b6).1 = 19 ∧ (∃ b44, x_r M42 b6 1 = some b44 ∧ (x_h M42 o).1 = 21 ∧ Call G d 0 0 mX5_worth [.ref o] M42 (fun r46 M47 => ∃ v48 : Int32, r46 = some (.int v48) ∧ (x_h M47 b44).1 = 24 ∧ (∀ M50, M50 = x_si M47 b44 2 v48 → (x_h M47 o).1 = 21 ∧ Call G d 0 0 mX5_worth [.ref o] M50 (fun r52 M53 => ∃ v54 : Int32, r52 = some (.int v54) ∧ (v54 < 8 → (x_h M53 o).1 = 21 ∧ (∀ M57, M57 = x_si M53 o 5 ((x_i M53 o 5) + 1) → Call G d 0 0 mX5_atom [.ref o, .int 1, .int v16, .int 16] M57 (fun r58 M59 => ∃ v60 : Int32, r58 = some (.int v60) ∧ Q (some (.int v60)) M59))) ∧ (¬ v54 < 8 → (x_h M53 o).1 = 21 ∧ Call G d 0 0 mX5_place [.ref o] M53 (fun r62 M63 => ∃ v64 : Int32, r62 = some (.int v64) ∧ (x_h M63 o).1 = 21 ∧ Call G d 0 0 mX5_blame [.ref o, .int v64] M63 (fun r66 M67 => r66 = none ∧ (x_h M67 o).1 = 21 ∧ (∀ M69, M69 = x_si M67 o 5 ((x_i M67 o 5) + 1) → Call G d 0 0 mX5_atom [.ref o, .int 1, .int v16, .int 16] M69 (fun r70 M71 => ∃ v72 : Int32, r70 = some (.int v72) ∧ Q (some (.int v72)) M71)))))))))))))) ∧ (v20 = 0 → Q (some (.int (-1))) M19)))) ∧ (v11 = 0 → Q (some (.int (-1))) M10))))) ∧ (¬ (x_i M o 4) < 60 → Call G d 0 0 mX5_fail [.ref o] M (fun r73 M74 => ∃ v75 : Int32, r73 = some (.int v75) ∧ Q (some (.int v75)) M74))) : Call G (d + 1) rc rs mX5_rowAtom [.ref o] M Q := by
  refine call_of (by decide) (Nat.le_of_ble_eq_true rfl) ?_
  show Wk G (d + 1) rc rs mX5_rowAtom 0 [some (.ref o), none, none] [] M Q
  refine r_aload_n (pc := 0) (i := 0) dX5_rowAtom_0 rfl rfl ?_
  obtain ⟨k1, h⟩ := h
  refine r_geti (pc := 1) flX5_34 dX5_rowAtom_1 (Or.inl rfl) k1 ?_
  refine r_bipush (pc := 4) (v := 60) dX5_rowAtom_4 (by decide) ?_
  refine r_icmp_lt (pc := 6) (tgt := 14) dX5_rowAtom_6 (by decide) (fun c2 => ?_) (fun c2 => ?_)
  · replace h := h.1 c2
    refine r_aload_n (pc := 14) (i := 0) dX5_rowAtom_14 rfl rfl ?_
    obtain ⟨b3, hb3, h⟩ := h
    refine r_getr (pc := 15) flX5_20 dX5_rowAtom_15 rfl k1 hb3 ?_
    refine r_aload_n (pc := 18) (i := 0) dX5_rowAtom_18 rfl rfl ?_
    refine r_geti (pc := 19) flX5_34 dX5_rowAtom_19 (Or.inl rfl) k1 ?_
    obtain ⟨k4, h⟩ := h
    obtain ⟨i5, h⟩ := h
    obtain ⟨b6, hb6, h⟩ := h
    refine r_aald (pc := 22) dX5_rowAtom_22 rfl k4 i5 hb6 ?_
    refine r_astore_n (pc := 23) (i := 1) dX5_rowAtom_23 rfl rfl (Nat.le_of_ble_eq_true rfl) ?_
    refine r_aload_n (pc := 24) (i := 0) dX5_rowAtom_24 rfl rfl ?_
    refine r_aload_n (pc := 25) (i := 1) dX5_rowAtom_25 rfl rfl ?_
    obtain ⟨k7, h⟩ := h
    obtain ⟨b8, hb8, h⟩ := h
    refine r_getr (pc := 26) flX5_170 dX5_rowAtom_26 rfl k7 hb8 ?_
    refine r_callV (pc := 29) (ci := 5) (as := [_]) (st := []) okX5_entry lkX5_174 inX5_entry seX5_entry ⟨_, rfl, rfl⟩ dX5_rowAtom_29 rfl k1 (Nat.le_of_ble_eq_true rfl) (Nat.zero_le _) (Nat.zero_le _) (Call.mono h (fun r9 M10 h => ?_))
    obtain ⟨v11, rfl, h⟩ := h
    refine r_if_ne (pc := 32) (tgt := 37) dX5_rowAtom_32 (by decide) (fun c12 => ?_) (fun c12 => ?_)
    · replace h := h.1 c12
      refine r_aload_n (pc := 37) (i := 0) dX5_rowAtom_37 rfl rfl ?_
      obtain ⟨k13, h⟩ := h
      refine r_callV (pc := 38) (ci := 5) (as := []) (st := []) okX5_place lkX5_126 inX5_place seX5_place ⟨_, rfl, rfl⟩ dX5_rowAtom_38 rfl k13 (Nat.le_of_ble_eq_true rfl) (Nat.zero_le _) (Nat.zero_le _) (Call.mono h (fun r14 M15 h => ?_))
      obtain ⟨v16, rfl, h⟩ := h
      refine r_istore_n (pc := 41) (i := 2) dX5_rowAtom_41 rfl rfl (Nat.le_of_ble_eq_true rfl) ?_
      refine r_aload_n (pc := 42) (i := 0) dX5_rowAtom_42 rfl rfl ?_
      refine r_bipush (pc := 43) (v := 16) dX5_rowAtom_43 (by decide) ?_
      obtain ⟨k17, h⟩ := h
      refine r_callV (pc := 45) (ci := 5) (as := [_]) (st := []) okX5_eat lkX5_147 inX5_eat seX5_eat ⟨_, rfl, rfl⟩ dX5_rowAtom_45 rfl k17 (Nat.le_of_ble_eq_true rfl) (Nat.zero_le _) (Nat.zero_le _) (Call.mono h (fun r18 M19 h => ?_))
      obtain ⟨v20, rfl, h⟩ := h
      refine r_if_ne (pc := 48) (tgt := 53) dX5_rowAtom_48 (by decide) (fun c21 => ?_) (fun c21 => ?_)
      · replace h := h.1 c21
        refine r_aload_n (pc := 53) (i := 0) dX5_rowAtom_53 rfl rfl ?_
        obtain ⟨k22, h⟩ := h
        refine r_callV (pc := 54) (ci := 5) (as := []) (st := []) okX5_peek lkX5_67 inX5_peek seX5_peek ⟨_, rfl, rfl⟩ dX5_rowAtom_54 rfl k22 (Nat.le_of_ble_eq_true rfl) (Nat.zero_le _) (Nat.zero_le _) (Call.mono h (fun r23 M24 h => ?_))
        obtain ⟨v25, rfl, h⟩ := h
        refine r_iconst (pc := 57) (v := 2) dX5_rowAtom_57 (by decide) ?_
        refine r_icmp_ne (pc := 58) (tgt := 109) dX5_rowAtom_58 (by decide) (fun c26 => ?_) (fun c26 => ?_)
        · replace h := h.1 c26
          refine r_aload_n (pc := 109) (i := 0) dX5_rowAtom_109 rfl rfl ?_
          refine r_aload_n (pc := 110) (i := 1) dX5_rowAtom_110 rfl rfl ?_
          obtain ⟨k27, h⟩ := h
          obtain ⟨b28, hb28, h⟩ := h
          refine r_getr (pc := 111) flX5_178 dX5_rowAtom_111 rfl k27 hb28 ?_
          obtain ⟨k29, h⟩ := h
          refine r_callV (pc := 114) (ci := 5) (as := [_]) (st := []) okX5_entry lkX5_174 inX5_entry seX5_entry ⟨_, rfl, rfl⟩ dX5_rowAtom_114 rfl k29 (Nat.le_of_ble_eq_true rfl) (Nat.zero_le _) (Nat.zero_le _) (Call.mono h (fun r30 M31 h => ?_))
          obtain ⟨v32, rfl, h⟩ := h
          refine r_if_ne (pc := 117) (tgt := 122) dX5_rowAtom_117 (by decide) (fun c33 => ?_) (fun c33 => ?_)
          · replace h := h.1 c33
            refine r_aload_n (pc := 122) (i := 0) dX5_rowAtom_122 rfl rfl ?_
            refine r_iconst (pc := 123) (v := 1) dX5_rowAtom_123 (by decide) ?_
            refine r_iload_n (pc := 124) (i := 2) dX5_rowAtom_124 rfl rfl ?_
            refine r_bipush (pc := 125) (v := 16) dX5_rowAtom_125 (by decide) ?_
            obtain ⟨k34, h⟩ := h
            refine r_callV (pc := 127) (ci := 5) (as := [_, _, _]) (st := []) okX5_atom lkX5_187 inX5_atom seX5_atom ⟨_, rfl, rfl⟩ dX5_rowAtom_127 rfl k34 (Nat.le_of_ble_eq_true rfl) (Nat.zero_le _) (Nat.zero_le _) (Call.mono h (fun r35 M36 h => ?_))
            obtain ⟨v37, rfl, h⟩ := h
            exact r_iret (pc := 130) dX5_rowAtom_130 rfl h
          · replace h := h.2 c33
            refine r_iconst (pc := 120) (v := (-1)) dX5_rowAtom_120 (by decide) ?_
            exact r_iret (pc := 121) dX5_rowAtom_121 rfl h
        · replace h := h.2 c26
          refine r_aload_n (pc := 61) (i := 1) dX5_rowAtom_61 rfl rfl ?_
          obtain ⟨k38, h⟩ := h
          obtain ⟨b39, hb39, h⟩ := h
          refine r_getr (pc := 62) flX5_178 dX5_rowAtom_62 rfl k38 hb39 ?_
          obtain ⟨k40, h⟩ := h
          refine r_callV (pc := 65) (ci := 8) (as := []) (st := []) okX8_clear lkX5_181 inX8_clear seX8_clear ⟨_, rfl, rfl⟩ dX5_rowAtom_65 rfl k40 (Nat.le_of_ble_eq_true rfl) (Nat.zero_le _) (Nat.zero_le _) (Call.mono h (fun r41 M42 h => ?_))
          obtain ⟨rfl, h⟩ := h
          refine r_aload_n (pc := 68) (i := 1) dX5_rowAtom_68 rfl rfl ?_
          obtain ⟨k43, h⟩ := h
          obtain ⟨b44, hb44, h⟩ := h
          refine r_getr (pc := 69) flX5_178 dX5_rowAtom_69 rfl k43 hb44 ?_
          refine r_aload_n (pc := 72) (i := 0) dX5_rowAtom_72 rfl rfl ?_
          obtain ⟨k45, h⟩ := h
          refine r_callV (pc := 73) (ci := 5) (as := []) (st := [_]) okX5_worth lkX5_151 inX5_worth seX5_worth ⟨_, rfl, rfl⟩ dX5_rowAtom_73 rfl k45 (Nat.le_of_ble_eq_true rfl) (Nat.zero_le _) (Nat.zero_le _) (Call.mono h (fun r46 M47 h => ?_))
          obtain ⟨v48, rfl, h⟩ := h
          obtain ⟨k49, h⟩ := h
          refine r_puti (pc := 76) flX5_184 dX5_rowAtom_76 (Or.inl rfl) (fun q hq => by cases hq; rfl) k49 ?_
          replace h := h _ rfl
          refine r_aload_n (pc := 79) (i := 0) dX5_rowAtom_79 rfl rfl ?_
          obtain ⟨k51, h⟩ := h
          refine r_callV (pc := 80) (ci := 5) (as := []) (st := []) okX5_worth lkX5_151 inX5_worth seX5_worth ⟨_, rfl, rfl⟩ dX5_rowAtom_80 rfl k51 (Nat.le_of_ble_eq_true rfl) (Nat.zero_le _) (Nat.zero_le _) (Call.mono h (fun r52 M53 h => ?_))
          obtain ⟨v54, rfl, h⟩ := h
          refine r_bipush (pc := 83) (v := 8) dX5_rowAtom_83 (by decide) ?_
          refine r_icmp_lt (pc := 85) (tgt := 96) dX5_rowAtom_85 (by decide) (fun c55 => ?_) (fun c55 => ?_)
          · replace h := h.1 c55
            refine r_aload_n (pc := 96) (i := 0) dX5_rowAtom_96 rfl rfl ?_
            refine r_dup (pc := 97) dX5_rowAtom_97 rfl ?_
            obtain ⟨k56, h⟩ := h
            refine r_geti (pc := 98) flX5_37 dX5_rowAtom_98 (Or.inl rfl) k56 ?_
            refine r_iconst (pc := 101) (v := 1) dX5_rowAtom_101 (by decide) ?_
            refine r_iadd (pc := 102) dX5_rowAtom_102 ?_
            refine r_puti (pc := 103) flX5_37 dX5_rowAtom_103 (Or.inl rfl) (fun q hq => by cases hq; rfl) k56 ?_
            replace h := h _ rfl
            refine r_goto (pc := 106) (tgt := 122) dX5_rowAtom_106 (by decide) ?_
            refine r_aload_n (pc := 122) (i := 0) dX5_rowAtom_122 rfl rfl ?_
            refine r_iconst (pc := 123) (v := 1) dX5_rowAtom_123 (by decide) ?_
            refine r_iload_n (pc := 124) (i := 2) dX5_rowAtom_124 rfl rfl ?_
            refine r_bipush (pc := 125) (v := 16) dX5_rowAtom_125 (by decide) ?_
            refine r_callV (pc := 127) (ci := 5) (as := [_, _, _]) (st := []) okX5_atom lkX5_187 inX5_atom seX5_atom ⟨_, rfl, rfl⟩ dX5_rowAtom_127 rfl k56 (Nat.le_of_ble_eq_true rfl) (Nat.zero_le _) (Nat.zero_le _) (Call.mono h (fun r58 M59 h => ?_))
            obtain ⟨v60, rfl, h⟩ := h
            exact r_iret (pc := 130) dX5_rowAtom_130 rfl h
          · replace h := h.2 c55
            refine r_aload_n (pc := 88) (i := 0) dX5_rowAtom_88 rfl rfl ?_
            refine r_aload_n (pc := 89) (i := 0) dX5_rowAtom_89 rfl rfl ?_
            obtain ⟨k61, h⟩ := h
            refine r_callV (pc := 90) (ci := 5) (as := []) (st := [_]) okX5_place lkX5_126 inX5_place seX5_place ⟨_, rfl, rfl⟩ dX5_rowAtom_90 rfl k61 (Nat.le_of_ble_eq_true rfl) (Nat.zero_le _) (Nat.zero_le _) (Call.mono h (fun r62 M63 h => ?_))
            obtain ⟨v64, rfl, h⟩ := h
            obtain ⟨k65, h⟩ := h
            refine r_callV (pc := 93) (ci := 5) (as := [_]) (st := []) okX5_blame lkX5_154 inX5_blame seX5_blame ⟨_, rfl, rfl⟩ dX5_rowAtom_93 rfl k65 (Nat.le_of_ble_eq_true rfl) (Nat.zero_le _) (Nat.zero_le _) (Call.mono h (fun r66 M67 h => ?_))
            obtain ⟨rfl, h⟩ := h
            refine r_aload_n (pc := 96) (i := 0) dX5_rowAtom_96 rfl rfl ?_
            refine r_dup (pc := 97) dX5_rowAtom_97 rfl ?_
            obtain ⟨k68, h⟩ := h
            refine r_geti (pc := 98) flX5_37 dX5_rowAtom_98 (Or.inl rfl) k68 ?_
            refine r_iconst (pc := 101) (v := 1) dX5_rowAtom_101 (by decide) ?_
            refine r_iadd (pc := 102) dX5_rowAtom_102 ?_
            refine r_puti (pc := 103) flX5_37 dX5_rowAtom_103 (Or.inl rfl) (fun q hq => by cases hq; rfl) k68 ?_
            replace h := h _ rfl
            refine r_goto (pc := 106) (tgt := 122) dX5_rowAtom_106 (by decide) ?_
            refine r_aload_n (pc := 122) (i := 0) dX5_rowAtom_122 rfl rfl ?_
            refine r_iconst (pc := 123) (v := 1) dX5_rowAtom_123 (by decide) ?_
            refine r_iload_n (pc := 124) (i := 2) dX5_rowAtom_124 rfl rfl ?_
            refine r_bipush (pc := 125) (v := 16) dX5_rowAtom_125 (by decide) ?_
            refine r_callV (pc := 127) (ci := 5) (as := [_, _, _]) (st := []) okX5_atom lkX5_187 inX5_atom seX5_atom ⟨_, rfl, rfl⟩ dX5_rowAtom_127 rfl k68 (Nat.le_of_ble_eq_true rfl) (Nat.zero_le _) (Nat.zero_le _) (Call.mono h (fun r70 M71 h => ?_))
            obtain ⟨v72, rfl, h⟩ := h
            exact r_iret (pc := 130) dX5_rowAtom_130 rfl h
      · replace h := h.2 c21
        refine r_iconst (pc := 51) (v := (-1)) dX5_rowAtom_51 (by decide) ?_
        exact r_iret (pc := 52) dX5_rowAtom_52 rfl h
    · replace h := h.2 c12
      refine r_iconst (pc := 35) (v := (-1)) dX5_rowAtom_35 (by decide) ?_
      exact r_iret (pc := 36) dX5_rowAtom_36 rfl h
  · replace h := h.2 c2
    refine r_aload_n (pc := 9) (i := 0) dX5_rowAtom_9 rfl rfl ?_
    refine r_callV (pc := 10) (ci := 5) (as := []) (st := []) okX5_fail lkX5_71 inX5_fail seX5_fail ⟨_, rfl, rfl⟩ dX5_rowAtom_10 rfl k1 (Nat.le_of_ble_eq_true rfl) (Nat.zero_le _) (Nat.zero_le _) (Call.mono h (fun r73 M74 h => ?_))
    obtain ⟨v75, rfl, h⟩ := h
    exact r_iret (pc := 13) dX5_rowAtom_13 rfl h
theorem eX5_atom {G : GG} {d rc rs : Nat} (o : Nat) (a1 : Int32) (a2 : Int32) (a3 : Int32)  {M : Mem} {Q : Option Value → Mem → Prop} (h : (x_h M o).1 = 21 ∧ Call G d 0 0 mX5_join [.ref o, .int a1, .int a2, .int (-1), .int (-1)] M (fun r2 M3 => ∃ v4 : Int32, r2 = some (.int v4) ∧ (v4 < 0 → Q (some (.int v4)) M3) ∧ (¬ v4 < 0 → (x_h M3 o).1 = 21 ∧ (∃ b7, x_r M3 o 1 = some b7 ∧ (4 ≤ (x_h M3 b7).1 ∧ (x_h M3 b7).1 < 8) ∧ vp_in v4 (x_h M3 b7).2 ∧ (∃ b10, x_r M3 b7 v4.toNatClampNeg = some b10 ∧ (x_h M3 b10).1 = 19 ∧ (∀ M12, M12 = x_si M3 b10 7 a3 → ∃ b13, x_r M12 b7 v4.toNatClampNeg = some b13 ∧ ∃ b14, x_r M12 b7 v4.toNatClampNeg = some b14 ∧ (x_h M3 b14).1 = 19 ∧ (∃ b16, x_r M12 b14 0 = some b16 ∧ (x_h M3 b16).1 = 24 ∧ (∃ b18, x_r M12 b7 v4.toNatClampNeg = some b18 ∧ (x_h M3 b18).1 = 19 ∧ (∃ b20, x_r M12 b18 1 = some b20 ∧ (x_h M3 b20).1 = 24 ∧ (x_h M3 b13).1 = 19 ∧ (∀ M23, M23 = x_si M12 b13 8 ((x_i M12 b16 3) ||| (x_i M12 b20 3)) → Q (some (.int v4)) M23)))))))))) : Call G (d + 1) rc rs mX5_atom [.ref o, .int a1, .int a2, .int a3] M Q := by
  refine call_of (by decide) (Nat.le_of_ble_eq_true rfl) ?_
  show Wk G (d + 1) rc rs mX5_atom 0 [some (.ref o), some (.int a1), some (.int a2), some (.int a3), none] [] M Q
  refine r_aload_n (pc := 0) (i := 0) dX5_atom_0 rfl rfl ?_
  refine r_iload_n (pc := 1) (i := 1) dX5_atom_1 rfl rfl ?_
  refine r_iload_n (pc := 2) (i := 2) dX5_atom_2 rfl rfl ?_
  refine r_iconst (pc := 3) (v := (-1)) dX5_atom_3 (by decide) ?_
  refine r_iconst (pc := 4) (v := (-1)) dX5_atom_4 (by decide) ?_
  obtain ⟨k1, h⟩ := h
  refine r_callV (pc := 5) (ci := 5) (as := [_, _, _, _]) (st := []) okX5_join lkX5_128 inX5_join seX5_join ⟨_, rfl, rfl⟩ dX5_atom_5 rfl k1 (Nat.le_of_ble_eq_true rfl) (Nat.zero_le _) (Nat.zero_le _) (Call.mono h (fun r2 M3 h => ?_))
  obtain ⟨v4, rfl, h⟩ := h
  refine r_istore (pc := 8) (i := 4) dX5_atom_8 rfl (Nat.le_of_ble_eq_true rfl) ?_
  refine r_iload (pc := 10) (i := 4) dX5_atom_10 rfl ?_
  refine r_if_lt (pc := 12) (tgt := 63) dX5_atom_12 (by decide) (fun c5 => ?_) (fun c5 => ?_)
  · replace h := h.1 c5
    refine r_iload (pc := 63) (i := 4) dX5_atom_63 rfl ?_
    exact r_iret (pc := 65) dX5_atom_65 rfl h
  · replace h := h.2 c5
    refine r_aload_n (pc := 15) (i := 0) dX5_atom_15 rfl rfl ?_
    obtain ⟨k6, h⟩ := h
    obtain ⟨b7, hb7, h⟩ := h
    refine r_getr (pc := 16) flX5_20 dX5_atom_16 rfl k6 hb7 ?_
    refine r_iload (pc := 19) (i := 4) dX5_atom_19 rfl ?_
    obtain ⟨k8, h⟩ := h
    obtain ⟨i9, h⟩ := h
    obtain ⟨b10, hb10, h⟩ := h
    refine r_aald (pc := 21) dX5_atom_21 rfl k8 i9 hb10 ?_
    refine r_iload_n (pc := 22) (i := 3) dX5_atom_22 rfl rfl ?_
    obtain ⟨k11, h⟩ := h
    refine r_puti (pc := 23) flX5_190 dX5_atom_23 (Or.inl rfl) (fun q hq => by cases hq; rfl) k11 ?_
    replace h := h _ rfl
    refine r_aload_n (pc := 26) (i := 0) dX5_atom_26 rfl rfl ?_
    refine r_getr (pc := 27) flX5_20 dX5_atom_27 rfl k6 hb7 ?_
    refine r_iload (pc := 30) (i := 4) dX5_atom_30 rfl ?_
    obtain ⟨b13, hb13, h⟩ := h
    refine r_aald (pc := 32) dX5_atom_32 rfl k8 i9 hb13 ?_
    refine r_aload_n (pc := 33) (i := 0) dX5_atom_33 rfl rfl ?_
    refine r_getr (pc := 34) flX5_20 dX5_atom_34 rfl k6 hb7 ?_
    refine r_iload (pc := 37) (i := 4) dX5_atom_37 rfl ?_
    obtain ⟨b14, hb14, h⟩ := h
    refine r_aald (pc := 39) dX5_atom_39 rfl k8 i9 hb14 ?_
    obtain ⟨k15, h⟩ := h
    obtain ⟨b16, hb16, h⟩ := h
    refine r_getr (pc := 40) flX5_170 dX5_atom_40 rfl k15 hb16 ?_
    obtain ⟨k17, h⟩ := h
    refine r_geti (pc := 43) flX5_193 dX5_atom_43 (Or.inl rfl) k17 ?_
    refine r_aload_n (pc := 46) (i := 0) dX5_atom_46 rfl rfl ?_
    refine r_getr (pc := 47) flX5_20 dX5_atom_47 rfl k6 hb7 ?_
    refine r_iload (pc := 50) (i := 4) dX5_atom_50 rfl ?_
    obtain ⟨b18, hb18, h⟩ := h
    refine r_aald (pc := 52) dX5_atom_52 rfl k8 i9 hb18 ?_
    obtain ⟨k19, h⟩ := h
    obtain ⟨b20, hb20, h⟩ := h
    refine r_getr (pc := 53) flX5_178 dX5_atom_53 rfl k19 hb20 ?_
    obtain ⟨k21, h⟩ := h
    refine r_geti (pc := 56) flX5_193 dX5_atom_56 (Or.inl rfl) k21 ?_
    refine r_ior (pc := 59) dX5_atom_59 ?_
    obtain ⟨k22, h⟩ := h
    refine r_puti (pc := 60) flX5_94 dX5_atom_60 (Or.inl rfl) (fun q hq => by cases hq; rfl) k22 ?_
    replace h := h _ rfl
    refine r_iload (pc := 63) (i := 4) dX5_atom_63 rfl ?_
    exact r_iret (pc := 65) dX5_atom_65 rfl h
abbrev LX5_entry_98 (G : GG) (d rc rs : Nat) (p0 : Nat) (p1 : Nat) (x2 : Int32) (x3 : Int32) (x4 : Int32) (M : Mem) (Q : Option Value → Mem → Prop) : Prop := Wk G (d + 1) rc rs mX5_entry 98 [some (.ref p0), some (.ref p1), some (.int x2), some (.int x3), some (.int x4)] [] M Q
theorem eX5_entry {G : GG} {d rc rs : Nat} (o : Nat) (a1 : Nat)  {M : Mem} {Q : Option Value → Mem → Prop} (h : (x_h M a1).1 = 24 ∧ Call G d 0 0 mX8_clear [.ref a1] M (fun r2 M3 => r2 = none ∧ (x_h M3 o).1 = 21 ∧ Call G d 0 0 mX5_worth [.ref o] M3 (fun r5 M6 => ∃ v7 : Int32, r5 = some (.int v7) ∧ (x_h M6 o).1 = 21 ∧ Call G d 0 0 mX5_place [.ref o] M6 (fun r9 M10 => ∃ v11 : Int32, r9 = some (.int v11) ∧ (x_h M10 o).1 = 21 ∧ Call G d 0 0 mX5_eat [.ref o, .int 4] M10 (fun r13 M14 => ∃ v15 : Int32, r13 = some (.int v15) ∧ (v15 = 0 → Q (some (.int 0)) M14) ∧ (¬ v15 = 0 → (x_h M14 o).1 = 21 ∧ Call G d 0 0 mX5_eat [.ref o, .int 13] M14 (fun r18 M19 => ∃ v20 : Int32, r18 = some (.int v20) ∧ (¬ v20 = 0 → (x_h M19 a1).1 = 24 ∧ (∀ M23, M23 = x_si M19 a1 1 v7 → (x_h M19 o).1 = 21 ∧ Call G d 0 0 mX5_worth [.ref o] M23 (fun r25 M26 => ∃ v27 : Int32, r25 = some (.int v27) ∧ (x_h M26 a1).1 = 24 ∧ Call G d 0 0 mX8_addName [.ref a1, .int v27] M26 (fun r29 M30 => r29 = none ∧ (x_h M30 o).1 = 21 ∧ Call G d 0 0 mX5_eat [.ref o, .int 3] M30 (fun r32 M33 => ∃ v34 : Int32, r32 = some (.int v34) ∧ (¬ v34 = 0 → (x_h M33 o).1 = 21 ∧ Call G d 0 0 mX5_peek [.ref o] M33 (fun r37 M38 => ∃ v39 : Int32, r37 = some (.int v39) ∧ (¬ v39 = 15 → ((0 : Int32) = 0 → LX5_entry_98 G d rc rs o a1 v7 v11 0 M38 Q) ∧ (¬ (0 : Int32) = 0 → (x_h M38 o).1 = 21 ∧ (∀ M43, M43 = x_si M38 o 5 ((x_i M38 o 5) + 1) → Call G d 0 0 mX5_takeTerm [.ref o, .ref a1, .int 3] M43 (fun r44 M45 => ∃ v46 : Int32, r44 = some (.int v46) ∧ (¬ v46 = 0 → LX5_entry_98 G d rc rs o a1 v7 v11 0 M45 Q) ∧ (v46 = 0 → Q (some (.int 0)) M45))))) ∧ (v39 = 15 → ((1 : Int32) = 0 → LX5_entry_98 G d rc rs o a1 v7 v11 1 M38 Q) ∧ (¬ (1 : Int32) = 0 → (x_h M38 o).1 = 21 ∧ (∀ M50, M50 = x_si M38 o 5 ((x_i M38 o 5) + 1) → Call G d 0 0 mX5_takeTerm [.ref o, .ref a1, .int 3] M50 (fun r51 M52 => ∃ v53 : Int32, r51 = some (.int v53) ∧ (¬ v53 = 0 → LX5_entry_98 G d rc rs o a1 v7 v11 1 M52 Q) ∧ (v53 = 0 → Q (some (.int 0)) M52))))))) ∧ (v34 = 0 → Q (some (.int 0)) M33)))))) ∧ (v20 = 0 → Q (some (.int 0)) M19)))))))) : Call G (d + 1) rc rs mX5_entry [.ref o, .ref a1] M Q := by
  refine call_of (by decide) (Nat.le_of_ble_eq_true rfl) ?_
  show Wk G (d + 1) rc rs mX5_entry 0 [some (.ref o), some (.ref a1), none, none, none] [] M Q
  refine r_aload_n (pc := 0) (i := 1) dX5_entry_0 rfl rfl ?_
  obtain ⟨k1, h⟩ := h
  refine r_callV (pc := 1) (ci := 8) (as := []) (st := []) okX8_clear lkX5_181 inX8_clear seX8_clear ⟨_, rfl, rfl⟩ dX5_entry_1 rfl k1 (Nat.le_of_ble_eq_true rfl) (Nat.zero_le _) (Nat.zero_le _) (Call.mono h (fun r2 M3 h => ?_))
  obtain ⟨rfl, h⟩ := h
  refine r_aload_n (pc := 4) (i := 0) dX5_entry_4 rfl rfl ?_
  obtain ⟨k4, h⟩ := h
  refine r_callV (pc := 5) (ci := 5) (as := []) (st := []) okX5_worth lkX5_151 inX5_worth seX5_worth ⟨_, rfl, rfl⟩ dX5_entry_5 rfl k4 (Nat.le_of_ble_eq_true rfl) (Nat.zero_le _) (Nat.zero_le _) (Call.mono h (fun r5 M6 h => ?_))
  obtain ⟨v7, rfl, h⟩ := h
  refine r_istore_n (pc := 8) (i := 2) dX5_entry_8 rfl rfl (Nat.le_of_ble_eq_true rfl) ?_
  refine r_aload_n (pc := 9) (i := 0) dX5_entry_9 rfl rfl ?_
  obtain ⟨k8, h⟩ := h
  refine r_callV (pc := 10) (ci := 5) (as := []) (st := []) okX5_place lkX5_126 inX5_place seX5_place ⟨_, rfl, rfl⟩ dX5_entry_10 rfl k8 (Nat.le_of_ble_eq_true rfl) (Nat.zero_le _) (Nat.zero_le _) (Call.mono h (fun r9 M10 h => ?_))
  obtain ⟨v11, rfl, h⟩ := h
  refine r_istore_n (pc := 13) (i := 3) dX5_entry_13 rfl rfl (Nat.le_of_ble_eq_true rfl) ?_
  refine r_aload_n (pc := 14) (i := 0) dX5_entry_14 rfl rfl ?_
  refine r_iconst (pc := 15) (v := 4) dX5_entry_15 (by decide) ?_
  obtain ⟨k12, h⟩ := h
  refine r_callV (pc := 16) (ci := 5) (as := [_]) (st := []) okX5_eat lkX5_147 inX5_eat seX5_eat ⟨_, rfl, rfl⟩ dX5_entry_16 rfl k12 (Nat.le_of_ble_eq_true rfl) (Nat.zero_le _) (Nat.zero_le _) (Call.mono h (fun r13 M14 h => ?_))
  obtain ⟨v15, rfl, h⟩ := h
  refine r_if_eq (pc := 19) (tgt := 31) dX5_entry_19 (by decide) (fun c16 => ?_) (fun c16 => ?_)
  · replace h := h.1 c16
    refine r_iconst (pc := 31) (v := 0) dX5_entry_31 (by decide) ?_
    exact r_zret (pc := 32) dX5_entry_32 rfl (Or.inl rfl) h
  · replace h := h.2 c16
    refine r_aload_n (pc := 22) (i := 0) dX5_entry_22 rfl rfl ?_
    refine r_bipush (pc := 23) (v := 13) dX5_entry_23 (by decide) ?_
    obtain ⟨k17, h⟩ := h
    refine r_callV (pc := 25) (ci := 5) (as := [_]) (st := []) okX5_eat lkX5_147 inX5_eat seX5_eat ⟨_, rfl, rfl⟩ dX5_entry_25 rfl k17 (Nat.le_of_ble_eq_true rfl) (Nat.zero_le _) (Nat.zero_le _) (Call.mono h (fun r18 M19 h => ?_))
    obtain ⟨v20, rfl, h⟩ := h
    refine r_if_ne (pc := 28) (tgt := 33) dX5_entry_28 (by decide) (fun c21 => ?_) (fun c21 => ?_)
    · replace h := h.1 c21
      refine r_aload_n (pc := 33) (i := 1) dX5_entry_33 rfl rfl ?_
      refine r_iload_n (pc := 34) (i := 2) dX5_entry_34 rfl rfl ?_
      obtain ⟨k22, h⟩ := h
      refine r_puti (pc := 35) flX5_194 dX5_entry_35 (Or.inl rfl) (fun q hq => by cases hq; rfl) k22 ?_
      replace h := h _ rfl
      refine r_aload_n (pc := 38) (i := 1) dX5_entry_38 rfl rfl ?_
      refine r_aload_n (pc := 39) (i := 0) dX5_entry_39 rfl rfl ?_
      obtain ⟨k24, h⟩ := h
      refine r_callV (pc := 40) (ci := 5) (as := []) (st := [_]) okX5_worth lkX5_151 inX5_worth seX5_worth ⟨_, rfl, rfl⟩ dX5_entry_40 rfl k24 (Nat.le_of_ble_eq_true rfl) (Nat.zero_le _) (Nat.zero_le _) (Call.mono h (fun r25 M26 h => ?_))
      obtain ⟨v27, rfl, h⟩ := h
      obtain ⟨k28, h⟩ := h
      refine r_callV (pc := 43) (ci := 8) (as := [_]) (st := []) okX8_addName lkX5_197 inX8_addName seX8_addName ⟨_, rfl, rfl⟩ dX5_entry_43 rfl k28 (Nat.le_of_ble_eq_true rfl) (Nat.zero_le _) (Nat.zero_le _) (Call.mono h (fun r29 M30 h => ?_))
      obtain ⟨rfl, h⟩ := h
      refine r_aload_n (pc := 46) (i := 0) dX5_entry_46 rfl rfl ?_
      refine r_iconst (pc := 47) (v := 3) dX5_entry_47 (by decide) ?_
      obtain ⟨k31, h⟩ := h
      refine r_callV (pc := 48) (ci := 5) (as := [_]) (st := []) okX5_eat lkX5_147 inX5_eat seX5_eat ⟨_, rfl, rfl⟩ dX5_entry_48 rfl k31 (Nat.le_of_ble_eq_true rfl) (Nat.zero_le _) (Nat.zero_le _) (Call.mono h (fun r32 M33 h => ?_))
      obtain ⟨v34, rfl, h⟩ := h
      refine r_if_ne (pc := 51) (tgt := 56) dX5_entry_51 (by decide) (fun c35 => ?_) (fun c35 => ?_)
      · replace h := h.1 c35
        refine r_aload_n (pc := 56) (i := 0) dX5_entry_56 rfl rfl ?_
        obtain ⟨k36, h⟩ := h
        refine r_callV (pc := 57) (ci := 5) (as := []) (st := []) okX5_peek lkX5_67 inX5_peek seX5_peek ⟨_, rfl, rfl⟩ dX5_entry_57 rfl k36 (Nat.le_of_ble_eq_true rfl) (Nat.zero_le _) (Nat.zero_le _) (Call.mono h (fun r37 M38 h => ?_))
        obtain ⟨v39, rfl, h⟩ := h
        refine r_bipush (pc := 60) (v := 15) dX5_entry_60 (by decide) ?_
        refine r_icmp_ne (pc := 62) (tgt := 69) dX5_entry_62 (by decide) (fun c40 => ?_) (fun c40 => ?_)
        · replace h := h.1 c40
          refine r_iconst (pc := 69) (v := 0) dX5_entry_69 (by decide) ?_
          refine r_istore (pc := 70) (i := 4) dX5_entry_70 rfl (Nat.le_of_ble_eq_true rfl) ?_
          refine r_iload (pc := 72) (i := 4) dX5_entry_72 rfl ?_
          refine r_if_eq (pc := 74) (tgt := 98) dX5_entry_74 (by decide) (fun c41 => ?_) (fun c41 => ?_)
          · replace h := h.1 c41
            exact h
          · replace h := h.2 c41
            refine r_aload_n (pc := 77) (i := 0) dX5_entry_77 rfl rfl ?_
            refine r_dup (pc := 78) dX5_entry_78 rfl ?_
            obtain ⟨k42, h⟩ := h
            refine r_geti (pc := 79) flX5_37 dX5_entry_79 (Or.inl rfl) k42 ?_
            refine r_iconst (pc := 82) (v := 1) dX5_entry_82 (by decide) ?_
            refine r_iadd (pc := 83) dX5_entry_83 ?_
            refine r_puti (pc := 84) flX5_37 dX5_entry_84 (Or.inl rfl) (fun q hq => by cases hq; rfl) k42 ?_
            replace h := h _ rfl
            refine r_aload_n (pc := 87) (i := 0) dX5_entry_87 rfl rfl ?_
            refine r_aload_n (pc := 88) (i := 1) dX5_entry_88 rfl rfl ?_
            refine r_iconst (pc := 89) (v := 3) dX5_entry_89 (by decide) ?_
            refine r_callV (pc := 90) (ci := 5) (as := [_, _]) (st := []) okX5_takeTerm lkX5_200 inX5_takeTerm seX5_takeTerm ⟨_, rfl, rfl⟩ dX5_entry_90 rfl k42 (Nat.le_of_ble_eq_true rfl) (Nat.zero_le _) (Nat.zero_le _) (Call.mono h (fun r44 M45 h => ?_))
            obtain ⟨v46, rfl, h⟩ := h
            refine r_if_ne (pc := 93) (tgt := 98) dX5_entry_93 (by decide) (fun c47 => ?_) (fun c47 => ?_)
            · replace h := h.1 c47
              exact h
            · replace h := h.2 c47
              refine r_iconst (pc := 96) (v := 0) dX5_entry_96 (by decide) ?_
              exact r_zret (pc := 97) dX5_entry_97 rfl (Or.inl rfl) h
        · replace h := h.2 c40
          refine r_iconst (pc := 65) (v := 1) dX5_entry_65 (by decide) ?_
          refine r_goto (pc := 66) (tgt := 70) dX5_entry_66 (by decide) ?_
          refine r_istore (pc := 70) (i := 4) dX5_entry_70 rfl (Nat.le_of_ble_eq_true rfl) ?_
          refine r_iload (pc := 72) (i := 4) dX5_entry_72 rfl ?_
          refine r_if_eq (pc := 74) (tgt := 98) dX5_entry_74 (by decide) (fun c48 => ?_) (fun c48 => ?_)
          · replace h := h.1 c48
            exact h
          · replace h := h.2 c48
            refine r_aload_n (pc := 77) (i := 0) dX5_entry_77 rfl rfl ?_
            refine r_dup (pc := 78) dX5_entry_78 rfl ?_
            obtain ⟨k49, h⟩ := h
            refine r_geti (pc := 79) flX5_37 dX5_entry_79 (Or.inl rfl) k49 ?_
            refine r_iconst (pc := 82) (v := 1) dX5_entry_82 (by decide) ?_
            refine r_iadd (pc := 83) dX5_entry_83 ?_
            refine r_puti (pc := 84) flX5_37 dX5_entry_84 (Or.inl rfl) (fun q hq => by cases hq; rfl) k49 ?_
            replace h := h _ rfl
            refine r_aload_n (pc := 87) (i := 0) dX5_entry_87 rfl rfl ?_
            refine r_aload_n (pc := 88) (i := 1) dX5_entry_88 rfl rfl ?_
            refine r_iconst (pc := 89) (v := 3) dX5_entry_89 (by decide) ?_
            refine r_callV (pc := 90) (ci := 5) (as := [_, _]) (st := []) okX5_takeTerm lkX5_200 inX5_takeTerm seX5_takeTerm ⟨_, rfl, rfl⟩ dX5_entry_90 rfl k49 (Nat.le_of_ble_eq_true rfl) (Nat.zero_le _) (Nat.zero_le _) (Call.mono h (fun r51 M52 h => ?_))
            obtain ⟨v53, rfl, h⟩ := h
            refine r_if_ne (pc := 93) (tgt := 98) dX5_entry_93 (by decide) (fun c54 => ?_) (fun c54 => ?_)
            · replace h := h.1 c54
              exact h
            · replace h := h.2 c54
              refine r_iconst (pc := 96) (v := 0) dX5_entry_96 (by decide) ?_
              exact r_zret (pc := 97) dX5_entry_97 rfl (Or.inl rfl) h
      · replace h := h.2 c35
        refine r_iconst (pc := 54) (v := 0) dX5_entry_54 (by decide) ?_
        exact r_zret (pc := 55) dX5_entry_55 rfl (Or.inl rfl) h
    · replace h := h.2 c21
      refine r_iconst (pc := 31) (v := 0) dX5_entry_31 (by decide) ?_
      exact r_zret (pc := 32) dX5_entry_32 rfl (Or.inl rfl) h
theorem vX5_entry_98 {G : GG} {d rc rs : Nat} (p0 : Nat) (p1 : Nat) (x2 : Int32) (x3 : Int32) (x4 : Int32)  {M : Mem} {Q : Option Value → Mem → Prop} (h : (x_h M p0).1 = 21 ∧ ((x_i M p0 3) ≤ x2 → Call G d 0 0 mX5_blame [.ref p0, .int x3] M (fun r3 M4 => r3 = none ∧ (x_h M4 p0).1 = 21 ∧ Call G d 0 0 mX5_eat [.ref p0, .int 14] M4 (fun r6 M7 => ∃ v8 : Int32, r6 = some (.int v8) ∧ (v8 = 0 ∨ v8 = 1) ∧ Q (some (.int v8)) M7))) ∧ (¬ (x_i M p0 3) ≤ x2 → (x4 = 0 → ∀ M10, M10 = x_si M p0 9 ((x_i M p0 9) ||| (1 <<< (x2 &&& 31))) → Call G d 0 0 mX5_eat [.ref p0, .int 14] M10 (fun r11 M12 => ∃ v13 : Int32, r11 = some (.int v13) ∧ (v13 = 0 ∨ v13 = 1) ∧ Q (some (.int v13)) M12)) ∧ (¬ x4 = 0 → ∃ b14, x_r M p0 2 = some b14 ∧ (4 ≤ (x_h M b14).1 ∧ (x_h M b14).1 < 8) ∧ vp_in x2 (x_h M b14).2 ∧ (∃ b17, x_r M b14 x2.toNatClampNeg = some b17 ∧ (x_h M b17).1 = 23 ∧ (∃ b19, x_r M b17 0 = some b19 ∧ (x_h M b19).1 = 17 ∧ ((x_i M b19 2) ≤ 6 → ∀ M22, M22 = x_si M p0 9 ((x_i M p0 9) ||| (1 <<< (x2 &&& 31))) → Call G d 0 0 mX5_eat [.ref p0, .int 14] M22 (fun r23 M24 => ∃ v25 : Int32, r23 = some (.int v25) ∧ (v25 = 0 ∨ v25 = 1) ∧ Q (some (.int v25)) M24)) ∧ (¬ (x_i M b19 2) ≤ 6 → Call G d 0 0 mX5_blame [.ref p0, .int x3] M (fun r26 M27 => r26 = none ∧ (x_h M27 p0).1 = 21 ∧ Call G d 0 0 mX5_eat [.ref p0, .int 14] M27 (fun r29 M30 => ∃ v31 : Int32, r29 = some (.int v31) ∧ (v31 = 0 ∨ v31 = 1) ∧ Q (some (.int v31)) M30)))))))) : LX5_entry_98 G d rc rs p0 p1 x2 x3 x4 M Q := by
  show Wk G (d + 1) rc rs mX5_entry 98 _ _ M Q
  refine r_iload_n (pc := 98) (i := 2) dX5_entry_98 rfl rfl ?_
  refine r_aload_n (pc := 99) (i := 0) dX5_entry_99 rfl rfl ?_
  obtain ⟨k1, h⟩ := h
  refine r_geti (pc := 100) flX5_30 dX5_entry_100 (Or.inl rfl) k1 ?_
  refine r_icmp_ge (pc := 103) (tgt := 128) dX5_entry_103 (by decide) (fun c2 => ?_) (fun c2 => ?_)
  · replace h := h.1 c2
    refine r_aload_n (pc := 128) (i := 0) dX5_entry_128 rfl rfl ?_
    refine r_iload_n (pc := 129) (i := 3) dX5_entry_129 rfl rfl ?_
    refine r_callV (pc := 130) (ci := 5) (as := [_]) (st := []) okX5_blame lkX5_154 inX5_blame seX5_blame ⟨_, rfl, rfl⟩ dX5_entry_130 rfl k1 (Nat.le_of_ble_eq_true rfl) (Nat.zero_le _) (Nat.zero_le _) (Call.mono h (fun r3 M4 h => ?_))
    obtain ⟨rfl, h⟩ := h
    refine r_goto (pc := 133) (tgt := 148) dX5_entry_133 (by decide) ?_
    refine r_aload_n (pc := 148) (i := 0) dX5_entry_148 rfl rfl ?_
    refine r_bipush (pc := 149) (v := 14) dX5_entry_149 (by decide) ?_
    obtain ⟨k5, h⟩ := h
    refine r_callV (pc := 151) (ci := 5) (as := [_]) (st := []) okX5_eat lkX5_147 inX5_eat seX5_eat ⟨_, rfl, rfl⟩ dX5_entry_151 rfl k5 (Nat.le_of_ble_eq_true rfl) (Nat.zero_le _) (Nat.zero_le _) (Call.mono h (fun r6 M7 h => ?_))
    obtain ⟨v8, rfl, h⟩ := h
    exact r_zret (pc := 154) dX5_entry_154 rfl h.1 h.2
  · replace h := h.2 c2
    refine r_iload (pc := 106) (i := 4) dX5_entry_106 rfl ?_
    refine r_if_eq (pc := 108) (tgt := 136) dX5_entry_108 (by decide) (fun c9 => ?_) (fun c9 => ?_)
    · replace h := h.1 c9
      refine r_aload_n (pc := 136) (i := 0) dX5_entry_136 rfl rfl ?_
      refine r_dup (pc := 137) dX5_entry_137 rfl ?_
      refine r_geti (pc := 138) flX5_49 dX5_entry_138 (Or.inl rfl) k1 ?_
      refine r_iconst (pc := 141) (v := 1) dX5_entry_141 (by decide) ?_
      refine r_iload_n (pc := 142) (i := 2) dX5_entry_142 rfl rfl ?_
      refine r_ishl (pc := 143) dX5_entry_143 ?_
      refine r_ior (pc := 144) dX5_entry_144 ?_
      refine r_puti (pc := 145) flX5_49 dX5_entry_145 (Or.inl rfl) (fun q hq => by cases hq; rfl) k1 ?_
      replace h := h _ rfl
      refine r_aload_n (pc := 148) (i := 0) dX5_entry_148 rfl rfl ?_
      refine r_bipush (pc := 149) (v := 14) dX5_entry_149 (by decide) ?_
      refine r_callV (pc := 151) (ci := 5) (as := [_]) (st := []) okX5_eat lkX5_147 inX5_eat seX5_eat ⟨_, rfl, rfl⟩ dX5_entry_151 rfl k1 (Nat.le_of_ble_eq_true rfl) (Nat.zero_le _) (Nat.zero_le _) (Call.mono h (fun r11 M12 h => ?_))
      obtain ⟨v13, rfl, h⟩ := h
      exact r_zret (pc := 154) dX5_entry_154 rfl h.1 h.2
    · replace h := h.2 c9
      refine r_aload_n (pc := 111) (i := 0) dX5_entry_111 rfl rfl ?_
      obtain ⟨b14, hb14, h⟩ := h
      refine r_getr (pc := 112) flX5_26 dX5_entry_112 rfl k1 hb14 ?_
      refine r_iload_n (pc := 115) (i := 2) dX5_entry_115 rfl rfl ?_
      obtain ⟨k15, h⟩ := h
      obtain ⟨i16, h⟩ := h
      obtain ⟨b17, hb17, h⟩ := h
      refine r_aald (pc := 116) dX5_entry_116 rfl k15 i16 hb17 ?_
      obtain ⟨k18, h⟩ := h
      obtain ⟨b19, hb19, h⟩ := h
      refine r_getr (pc := 117) flX5_204 dX5_entry_117 rfl k18 hb19 ?_
      obtain ⟨k20, h⟩ := h
      refine r_geti (pc := 120) flX5_208 dX5_entry_120 (Or.inl rfl) k20 ?_
      refine r_bipush (pc := 123) (v := 6) dX5_entry_123 (by decide) ?_
      refine r_icmp_le (pc := 125) (tgt := 136) dX5_entry_125 (by decide) (fun c21 => ?_) (fun c21 => ?_)
      · replace h := h.1 c21
        refine r_aload_n (pc := 136) (i := 0) dX5_entry_136 rfl rfl ?_
        refine r_dup (pc := 137) dX5_entry_137 rfl ?_
        refine r_geti (pc := 138) flX5_49 dX5_entry_138 (Or.inl rfl) k1 ?_
        refine r_iconst (pc := 141) (v := 1) dX5_entry_141 (by decide) ?_
        refine r_iload_n (pc := 142) (i := 2) dX5_entry_142 rfl rfl ?_
        refine r_ishl (pc := 143) dX5_entry_143 ?_
        refine r_ior (pc := 144) dX5_entry_144 ?_
        refine r_puti (pc := 145) flX5_49 dX5_entry_145 (Or.inl rfl) (fun q hq => by cases hq; rfl) k1 ?_
        replace h := h _ rfl
        refine r_aload_n (pc := 148) (i := 0) dX5_entry_148 rfl rfl ?_
        refine r_bipush (pc := 149) (v := 14) dX5_entry_149 (by decide) ?_
        refine r_callV (pc := 151) (ci := 5) (as := [_]) (st := []) okX5_eat lkX5_147 inX5_eat seX5_eat ⟨_, rfl, rfl⟩ dX5_entry_151 rfl k1 (Nat.le_of_ble_eq_true rfl) (Nat.zero_le _) (Nat.zero_le _) (Call.mono h (fun r23 M24 h => ?_))
        obtain ⟨v25, rfl, h⟩ := h
        exact r_zret (pc := 154) dX5_entry_154 rfl h.1 h.2
      · replace h := h.2 c21
        refine r_aload_n (pc := 128) (i := 0) dX5_entry_128 rfl rfl ?_
        refine r_iload_n (pc := 129) (i := 3) dX5_entry_129 rfl rfl ?_
        refine r_callV (pc := 130) (ci := 5) (as := [_]) (st := []) okX5_blame lkX5_154 inX5_blame seX5_blame ⟨_, rfl, rfl⟩ dX5_entry_130 rfl k1 (Nat.le_of_ble_eq_true rfl) (Nat.zero_le _) (Nat.zero_le _) (Call.mono h (fun r26 M27 h => ?_))
        obtain ⟨rfl, h⟩ := h
        refine r_goto (pc := 133) (tgt := 148) dX5_entry_133 (by decide) ?_
        refine r_aload_n (pc := 148) (i := 0) dX5_entry_148 rfl rfl ?_
        refine r_bipush (pc := 149) (v := 14) dX5_entry_149 (by decide) ?_
        obtain ⟨k28, h⟩ := h
        refine r_callV (pc := 151) (ci := 5) (as := [_]) (st := []) okX5_eat lkX5_147 inX5_eat seX5_eat ⟨_, rfl, rfl⟩ dX5_entry_151 rfl k28 (Nat.le_of_ble_eq_true rfl) (Nat.zero_le _) (Nat.zero_le _) (Call.mono h (fun r29 M30 h => ?_))
        obtain ⟨v31, rfl, h⟩ := h
        exact r_zret (pc := 154) dX5_entry_154 rfl h.1 h.2
theorem eX5_sumAtom {G : GG} {d rc rs : Nat} (o : Nat)  {M : Mem} {Q : Option Value → Mem → Prop} (h : (x_h M o).1 = 21 ∧ ((x_i M o 4) < 60 → ∃ b3, x_r M o 1 = some b3 ∧ (4 ≤ (x_h M b3).1 ∧ (x_h M b3).1 < 8) ∧ vp_in (x_i M o 4) (x_h M b3).2 ∧ (∃ b6, x_r M b3 (x_i M o 4).toNatClampNeg = some b6 ∧ (x_h M b6).1 = 19 ∧ (∃ b8, x_r M b6 0 = some b8 ∧ Call G d 0 0 mX5_sum [.ref o, .ref b8] M (fun r9 M10 => ∃ v11 : Int32, r9 = some (.int v11) ∧ (¬ v11 = 0 → (x_h M10 o).1 = 21 ∧ Call G d 0 0 mX5_place [.ref o] M10 (fun r14 M15 => ∃ v16 : Int32, r14 = some (.int v16) ∧ (x_h M15 o).1 = 21 ∧ Call G d 0 0 mX5_peek [.ref o] M15 (fun r18 M19 => ∃ v20 : Int32, r18 = some (.int v20) ∧ (v20 = 16 → (x_h M19 o).1 = 21 ∧ (∀ M23, M23 = x_si M19 o 5 ((x_i M19 o 5) + 1) → (x_h M19 b6).1 = 19 ∧ (∃ b25, x_r M23 b6 1 = some b25 ∧ Call G d 0 0 mX5_sum [.ref o, .ref b25] M23 (fun r26 M27 => ∃ v28 : Int32, r26 = some (.int v28) ∧ (v28 = 0 → Q (some (.int (-1))) M27) ∧ (¬ v28 = 0 → (x_h M27 o).1 = 21 ∧ Call G d 0 0 mX5_atom [.ref o, .int 0, .int v16, .int v20] M27 (fun r31 M32 => ∃ v33 : Int32, r31 = some (.int v33) ∧ Q (some (.int v33)) M32)))))) ∧ (¬ v20 = 16 → (v20 = 17 → (x_h M19 o).1 = 21 ∧ (∀ M36, M36 = x_si M19 o 5 ((x_i M19 o 5) + 1) → (x_h M19 b6).1 = 19 ∧ (∃ b38, x_r M36 b6 1 = some b38 ∧ Call G d 0 0 mX5_sum [.ref o, .ref b38] M36 (fun r39 M40 => ∃ v41 : Int32, r39 = some (.int v41) ∧ (v41 = 0 → Q (some (.int (-1))) M40) ∧ (¬ v41 = 0 → (x_h M40 o).1 = 21 ∧ Call G d 0 0 mX5_atom [.ref o, .int 0, .int v16, .int v20] M40 (fun r44 M45 => ∃ v46 : Int32, r44 = some (.int v46) ∧ Q (some (.int v46)) M45)))))) ∧ (¬ v20 = 17 → (v20 = 18 → (x_h M19 o).1 = 21 ∧ (∀ M49, M49 = x_si M19 o 5 ((x_i M19 o 5) + 1) → (x_h M19 b6).1 = 19 ∧ (∃ b51, x_r M49 b6 1 = some b51 ∧ Call G d 0 0 mX5_sum [.ref o, .ref b51] M49 (fun r52 M53 => ∃ v54 : Int32, r52 = some (.int v54) ∧ (v54 = 0 → Q (some (.int (-1))) M53) ∧ (¬ v54 = 0 → (x_h M53 o).1 = 21 ∧ Call G d 0 0 mX5_atom [.ref o, .int 0, .int v16, .int v20] M53 (fun r57 M58 => ∃ v59 : Int32, r57 = some (.int v59) ∧ Q (some (.int v59)) M58)))))) ∧ (¬ v20 = 18 → (x_h M19 o).1 = 21 ∧ Call G d 0 0 mX5_fail [.ref o] M19 (fun r61 M62 => ∃ v63 : Int32, r61 = some (.int v63) ∧ Q (some (.int v63)) M62))))))) ∧ (v11 = 0 → Q (some (.int (-1))) M10))))) ∧ (¬ (x_i M o 4) < 60 → Call G d 0 0 mX5_fail [.ref o] M (fun r64 M65 => ∃ v66 : Int32, r64 = some (.int v66) ∧ Q (some (.int v66)) M65))) : Call G (d + 1) rc rs mX5_sumAtom [.ref o] M Q := by
  refine call_of (by decide) (Nat.le_of_ble_eq_true rfl) ?_
  show Wk G (d + 1) rc rs mX5_sumAtom 0 [some (.ref o), none, none, none] [] M Q
  refine r_aload_n (pc := 0) (i := 0) dX5_sumAtom_0 rfl rfl ?_
  obtain ⟨k1, h⟩ := h
  refine r_geti (pc := 1) flX5_34 dX5_sumAtom_1 (Or.inl rfl) k1 ?_
  refine r_bipush (pc := 4) (v := 60) dX5_sumAtom_4 (by decide) ?_
  refine r_icmp_lt (pc := 6) (tgt := 14) dX5_sumAtom_6 (by decide) (fun c2 => ?_) (fun c2 => ?_)
  · replace h := h.1 c2
    refine r_aload_n (pc := 14) (i := 0) dX5_sumAtom_14 rfl rfl ?_
    obtain ⟨b3, hb3, h⟩ := h
    refine r_getr (pc := 15) flX5_20 dX5_sumAtom_15 rfl k1 hb3 ?_
    refine r_aload_n (pc := 18) (i := 0) dX5_sumAtom_18 rfl rfl ?_
    refine r_geti (pc := 19) flX5_34 dX5_sumAtom_19 (Or.inl rfl) k1 ?_
    obtain ⟨k4, h⟩ := h
    obtain ⟨i5, h⟩ := h
    obtain ⟨b6, hb6, h⟩ := h
    refine r_aald (pc := 22) dX5_sumAtom_22 rfl k4 i5 hb6 ?_
    refine r_astore_n (pc := 23) (i := 1) dX5_sumAtom_23 rfl rfl (Nat.le_of_ble_eq_true rfl) ?_
    refine r_aload_n (pc := 24) (i := 0) dX5_sumAtom_24 rfl rfl ?_
    refine r_aload_n (pc := 25) (i := 1) dX5_sumAtom_25 rfl rfl ?_
    obtain ⟨k7, h⟩ := h
    obtain ⟨b8, hb8, h⟩ := h
    refine r_getr (pc := 26) flX5_170 dX5_sumAtom_26 rfl k7 hb8 ?_
    refine r_callV (pc := 29) (ci := 5) (as := [_]) (st := []) okX5_sum lkX5_213 inX5_sum seX5_sum ⟨_, rfl, rfl⟩ dX5_sumAtom_29 rfl k1 (Nat.le_of_ble_eq_true rfl) (Nat.zero_le _) (Nat.zero_le _) (Call.mono h (fun r9 M10 h => ?_))
    obtain ⟨v11, rfl, h⟩ := h
    refine r_if_ne (pc := 32) (tgt := 37) dX5_sumAtom_32 (by decide) (fun c12 => ?_) (fun c12 => ?_)
    · replace h := h.1 c12
      refine r_aload_n (pc := 37) (i := 0) dX5_sumAtom_37 rfl rfl ?_
      obtain ⟨k13, h⟩ := h
      refine r_callV (pc := 38) (ci := 5) (as := []) (st := []) okX5_place lkX5_126 inX5_place seX5_place ⟨_, rfl, rfl⟩ dX5_sumAtom_38 rfl k13 (Nat.le_of_ble_eq_true rfl) (Nat.zero_le _) (Nat.zero_le _) (Call.mono h (fun r14 M15 h => ?_))
      obtain ⟨v16, rfl, h⟩ := h
      refine r_istore_n (pc := 41) (i := 2) dX5_sumAtom_41 rfl rfl (Nat.le_of_ble_eq_true rfl) ?_
      refine r_aload_n (pc := 42) (i := 0) dX5_sumAtom_42 rfl rfl ?_
      obtain ⟨k17, h⟩ := h
      refine r_callV (pc := 43) (ci := 5) (as := []) (st := []) okX5_peek lkX5_67 inX5_peek seX5_peek ⟨_, rfl, rfl⟩ dX5_sumAtom_43 rfl k17 (Nat.le_of_ble_eq_true rfl) (Nat.zero_le _) (Nat.zero_le _) (Call.mono h (fun r18 M19 h => ?_))
      obtain ⟨v20, rfl, h⟩ := h
      refine r_istore_n (pc := 46) (i := 3) dX5_sumAtom_46 rfl rfl (Nat.le_of_ble_eq_true rfl) ?_
      refine r_iload_n (pc := 47) (i := 3) dX5_sumAtom_47 rfl rfl ?_
      refine r_bipush (pc := 48) (v := 16) dX5_sumAtom_48 (by decide) ?_
      refine r_icmp_eq (pc := 50) (tgt := 70) dX5_sumAtom_50 (by decide) (fun c21 => ?_) (fun c21 => ?_)
      · replace h := h.1 c21
        refine r_aload_n (pc := 70) (i := 0) dX5_sumAtom_70 rfl rfl ?_
        refine r_dup (pc := 71) dX5_sumAtom_71 rfl ?_
        obtain ⟨k22, h⟩ := h
        refine r_geti (pc := 72) flX5_37 dX5_sumAtom_72 (Or.inl rfl) k22 ?_
        refine r_iconst (pc := 75) (v := 1) dX5_sumAtom_75 (by decide) ?_
        refine r_iadd (pc := 76) dX5_sumAtom_76 ?_
        refine r_puti (pc := 77) flX5_37 dX5_sumAtom_77 (Or.inl rfl) (fun q hq => by cases hq; rfl) k22 ?_
        replace h := h _ rfl
        refine r_aload_n (pc := 80) (i := 0) dX5_sumAtom_80 rfl rfl ?_
        refine r_aload_n (pc := 81) (i := 1) dX5_sumAtom_81 rfl rfl ?_
        obtain ⟨k24, h⟩ := h
        obtain ⟨b25, hb25, h⟩ := h
        refine r_getr (pc := 82) flX5_178 dX5_sumAtom_82 rfl k24 hb25 ?_
        refine r_callV (pc := 85) (ci := 5) (as := [_]) (st := []) okX5_sum lkX5_213 inX5_sum seX5_sum ⟨_, rfl, rfl⟩ dX5_sumAtom_85 rfl k22 (Nat.le_of_ble_eq_true rfl) (Nat.zero_le _) (Nat.zero_le _) (Call.mono h (fun r26 M27 h => ?_))
        obtain ⟨v28, rfl, h⟩ := h
        refine r_if_eq (pc := 88) (tgt := 101) dX5_sumAtom_88 (by decide) (fun c29 => ?_) (fun c29 => ?_)
        · replace h := h.1 c29
          refine r_iconst (pc := 101) (v := (-1)) dX5_sumAtom_101 (by decide) ?_
          exact r_iret (pc := 102) dX5_sumAtom_102 rfl h
        · replace h := h.2 c29
          refine r_aload_n (pc := 91) (i := 0) dX5_sumAtom_91 rfl rfl ?_
          refine r_iconst (pc := 92) (v := 0) dX5_sumAtom_92 (by decide) ?_
          refine r_iload_n (pc := 93) (i := 2) dX5_sumAtom_93 rfl rfl ?_
          refine r_iload_n (pc := 94) (i := 3) dX5_sumAtom_94 rfl rfl ?_
          obtain ⟨k30, h⟩ := h
          refine r_callV (pc := 95) (ci := 5) (as := [_, _, _]) (st := []) okX5_atom lkX5_187 inX5_atom seX5_atom ⟨_, rfl, rfl⟩ dX5_sumAtom_95 rfl k30 (Nat.le_of_ble_eq_true rfl) (Nat.zero_le _) (Nat.zero_le _) (Call.mono h (fun r31 M32 h => ?_))
          obtain ⟨v33, rfl, h⟩ := h
          refine r_goto (pc := 98) (tgt := 102) dX5_sumAtom_98 (by decide) ?_
          exact r_iret (pc := 102) dX5_sumAtom_102 rfl h
      · replace h := h.2 c21
        refine r_iload_n (pc := 53) (i := 3) dX5_sumAtom_53 rfl rfl ?_
        refine r_bipush (pc := 54) (v := 17) dX5_sumAtom_54 (by decide) ?_
        refine r_icmp_eq (pc := 56) (tgt := 70) dX5_sumAtom_56 (by decide) (fun c34 => ?_) (fun c34 => ?_)
        · replace h := h.1 c34
          refine r_aload_n (pc := 70) (i := 0) dX5_sumAtom_70 rfl rfl ?_
          refine r_dup (pc := 71) dX5_sumAtom_71 rfl ?_
          obtain ⟨k35, h⟩ := h
          refine r_geti (pc := 72) flX5_37 dX5_sumAtom_72 (Or.inl rfl) k35 ?_
          refine r_iconst (pc := 75) (v := 1) dX5_sumAtom_75 (by decide) ?_
          refine r_iadd (pc := 76) dX5_sumAtom_76 ?_
          refine r_puti (pc := 77) flX5_37 dX5_sumAtom_77 (Or.inl rfl) (fun q hq => by cases hq; rfl) k35 ?_
          replace h := h _ rfl
          refine r_aload_n (pc := 80) (i := 0) dX5_sumAtom_80 rfl rfl ?_
          refine r_aload_n (pc := 81) (i := 1) dX5_sumAtom_81 rfl rfl ?_
          obtain ⟨k37, h⟩ := h
          obtain ⟨b38, hb38, h⟩ := h
          refine r_getr (pc := 82) flX5_178 dX5_sumAtom_82 rfl k37 hb38 ?_
          refine r_callV (pc := 85) (ci := 5) (as := [_]) (st := []) okX5_sum lkX5_213 inX5_sum seX5_sum ⟨_, rfl, rfl⟩ dX5_sumAtom_85 rfl k35 (Nat.le_of_ble_eq_true rfl) (Nat.zero_le _) (Nat.zero_le _) (Call.mono h (fun r39 M40 h => ?_))
          obtain ⟨v41, rfl, h⟩ := h
          refine r_if_eq (pc := 88) (tgt := 101) dX5_sumAtom_88 (by decide) (fun c42 => ?_) (fun c42 => ?_)
          · replace h := h.1 c42
            refine r_iconst (pc := 101) (v := (-1)) dX5_sumAtom_101 (by decide) ?_
            exact r_iret (pc := 102) dX5_sumAtom_102 rfl h
          · replace h := h.2 c42
            refine r_aload_n (pc := 91) (i := 0) dX5_sumAtom_91 rfl rfl ?_
            refine r_iconst (pc := 92) (v := 0) dX5_sumAtom_92 (by decide) ?_
            refine r_iload_n (pc := 93) (i := 2) dX5_sumAtom_93 rfl rfl ?_
            refine r_iload_n (pc := 94) (i := 3) dX5_sumAtom_94 rfl rfl ?_
            obtain ⟨k43, h⟩ := h
            refine r_callV (pc := 95) (ci := 5) (as := [_, _, _]) (st := []) okX5_atom lkX5_187 inX5_atom seX5_atom ⟨_, rfl, rfl⟩ dX5_sumAtom_95 rfl k43 (Nat.le_of_ble_eq_true rfl) (Nat.zero_le _) (Nat.zero_le _) (Call.mono h (fun r44 M45 h => ?_))
            obtain ⟨v46, rfl, h⟩ := h
            refine r_goto (pc := 98) (tgt := 102) dX5_sumAtom_98 (by decide) ?_
            exact r_iret (pc := 102) dX5_sumAtom_102 rfl h
        · replace h := h.2 c34
          refine r_iload_n (pc := 59) (i := 3) dX5_sumAtom_59 rfl rfl ?_
          refine r_bipush (pc := 60) (v := 18) dX5_sumAtom_60 (by decide) ?_
          refine r_icmp_eq (pc := 62) (tgt := 70) dX5_sumAtom_62 (by decide) (fun c47 => ?_) (fun c47 => ?_)
          · replace h := h.1 c47
            refine r_aload_n (pc := 70) (i := 0) dX5_sumAtom_70 rfl rfl ?_
            refine r_dup (pc := 71) dX5_sumAtom_71 rfl ?_
            obtain ⟨k48, h⟩ := h
            refine r_geti (pc := 72) flX5_37 dX5_sumAtom_72 (Or.inl rfl) k48 ?_
            refine r_iconst (pc := 75) (v := 1) dX5_sumAtom_75 (by decide) ?_
            refine r_iadd (pc := 76) dX5_sumAtom_76 ?_
            refine r_puti (pc := 77) flX5_37 dX5_sumAtom_77 (Or.inl rfl) (fun q hq => by cases hq; rfl) k48 ?_
            replace h := h _ rfl
            refine r_aload_n (pc := 80) (i := 0) dX5_sumAtom_80 rfl rfl ?_
            refine r_aload_n (pc := 81) (i := 1) dX5_sumAtom_81 rfl rfl ?_
            obtain ⟨k50, h⟩ := h
            obtain ⟨b51, hb51, h⟩ := h
            refine r_getr (pc := 82) flX5_178 dX5_sumAtom_82 rfl k50 hb51 ?_
            refine r_callV (pc := 85) (ci := 5) (as := [_]) (st := []) okX5_sum lkX5_213 inX5_sum seX5_sum ⟨_, rfl, rfl⟩ dX5_sumAtom_85 rfl k48 (Nat.le_of_ble_eq_true rfl) (Nat.zero_le _) (Nat.zero_le _) (Call.mono h (fun r52 M53 h => ?_))
            obtain ⟨v54, rfl, h⟩ := h
            refine r_if_eq (pc := 88) (tgt := 101) dX5_sumAtom_88 (by decide) (fun c55 => ?_) (fun c55 => ?_)
            · replace h := h.1 c55
              refine r_iconst (pc := 101) (v := (-1)) dX5_sumAtom_101 (by decide) ?_
              exact r_iret (pc := 102) dX5_sumAtom_102 rfl h
            · replace h := h.2 c55
              refine r_aload_n (pc := 91) (i := 0) dX5_sumAtom_91 rfl rfl ?_
              refine r_iconst (pc := 92) (v := 0) dX5_sumAtom_92 (by decide) ?_
              refine r_iload_n (pc := 93) (i := 2) dX5_sumAtom_93 rfl rfl ?_
              refine r_iload_n (pc := 94) (i := 3) dX5_sumAtom_94 rfl rfl ?_
              obtain ⟨k56, h⟩ := h
              refine r_callV (pc := 95) (ci := 5) (as := [_, _, _]) (st := []) okX5_atom lkX5_187 inX5_atom seX5_atom ⟨_, rfl, rfl⟩ dX5_sumAtom_95 rfl k56 (Nat.le_of_ble_eq_true rfl) (Nat.zero_le _) (Nat.zero_le _) (Call.mono h (fun r57 M58 h => ?_))
              obtain ⟨v59, rfl, h⟩ := h
              refine r_goto (pc := 98) (tgt := 102) dX5_sumAtom_98 (by decide) ?_
              exact r_iret (pc := 102) dX5_sumAtom_102 rfl h
          · replace h := h.2 c47
            refine r_aload_n (pc := 65) (i := 0) dX5_sumAtom_65 rfl rfl ?_
            obtain ⟨k60, h⟩ := h
            refine r_callV (pc := 66) (ci := 5) (as := []) (st := []) okX5_fail lkX5_71 inX5_fail seX5_fail ⟨_, rfl, rfl⟩ dX5_sumAtom_66 rfl k60 (Nat.le_of_ble_eq_true rfl) (Nat.zero_le _) (Nat.zero_le _) (Call.mono h (fun r61 M62 h => ?_))
            obtain ⟨v63, rfl, h⟩ := h
            exact r_iret (pc := 69) dX5_sumAtom_69 rfl h
    · replace h := h.2 c12
      refine r_iconst (pc := 35) (v := (-1)) dX5_sumAtom_35 (by decide) ?_
      exact r_iret (pc := 36) dX5_sumAtom_36 rfl h
  · replace h := h.2 c2
    refine r_aload_n (pc := 9) (i := 0) dX5_sumAtom_9 rfl rfl ?_
    refine r_callV (pc := 10) (ci := 5) (as := []) (st := []) okX5_fail lkX5_71 inX5_fail seX5_fail ⟨_, rfl, rfl⟩ dX5_sumAtom_10 rfl k1 (Nat.le_of_ble_eq_true rfl) (Nat.zero_le _) (Nat.zero_le _) (Call.mono h (fun r64 M65 h => ?_))
    obtain ⟨v66, rfl, h⟩ := h
    exact r_iret (pc := 13) dX5_sumAtom_13 rfl h
abbrev LX5_sum_6 (G : GG) (d rc rs : Nat) (p0 : Nat) (p1 : Nat) (x2 : Int32) (M : Mem) (Q : Option Value → Mem → Prop) : Prop := Wk G (d + 1) rc rs mX5_sum 6 [some (.ref p0), some (.ref p1), some (.int x2)] [] M Q
theorem eX5_sum {G : GG} {d rc rs : Nat} (o : Nat) (a1 : Nat)  {M : Mem} {Q : Option Value → Mem → Prop} (h : (x_h M a1).1 = 24 ∧ Call G d 0 0 mX8_clear [.ref a1] M (fun r2 M3 => r2 = none ∧ LX5_sum_6 G d rc rs o a1 0 M3 Q)) : Call G (d + 1) rc rs mX5_sum [.ref o, .ref a1] M Q := by
  refine call_of (by decide) (Nat.le_of_ble_eq_true rfl) ?_
  show Wk G (d + 1) rc rs mX5_sum 0 [some (.ref o), some (.ref a1), none] [] M Q
  refine r_aload_n (pc := 0) (i := 1) dX5_sum_0 rfl rfl ?_
  obtain ⟨k1, h⟩ := h
  refine r_callV (pc := 1) (ci := 8) (as := []) (st := []) okX8_clear lkX5_181 inX8_clear seX8_clear ⟨_, rfl, rfl⟩ dX5_sum_1 rfl k1 (Nat.le_of_ble_eq_true rfl) (Nat.zero_le _) (Nat.zero_le _) (Call.mono h (fun r2 M3 h => ?_))
  obtain ⟨rfl, h⟩ := h
  refine r_iconst (pc := 4) (v := 0) dX5_sum_4 (by decide) ?_
  refine r_istore_n (pc := 5) (i := 2) dX5_sum_5 rfl rfl (Nat.le_of_ble_eq_true rfl) ?_
  exact h
theorem vX5_sum_6 {G : GG} {d rc rs : Nat} (p0 : Nat) (p1 : Nat) (x2 : Int32)  {M : Mem} {Q : Option Value → Mem → Prop} (h : (120 ≤ x2 → Q (some (.int 0)) M) ∧ (¬ 120 ≤ x2 → (x_h M p0).1 = 21 ∧ Call G d 0 0 mX5_takeTerm [.ref p0, .ref p1, .int 99] M (fun r3 M4 => ∃ v5 : Int32, r3 = some (.int v5) ∧ (¬ v5 = 0 → (x_h M4 p0).1 = 21 ∧ Call G d 0 0 mX5_peek [.ref p0] M4 (fun r8 M9 => ∃ v10 : Int32, r8 = some (.int v10) ∧ (v10 = 15 → (x_h M9 p0).1 = 21 ∧ (∀ M13, M13 = x_si M9 p0 5 ((x_i M9 p0 5) + 1) → LX5_sum_6 G d rc rs p0 p1 (x2 + 1) M13 Q)) ∧ (¬ v10 = 15 → Q (some (.int 1)) M9))) ∧ (v5 = 0 → Q (some (.int 0)) M4)))) : LX5_sum_6 G d rc rs p0 p1 x2 M Q := by
  show Wk G (d + 1) rc rs mX5_sum 6 _ _ M Q
  refine r_iload_n (pc := 6) (i := 2) dX5_sum_6 rfl rfl ?_
  refine r_bipush (pc := 7) (v := 120) dX5_sum_7 (by decide) ?_
  refine r_icmp_ge (pc := 9) (tgt := 51) dX5_sum_9 (by decide) (fun c1 => ?_) (fun c1 => ?_)
  · replace h := h.1 c1
    refine r_iconst (pc := 51) (v := 0) dX5_sum_51 (by decide) ?_
    exact r_zret (pc := 52) dX5_sum_52 rfl (Or.inl rfl) h
  · replace h := h.2 c1
    refine r_aload_n (pc := 12) (i := 0) dX5_sum_12 rfl rfl ?_
    refine r_aload_n (pc := 13) (i := 1) dX5_sum_13 rfl rfl ?_
    refine r_bipush (pc := 14) (v := 99) dX5_sum_14 (by decide) ?_
    obtain ⟨k2, h⟩ := h
    refine r_callV (pc := 16) (ci := 5) (as := [_, _]) (st := []) okX5_takeTerm lkX5_200 inX5_takeTerm seX5_takeTerm ⟨_, rfl, rfl⟩ dX5_sum_16 rfl k2 (Nat.le_of_ble_eq_true rfl) (Nat.zero_le _) (Nat.zero_le _) (Call.mono h (fun r3 M4 h => ?_))
    obtain ⟨v5, rfl, h⟩ := h
    refine r_if_ne (pc := 19) (tgt := 24) dX5_sum_19 (by decide) (fun c6 => ?_) (fun c6 => ?_)
    · replace h := h.1 c6
      refine r_aload_n (pc := 24) (i := 0) dX5_sum_24 rfl rfl ?_
      obtain ⟨k7, h⟩ := h
      refine r_callV (pc := 25) (ci := 5) (as := []) (st := []) okX5_peek lkX5_67 inX5_peek seX5_peek ⟨_, rfl, rfl⟩ dX5_sum_25 rfl k7 (Nat.le_of_ble_eq_true rfl) (Nat.zero_le _) (Nat.zero_le _) (Call.mono h (fun r8 M9 h => ?_))
      obtain ⟨v10, rfl, h⟩ := h
      refine r_bipush (pc := 28) (v := 15) dX5_sum_28 (by decide) ?_
      refine r_icmp_eq (pc := 30) (tgt := 35) dX5_sum_30 (by decide) (fun c11 => ?_) (fun c11 => ?_)
      · replace h := h.1 c11
        refine r_aload_n (pc := 35) (i := 0) dX5_sum_35 rfl rfl ?_
        refine r_dup (pc := 36) dX5_sum_36 rfl ?_
        obtain ⟨k12, h⟩ := h
        refine r_geti (pc := 37) flX5_37 dX5_sum_37 (Or.inl rfl) k12 ?_
        refine r_iconst (pc := 40) (v := 1) dX5_sum_40 (by decide) ?_
        refine r_iadd (pc := 41) dX5_sum_41 ?_
        refine r_puti (pc := 42) flX5_37 dX5_sum_42 (Or.inl rfl) (fun q hq => by cases hq; rfl) k12 ?_
        replace h := h _ rfl
        refine r_iinc (pc := 45) (i := 2) (v := _ + 1) dX5_sum_45 rfl rfl rfl ?_
        refine r_goto (pc := 48) (tgt := 6) dX5_sum_48 (by decide) ?_
        exact h
      · replace h := h.2 c11
        refine r_iconst (pc := 33) (v := 1) dX5_sum_33 (by decide) ?_
        exact r_zret (pc := 34) dX5_sum_34 rfl (Or.inr rfl) h
    · replace h := h.2 c6
      refine r_iconst (pc := 22) (v := 0) dX5_sum_22 (by decide) ?_
      exact r_zret (pc := 23) dX5_sum_23 rfl (Or.inl rfl) h
theorem eX5_takeTerm {G : GG} {d rc rs : Nat} (o : Nat) (a1 : Nat) (a2 : Int32)  {M : Mem} {Q : Option Value → Mem → Prop} (h : (x_h M o).1 = 21 ∧ Call G d 0 0 mX5_peek [.ref o] M (fun r2 M3 => ∃ v4 : Int32, r2 = some (.int v4) ∧ (¬ v4 = 2 → (x_h M3 o).1 = 21 ∧ Call G d 0 0 mX5_peek [.ref o] M3 (fun r7 M8 => ∃ v9 : Int32, r7 = some (.int v9) ∧ (¬ v9 = 3 → (x_h M8 o).1 = 21 ∧ Call G d 0 0 mX5_fail [.ref o] M8 (fun r12 M13 => ∃ v14 : Int32, r12 = some (.int v14) ∧ Q (some (.int 0)) M13)) ∧ (v9 = 3 → (x_h M8 o).1 = 21 ∧ Call G d 0 0 mX5_worth [.ref o] M8 (fun r16 M17 => ∃ v18 : Int32, r16 = some (.int v18) ∧ (x_h M17 a1).1 = 24 ∧ Call G d 0 0 mX8_addName [.ref a1, .int v18] M17 (fun r20 M21 => r20 = none ∧ (x_h M21 o).1 = 21 ∧ (∀ M23, M23 = x_si M21 o 5 ((x_i M21 o 5) + 1) → Q (some (.int 1)) M23)))))) ∧ (v4 = 2 → (x_h M3 a1).1 = 24 ∧ (x_h M3 o).1 = 21 ∧ Call G d 0 0 mX5_worth [.ref o] M3 (fun r26 M27 => ∃ v28 : Int32, r26 = some (.int v28) ∧ (x_h M27 a1).1 = 24 ∧ (∀ M30, M30 = x_si M27 a1 2 ((x_i M3 a1 2) + v28) → ((x_i M30 a1 2) ≤ a2 → (x_h M27 o).1 = 21 ∧ (∀ M33, M33 = x_si M30 o 5 ((x_i M30 o 5) + 1) → Q (some (.int 1)) M33)) ∧ (¬ (x_i M30 a1 2) ≤ a2 → (x_h M27 o).1 = 21 ∧ Call G d 0 0 mX5_place [.ref o] M30 (fun r35 M36 => ∃ v37 : Int32, r35 = some (.int v37) ∧ (x_h M36 o).1 = 21 ∧ Call G d 0 0 mX5_blame [.ref o, .int v37] M36 (fun r39 M40 => r39 = none ∧ (x_h M40 o).1 = 21 ∧ (∀ M42, M42 = x_si M40 o 5 ((x_i M40 o 5) + 1) → Q (some (.int 1)) M42))))))))) : Call G (d + 1) rc rs mX5_takeTerm [.ref o, .ref a1, .int a2] M Q := by
  refine call_of (by decide) (Nat.le_of_ble_eq_true rfl) ?_
  show Wk G (d + 1) rc rs mX5_takeTerm 0 [some (.ref o), some (.ref a1), some (.int a2)] [] M Q
  refine r_aload_n (pc := 0) (i := 0) dX5_takeTerm_0 rfl rfl ?_
  obtain ⟨k1, h⟩ := h
  refine r_callV (pc := 1) (ci := 5) (as := []) (st := []) okX5_peek lkX5_67 inX5_peek seX5_peek ⟨_, rfl, rfl⟩ dX5_takeTerm_1 rfl k1 (Nat.le_of_ble_eq_true rfl) (Nat.zero_le _) (Nat.zero_le _) (Call.mono h (fun r2 M3 h => ?_))
  obtain ⟨v4, rfl, h⟩ := h
  refine r_iconst (pc := 4) (v := 2) dX5_takeTerm_4 (by decide) ?_
  refine r_icmp_ne (pc := 5) (tgt := 40) dX5_takeTerm_5 (by decide) (fun c5 => ?_) (fun c5 => ?_)
  · replace h := h.1 c5
    refine r_aload_n (pc := 40) (i := 0) dX5_takeTerm_40 rfl rfl ?_
    obtain ⟨k6, h⟩ := h
    refine r_callV (pc := 41) (ci := 5) (as := []) (st := []) okX5_peek lkX5_67 inX5_peek seX5_peek ⟨_, rfl, rfl⟩ dX5_takeTerm_41 rfl k6 (Nat.le_of_ble_eq_true rfl) (Nat.zero_le _) (Nat.zero_le _) (Call.mono h (fun r7 M8 h => ?_))
    obtain ⟨v9, rfl, h⟩ := h
    refine r_iconst (pc := 44) (v := 3) dX5_takeTerm_44 (by decide) ?_
    refine r_icmp_ne (pc := 45) (tgt := 59) dX5_takeTerm_45 (by decide) (fun c10 => ?_) (fun c10 => ?_)
    · replace h := h.1 c10
      refine r_aload_n (pc := 59) (i := 0) dX5_takeTerm_59 rfl rfl ?_
      obtain ⟨k11, h⟩ := h
      refine r_callV (pc := 60) (ci := 5) (as := []) (st := []) okX5_fail lkX5_71 inX5_fail seX5_fail ⟨_, rfl, rfl⟩ dX5_takeTerm_60 rfl k11 (Nat.le_of_ble_eq_true rfl) (Nat.zero_le _) (Nat.zero_le _) (Call.mono h (fun r12 M13 h => ?_))
      obtain ⟨v14, rfl, h⟩ := h
      refine r_pop (pc := 63) dX5_takeTerm_63 rfl ?_
      refine r_iconst (pc := 64) (v := 0) dX5_takeTerm_64 (by decide) ?_
      exact r_zret (pc := 65) dX5_takeTerm_65 rfl (Or.inl rfl) h
    · replace h := h.2 c10
      refine r_aload_n (pc := 48) (i := 1) dX5_takeTerm_48 rfl rfl ?_
      refine r_aload_n (pc := 49) (i := 0) dX5_takeTerm_49 rfl rfl ?_
      obtain ⟨k15, h⟩ := h
      refine r_callV (pc := 50) (ci := 5) (as := []) (st := [_]) okX5_worth lkX5_151 inX5_worth seX5_worth ⟨_, rfl, rfl⟩ dX5_takeTerm_50 rfl k15 (Nat.le_of_ble_eq_true rfl) (Nat.zero_le _) (Nat.zero_le _) (Call.mono h (fun r16 M17 h => ?_))
      obtain ⟨v18, rfl, h⟩ := h
      obtain ⟨k19, h⟩ := h
      refine r_callV (pc := 53) (ci := 8) (as := [_]) (st := []) okX8_addName lkX5_197 inX8_addName seX8_addName ⟨_, rfl, rfl⟩ dX5_takeTerm_53 rfl k19 (Nat.le_of_ble_eq_true rfl) (Nat.zero_le _) (Nat.zero_le _) (Call.mono h (fun r20 M21 h => ?_))
      obtain ⟨rfl, h⟩ := h
      refine r_goto (pc := 56) (tgt := 66) dX5_takeTerm_56 (by decide) ?_
      refine r_aload_n (pc := 66) (i := 0) dX5_takeTerm_66 rfl rfl ?_
      refine r_dup (pc := 67) dX5_takeTerm_67 rfl ?_
      obtain ⟨k22, h⟩ := h
      refine r_geti (pc := 68) flX5_37 dX5_takeTerm_68 (Or.inl rfl) k22 ?_
      refine r_iconst (pc := 71) (v := 1) dX5_takeTerm_71 (by decide) ?_
      refine r_iadd (pc := 72) dX5_takeTerm_72 ?_
      refine r_puti (pc := 73) flX5_37 dX5_takeTerm_73 (Or.inl rfl) (fun q hq => by cases hq; rfl) k22 ?_
      replace h := h _ rfl
      refine r_iconst (pc := 76) (v := 1) dX5_takeTerm_76 (by decide) ?_
      exact r_zret (pc := 77) dX5_takeTerm_77 rfl (Or.inr rfl) h
  · replace h := h.2 c5
    refine r_aload_n (pc := 8) (i := 1) dX5_takeTerm_8 rfl rfl ?_
    refine r_dup (pc := 9) dX5_takeTerm_9 rfl ?_
    obtain ⟨k24, h⟩ := h
    refine r_geti (pc := 10) flX5_184 dX5_takeTerm_10 (Or.inl rfl) k24 ?_
    refine r_aload_n (pc := 13) (i := 0) dX5_takeTerm_13 rfl rfl ?_
    obtain ⟨k25, h⟩ := h
    refine r_callV (pc := 14) (ci := 5) (as := []) (st := [_, _]) okX5_worth lkX5_151 inX5_worth seX5_worth ⟨_, rfl, rfl⟩ dX5_takeTerm_14 rfl k25 (Nat.le_of_ble_eq_true rfl) (Nat.zero_le _) (Nat.zero_le _) (Call.mono h (fun r26 M27 h => ?_))
    obtain ⟨v28, rfl, h⟩ := h
    refine r_iadd (pc := 17) dX5_takeTerm_17 ?_
    obtain ⟨k29, h⟩ := h
    refine r_puti (pc := 18) flX5_184 dX5_takeTerm_18 (Or.inl rfl) (fun q hq => by cases hq; rfl) k29 ?_
    replace h := h _ rfl
    refine r_aload_n (pc := 21) (i := 1) dX5_takeTerm_21 rfl rfl ?_
    refine r_geti (pc := 22) flX5_184 dX5_takeTerm_22 (Or.inl rfl) k29 ?_
    refine r_iload_n (pc := 25) (i := 2) dX5_takeTerm_25 rfl rfl ?_
    refine r_icmp_le (pc := 26) (tgt := 66) dX5_takeTerm_26 (by decide) (fun c31 => ?_) (fun c31 => ?_)
    · replace h := h.1 c31
      refine r_aload_n (pc := 66) (i := 0) dX5_takeTerm_66 rfl rfl ?_
      refine r_dup (pc := 67) dX5_takeTerm_67 rfl ?_
      obtain ⟨k32, h⟩ := h
      refine r_geti (pc := 68) flX5_37 dX5_takeTerm_68 (Or.inl rfl) k32 ?_
      refine r_iconst (pc := 71) (v := 1) dX5_takeTerm_71 (by decide) ?_
      refine r_iadd (pc := 72) dX5_takeTerm_72 ?_
      refine r_puti (pc := 73) flX5_37 dX5_takeTerm_73 (Or.inl rfl) (fun q hq => by cases hq; rfl) k32 ?_
      replace h := h _ rfl
      refine r_iconst (pc := 76) (v := 1) dX5_takeTerm_76 (by decide) ?_
      exact r_zret (pc := 77) dX5_takeTerm_77 rfl (Or.inr rfl) h
    · replace h := h.2 c31
      refine r_aload_n (pc := 29) (i := 0) dX5_takeTerm_29 rfl rfl ?_
      refine r_aload_n (pc := 30) (i := 0) dX5_takeTerm_30 rfl rfl ?_
      obtain ⟨k34, h⟩ := h
      refine r_callV (pc := 31) (ci := 5) (as := []) (st := [_]) okX5_place lkX5_126 inX5_place seX5_place ⟨_, rfl, rfl⟩ dX5_takeTerm_31 rfl k34 (Nat.le_of_ble_eq_true rfl) (Nat.zero_le _) (Nat.zero_le _) (Call.mono h (fun r35 M36 h => ?_))
      obtain ⟨v37, rfl, h⟩ := h
      obtain ⟨k38, h⟩ := h
      refine r_callV (pc := 34) (ci := 5) (as := [_]) (st := []) okX5_blame lkX5_154 inX5_blame seX5_blame ⟨_, rfl, rfl⟩ dX5_takeTerm_34 rfl k38 (Nat.le_of_ble_eq_true rfl) (Nat.zero_le _) (Nat.zero_le _) (Call.mono h (fun r39 M40 h => ?_))
      obtain ⟨rfl, h⟩ := h
      refine r_goto (pc := 37) (tgt := 66) dX5_takeTerm_37 (by decide) ?_
      refine r_aload_n (pc := 66) (i := 0) dX5_takeTerm_66 rfl rfl ?_
      refine r_dup (pc := 67) dX5_takeTerm_67 rfl ?_
      obtain ⟨k41, h⟩ := h
      refine r_geti (pc := 68) flX5_37 dX5_takeTerm_68 (Or.inl rfl) k41 ?_
      refine r_iconst (pc := 71) (v := 1) dX5_takeTerm_71 (by decide) ?_
      refine r_iadd (pc := 72) dX5_takeTerm_72 ?_
      refine r_puti (pc := 73) flX5_37 dX5_takeTerm_73 (Or.inl rfl) (fun q hq => by cases hq; rfl) k41 ?_
      replace h := h _ rfl
      refine r_iconst (pc := 76) (v := 1) dX5_takeTerm_76 (by decide) ?_
      exact r_zret (pc := 77) dX5_takeTerm_77 rfl (Or.inr rfl) h
