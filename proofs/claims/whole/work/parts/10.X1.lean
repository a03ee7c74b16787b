/-! EndlessRows$Least: decode rows and verification conditions, by program -/
theorem dX1_init_0 : decode cX1_init 0 = .ok (.aload_n 0, 1) := by decide +kernel
theorem dX1_init_1 : decode cX1_init 1 = .ok (.invokespecial 3, 3) := by decide +kernel
theorem dX1_init_4 : decode cX1_init 4 = .ok (.aload_n 0, 1) := by decide +kernel
theorem dX1_init_5 : decode cX1_init 5 = .ok (.iconst 0, 1) := by decide +kernel
theorem dX1_init_6 : decode cX1_init 6 = .ok (.putfield 9, 3) := by decide +kernel
theorem dX1_init_9 : decode cX1_init 9 = .ok (.aload_n 0, 1) := by decide +kernel
theorem dX1_init_10 : decode cX1_init 10 = .ok (.iconst 1, 1) := by decide +kernel
theorem dX1_init_11 : decode cX1_init 11 = .ok (.putfield 15, 3) := by decide +kernel
theorem dX1_init_14 : decode cX1_init 14 = .ok (.aload_n 0, 1) := by decide +kernel
theorem dX1_init_15 : decode cX1_init 15 = .ok (.iload_n 1, 1) := by decide +kernel
theorem dX1_init_16 : decode cX1_init 16 = .ok (.iload_n 2, 1) := by decide +kernel
theorem dX1_init_17 : decode cX1_init 17 = .ok (.imul, 1) := by decide +kernel
theorem dX1_init_18 : decode cX1_init 18 = .ok (.newarray .int, 2) := by decide +kernel
theorem dX1_init_20 : decode cX1_init 20 = .ok (.putfield 18, 3) := by decide +kernel
theorem dX1_init_23 : decode cX1_init 23 = .ok (.aload_n 0, 1) := by decide +kernel
theorem dX1_init_24 : decode cX1_init 24 = .ok (.iload_n 1, 1) := by decide +kernel
theorem dX1_init_25 : decode cX1_init 25 = .ok (.newarray .int, 2) := by decide +kernel
theorem dX1_init_27 : decode cX1_init 27 = .ok (.putfield 22, 3) := by decide +kernel
theorem dX1_init_30 : decode cX1_init 30 = .ok (.return_, 1) := by decide +kernel
theorem dX1_after_0 : decode cX1_after 0 = .ok (.iload_n 1, 1) := by decide +kernel
theorem dX1_after_1 : decode cX1_after 1 = .ok (.ifCond .lt 23, 3) := by decide +kernel
theorem dX1_after_4 : decode cX1_after 4 = .ok (.iload_n 1, 1) := by decide +kernel
theorem dX1_after_5 : decode cX1_after 5 = .ok (.aload_n 0, 1) := by decide +kernel
theorem dX1_after_6 : decode cX1_after 6 = .ok (.getfield 9, 3) := by decide +kernel
theorem dX1_after_9 : decode cX1_after 9 = .ok (.if_icmp .ge 15, 3) := by decide +kernel
theorem dX1_after_12 : decode cX1_after 12 = .ok (.iload_n 2, 1) := by decide +kernel
theorem dX1_after_13 : decode cX1_after 13 = .ok (.ifCond .lt 11, 3) := by decide +kernel
theorem dX1_after_16 : decode cX1_after 16 = .ok (.iload_n 2, 1) := by decide +kernel
theorem dX1_after_17 : decode cX1_after 17 = .ok (.aload_n 0, 1) := by decide +kernel
theorem dX1_after_18 : decode cX1_after 18 = .ok (.getfield 15, 3) := by decide +kernel
theorem dX1_after_21 : decode cX1_after 21 = .ok (.if_icmp .lt 5, 3) := by decide +kernel
theorem dX1_after_24 : decode cX1_after 24 = .ok (.iconst 0, 1) := by decide +kernel
theorem dX1_after_25 : decode cX1_after 25 = .ok (.ireturn, 1) := by decide +kernel
theorem dX1_after_26 : decode cX1_after 26 = .ok (.iload_n 1, 1) := by decide +kernel
theorem dX1_after_27 : decode cX1_after 27 = .ok (.aload_n 0, 1) := by decide +kernel
theorem dX1_after_28 : decode cX1_after 28 = .ok (.getfield 15, 3) := by decide +kernel
theorem dX1_after_31 : decode cX1_after 31 = .ok (.imul, 1) := by decide +kernel
theorem dX1_after_32 : decode cX1_after 32 = .ok (.iload_n 2, 1) := by decide +kernel
theorem dX1_after_33 : decode cX1_after 33 = .ok (.iadd, 1) := by decide +kernel
theorem dX1_after_34 : decode cX1_after 34 = .ok (.istore_n 3, 1) := by decide +kernel
theorem dX1_after_35 : decode cX1_after 35 = .ok (.iload_n 3, 1) := by decide +kernel
theorem dX1_after_36 : decode cX1_after 36 = .ok (.aload_n 0, 1) := by decide +kernel
theorem dX1_after_37 : decode cX1_after 37 = .ok (.getfield 18, 3) := by decide +kernel
theorem dX1_after_40 : decode cX1_after 40 = .ok (.arraylength, 1) := by decide +kernel
theorem dX1_after_41 : decode cX1_after 41 = .ok (.if_icmp .ge 12, 3) := by decide +kernel
theorem dX1_after_44 : decode cX1_after 44 = .ok (.aload_n 0, 1) := by decide +kernel
theorem dX1_after_45 : decode cX1_after 45 = .ok (.getfield 18, 3) := by decide +kernel
theorem dX1_after_48 : decode cX1_after 48 = .ok (.iload_n 3, 1) := by decide +kernel
theorem dX1_after_49 : decode cX1_after 49 = .ok (.iaload, 1) := by decide +kernel
theorem dX1_after_50 : decode cX1_after 50 = .ok (.goto 4, 3) := by decide +kernel
theorem dX1_after_53 : decode cX1_after 53 = .ok (.iconst 0, 1) := by decide +kernel
theorem dX1_after_54 : decode cX1_after 54 = .ok (.ireturn, 1) := by decide +kernel
theorem dX1_mark_0 : decode cX1_mark 0 = .ok (.iload_n 1, 1) := by decide +kernel
theorem dX1_mark_1 : decode cX1_mark 1 = .ok (.aload_n 0, 1) := by decide +kernel
theorem dX1_mark_2 : decode cX1_mark 2 = .ok (.getfield 9, 3) := by decide +kernel
theorem dX1_mark_5 : decode cX1_mark 5 = .ok (.invokestatic 25, 3) := by decide +kernel
theorem dX1_mark_8 : decode cX1_mark 8 = .ok (.ifCond .eq 24, 3) := by decide +kernel
theorem dX1_mark_11 : decode cX1_mark 11 = .ok (.iload_n 1, 1) := by decide +kernel
theorem dX1_mark_12 : decode cX1_mark 12 = .ok (.aload_n 0, 1) := by decide +kernel
theorem dX1_mark_13 : decode cX1_mark 13 = .ok (.getfield 22, 3) := by decide +kernel
theorem dX1_mark_16 : decode cX1_mark 16 = .ok (.arraylength, 1) := by decide +kernel
theorem dX1_mark_17 : decode cX1_mark 17 = .ok (.invokestatic 25, 3) := by decide +kernel
theorem dX1_mark_20 : decode cX1_mark 20 = .ok (.ifCond .eq 12, 3) := by decide +kernel
theorem dX1_mark_23 : decode cX1_mark 23 = .ok (.aload_n 0, 1) := by decide +kernel
theorem dX1_mark_24 : decode cX1_mark 24 = .ok (.getfield 22, 3) := by decide +kernel
theorem dX1_mark_27 : decode cX1_mark 27 = .ok (.iload_n 1, 1) := by decide +kernel
theorem dX1_mark_28 : decode cX1_mark 28 = .ok (.iaload, 1) := by decide +kernel
theorem dX1_mark_29 : decode cX1_mark 29 = .ok (.goto 4, 3) := by decide +kernel
theorem dX1_mark_32 : decode cX1_mark 32 = .ok (.iconst 0, 1) := by decide +kernel
theorem dX1_mark_33 : decode cX1_mark 33 = .ok (.ireturn, 1) := by decide +kernel
theorem dX1_size_0 : decode cX1_size 0 = .ok (.aload_n 0, 1) := by decide +kernel
theorem dX1_size_1 : decode cX1_size 1 = .ok (.iload_n 1, 1) := by decide +kernel
theorem dX1_size_2 : decode cX1_size 2 = .ok (.aload_n 0, 1) := by decide +kernel
theorem dX1_size_3 : decode cX1_size 3 = .ok (.getfield 22, 3) := by decide +kernel
theorem dX1_size_6 : decode cX1_size 6 = .ok (.arraylength, 1) := by decide +kernel
theorem dX1_size_7 : decode cX1_size 7 = .ok (.invokestatic 29, 3) := by decide +kernel
theorem dX1_size_10 : decode cX1_size 10 = .ok (.putfield 9, 3) := by decide +kernel
theorem dX1_size_13 : decode cX1_size 13 = .ok (.aload_n 0, 1) := by decide +kernel
theorem dX1_size_14 : decode cX1_size 14 = .ok (.iload_n 2, 1) := by decide +kernel
theorem dX1_size_15 : decode cX1_size 15 = .ok (.putfield 15, 3) := by decide +kernel
theorem dX1_size_18 : decode cX1_size 18 = .ok (.return_, 1) := by decide +kernel
theorem dX1_put_0 : decode cX1_put 0 = .ok (.iload_n 1, 1) := by decide +kernel
theorem dX1_put_1 : decode cX1_put 1 = .ok (.aload_n 0, 1) := by decide +kernel
theorem dX1_put_2 : decode cX1_put 2 = .ok (.getfield 15, 3) := by decide +kernel
theorem dX1_put_5 : decode cX1_put 5 = .ok (.imul, 1) := by decide +kernel
theorem dX1_put_6 : decode cX1_put 6 = .ok (.iload_n 2, 1) := by decide +kernel
theorem dX1_put_7 : decode cX1_put 7 = .ok (.iadd, 1) := by decide +kernel
theorem dX1_put_8 : decode cX1_put 8 = .ok (.istore 4, 2) := by decide +kernel
theorem dX1_put_10 : decode cX1_put 10 = .ok (.iload 4, 2) := by decide +kernel
theorem dX1_put_12 : decode cX1_put 12 = .ok (.ifCond .lt 21, 3) := by decide +kernel
theorem dX1_put_15 : decode cX1_put 15 = .ok (.iload 4, 2) := by decide +kernel
theorem dX1_put_17 : decode cX1_put 17 = .ok (.aload_n 0, 1) := by decide +kernel
theorem dX1_put_18 : decode cX1_put 18 = .ok (.getfield 18, 3) := by decide +kernel
theorem dX1_put_21 : decode cX1_put 21 = .ok (.arraylength, 1) := by decide +kernel
theorem dX1_put_22 : decode cX1_put 22 = .ok (.if_icmp .ge 11, 3) := by decide +kernel
theorem dX1_put_25 : decode cX1_put 25 = .ok (.aload_n 0, 1) := by decide +kernel
theorem dX1_put_26 : decode cX1_put 26 = .ok (.getfield 18, 3) := by decide +kernel
theorem dX1_put_29 : decode cX1_put 29 = .ok (.iload 4, 2) := by decide +kernel
theorem dX1_put_31 : decode cX1_put 31 = .ok (.iload_n 3, 1) := by decide +kernel
theorem dX1_put_32 : decode cX1_put 32 = .ok (.iastore, 1) := by decide +kernel
theorem dX1_put_33 : decode cX1_put 33 = .ok (.return_, 1) := by decide +kernel
theorem dX1_putMark_0 : decode cX1_putMark 0 = .ok (.iload_n 1, 1) := by decide +kernel
theorem dX1_putMark_1 : decode cX1_putMark 1 = .ok (.ifCond .lt 19, 3) := by decide +kernel
theorem dX1_putMark_4 : decode cX1_putMark 4 = .ok (.iload_n 1, 1) := by decide +kernel
theorem dX1_putMark_5 : decode cX1_putMark 5 = .ok (.aload_n 0, 1) := by decide +kernel
theorem dX1_putMark_6 : decode cX1_putMark 6 = .ok (.getfield 22, 3) := by decide +kernel
theorem dX1_putMark_9 : decode cX1_putMark 9 = .ok (.arraylength, 1) := by decide +kernel
theorem dX1_putMark_10 : decode cX1_putMark 10 = .ok (.if_icmp .ge 10, 3) := by decide +kernel
theorem dX1_putMark_13 : decode cX1_putMark 13 = .ok (.aload_n 0, 1) := by decide +kernel
theorem dX1_putMark_14 : decode cX1_putMark 14 = .ok (.getfield 22, 3) := by decide +kernel
theorem dX1_putMark_17 : decode cX1_putMark 17 = .ok (.iload_n 1, 1) := by decide +kernel
theorem dX1_putMark_18 : decode cX1_putMark 18 = .ok (.iload_n 2, 1) := by decide +kernel
theorem dX1_putMark_19 : decode cX1_putMark 19 = .ok (.iastore, 1) := by decide +kernel
theorem dX1_putMark_20 : decode cX1_putMark 20 = .ok (.return_, 1) := by decide +kernel
theorem dX1_become_0 : decode cX1_become 0 = .ok (.aload_n 0, 1) := by decide +kernel
theorem dX1_become_1 : decode cX1_become 1 = .ok (.aload_n 1, 1) := by decide +kernel
theorem dX1_become_2 : decode cX1_become 2 = .ok (.getfield 9, 3) := by decide +kernel
theorem dX1_become_5 : decode cX1_become 5 = .ok (.aload_n 1, 1) := by decide +kernel
theorem dX1_become_6 : decode cX1_become 6 = .ok (.getfield 15, 3) := by decide +kernel
theorem dX1_become_9 : decode cX1_become 9 = .ok (.invokevirtual 35, 3) := by decide +kernel
theorem dX1_become_12 : decode cX1_become 12 = .ok (.iconst 0, 1) := by decide +kernel
theorem dX1_become_13 : decode cX1_become 13 = .ok (.istore_n 2, 1) := by decide +kernel
theorem dX1_become_14 : decode cX1_become 14 = .ok (.iload_n 2, 1) := by decide +kernel
theorem dX1_become_15 : decode cX1_become 15 = .ok (.aload_n 0, 1) := by decide +kernel
theorem dX1_become_16 : decode cX1_become 16 = .ok (.getfield 9, 3) := by decide +kernel
theorem dX1_become_19 : decode cX1_become 19 = .ok (.if_icmp .ge 47, 3) := by decide +kernel
theorem dX1_become_22 : decode cX1_become 22 = .ok (.aload_n 0, 1) := by decide +kernel
theorem dX1_become_23 : decode cX1_become 23 = .ok (.iload_n 2, 1) := by decide +kernel
theorem dX1_become_24 : decode cX1_become 24 = .ok (.aload_n 1, 1) := by decide +kernel
theorem dX1_become_25 : decode cX1_become 25 = .ok (.iload_n 2, 1) := by decide +kernel
theorem dX1_become_26 : decode cX1_become 26 = .ok (.invokevirtual 39, 3) := by decide +kernel
theorem dX1_become_29 : decode cX1_become 29 = .ok (.invokevirtual 43, 3) := by decide +kernel
theorem dX1_become_32 : decode cX1_become 32 = .ok (.iconst 0, 1) := by decide +kernel
theorem dX1_become_33 : decode cX1_become 33 = .ok (.istore_n 3, 1) := by decide +kernel
theorem dX1_become_34 : decode cX1_become 34 = .ok (.iload_n 3, 1) := by decide +kernel
theorem dX1_become_35 : decode cX1_become 35 = .ok (.aload_n 0, 1) := by decide +kernel
theorem dX1_become_36 : decode cX1_become 36 = .ok (.getfield 15, 3) := by decide +kernel
theorem dX1_become_39 : decode cX1_become 39 = .ok (.if_icmp .ge 21, 3) := by decide +kernel
theorem dX1_become_42 : decode cX1_become 42 = .ok (.aload_n 0, 1) := by decide +kernel
theorem dX1_become_43 : decode cX1_become 43 = .ok (.iload_n 2, 1) := by decide +kernel
theorem dX1_become_44 : decode cX1_become 44 = .ok (.iload_n 3, 1) := by decide +kernel
theorem dX1_become_45 : decode cX1_become 45 = .ok (.aload_n 1, 1) := by decide +kernel
theorem dX1_become_46 : decode cX1_become 46 = .ok (.iload_n 2, 1) := by decide +kernel
theorem dX1_become_47 : decode cX1_become 47 = .ok (.iload_n 3, 1) := by decide +kernel
theorem dX1_become_48 : decode cX1_become 48 = .ok (.invokevirtual 46, 3) := by decide +kernel
theorem dX1_become_51 : decode cX1_become 51 = .ok (.invokevirtual 49, 3) := by decide +kernel
theorem dX1_become_54 : decode cX1_become 54 = .ok (.iinc 3 1, 3) := by decide +kernel
theorem dX1_become_57 : decode cX1_become 57 = .ok (.goto (-23), 3) := by decide +kernel
theorem dX1_become_60 : decode cX1_become 60 = .ok (.iinc 2 1, 3) := by decide +kernel
theorem dX1_become_63 : decode cX1_become 63 = .ok (.goto (-49), 3) := by decide +kernel
theorem dX1_become_66 : decode cX1_become 66 = .ok (.return_, 1) := by decide +kernel
theorem dX1_becomeOnly_0 : decode cX1_becomeOnly 0 = .ok (.aload_n 0, 1) := by decide +kernel
theorem dX1_becomeOnly_1 : decode cX1_becomeOnly 1 = .ok (.iconst 1, 1) := by decide +kernel
theorem dX1_becomeOnly_2 : decode cX1_becomeOnly 2 = .ok (.iconst 1, 1) := by decide +kernel
theorem dX1_becomeOnly_3 : decode cX1_becomeOnly 3 = .ok (.invokevirtual 35, 3) := by decide +kernel
theorem dX1_becomeOnly_6 : decode cX1_becomeOnly 6 = .ok (.aload_n 0, 1) := by decide +kernel
theorem dX1_becomeOnly_7 : decode cX1_becomeOnly 7 = .ok (.iconst 0, 1) := by decide +kernel
theorem dX1_becomeOnly_8 : decode cX1_becomeOnly 8 = .ok (.iconst 0, 1) := by decide +kernel
theorem dX1_becomeOnly_9 : decode cX1_becomeOnly 9 = .ok (.iconst 0, 1) := by decide +kernel
theorem dX1_becomeOnly_10 : decode cX1_becomeOnly 10 = .ok (.invokevirtual 49, 3) := by decide +kernel
theorem dX1_becomeOnly_13 : decode cX1_becomeOnly 13 = .ok (.aload_n 0, 1) := by decide +kernel
theorem dX1_becomeOnly_14 : decode cX1_becomeOnly 14 = .ok (.iconst 0, 1) := by decide +kernel
theorem dX1_becomeOnly_15 : decode cX1_becomeOnly 15 = .ok (.iload_n 1, 1) := by decide +kernel
theorem dX1_becomeOnly_16 : decode cX1_becomeOnly 16 = .ok (.invokevirtual 43, 3) := by decide +kernel
theorem dX1_becomeOnly_19 : decode cX1_becomeOnly 19 = .ok (.return_, 1) := by decide +kernel
theorem dX1_becomeContrary_0 : decode cX1_becomeContrary 0 = .ok (.aload_n 0, 1) := by decide +kernel
theorem dX1_becomeContrary_1 : decode cX1_becomeContrary 1 = .ok (.aload_n 1, 1) := by decide +kernel
theorem dX1_becomeContrary_2 : decode cX1_becomeContrary 2 = .ok (.invokevirtual 53, 3) := by decide +kernel
theorem dX1_becomeContrary_5 : decode cX1_becomeContrary 5 = .ok (.iconst 0, 1) := by decide +kernel
theorem dX1_becomeContrary_6 : decode cX1_becomeContrary 6 = .ok (.istore_n 2, 1) := by decide +kernel
theorem dX1_becomeContrary_7 : decode cX1_becomeContrary 7 = .ok (.iload_n 2, 1) := by decide +kernel
theorem dX1_becomeContrary_8 : decode cX1_becomeContrary 8 = .ok (.aload_n 0, 1) := by decide +kernel
theorem dX1_becomeContrary_9 : decode cX1_becomeContrary 9 = .ok (.getfield 9, 3) := by decide +kernel
theorem dX1_becomeContrary_12 : decode cX1_becomeContrary 12 = .ok (.if_icmp .ge 21, 3) := by decide +kernel
theorem dX1_becomeContrary_15 : decode cX1_becomeContrary 15 = .ok (.aload_n 0, 1) := by decide +kernel
theorem dX1_becomeContrary_16 : decode cX1_becomeContrary 16 = .ok (.iload_n 2, 1) := by decide +kernel
theorem dX1_becomeContrary_17 : decode cX1_becomeContrary 17 = .ok (.iconst 1, 1) := by decide +kernel
theorem dX1_becomeContrary_18 : decode cX1_becomeContrary 18 = .ok (.aload_n 1, 1) := by decide +kernel
theorem dX1_becomeContrary_19 : decode cX1_becomeContrary 19 = .ok (.iload_n 2, 1) := by decide +kernel
theorem dX1_becomeContrary_20 : decode cX1_becomeContrary 20 = .ok (.invokevirtual 39, 3) := by decide +kernel
theorem dX1_becomeContrary_23 : decode cX1_becomeContrary 23 = .ok (.isub, 1) := by decide +kernel
theorem dX1_becomeContrary_24 : decode cX1_becomeContrary 24 = .ok (.invokevirtual 43, 3) := by decide +kernel
theorem dX1_becomeContrary_27 : decode cX1_becomeContrary 27 = .ok (.iinc 2 1, 3) := by decide +kernel
theorem dX1_becomeContrary_30 : decode cX1_becomeContrary 30 = .ok (.goto (-23), 3) := by decide +kernel
theorem dX1_becomeContrary_33 : decode cX1_becomeContrary 33 = .ok (.return_, 1) := by decide +kernel
theorem dX1_isLike_0 : decode cX1_isLike 0 = .ok (.aload_n 0, 1) := by decide +kernel
theorem dX1_isLike_1 : decode cX1_isLike 1 = .ok (.getfield 9, 3) := by decide +kernel
theorem dX1_isLike_4 : decode cX1_isLike 4 = .ok (.aload_n 1, 1) := by decide +kernel
theorem dX1_isLike_5 : decode cX1_isLike 5 = .ok (.getfield 9, 3) := by decide +kernel
theorem dX1_isLike_8 : decode cX1_isLike 8 = .ok (.if_icmp .ne 14, 3) := by decide +kernel
theorem dX1_isLike_11 : decode cX1_isLike 11 = .ok (.aload_n 0, 1) := by decide +kernel
theorem dX1_isLike_12 : decode cX1_isLike 12 = .ok (.getfield 15, 3) := by decide +kernel
theorem dX1_isLike_15 : decode cX1_isLike 15 = .ok (.aload_n 1, 1) := by decide +kernel
theorem dX1_isLike_16 : decode cX1_isLike 16 = .ok (.getfield 15, 3) := by decide +kernel
theorem dX1_isLike_19 : decode cX1_isLike 19 = .ok (.if_icmp .eq 5, 3) := by decide +kernel
theorem dX1_isLike_22 : decode cX1_isLike 22 = .ok (.iconst 0, 1) := by decide +kernel
theorem dX1_isLike_23 : decode cX1_isLike 23 = .ok (.ireturn, 1) := by decide +kernel
theorem dX1_isLike_24 : decode cX1_isLike 24 = .ok (.iconst 0, 1) := by decide +kernel
theorem dX1_isLike_25 : decode cX1_isLike 25 = .ok (.istore_n 2, 1) := by decide +kernel
theorem dX1_isLike_26 : decode cX1_isLike 26 = .ok (.iload_n 2, 1) := by decide +kernel
theorem dX1_isLike_27 : decode cX1_isLike 27 = .ok (.aload_n 0, 1) := by decide +kernel
theorem dX1_isLike_28 : decode cX1_isLike 28 = .ok (.getfield 9, 3) := by decide +kernel
theorem dX1_isLike_31 : decode cX1_isLike 31 = .ok (.if_icmp .ge 57, 3) := by decide +kernel
theorem dX1_isLike_34 : decode cX1_isLike 34 = .ok (.aload_n 0, 1) := by decide +kernel
theorem dX1_isLike_35 : decode cX1_isLike 35 = .ok (.iload_n 2, 1) := by decide +kernel
theorem dX1_isLike_36 : decode cX1_isLike 36 = .ok (.invokevirtual 39, 3) := by decide +kernel
theorem dX1_isLike_39 : decode cX1_isLike 39 = .ok (.aload_n 1, 1) := by decide +kernel
theorem dX1_isLike_40 : decode cX1_isLike 40 = .ok (.iload_n 2, 1) := by decide +kernel
theorem dX1_isLike_41 : decode cX1_isLike 41 = .ok (.invokevirtual 39, 3) := by decide +kernel
theorem dX1_isLike_44 : decode cX1_isLike 44 = .ok (.if_icmp .eq 5, 3) := by decide +kernel
theorem dX1_isLike_47 : decode cX1_isLike 47 = .ok (.iconst 0, 1) := by decide +kernel
theorem dX1_isLike_48 : decode cX1_isLike 48 = .ok (.ireturn, 1) := by decide +kernel
theorem dX1_isLike_49 : decode cX1_isLike 49 = .ok (.iconst 0, 1) := by decide +kernel
theorem dX1_isLike_50 : decode cX1_isLike 50 = .ok (.istore_n 3, 1) := by decide +kernel
theorem dX1_isLike_51 : decode cX1_isLike 51 = .ok (.iload_n 3, 1) := by decide +kernel
theorem dX1_isLike_52 : decode cX1_isLike 52 = .ok (.aload_n 0, 1) := by decide +kernel
theorem dX1_isLike_53 : decode cX1_isLike 53 = .ok (.getfield 15, 3) := by decide +kernel
theorem dX1_isLike_56 : decode cX1_isLike 56 = .ok (.if_icmp .ge 26, 3) := by decide +kernel
theorem dX1_isLike_59 : decode cX1_isLike 59 = .ok (.aload_n 0, 1) := by decide +kernel
theorem dX1_isLike_60 : decode cX1_isLike 60 = .ok (.iload_n 2, 1) := by decide +kernel
theorem dX1_isLike_61 : decode cX1_isLike 61 = .ok (.iload_n 3, 1) := by decide +kernel
theorem dX1_isLike_62 : decode cX1_isLike 62 = .ok (.invokevirtual 46, 3) := by decide +kernel
theorem dX1_isLike_65 : decode cX1_isLike 65 = .ok (.aload_n 1, 1) := by decide +kernel
theorem dX1_isLike_66 : decode cX1_isLike 66 = .ok (.iload_n 2, 1) := by decide +kernel
theorem dX1_isLike_67 : decode cX1_isLike 67 = .ok (.iload_n 3, 1) := by decide +kernel
theorem dX1_isLike_68 : decode cX1_isLike 68 = .ok (.invokevirtual 46, 3) := by decide +kernel
theorem dX1_isLike_71 : decode cX1_isLike 71 = .ok (.if_icmp .eq 5, 3) := by decide +kernel
theorem dX1_isLike_74 : decode cX1_isLike 74 = .ok (.iconst 0, 1) := by decide +kernel
theorem dX1_isLike_75 : decode cX1_isLike 75 = .ok (.ireturn, 1) := by decide +kernel
theorem dX1_isLike_76 : decode cX1_isLike 76 = .ok (.iinc 3 1, 3) := by decide +kernel
theorem dX1_isLike_79 : decode cX1_isLike 79 = .ok (.goto (-28), 3) := by decide +kernel
theorem dX1_isLike_82 : decode cX1_isLike 82 = .ok (.iinc 2 1, 3) := by decide +kernel
theorem dX1_isLike_85 : decode cX1_isLike 85 = .ok (.goto (-59), 3) := by decide +kernel
theorem dX1_isLike_88 : decode cX1_isLike 88 = .ok (.iconst 1, 1) := by decide +kernel
theorem dX1_isLike_89 : decode cX1_isLike 89 = .ok (.ireturn, 1) := by decide +kernel
theorem dX1_reads_0 : decode cX1_reads 0 = .ok (.aload_n 0, 1) := by decide +kernel
theorem dX1_reads_1 : decode cX1_reads 1 = .ok (.iconst 1, 1) := by decide +kernel
theorem dX1_reads_2 : decode cX1_reads 2 = .ok (.lload_n 1, 1) := by decide +kernel
theorem dX1_reads_3 : decode cX1_reads 3 = .ok (.lconst 0, 1) := by decide +kernel
theorem dX1_reads_4 : decode cX1_reads 4 = .ok (.lconst 0, 1) := by decide +kernel
theorem dX1_reads_5 : decode cX1_reads 5 = .ok (.iload_n 3, 1) := by decide +kernel
theorem dX1_reads_6 : decode cX1_reads 6 = .ok (.invokevirtual 57, 3) := by decide +kernel
theorem dX1_reads_9 : decode cX1_reads 9 = .ok (.ireturn, 1) := by decide +kernel
theorem dX1_readsAll_0 : decode cX1_readsAll 0 = .ok (.iconst 0, 1) := by decide +kernel
theorem dX1_readsAll_1 : decode cX1_readsAll 1 = .ok (.istore 9, 2) := by decide +kernel
theorem dX1_readsAll_3 : decode cX1_readsAll 3 = .ok (.iload 8, 2) := by decide +kernel
theorem dX1_readsAll_5 : decode cX1_readsAll 5 = .ok (.iconst 2, 1) := by decide +kernel
theorem dX1_readsAll_6 : decode cX1_readsAll 6 = .ok (.if_icmp .ne 9, 3) := by decide +kernel
theorem dX1_readsAll_9 : decode cX1_readsAll 9 = .ok (.ldc2_w 61, 3) := by decide +kernel
theorem dX1_readsAll_12 : decode cX1_readsAll 12 = .ok (.goto 6, 3) := by decide +kernel
theorem dX1_readsAll_15 : decode cX1_readsAll 15 = .ok (.ldc2_w 63, 3) := by decide +kernel
theorem dX1_readsAll_18 : decode cX1_readsAll 18 = .ok (.lstore 10, 2) := by decide +kernel
theorem dX1_readsAll_20 : decode cX1_readsAll 20 = .ok (.iconst 0, 1) := by decide +kernel
theorem dX1_readsAll_21 : decode cX1_readsAll 21 = .ok (.istore 12, 2) := by decide +kernel
theorem dX1_readsAll_23 : decode cX1_readsAll 23 = .ok (.iload 12, 2) := by decide +kernel
theorem dX1_readsAll_25 : decode cX1_readsAll 25 = .ok (.bipush 63, 2) := by decide +kernel
theorem dX1_readsAll_27 : decode cX1_readsAll 27 = .ok (.if_icmp .ge 104, 3) := by decide +kernel
theorem dX1_readsAll_30 : decode cX1_readsAll 30 = .ok (.lload 10, 2) := by decide +kernel
theorem dX1_readsAll_32 : decode cX1_readsAll 32 = .ok (.lconst 0, 1) := by decide +kernel
theorem dX1_readsAll_33 : decode cX1_readsAll 33 = .ok (.lcmp, 1) := by decide +kernel
theorem dX1_readsAll_34 : decode cX1_readsAll 34 = .ok (.ifCond .le 97, 3) := by decide +kernel
theorem dX1_readsAll_37 : decode cX1_readsAll 37 = .ok (.iload 8, 2) := by decide +kernel
theorem dX1_readsAll_39 : decode cX1_readsAll 39 = .ok (.iconst 1, 1) := by decide +kernel
theorem dX1_readsAll_40 : decode cX1_readsAll 40 = .ok (.if_icmp .le 91, 3) := by decide +kernel
theorem dX1_readsAll_43 : decode cX1_readsAll 43 = .ok (.iconst 0, 1) := by decide +kernel
theorem dX1_readsAll_44 : decode cX1_readsAll 44 = .ok (.istore 13, 2) := by decide +kernel
theorem dX1_readsAll_46 : decode cX1_readsAll 46 = .ok (.iload_n 1, 1) := by decide +kernel
theorem dX1_readsAll_47 : decode cX1_readsAll 47 = .ok (.ifCond .le 14, 3) := by decide +kernel
theorem dX1_readsAll_50 : decode cX1_readsAll 50 = .ok (.lload_n 2, 1) := by decide +kernel
theorem dX1_readsAll_51 : decode cX1_readsAll 51 = .ok (.lload 10, 2) := by decide +kernel
theorem dX1_readsAll_53 : decode cX1_readsAll 53 = .ok (.ldiv, 1) := by decide +kernel
theorem dX1_readsAll_54 : decode cX1_readsAll 54 = .ok (.iload 8, 2) := by decide +kernel
theorem dX1_readsAll_56 : decode cX1_readsAll 56 = .ok (.i2l, 1) := by decide +kernel
theorem dX1_readsAll_57 : decode cX1_readsAll 57 = .ok (.lrem, 1) := by decide +kernel
theorem dX1_readsAll_58 : decode cX1_readsAll 58 = .ok (.l2i, 1) := by decide +kernel
theorem dX1_readsAll_59 : decode cX1_readsAll 59 = .ok (.istore 13, 2) := by decide +kernel
theorem dX1_readsAll_61 : decode cX1_readsAll 61 = .ok (.iload_n 1, 1) := by decide +kernel
theorem dX1_readsAll_62 : decode cX1_readsAll 62 = .ok (.iconst 1, 1) := by decide +kernel
theorem dX1_readsAll_63 : decode cX1_readsAll 63 = .ok (.if_icmp .le 21, 3) := by decide +kernel
theorem dX1_readsAll_66 : decode cX1_readsAll 66 = .ok (.iload 13, 2) := by decide +kernel
theorem dX1_readsAll_68 : decode cX1_readsAll 68 = .ok (.iload 8, 2) := by decide +kernel
theorem dX1_readsAll_70 : decode cX1_readsAll 70 = .ok (.imul, 1) := by decide +kernel
theorem dX1_readsAll_71 : decode cX1_readsAll 71 = .ok (.lload 4, 2) := by decide +kernel
theorem dX1_readsAll_73 : decode cX1_readsAll 73 = .ok (.lload 10, 2) := by decide +kernel
theorem dX1_readsAll_75 : decode cX1_readsAll 75 = .ok (.ldiv, 1) := by decide +kernel
theorem dX1_readsAll_76 : decode cX1_readsAll 76 = .ok (.iload 8, 2) := by decide +kernel
theorem dX1_readsAll_78 : decode cX1_readsAll 78 = .ok (.i2l, 1) := by decide +kernel
theorem dX1_readsAll_79 : decode cX1_readsAll 79 = .ok (.lrem, 1) := by decide +kernel
theorem dX1_readsAll_80 : decode cX1_readsAll 80 = .ok (.l2i, 1) := by decide +kernel
theorem dX1_readsAll_81 : decode cX1_readsAll 81 = .ok (.iadd, 1) := by decide +kernel
theorem dX1_readsAll_82 : decode cX1_readsAll 82 = .ok (.istore 13, 2) := by decide +kernel
theorem dX1_readsAll_84 : decode cX1_readsAll 84 = .ok (.iload_n 1, 1) := by decide +kernel
theorem dX1_readsAll_85 : decode cX1_readsAll 85 = .ok (.iconst 2, 1) := by decide +kernel
theorem dX1_readsAll_86 : decode cX1_readsAll 86 = .ok (.if_icmp .le 21, 3) := by decide +kernel
theorem dX1_readsAll_89 : decode cX1_readsAll 89 = .ok (.iload 13, 2) := by decide +kernel
theorem dX1_readsAll_91 : decode cX1_readsAll 91 = .ok (.iload 8, 2) := by decide +kernel
theorem dX1_readsAll_93 : decode cX1_readsAll 93 = .ok (.imul, 1) := by decide +kernel
theorem dX1_readsAll_94 : decode cX1_readsAll 94 = .ok (.lload 6, 2) := by decide +kernel
theorem dX1_readsAll_96 : decode cX1_readsAll 96 = .ok (.lload 10, 2) := by decide +kernel
theorem dX1_readsAll_98 : decode cX1_readsAll 98 = .ok (.ldiv, 1) := by decide +kernel
theorem dX1_readsAll_99 : decode cX1_readsAll 99 = .ok (.iload 8, 2) := by decide +kernel
theorem dX1_readsAll_101 : decode cX1_readsAll 101 = .ok (.i2l, 1) := by decide +kernel
theorem dX1_readsAll_102 : decode cX1_readsAll 102 = .ok (.lrem, 1) := by decide +kernel
theorem dX1_readsAll_103 : decode cX1_readsAll 103 = .ok (.l2i, 1) := by decide +kernel
theorem dX1_readsAll_104 : decode cX1_readsAll 104 = .ok (.iadd, 1) := by decide +kernel
theorem dX1_readsAll_105 : decode cX1_readsAll 105 = .ok (.istore 13, 2) := by decide +kernel
theorem dX1_readsAll_107 : decode cX1_readsAll 107 = .ok (.aload_n 0, 1) := by decide +kernel
theorem dX1_readsAll_108 : decode cX1_readsAll 108 = .ok (.iload 9, 2) := by decide +kernel
theorem dX1_readsAll_110 : decode cX1_readsAll 110 = .ok (.iload 13, 2) := by decide +kernel
theorem dX1_readsAll_112 : decode cX1_readsAll 112 = .ok (.invokevirtual 46, 3) := by decide +kernel
theorem dX1_readsAll_115 : decode cX1_readsAll 115 = .ok (.istore 9, 2) := by decide +kernel
theorem dX1_readsAll_117 : decode cX1_readsAll 117 = .ok (.lload 10, 2) := by decide +kernel
theorem dX1_readsAll_119 : decode cX1_readsAll 119 = .ok (.iload 8, 2) := by decide +kernel
theorem dX1_readsAll_121 : decode cX1_readsAll 121 = .ok (.i2l, 1) := by decide +kernel
theorem dX1_readsAll_122 : decode cX1_readsAll 122 = .ok (.ldiv, 1) := by decide +kernel
theorem dX1_readsAll_123 : decode cX1_readsAll 123 = .ok (.lstore 10, 2) := by decide +kernel
theorem dX1_readsAll_125 : decode cX1_readsAll 125 = .ok (.iinc 12 1, 3) := by decide +kernel
theorem dX1_readsAll_128 : decode cX1_readsAll 128 = .ok (.goto (-105), 3) := by decide +kernel
theorem dX1_readsAll_131 : decode cX1_readsAll 131 = .ok (.iload 9, 2) := by decide +kernel
theorem dX1_readsAll_133 : decode cX1_readsAll 133 = .ok (.ireturn, 1) := by decide +kernel
theorem eX1_init {G : GG} {d rc rs : Nat} (o : Nat) (a1 : Int32) (a2 : Int32)  {M : Mem} {Q : Option Value → Mem → Prop} (h : (x_h M o).1 = 17 ∧ (∀ M2, M2 = x_si M o 2 0 → ∀ M3, M3 = x_si M2 o 3 1 → ¬ (a1 * a2) < 0 ∧ (a1 * a2).toNatClampNeg ≤ 1000000 ∧ 1 ≤ rc ∧ (a1 * a2).toNatClampNeg ≤ rs ∧ (∀ n4, n4 = g_b G + x_n M3 → ∀ M5, M5 = x_new M3 n4 1 ((a1 * a2).toNatClampNeg) → (x_h M5 o).1 = 17 ∧ (∀ M12, M12 = x_sr M5 o 0 (some n4) → ¬ a1 < 0 ∧ a1.toNatClampNeg ≤ 1000000 ∧ 1 ≤ (rc - 1) ∧ a1.toNatClampNeg ≤ (rs - (a1 * a2).toNatClampNeg) ∧ (∀ n13, n13 = g_b G + x_n M12 → ∀ M14, M14 = x_new M12 n13 1 a1.toNatClampNeg → (x_h M14 o).1 = 17 ∧ (∀ M21, M21 = x_sr M14 o 1 (some n13) → Q none M21)))))) : Call G (d + 1) rc rs mX1_init [.ref o, .int a1, .int a2] M Q := by
  refine call_of (by decide) (Nat.le_of_ble_eq_true rfl) ?_
  show Wk G (d + 1) rc rs mX1_init 0 [some (.ref o), some (.int a1), some (.int a2)] [] M Q
  refine r_aload_n (pc := 0) (i := 0) dX1_init_0 rfl rfl ?_
  refine r_objInit (pc := 1) (st := []) ww_112 ww_28 ww_29 dX1_init_1 (Nat.le_of_ble_eq_true rfl) ?_
  refine r_aload_n (pc := 4) (i := 0) dX1_init_4 rfl rfl ?_
  refine r_iconst (pc := 5) (v := 0) dX1_init_5 (by decide) ?_
  obtain ⟨k1, h⟩ := h
  refine r_puti (pc := 6) flX1_9 dX1_init_6 (Or.inl rfl) (fun q hq => by cases hq; rfl) k1 ?_
  replace h := h _ rfl
  refine r_aload_n (pc := 9) (i := 0) dX1_init_9 rfl rfl ?_
  refine r_iconst (pc := 10) (v := 1) dX1_init_10 (by decide) ?_
  refine r_puti (pc := 11) flX1_15 dX1_init_11 (Or.inl rfl) (fun q hq => by cases hq; rfl) k1 ?_
  replace h := h _ rfl
  refine r_aload_n (pc := 14) (i := 0) dX1_init_14 rfl rfl ?_
  refine r_iload_n (pc := 15) (i := 1) dX1_init_15 rfl rfl ?_
  refine r_iload_n (pc := 16) (i := 2) dX1_init_16 rfl rfl ?_
  refine r_imul (pc := 17) dX1_init_17 ?_
  obtain ⟨y7, y8, h⟩ := h
  obtain ⟨y9, y10, h⟩ := h
  refine r_newIV (pc := 18)  dX1_init_18 y7 rfl y8 y9 y10 (fun n4 M5 enn4 eMn4 e6 => ?_)
  replace h := h n4 enn4 M5 eMn4
  obtain ⟨k11, h⟩ := h
  refine r_putr (pc := 20) (r := some _) flX1_18 dX1_init_20 rfl (fun q hq => by cases hq; exact Or.inr ⟨rfl, rfl, rfl⟩) (fun q hq _ => by cases hq; exact ww_113) k11 ?_
  replace h := h _ rfl
  refine r_aload_n (pc := 23) (i := 0) dX1_init_23 rfl rfl ?_
  refine r_iload_n (pc := 24) (i := 1) dX1_init_24 rfl rfl ?_
  obtain ⟨y16, y17, h⟩ := h
  obtain ⟨y18, y19, h⟩ := h
  refine r_newIV (pc := 25)  dX1_init_25 y16 rfl y17 y18 y19 (fun n13 M14 enn13 eMn13 e15 => ?_)
  replace h := h n13 enn13 M14 eMn13
  obtain ⟨k20, h⟩ := h
  refine r_putr (pc := 27) (r := some _) flX1_22 dX1_init_27 rfl (fun q hq => by cases hq; exact Or.inr ⟨rfl, rfl, rfl⟩) (fun q hq _ => by cases hq; exact ww_114) k20 ?_
  replace h := h _ rfl
  exact r_vret (pc := 30) dX1_init_30 rfl h
theorem eX1_after {G : GG} {d rc rs : Nat} (o : Nat) (a1 : Int32) (a2 : Int32)  {M : Mem} {Q : Option Value → Mem → Prop} (h : (a1 < 0 → Q (some (.int 0)) M) ∧ (¬ a1 < 0 → (x_h M o).1 = 17 ∧ ((x_i M o 2) ≤ a1 → Q (some (.int 0)) M) ∧ (¬ (x_i M o 2) ≤ a1 → (a2 < 0 → Q (some (.int 0)) M) ∧ (¬ a2 < 0 → (a2 < (x_i M o 3) → ∃ b6, x_r M o 0 = some b6 ∧ (1 ≤ (x_h M b6).1 ∧ (x_h M b6).1 < 8) ∧ ((nI (x_h M b6).2) ≤ ((a1 * (x_i M o 3)) + a2) → Q (some (.int 0)) M) ∧ (¬ (nI (x_h M b6).2) ≤ ((a1 * (x_i M o 3)) + a2) → (x_h M b6).1 = 1 ∧ vp_in ((a1 * (x_i M o 3)) + a2) (x_h M b6).2 ∧ Q (some (.int (x_i M b6 ((a1 * (x_i M o 3)) + a2).toNatClampNeg))) M)) ∧ (¬ a2 < (x_i M o 3) → Q (some (.int 0)) M))))) : Call G (d + 1) rc rs mX1_after [.ref o, .int a1, .int a2] M Q := by
  refine call_of (by decide) (Nat.le_of_ble_eq_true rfl) ?_
  show Wk G (d + 1) rc rs mX1_after 0 [some (.ref o), some (.int a1), some (.int a2), none] [] M Q
  refine r_iload_n (pc := 0) (i := 1) dX1_after_0 rfl rfl ?_
  refine r_if_lt (pc := 1) (tgt := 24) dX1_after_1 (by decide) (fun c1 => ?_) (fun c1 => ?_)
  · replace h := h.1 c1
    refine r_iconst (pc := 24) (v := 0) dX1_after_24 (by decide) ?_
    exact r_iret (pc := 25) dX1_after_25 rfl h
  · replace h := h.2 c1
    refine r_iload_n (pc := 4) (i := 1) dX1_after_4 rfl rfl ?_
    refine r_aload_n (pc := 5) (i := 0) dX1_after_5 rfl rfl ?_
    obtain ⟨k2, h⟩ := h
    refine r_geti (pc := 6) flX1_9 dX1_after_6 (Or.inl rfl) k2 ?_
    refine r_icmp_ge (pc := 9) (tgt := 24) dX1_after_9 (by decide) (fun c3 => ?_) (fun c3 => ?_)
    · replace h := h.1 c3
      refine r_iconst (pc := 24) (v := 0) dX1_after_24 (by decide) ?_
      exact r_iret (pc := 25) dX1_after_25 rfl h
    · replace h := h.2 c3
      refine r_iload_n (pc := 12) (i := 2) dX1_after_12 rfl rfl ?_
      refine r_if_lt (pc := 13) (tgt := 24) dX1_after_13 (by decide) (fun c4 => ?_) (fun c4 => ?_)
      · replace h := h.1 c4
        refine r_iconst (pc := 24) (v := 0) dX1_after_24 (by decide) ?_
        exact r_iret (pc := 25) dX1_after_25 rfl h
      · replace h := h.2 c4
        refine r_iload_n (pc := 16) (i := 2) dX1_after_16 rfl rfl ?_
        refine r_aload_n (pc := 17) (i := 0) dX1_after_17 rfl rfl ?_
        refine r_geti (pc := 18) flX1_15 dX1_after_18 (Or.inl rfl) k2 ?_
        refine r_icmp_lt (pc := 21) (tgt := 26) dX1_after_21 (by decide) (fun c5 => ?_) (fun c5 => ?_)
        · replace h := h.1 c5
          refine r_iload_n (pc := 26) (i := 1) dX1_after_26 rfl rfl ?_
          refine r_aload_n (pc := 27) (i := 0) dX1_after_27 rfl rfl ?_
          refine r_geti (pc := 28) flX1_15 dX1_after_28 (Or.inl rfl) k2 ?_
          refine r_imul (pc := 31) dX1_after_31 ?_
          refine r_iload_n (pc := 32) (i := 2) dX1_after_32 rfl rfl ?_
          refine r_iadd (pc := 33) dX1_after_33 ?_
          refine r_istore_n (pc := 34) (i := 3) dX1_after_34 rfl rfl (Nat.le_of_ble_eq_true rfl) ?_
          refine r_iload_n (pc := 35) (i := 3) dX1_after_35 rfl rfl ?_
          refine r_aload_n (pc := 36) (i := 0) dX1_after_36 rfl rfl ?_
          obtain ⟨b6, hb6, h⟩ := h
          refine r_getr (pc := 37) flX1_18 dX1_after_37 rfl k2 hb6 ?_
          obtain ⟨k7, h⟩ := h
          refine r_alen (pc := 40) dX1_after_40 rfl k7 ?_
          refine r_icmp_ge (pc := 41) (tgt := 53) dX1_after_41 (by decide) (fun c8 => ?_) (fun c8 => ?_)
          · replace h := h.1 c8
            refine r_iconst (pc := 53) (v := 0) dX1_after_53 (by decide) ?_
            exact r_iret (pc := 54) dX1_after_54 rfl h
          · replace h := h.2 c8
            refine r_aload_n (pc := 44) (i := 0) dX1_after_44 rfl rfl ?_
            refine r_getr (pc := 45) flX1_18 dX1_after_45 rfl k2 hb6 ?_
            refine r_iload_n (pc := 48) (i := 3) dX1_after_48 rfl rfl ?_
            obtain ⟨k9, h⟩ := h
            obtain ⟨i10, h⟩ := h
            refine r_iald (pc := 49) dX1_after_49 k9 i10 ?_
            refine r_goto (pc := 50) (tgt := 54) dX1_after_50 (by decide) ?_
            exact r_iret (pc := 54) dX1_after_54 rfl h
        · replace h := h.2 c5
          refine r_iconst (pc := 24) (v := 0) dX1_after_24 (by decide) ?_
          exact r_iret (pc := 25) dX1_after_25 rfl h
theorem eX1_mark {G : GG} {d rc rs : Nat} (o : Nat) (a1 : Int32)  {M : Mem} {Q : Option Value → Mem → Prop} (h : (x_h M o).1 = 17 ∧ Call G d 0 0 mX11_within [.int a1, .int (x_i M o 2)] M (fun r2 M3 => ∃ v4 : Int32, r2 = some (.int v4) ∧ (v4 = 0 → Q (some (.int 0)) M3) ∧ (¬ v4 = 0 → (x_h M3 o).1 = 17 ∧ (∃ b7, x_r M3 o 1 = some b7 ∧ (1 ≤ (x_h M3 b7).1 ∧ (x_h M3 b7).1 < 8) ∧ Call G d 0 0 mX11_within [.int a1, .int (nI (x_h M3 b7).2)] M3 (fun r9 M10 => ∃ v11 : Int32, r9 = some (.int v11) ∧ (v11 = 0 → Q (some (.int 0)) M10) ∧ (¬ v11 = 0 → (x_h M10 o).1 = 17 ∧ (∃ b14, x_r M10 o 1 = some b14 ∧ (x_h M10 b14).1 = 1 ∧ vp_in a1 (x_h M10 b14).2 ∧ Q (some (.int (x_i M10 b14 a1.toNatClampNeg))) M10))))))) : Call G (d + 1) rc rs mX1_mark [.ref o, .int a1] M Q := by
  refine call_of (by decide) (Nat.le_of_ble_eq_true rfl) ?_
  show Wk G (d + 1) rc rs mX1_mark 0 [some (.ref o), some (.int a1)] [] M Q
  refine r_iload_n (pc := 0) (i := 1) dX1_mark_0 rfl rfl ?_
  refine r_aload_n (pc := 1) (i := 0) dX1_mark_1 rfl rfl ?_
  obtain ⟨k1, h⟩ := h
  refine r_geti (pc := 2) flX1_9 dX1_mark_2 (Or.inl rfl) k1 ?_
  refine r_callS (pc := 5) (as := [_, _]) (st := []) okX11_within lkX1_25 stX11_within dX1_mark_5 rfl (Nat.le_of_ble_eq_true rfl) (Nat.zero_le _) (Nat.zero_le _) (Call.mono h (fun r2 M3 h => ?_))
  obtain ⟨v4, rfl, h⟩ := h
  refine r_if_eq (pc := 8) (tgt := 32) dX1_mark_8 (by decide) (fun c5 => ?_) (fun c5 => ?_)
  · replace h := h.1 c5
    refine r_iconst (pc := 32) (v := 0) dX1_mark_32 (by decide) ?_
    exact r_iret (pc := 33) dX1_mark_33 rfl h
  · replace h := h.2 c5
    refine r_iload_n (pc := 11) (i := 1) dX1_mark_11 rfl rfl ?_
    refine r_aload_n (pc := 12) (i := 0) dX1_mark_12 rfl rfl ?_
    obtain ⟨k6, h⟩ := h
    obtain ⟨b7, hb7, h⟩ := h
    refine r_getr (pc := 13) flX1_22 dX1_mark_13 rfl k6 hb7 ?_
    obtain ⟨k8, h⟩ := h
    refine r_alen (pc := 16) dX1_mark_16 rfl k8 ?_
    refine r_callS (pc := 17) (as := [_, _]) (st := []) okX11_within lkX1_25 stX11_within dX1_mark_17 rfl (Nat.le_of_ble_eq_true rfl) (Nat.zero_le _) (Nat.zero_le _) (Call.mono h (fun r9 M10 h => ?_))
    obtain ⟨v11, rfl, h⟩ := h
    refine r_if_eq (pc := 20) (tgt := 32) dX1_mark_20 (by decide) (fun c12 => ?_) (fun c12 => ?_)
    · replace h := h.1 c12
      refine r_iconst (pc := 32) (v := 0) dX1_mark_32 (by decide) ?_
      exact r_iret (pc := 33) dX1_mark_33 rfl h
    · replace h := h.2 c12
      refine r_aload_n (pc := 23) (i := 0) dX1_mark_23 rfl rfl ?_
      obtain ⟨k13, h⟩ := h
      obtain ⟨b14, hb14, h⟩ := h
      refine r_getr (pc := 24) flX1_22 dX1_mark_24 rfl k13 hb14 ?_
      refine r_iload_n (pc := 27) (i := 1) dX1_mark_27 rfl rfl ?_
      obtain ⟨k15, h⟩ := h
      obtain ⟨i16, h⟩ := h
      refine r_iald (pc := 28) dX1_mark_28 k15 i16 ?_
      refine r_goto (pc := 29) (tgt := 33) dX1_mark_29 (by decide) ?_
      exact r_iret (pc := 33) dX1_mark_33 rfl h
theorem eX1_size {G : GG} {d rc rs : Nat} (o : Nat) (a1 : Int32) (a2 : Int32)  {M : Mem} {Q : Option Value → Mem → Prop} (h : (x_h M o).1 = 17 ∧ (∃ b2, x_r M o 1 = some b2 ∧ (1 ≤ (x_h M b2).1 ∧ (x_h M b2).1 < 8) ∧ Call G d 0 0 mJ9_min_7cf53 [.int a1, .int (nI (x_h M b2).2)] M (fun r4 M5 => ∃ v6 : Int32, r4 = some (.int v6) ∧ (x_h M5 o).1 = 17 ∧ (∀ M8, M8 = x_si M5 o 2 v6 → ∀ M9, M9 = x_si M8 o 3 a2 → Q none M9)))) : Call G (d + 1) rc rs mX1_size [.ref o, .int a1, .int a2] M Q := by
  refine call_of (by decide) (Nat.le_of_ble_eq_true rfl) ?_
  show Wk G (d + 1) rc rs mX1_size 0 [some (.ref o), some (.int a1), some (.int a2)] [] M Q
  refine r_aload_n (pc := 0) (i := 0) dX1_size_0 rfl rfl ?_
  refine r_iload_n (pc := 1) (i := 1) dX1_size_1 rfl rfl ?_
  refine r_aload_n (pc := 2) (i := 0) dX1_size_2 rfl rfl ?_
  obtain ⟨k1, h⟩ := h
  obtain ⟨b2, hb2, h⟩ := h
  refine r_getr (pc := 3) flX1_22 dX1_size_3 rfl k1 hb2 ?_
  obtain ⟨k3, h⟩ := h
  refine r_alen (pc := 6) dX1_size_6 rfl k3 ?_
  refine r_callS (pc := 7) (as := [_, _]) (st := [_]) okJ9_min_7cf53 lkX1_29 stJ9_min_7cf53 dX1_size_7 rfl (Nat.le_of_ble_eq_true rfl) (Nat.zero_le _) (Nat.zero_le _) (Call.mono h (fun r4 M5 h => ?_))
  obtain ⟨v6, rfl, h⟩ := h
  obtain ⟨k7, h⟩ := h
  refine r_puti (pc := 10) flX1_9 dX1_size_10 (Or.inl rfl) (fun q hq => by cases hq; rfl) k7 ?_
  replace h := h _ rfl
  refine r_aload_n (pc := 13) (i := 0) dX1_size_13 rfl rfl ?_
  refine r_iload_n (pc := 14) (i := 2) dX1_size_14 rfl rfl ?_
  refine r_puti (pc := 15) flX1_15 dX1_size_15 (Or.inl rfl) (fun q hq => by cases hq; rfl) k7 ?_
  replace h := h _ rfl
  exact r_vret (pc := 18) dX1_size_18 rfl h
theorem eX1_put {G : GG} {d rc rs : Nat} (o : Nat) (a1 : Int32) (a2 : Int32) (a3 : Int32)  {M : Mem} {Q : Option Value → Mem → Prop} (h : (x_h M o).1 = 17 ∧ (((a1 * (x_i M o 3)) + a2) < 0 → Q none M) ∧ (¬ ((a1 * (x_i M o 3)) + a2) < 0 → ∃ b3, x_r M o 0 = some b3 ∧ (1 ≤ (x_h M b3).1 ∧ (x_h M b3).1 < 8) ∧ ((nI (x_h M b3).2) ≤ ((a1 * (x_i M o 3)) + a2) → Q none M) ∧ (¬ (nI (x_h M b3).2) ≤ ((a1 * (x_i M o 3)) + a2) → (x_h M b3).1 = 1 ∧ vp_in ((a1 * (x_i M o 3)) + a2) (x_h M b3).2 ∧ (∀ M8, M8 = x_si M b3 ((a1 * (x_i M o 3)) + a2).toNatClampNeg a3 → Q none M8)))) : Call G (d + 1) rc rs mX1_put [.ref o, .int a1, .int a2, .int a3] M Q := by
  refine call_of (by decide) (Nat.le_of_ble_eq_true rfl) ?_
  show Wk G (d + 1) rc rs mX1_put 0 [some (.ref o), some (.int a1), some (.int a2), some (.int a3), none] [] M Q
  refine r_iload_n (pc := 0) (i := 1) dX1_put_0 rfl rfl ?_
  refine r_aload_n (pc := 1) (i := 0) dX1_put_1 rfl rfl ?_
  obtain ⟨k1, h⟩ := h
  refine r_geti (pc := 2) flX1_15 dX1_put_2 (Or.inl rfl) k1 ?_
  refine r_imul (pc := 5) dX1_put_5 ?_
  refine r_iload_n (pc := 6) (i := 2) dX1_put_6 rfl rfl ?_
  refine r_iadd (pc := 7) dX1_put_7 ?_
  refine r_istore (pc := 8) (i := 4) dX1_put_8 rfl (Nat.le_of_ble_eq_true rfl) ?_
  refine r_iload (pc := 10) (i := 4) dX1_put_10 rfl ?_
  refine r_if_lt (pc := 12) (tgt := 33) dX1_put_12 (by decide) (fun c2 => ?_) (fun c2 => ?_)
  · replace h := h.1 c2
    exact r_vret (pc := 33) dX1_put_33 rfl h
  · replace h := h.2 c2
    refine r_iload (pc := 15) (i := 4) dX1_put_15 rfl ?_
    refine r_aload_n (pc := 17) (i := 0) dX1_put_17 rfl rfl ?_
    obtain ⟨b3, hb3, h⟩ := h
    refine r_getr (pc := 18) flX1_18 dX1_put_18 rfl k1 hb3 ?_
    obtain ⟨k4, h⟩ := h
    refine r_alen (pc := 21) dX1_put_21 rfl k4 ?_
    refine r_icmp_ge (pc := 22) (tgt := 33) dX1_put_22 (by decide) (fun c5 => ?_) (fun c5 => ?_)
    · replace h := h.1 c5
      exact r_vret (pc := 33) dX1_put_33 rfl h
    · replace h := h.2 c5
      refine r_aload_n (pc := 25) (i := 0) dX1_put_25 rfl rfl ?_
      refine r_getr (pc := 26) flX1_18 dX1_put_26 rfl k1 hb3 ?_
      refine r_iload (pc := 29) (i := 4) dX1_put_29 rfl ?_
      refine r_iload_n (pc := 31) (i := 3) dX1_put_31 rfl rfl ?_
      obtain ⟨k6, h⟩ := h
      obtain ⟨i7, h⟩ := h
      refine r_iast (pc := 32) dX1_put_32 k6 i7 ?_
      replace h := h _ rfl
      exact r_vret (pc := 33) dX1_put_33 rfl h
theorem eX1_putMark {G : GG} {d rc rs : Nat} (o : Nat) (a1 : Int32) (a2 : Int32)  {M : Mem} {Q : Option Value → Mem → Prop} (h : (a1 < 0 → Q none M) ∧ (¬ a1 < 0 → (x_h M o).1 = 17 ∧ (∃ b3, x_r M o 1 = some b3 ∧ (1 ≤ (x_h M b3).1 ∧ (x_h M b3).1 < 8) ∧ ((nI (x_h M b3).2) ≤ a1 → Q none M) ∧ (¬ (nI (x_h M b3).2) ≤ a1 → (x_h M b3).1 = 1 ∧ vp_in a1 (x_h M b3).2 ∧ (∀ M8, M8 = x_si M b3 a1.toNatClampNeg a2 → Q none M8))))) : Call G (d + 1) rc rs mX1_putMark [.ref o, .int a1, .int a2] M Q := by
  refine call_of (by decide) (Nat.le_of_ble_eq_true rfl) ?_
  show Wk G (d + 1) rc rs mX1_putMark 0 [some (.ref o), some (.int a1), some (.int a2)] [] M Q
  refine r_iload_n (pc := 0) (i := 1) dX1_putMark_0 rfl rfl ?_
  refine r_if_lt (pc := 1) (tgt := 20) dX1_putMark_1 (by decide) (fun c1 => ?_) (fun c1 => ?_)
  · replace h := h.1 c1
    exact r_vret (pc := 20) dX1_putMark_20 rfl h
  · replace h := h.2 c1
    refine r_iload_n (pc := 4) (i := 1) dX1_putMark_4 rfl rfl ?_
    refine r_aload_n (pc := 5) (i := 0) dX1_putMark_5 rfl rfl ?_
    obtain ⟨k2, h⟩ := h
    obtain ⟨b3, hb3, h⟩ := h
    refine r_getr (pc := 6) flX1_22 dX1_putMark_6 rfl k2 hb3 ?_
    obtain ⟨k4, h⟩ := h
    refine r_alen (pc := 9) dX1_putMark_9 rfl k4 ?_
    refine r_icmp_ge (pc := 10) (tgt := 20) dX1_putMark_10 (by decide) (fun c5 => ?_) (fun c5 => ?_)
    · replace h := h.1 c5
      exact r_vret (pc := 20) dX1_putMark_20 rfl h
    · replace h := h.2 c5
      refine r_aload_n (pc := 13) (i := 0) dX1_putMark_13 rfl rfl ?_
      refine r_getr (pc := 14) flX1_22 dX1_putMark_14 rfl k2 hb3 ?_
      refine r_iload_n (pc := 17) (i := 1) dX1_putMark_17 rfl rfl ?_
      refine r_iload_n (pc := 18) (i := 2) dX1_putMark_18 rfl rfl ?_
      obtain ⟨k6, h⟩ := h
      obtain ⟨i7, h⟩ := h
      refine r_iast (pc := 19) dX1_putMark_19 k6 i7 ?_
      replace h := h _ rfl
      exact r_vret (pc := 20) dX1_putMark_20 rfl h
abbrev LX1_become_14 (G : GG) (d rc rs : Nat) (p0 : Nat) (p1 : Nat) (x2 : Int32) (z3 : Option Value) (M : Mem) (Q : Option Value → Mem → Prop) : Prop := Wk G (d + 1) rc rs mX1_become 14 [some (.ref p0), some (.ref p1), some (.int x2), z3] [] M Q
abbrev LX1_become_34 (G : GG) (d rc rs : Nat) (p0 : Nat) (p1 : Nat) (x2 : Int32) (x3 : Int32) (M : Mem) (Q : Option Value → Mem → Prop) : Prop := Wk G (d + 1) rc rs mX1_become 34 [some (.ref p0), some (.ref p1), some (.int x2), some (.int x3)] [] M Q
theorem eX1_become {G : GG} {d rc rs : Nat} (o : Nat) (a1 : Nat)  {M : Mem} {Q : Option Value → Mem → Prop} (h : (x_h M a1).1 = 17 ∧ (x_h M o).1 = 17 ∧ Call G d 0 0 mX1_size [.ref o, .int (x_i M a1 2), .int (x_i M a1 3)] M (fun r3 M4 => r3 = none ∧ LX1_become_14 G d rc rs o a1 0 none M4 Q)) : Call G (d + 1) rc rs mX1_become [.ref o, .ref a1] M Q := by
  refine call_of (by decide) (Nat.le_of_ble_eq_true rfl) ?_
  show Wk G (d + 1) rc rs mX1_become 0 [some (.ref o), some (.ref a1), none, none] [] M Q
  refine r_aload_n (pc := 0) (i := 0) dX1_become_0 rfl rfl ?_
  refine r_aload_n (pc := 1) (i := 1) dX1_become_1 rfl rfl ?_
  obtain ⟨k1, h⟩ := h
  refine r_geti (pc := 2) flX1_9 dX1_become_2 (Or.inl rfl) k1 ?_
  refine r_aload_n (pc := 5) (i := 1) dX1_become_5 rfl rfl ?_
  refine r_geti (pc := 6) flX1_15 dX1_become_6 (Or.inl rfl) k1 ?_
  obtain ⟨k2, h⟩ := h
  refine r_callV (pc := 9) (ci := 1) (as := [_, _]) (st := []) okX1_size lkX1_35 inX1_size seX1_size ⟨_, rfl, rfl⟩ dX1_become_9 rfl k2 (Nat.le_of_ble_eq_true rfl) (Nat.zero_le _) (Nat.zero_le _) (Call.mono h (fun r3 M4 h => ?_))
  obtain ⟨rfl, h⟩ := h
  refine r_iconst (pc := 12) (v := 0) dX1_become_12 (by decide) ?_
  refine r_istore_n (pc := 13) (i := 2) dX1_become_13 rfl rfl (Nat.le_of_ble_eq_true rfl) ?_
  exact h
theorem vX1_become_14 {G : GG} {d rc rs : Nat} (p0 : Nat) (p1 : Nat) (x2 : Int32) (z3 : Option Value) (hz3 : c1 z3 = true) {M : Mem} {Q : Option Value → Mem → Prop} (h : (x_h M p0).1 = 17 ∧ ((x_i M p0 2) ≤ x2 → Q none M) ∧ (¬ (x_i M p0 2) ≤ x2 → (x_h M p1).1 = 17 ∧ Call G d 0 0 mX1_mark [.ref p1, .int x2] M (fun r4 M5 => ∃ v6 : Int32, r4 = some (.int v6) ∧ (x_h M5 p0).1 = 17 ∧ Call G d 0 0 mX1_putMark [.ref p0, .int x2, .int v6] M5 (fun r8 M9 => r8 = none ∧ LX1_become_34 G d rc rs p0 p1 x2 0 M9 Q)))) : LX1_become_14 G d rc rs p0 p1 x2 z3 M Q := by
  show Wk G (d + 1) rc rs mX1_become 14 _ _ M Q
  refine r_iload_n (pc := 14) (i := 2) dX1_become_14 rfl rfl ?_
  refine r_aload_n (pc := 15) (i := 0) dX1_become_15 rfl rfl ?_
  obtain ⟨k1, h⟩ := h
  refine r_geti (pc := 16) flX1_9 dX1_become_16 (Or.inl rfl) k1 ?_
  refine r_icmp_ge (pc := 19) (tgt := 66) dX1_become_19 (by decide) (fun c2 => ?_) (fun c2 => ?_)
  · replace h := h.1 c2
    exact r_vret (pc := 66) dX1_become_66 rfl h
  · replace h := h.2 c2
    refine r_aload_n (pc := 22) (i := 0) dX1_become_22 rfl rfl ?_
    refine r_iload_n (pc := 23) (i := 2) dX1_become_23 rfl rfl ?_
    refine r_aload_n (pc := 24) (i := 1) dX1_become_24 rfl rfl ?_
    refine r_iload_n (pc := 25) (i := 2) dX1_become_25 rfl rfl ?_
    obtain ⟨k3, h⟩ := h
    refine r_callV (pc := 26) (ci := 1) (as := [_]) (st := [_, _]) okX1_mark lkX1_39 inX1_mark seX1_mark ⟨_, rfl, rfl⟩ dX1_become_26 rfl k3 (Nat.le_of_ble_eq_true rfl) (Nat.zero_le _) (Nat.zero_le _) (Call.mono h (fun r4 M5 h => ?_))
    obtain ⟨v6, rfl, h⟩ := h
    obtain ⟨k7, h⟩ := h
    refine r_callV (pc := 29) (ci := 1) (as := [_, _]) (st := []) okX1_putMark lkX1_43 inX1_putMark seX1_putMark ⟨_, rfl, rfl⟩ dX1_become_29 rfl k7 (Nat.le_of_ble_eq_true rfl) (Nat.zero_le _) (Nat.zero_le _) (Call.mono h (fun r8 M9 h => ?_))
    obtain ⟨rfl, h⟩ := h
    refine r_iconst (pc := 32) (v := 0) dX1_become_32 (by decide) ?_
    refine r_istore_n (pc := 33) (i := 3) dX1_become_33 rfl rfl (Nat.le_of_ble_eq_true rfl) ?_
    exact h
theorem vX1_become_34 {G : GG} {d rc rs : Nat} (p0 : Nat) (p1 : Nat) (x2 : Int32) (x3 : Int32)  {M : Mem} {Q : Option Value → Mem → Prop} (h : (x_h M p0).1 = 17 ∧ ((x_i M p0 3) ≤ x3 → LX1_become_14 G d rc rs p0 p1 (x2 + 1) (some (.int x3)) M Q) ∧ (¬ (x_i M p0 3) ≤ x3 → (x_h M p1).1 = 17 ∧ Call G d 0 0 mX1_after [.ref p1, .int x2, .int x3] M (fun r4 M5 => ∃ v6 : Int32, r4 = some (.int v6) ∧ (x_h M5 p0).1 = 17 ∧ Call G d 0 0 mX1_put [.ref p0, .int x2, .int x3, .int v6] M5 (fun r8 M9 => r8 = none ∧ LX1_become_34 G d rc rs p0 p1 x2 (x3 + 1) M9 Q)))) : LX1_become_34 G d rc rs p0 p1 x2 x3 M Q := by
  show Wk G (d + 1) rc rs mX1_become 34 _ _ M Q
  refine r_iload_n (pc := 34) (i := 3) dX1_become_34 rfl rfl ?_
  refine r_aload_n (pc := 35) (i := 0) dX1_become_35 rfl rfl ?_
  obtain ⟨k1, h⟩ := h
  refine r_geti (pc := 36) flX1_15 dX1_become_36 (Or.inl rfl) k1 ?_
  refine r_icmp_ge (pc := 39) (tgt := 60) dX1_become_39 (by decide) (fun c2 => ?_) (fun c2 => ?_)
  · replace h := h.1 c2
    refine r_iinc (pc := 60) (i := 2) (v := _ + 1) dX1_become_60 rfl rfl rfl ?_
    refine r_goto (pc := 63) (tgt := 14) dX1_become_63 (by decide) ?_
    exact h
  · replace h := h.2 c2
    refine r_aload_n (pc := 42) (i := 0) dX1_become_42 rfl rfl ?_
    refine r_iload_n (pc := 43) (i := 2) dX1_become_43 rfl rfl ?_
    refine r_iload_n (pc := 44) (i := 3) dX1_become_44 rfl rfl ?_
    refine r_aload_n (pc := 45) (i := 1) dX1_become_45 rfl rfl ?_
    refine r_iload_n (pc := 46) (i := 2) dX1_become_46 rfl rfl ?_
    refine r_iload_n (pc := 47) (i := 3) dX1_become_47 rfl rfl ?_
    obtain ⟨k3, h⟩ := h
    refine r_callV (pc := 48) (ci := 1) (as := [_, _]) (st := [_, _, _]) okX1_after lkX1_46 inX1_after seX1_after ⟨_, rfl, rfl⟩ dX1_become_48 rfl k3 (Nat.le_of_ble_eq_true rfl) (Nat.zero_le _) (Nat.zero_le _) (Call.mono h (fun r4 M5 h => ?_))
    obtain ⟨v6, rfl, h⟩ := h
    obtain ⟨k7, h⟩ := h
    refine r_callV (pc := 51) (ci := 1) (as := [_, _, _]) (st := []) okX1_put lkX1_49 inX1_put seX1_put ⟨_, rfl, rfl⟩ dX1_become_51 rfl k7 (Nat.le_of_ble_eq_true rfl) (Nat.zero_le _) (Nat.zero_le _) (Call.mono h (fun r8 M9 h => ?_))
    obtain ⟨rfl, h⟩ := h
    refine r_iinc (pc := 54) (i := 3) (v := _ + 1) dX1_become_54 rfl rfl rfl ?_
    refine r_goto (pc := 57) (tgt := 34) dX1_become_57 (by decide) ?_
    exact h
theorem eX1_becomeOnly {G : GG} {d rc rs : Nat} (o : Nat) (a1 : Int32)  {M : Mem} {Q : Option Value → Mem → Prop} (h : (x_h M o).1 = 17 ∧ Call G d 0 0 mX1_size [.ref o, .int 1, .int 1] M (fun r2 M3 => r2 = none ∧ (x_h M3 o).1 = 17 ∧ Call G d 0 0 mX1_put [.ref o, .int 0, .int 0, .int 0] M3 (fun r5 M6 => r5 = none ∧ (x_h M6 o).1 = 17 ∧ Call G d 0 0 mX1_putMark [.ref o, .int 0, .int a1] M6 (fun r8 M9 => r8 = none ∧ Q none M9)))) : Call G (d + 1) rc rs mX1_becomeOnly [.ref o, .int a1] M Q := by
  refine call_of (by decide) (Nat.le_of_ble_eq_true rfl) ?_
  show Wk G (d + 1) rc rs mX1_becomeOnly 0 [some (.ref o), some (.int a1)] [] M Q
  refine r_aload_n (pc := 0) (i := 0) dX1_becomeOnly_0 rfl rfl ?_
  refine r_iconst (pc := 1) (v := 1) dX1_becomeOnly_1 (by decide) ?_
  refine r_iconst (pc := 2) (v := 1) dX1_becomeOnly_2 (by decide) ?_
  obtain ⟨k1, h⟩ := h
  refine r_callV (pc := 3) (ci := 1) (as := [_, _]) (st := []) okX1_size lkX1_35 inX1_size seX1_size ⟨_, rfl, rfl⟩ dX1_becomeOnly_3 rfl k1 (Nat.le_of_ble_eq_true rfl) (Nat.zero_le _) (Nat.zero_le _) (Call.mono h (fun r2 M3 h => ?_))
  obtain ⟨rfl, h⟩ := h
  refine r_aload_n (pc := 6) (i := 0) dX1_becomeOnly_6 rfl rfl ?_
  refine r_iconst (pc := 7) (v := 0) dX1_becomeOnly_7 (by decide) ?_
  refine r_iconst (pc := 8) (v := 0) dX1_becomeOnly_8 (by decide) ?_
  refine r_iconst (pc := 9) (v := 0) dX1_becomeOnly_9 (by decide) ?_
  obtain ⟨k4, h⟩ := h
  refine r_callV (pc := 10) (ci := 1) (as := [_, _, _]) (st := []) okX1_put lkX1_49 inX1_put seX1_put ⟨_, rfl, rfl⟩ dX1_becomeOnly_10 rfl k4 (Nat.le_of_ble_eq_true rfl) (Nat.zero_le _) (Nat.zero_le _) (Call.mono h (fun r5 M6 h => ?_))
  obtain ⟨rfl, h⟩ := h
  refine r_aload_n (pc := 13) (i := 0) dX1_becomeOnly_13 rfl rfl ?_
  refine r_iconst (pc := 14) (v := 0) dX1_becomeOnly_14 (by decide) ?_
  refine r_iload_n (pc := 15) (i := 1) dX1_becomeOnly_15 rfl rfl ?_
  obtain ⟨k7, h⟩ := h
  refine r_callV (pc := 16) (ci := 1) (as := [_, _]) (st := []) okX1_putMark lkX1_43 inX1_putMark seX1_putMark ⟨_, rfl, rfl⟩ dX1_becomeOnly_16 rfl k7 (Nat.le_of_ble_eq_true rfl) (Nat.zero_le _) (Nat.zero_le _) (Call.mono h (fun r8 M9 h => ?_))
  obtain ⟨rfl, h⟩ := h
  exact r_vret (pc := 19) dX1_becomeOnly_19 rfl h
abbrev LX1_becomeContrary_7 (G : GG) (d rc rs : Nat) (p0 : Nat) (p1 : Nat) (x2 : Int32) (M : Mem) (Q : Option Value → Mem → Prop) : Prop := Wk G (d + 1) rc rs mX1_becomeContrary 7 [some (.ref p0), some (.ref p1), some (.int x2)] [] M Q
theorem eX1_becomeContrary {G : GG} {d rc rs : Nat} (o : Nat) (a1 : Nat)  {M : Mem} {Q : Option Value → Mem → Prop} (h : (x_h M o).1 = 17 ∧ Call G d 0 0 mX1_become [.ref o, .ref a1] M (fun r2 M3 => r2 = none ∧ LX1_becomeContrary_7 G d rc rs o a1 0 M3 Q)) : Call G (d + 1) rc rs mX1_becomeContrary [.ref o, .ref a1] M Q := by
  refine call_of (by decide) (Nat.le_of_ble_eq_true rfl) ?_
  show Wk G (d + 1) rc rs mX1_becomeContrary 0 [some (.ref o), some (.ref a1), none] [] M Q
  refine r_aload_n (pc := 0) (i := 0) dX1_becomeContrary_0 rfl rfl ?_
  refine r_aload_n (pc := 1) (i := 1) dX1_becomeContrary_1 rfl rfl ?_
  obtain ⟨k1, h⟩ := h
  refine r_callV (pc := 2) (ci := 1) (as := [_]) (st := []) okX1_become lkX1_53 inX1_become seX1_become ⟨_, rfl, rfl⟩ dX1_becomeContrary_2 rfl k1 (Nat.le_of_ble_eq_true rfl) (Nat.zero_le _) (Nat.zero_le _) (Call.mono h (fun r2 M3 h => ?_))
  obtain ⟨rfl, h⟩ := h
  refine r_iconst (pc := 5) (v := 0) dX1_becomeContrary_5 (by decide) ?_
  refine r_istore_n (pc := 6) (i := 2) dX1_becomeContrary_6 rfl rfl (Nat.le_of_ble_eq_true rfl) ?_
  exact h
theorem vX1_becomeContrary_7 {G : GG} {d rc rs : Nat} (p0 : Nat) (p1 : Nat) (x2 : Int32)  {M : Mem} {Q : Option Value → Mem → Prop} (h : (x_h M p0).1 = 17 ∧ ((x_i M p0 2) ≤ x2 → Q none M) ∧ (¬ (x_i M p0 2) ≤ x2 → (x_h M p1).1 = 17 ∧ Call G d 0 0 mX1_mark [.ref p1, .int x2] M (fun r4 M5 => ∃ v6 : Int32, r4 = some (.int v6) ∧ (x_h M5 p0).1 = 17 ∧ Call G d 0 0 mX1_putMark [.ref p0, .int x2, .int (1 - v6)] M5 (fun r8 M9 => r8 = none ∧ LX1_becomeContrary_7 G d rc rs p0 p1 (x2 + 1) M9 Q)))) : LX1_becomeContrary_7 G d rc rs p0 p1 x2 M Q := by
  show Wk G (d + 1) rc rs mX1_becomeContrary 7 _ _ M Q
  refine r_iload_n (pc := 7) (i := 2) dX1_becomeContrary_7 rfl rfl ?_
  refine r_aload_n (pc := 8) (i := 0) dX1_becomeContrary_8 rfl rfl ?_
  obtain ⟨k1, h⟩ := h
  refine r_geti (pc := 9) flX1_9 dX1_becomeContrary_9 (Or.inl rfl) k1 ?_
  refine r_icmp_ge (pc := 12) (tgt := 33) dX1_becomeContrary_12 (by decide) (fun c2 => ?_) (fun c2 => ?_)
  · replace h := h.1 c2
    exact r_vret (pc := 33) dX1_becomeContrary_33 rfl h
  · replace h := h.2 c2
    refine r_aload_n (pc := 15) (i := 0) dX1_becomeContrary_15 rfl rfl ?_
    refine r_iload_n (pc := 16) (i := 2) dX1_becomeContrary_16 rfl rfl ?_
    refine r_iconst (pc := 17) (v := 1) dX1_becomeContrary_17 (by decide) ?_
    refine r_aload_n (pc := 18) (i := 1) dX1_becomeContrary_18 rfl rfl ?_
    refine r_iload_n (pc := 19) (i := 2) dX1_becomeContrary_19 rfl rfl ?_
    obtain ⟨k3, h⟩ := h
    refine r_callV (pc := 20) (ci := 1) (as := [_]) (st := [_, _, _]) okX1_mark lkX1_39 inX1_mark seX1_mark ⟨_, rfl, rfl⟩ dX1_becomeContrary_20 rfl k3 (Nat.le_of_ble_eq_true rfl) (Nat.zero_le _) (Nat.zero_le _) (Call.mono h (fun r4 M5 h => ?_))
    obtain ⟨v6, rfl, h⟩ := h
    refine r_isub (pc := 23) dX1_becomeContrary_23 ?_
    obtain ⟨k7, h⟩ := h
    refine r_callV (pc := 24) (ci := 1) (as := [_, _]) (st := []) okX1_putMark lkX1_43 inX1_putMark seX1_putMark ⟨_, rfl, rfl⟩ dX1_becomeContrary_24 rfl k7 (Nat.le_of_ble_eq_true rfl) (Nat.zero_le _) (Nat.zero_le _) (Call.mono h (fun r8 M9 h => ?_))
    obtain ⟨rfl, h⟩ := h
    refine r_iinc (pc := 27) (i := 2) (v := _ + 1) dX1_becomeContrary_27 rfl rfl rfl ?_
    refine r_goto (pc := 30) (tgt := 7) dX1_becomeContrary_30 (by decide) ?_
    exact h
abbrev LX1_isLike_26 (G : GG) (d rc rs : Nat) (p0 : Nat) (p1 : Nat) (x2 : Int32) (z3 : Option Value) (M : Mem) (Q : Option Value → Mem → Prop) : Prop := Wk G (d + 1) rc rs mX1_isLike 26 [some (.ref p0), some (.ref p1), some (.int x2), z3] [] M Q
abbrev LX1_isLike_51 (G : GG) (d rc rs : Nat) (p0 : Nat) (p1 : Nat) (x2 : Int32) (x3 : Int32) (M : Mem) (Q : Option Value → Mem → Prop) : Prop := Wk G (d + 1) rc rs mX1_isLike 51 [some (.ref p0), some (.ref p1), some (.int x2), some (.int x3)] [] M Q
theorem eX1_isLike {G : GG} {d rc rs : Nat} (o : Nat) (a1 : Nat)  {M : Mem} {Q : Option Value → Mem → Prop} (h : (x_h M o).1 = 17 ∧ (x_h M a1).1 = 17 ∧ (¬ (x_i M o 2) = (x_i M a1 2) → Q (some (.int 0)) M) ∧ ((x_i M o 2) = (x_i M a1 2) → ((x_i M o 3) = (x_i M a1 3) → LX1_isLike_26 G d rc rs o a1 0 none M Q) ∧ (¬ (x_i M o 3) = (x_i M a1 3) → Q (some (.int 0)) M))) : Call G (d + 1) rc rs mX1_isLike [.ref o, .ref a1] M Q := by
  refine call_of (by decide) (Nat.le_of_ble_eq_true rfl) ?_
  show Wk G (d + 1) rc rs mX1_isLike 0 [some (.ref o), some (.ref a1), none, none] [] M Q
  refine r_aload_n (pc := 0) (i := 0) dX1_isLike_0 rfl rfl ?_
  obtain ⟨k1, h⟩ := h
  refine r_geti (pc := 1) flX1_9 dX1_isLike_1 (Or.inl rfl) k1 ?_
  refine r_aload_n (pc := 4) (i := 1) dX1_isLike_4 rfl rfl ?_
  obtain ⟨k2, h⟩ := h
  refine r_geti (pc := 5) flX1_9 dX1_isLike_5 (Or.inl rfl) k2 ?_
  refine r_icmp_ne (pc := 8) (tgt := 22) dX1_isLike_8 (by decide) (fun c3 => ?_) (fun c3 => ?_)
  · replace h := h.1 c3
    refine r_iconst (pc := 22) (v := 0) dX1_isLike_22 (by decide) ?_
    exact r_zret (pc := 23) dX1_isLike_23 rfl (Or.inl rfl) h
  · replace h := h.2 c3
    refine r_aload_n (pc := 11) (i := 0) dX1_isLike_11 rfl rfl ?_
    refine r_geti (pc := 12) flX1_15 dX1_isLike_12 (Or.inl rfl) k1 ?_
    refine r_aload_n (pc := 15) (i := 1) dX1_isLike_15 rfl rfl ?_
    refine r_geti (pc := 16) flX1_15 dX1_isLike_16 (Or.inl rfl) k2 ?_
    refine r_icmp_eq (pc := 19) (tgt := 24) dX1_isLike_19 (by decide) (fun c4 => ?_) (fun c4 => ?_)
    · replace h := h.1 c4
      refine r_iconst (pc := 24) (v := 0) dX1_isLike_24 (by decide) ?_
      refine r_istore_n (pc := 25) (i := 2) dX1_isLike_25 rfl rfl (Nat.le_of_ble_eq_true rfl) ?_
      exact h
    · replace h := h.2 c4
      refine r_iconst (pc := 22) (v := 0) dX1_isLike_22 (by decide) ?_
      exact r_zret (pc := 23) dX1_isLike_23 rfl (Or.inl rfl) h
theorem vX1_isLike_26 {G : GG} {d rc rs : Nat} (p0 : Nat) (p1 : Nat) (x2 : Int32) (z3 : Option Value) (hz3 : c1 z3 = true) {M : Mem} {Q : Option Value → Mem → Prop} (h : (x_h M p0).1 = 17 ∧ ((x_i M p0 2) ≤ x2 → Q (some (.int 1)) M) ∧ (¬ (x_i M p0 2) ≤ x2 → Call G d 0 0 mX1_mark [.ref p0, .int x2] M (fun r3 M4 => ∃ v5 : Int32, r3 = some (.int v5) ∧ (x_h M4 p1).1 = 17 ∧ Call G d 0 0 mX1_mark [.ref p1, .int x2] M4 (fun r7 M8 => ∃ v9 : Int32, r7 = some (.int v9) ∧ (v5 = v9 → LX1_isLike_51 G d rc rs p0 p1 x2 0 M8 Q) ∧ (¬ v5 = v9 → Q (some (.int 0)) M8))))) : LX1_isLike_26 G d rc rs p0 p1 x2 z3 M Q := by
  show Wk G (d + 1) rc rs mX1_isLike 26 _ _ M Q
  refine r_iload_n (pc := 26) (i := 2) dX1_isLike_26 rfl rfl ?_
  refine r_aload_n (pc := 27) (i := 0) dX1_isLike_27 rfl rfl ?_
  obtain ⟨k1, h⟩ := h
  refine r_geti (pc := 28) flX1_9 dX1_isLike_28 (Or.inl rfl) k1 ?_
  refine r_icmp_ge (pc := 31) (tgt := 88) dX1_isLike_31 (by decide) (fun c2 => ?_) (fun c2 => ?_)
  · replace h := h.1 c2
    refine r_iconst (pc := 88) (v := 1) dX1_isLike_88 (by decide) ?_
    exact r_zret (pc := 89) dX1_isLike_89 rfl (Or.inr rfl) h
  · replace h := h.2 c2
    refine r_aload_n (pc := 34) (i := 0) dX1_isLike_34 rfl rfl ?_
    refine r_iload_n (pc := 35) (i := 2) dX1_isLike_35 rfl rfl ?_
    refine r_callV (pc := 36) (ci := 1) (as := [_]) (st := []) okX1_mark lkX1_39 inX1_mark seX1_mark ⟨_, rfl, rfl⟩ dX1_isLike_36 rfl k1 (Nat.le_of_ble_eq_true rfl) (Nat.zero_le _) (Nat.zero_le _) (Call.mono h (fun r3 M4 h => ?_))
    obtain ⟨v5, rfl, h⟩ := h
    refine r_aload_n (pc := 39) (i := 1) dX1_isLike_39 rfl rfl ?_
    refine r_iload_n (pc := 40) (i := 2) dX1_isLike_40 rfl rfl ?_
    obtain ⟨k6, h⟩ := h
    refine r_callV (pc := 41) (ci := 1) (as := [_]) (st := [_]) okX1_mark lkX1_39 inX1_mark seX1_mark ⟨_, rfl, rfl⟩ dX1_isLike_41 rfl k6 (Nat.le_of_ble_eq_true rfl) (Nat.zero_le _) (Nat.zero_le _) (Call.mono h (fun r7 M8 h => ?_))
    obtain ⟨v9, rfl, h⟩ := h
    refine r_icmp_eq (pc := 44) (tgt := 49) dX1_isLike_44 (by decide) (fun c10 => ?_) (fun c10 => ?_)
    · replace h := h.1 c10
      refine r_iconst (pc := 49) (v := 0) dX1_isLike_49 (by decide) ?_
      refine r_istore_n (pc := 50) (i := 3) dX1_isLike_50 rfl rfl (Nat.le_of_ble_eq_true rfl) ?_
      exact h
    · replace h := h.2 c10
      refine r_iconst (pc := 47) (v := 0) dX1_isLike_47 (by decide) ?_
      exact r_zret (pc := 48) dX1_isLike_48 rfl (Or.inl rfl) h
theorem vX1_isLike_51 {G : GG} {d rc rs : Nat} (p0 : Nat) (p1 : Nat) (x2 : Int32) (x3 : Int32)  {M : Mem} {Q : Option Value → Mem → Prop} (h : (x_h M p0).1 = 17 ∧ ((x_i M p0 3) ≤ x3 → LX1_isLike_26 G d rc rs p0 p1 (x2 + 1) (some (.int x3)) M Q) ∧ (¬ (x_i M p0 3) ≤ x3 → Call G d 0 0 mX1_after [.ref p0, .int x2, .int x3] M (fun r3 M4 => ∃ v5 : Int32, r3 = some (.int v5) ∧ (x_h M4 p1).1 = 17 ∧ Call G d 0 0 mX1_after [.ref p1, .int x2, .int x3] M4 (fun r7 M8 => ∃ v9 : Int32, r7 = some (.int v9) ∧ (v5 = v9 → LX1_isLike_51 G d rc rs p0 p1 x2 (x3 + 1) M8 Q) ∧ (¬ v5 = v9 → Q (some (.int 0)) M8))))) : LX1_isLike_51 G d rc rs p0 p1 x2 x3 M Q := by
  show Wk G (d + 1) rc rs mX1_isLike 51 _ _ M Q
  refine r_iload_n (pc := 51) (i := 3) dX1_isLike_51 rfl rfl ?_
  refine r_aload_n (pc := 52) (i := 0) dX1_isLike_52 rfl rfl ?_
  obtain ⟨k1, h⟩ := h
  refine r_geti (pc := 53) flX1_15 dX1_isLike_53 (Or.inl rfl) k1 ?_
  refine r_icmp_ge (pc := 56) (tgt := 82) dX1_isLike_56 (by decide) (fun c2 => ?_) (fun c2 => ?_)
  · replace h := h.1 c2
    refine r_iinc (pc := 82) (i := 2) (v := _ + 1) dX1_isLike_82 rfl rfl rfl ?_
    refine r_goto (pc := 85) (tgt := 26) dX1_isLike_85 (by decide) ?_
    exact h
  · replace h := h.2 c2
    refine r_aload_n (pc := 59) (i := 0) dX1_isLike_59 rfl rfl ?_
    refine r_iload_n (pc := 60) (i := 2) dX1_isLike_60 rfl rfl ?_
    refine r_iload_n (pc := 61) (i := 3) dX1_isLike_61 rfl rfl ?_
    refine r_callV (pc := 62) (ci := 1) (as := [_, _]) (st := []) okX1_after lkX1_46 inX1_after seX1_after ⟨_, rfl, rfl⟩ dX1_isLike_62 rfl k1 (Nat.le_of_ble_eq_true rfl) (Nat.zero_le _) (Nat.zero_le _) (Call.mono h (fun r3 M4 h => ?_))
    obtain ⟨v5, rfl, h⟩ := h
    refine r_aload_n (pc := 65) (i := 1) dX1_isLike_65 rfl rfl ?_
    refine r_iload_n (pc := 66) (i := 2) dX1_isLike_66 rfl rfl ?_
    refine r_iload_n (pc := 67) (i := 3) dX1_isLike_67 rfl rfl ?_
    obtain ⟨k6, h⟩ := h
    refine r_callV (pc := 68) (ci := 1) (as := [_, _]) (st := [_]) okX1_after lkX1_46 inX1_after seX1_after ⟨_, rfl, rfl⟩ dX1_isLike_68 rfl k6 (Nat.le_of_ble_eq_true rfl) (Nat.zero_le _) (Nat.zero_le _) (Call.mono h (fun r7 M8 h => ?_))
    obtain ⟨v9, rfl, h⟩ := h
    refine r_icmp_eq (pc := 71) (tgt := 76) dX1_isLike_71 (by decide) (fun c10 => ?_) (fun c10 => ?_)
    · replace h := h.1 c10
      refine r_iinc (pc := 76) (i := 3) (v := _ + 1) dX1_isLike_76 rfl rfl rfl ?_
      refine r_goto (pc := 79) (tgt := 51) dX1_isLike_79 (by decide) ?_
      exact h
    · replace h := h.2 c10
      refine r_iconst (pc := 74) (v := 0) dX1_isLike_74 (by decide) ?_
      exact r_zret (pc := 75) dX1_isLike_75 rfl (Or.inl rfl) h
theorem eX1_reads {G : GG} {d rc rs : Nat} (o : Nat) (a1 : Int64) (a2 : Int32)  {M : Mem} {Q : Option Value → Mem → Prop} (h : (x_h M o).1 = 17 ∧ Call G d 0 0 mX1_readsAll [.ref o, .int 1, .long a1, .long 0, .long 0, .int a2] M (fun r2 M3 => ∃ v4 : Int32, r2 = some (.int v4) ∧ Q (some (.int v4)) M3)) : Call G (d + 1) rc rs mX1_reads [.ref o, .long a1, .int a2] M Q := by
  refine call_of (by decide) (Nat.le_of_ble_eq_true rfl) ?_
  show Wk G (d + 1) rc rs mX1_reads 0 [some (.ref o), some (.long a1), none, some (.int a2)] [] M Q
  refine r_aload_n (pc := 0) (i := 0) dX1_reads_0 rfl rfl ?_
  refine r_iconst (pc := 1) (v := 1) dX1_reads_1 (by decide) ?_
  refine r_lload_n (pc := 2) (i := 1) dX1_reads_2 rfl rfl ?_
  refine r_lconst (pc := 3) (v := 0) dX1_reads_3 (by decide) ?_
  refine r_lconst (pc := 4) (v := 0) dX1_reads_4 (by decide) ?_
  refine r_iload_n (pc := 5) (i := 3) dX1_reads_5 rfl rfl ?_
  obtain ⟨k1, h⟩ := h
  refine r_callV (pc := 6) (ci := 1) (as := [_, _, _, _, _]) (st := []) okX1_readsAll lkX1_57 inX1_readsAll seX1_readsAll ⟨_, rfl, rfl⟩ dX1_reads_6 rfl k1 (Nat.le_of_ble_eq_true rfl) (Nat.zero_le _) (Nat.zero_le _) (Call.mono h (fun r2 M3 h => ?_))
  obtain ⟨v4, rfl, h⟩ := h
  exact r_iret (pc := 9) dX1_reads_9 rfl h
abbrev LX1_readsAll_23 (G : GG) (d rc rs : Nat) (p0 : Nat) (x1 : Int32) (l2 : Int64) (l4 : Int64) (l6 : Int64) (x8 : Int32) (x9 : Int32) (l10 : Int64) (x12 : Int32) (z13 : Option Value) (M : Mem) (Q : Option Value → Mem → Prop) : Prop := Wk G (d + 1) rc rs mX1_readsAll 23 [some (.ref p0), some (.int x1), some (.long l2), none, some (.long l4), none, some (.long l6), none, some (.int x8), some (.int x9), some (.long l10), none, some (.int x12), z13] [] M Q
abbrev LX1_readsAll_84 (G : GG) (d rc rs : Nat) (p0 : Nat) (x1 : Int32) (l2 : Int64) (l4 : Int64) (l6 : Int64) (x8 : Int32) (x9 : Int32) (l10 : Int64) (x12 : Int32) (x13 : Int32) (M : Mem) (Q : Option Value → Mem → Prop) : Prop := Wk G (d + 1) rc rs mX1_readsAll 84 [some (.ref p0), some (.int x1), some (.long l2), none, some (.long l4), none, some (.long l6), none, some (.int x8), some (.int x9), some (.long l10), none, some (.int x12), some (.int x13)] [] M Q
theorem eX1_readsAll {G : GG} {d rc rs : Nat} (o : Nat) (a1 : Int32) (a2 : Int64) (a3 : Int64) (a4 : Int64) (a5 : Int32)  {M : Mem} {Q : Option Value → Mem → Prop} (h : (¬ a5 = 2 → LX1_readsAll_23 G d rc rs o a1 a2 a3 a4 a5 0 4052555153018976267 0 none M Q) ∧ (a5 = 2 → LX1_readsAll_23 G d rc rs o a1 a2 a3 a4 a5 0 4611686018427387904 0 none M Q)) : Call G (d + 1) rc rs mX1_readsAll [.ref o, .int a1, .long a2, .long a3, .long a4, .int a5] M Q := by
  refine call_of (by decide) (Nat.le_of_ble_eq_true rfl) ?_
  show Wk G (d + 1) rc rs mX1_readsAll 0 [some (.ref o), some (.int a1), some (.long a2), none, some (.long a3), none, some (.long a4), none, some (.int a5), none, none, none, none, none] [] M Q
  refine r_iconst (pc := 0) (v := 0) dX1_readsAll_0 (by decide) ?_
  refine r_istore (pc := 1) (i := 9) dX1_readsAll_1 rfl (Nat.le_of_ble_eq_true rfl) ?_
  refine r_iload (pc := 3) (i := 8) dX1_readsAll_3 rfl ?_
  refine r_iconst (pc := 5) (v := 2) dX1_readsAll_5 (by decide) ?_
  refine r_icmp_ne (pc := 6) (tgt := 15) dX1_readsAll_6 (by decide) (fun c1 => ?_) (fun c1 => ?_)
  · replace h := h.1 c1
    refine r_ldc2 (pc := 15) (v := 4052555153018976267) dX1_readsAll_15 ww_908 ?_
    refine r_lstore (pc := 18) (i := 10) dX1_readsAll_18 rfl (Nat.le_of_ble_eq_true rfl) ?_
    refine r_iconst (pc := 20) (v := 0) dX1_readsAll_20 (by decide) ?_
    refine r_istore (pc := 21) (i := 12) dX1_readsAll_21 rfl (Nat.le_of_ble_eq_true rfl) ?_
    exact h
  · replace h := h.2 c1
    refine r_ldc2 (pc := 9) (v := 4611686018427387904) dX1_readsAll_9 ww_907 ?_
    refine r_goto (pc := 12) (tgt := 18) dX1_readsAll_12 (by decide) ?_
    refine r_lstore (pc := 18) (i := 10) dX1_readsAll_18 rfl (Nat.le_of_ble_eq_true rfl) ?_
    refine r_iconst (pc := 20) (v := 0) dX1_readsAll_20 (by decide) ?_
    refine r_istore (pc := 21) (i := 12) dX1_readsAll_21 rfl (Nat.le_of_ble_eq_true rfl) ?_
    exact h
theorem vX1_readsAll_23 {G : GG} {d rc rs : Nat} (p0 : Nat) (x1 : Int32) (l2 : Int64) (l4 : Int64) (l6 : Int64) (x8 : Int32) (x9 : Int32) (l10 : Int64) (x12 : Int32) (z13 : Option Value) (hz13 : c1 z13 = true) {M : Mem} {Q : Option Value → Mem → Prop} (h : (63 ≤ x12 → Q (some (.int x9)) M) ∧ (¬ 63 ≤ x12 → ((lg_cmp l10 0) ≤ 0 → Q (some (.int x9)) M) ∧ (¬ (lg_cmp l10 0) ≤ 0 → (x8 ≤ 1 → Q (some (.int x9)) M) ∧ (¬ x8 ≤ 1 → (x1 ≤ 0 → (x1 ≤ 1 → LX1_readsAll_84 G d rc rs p0 x1 l2 l4 l6 x8 x9 l10 x12 0 M Q) ∧ (¬ x1 ≤ 1 → ¬ l10 = 0 ∧ ¬ x8.toInt64 = 0 ∧ LX1_readsAll_84 G d rc rs p0 x1 l2 l4 l6 x8 x9 l10 x12 ((0 * x8) + (((l4 / l10) - (l4 / l10) / x8.toInt64 * x8.toInt64).toInt32)) M Q)) ∧ (¬ x1 ≤ 0 → ¬ l10 = 0 ∧ ¬ x8.toInt64 = 0 ∧ (x1 ≤ 1 → LX1_readsAll_84 G d rc rs p0 x1 l2 l4 l6 x8 x9 l10 x12 (((l2 / l10) - (l2 / l10) / x8.toInt64 * x8.toInt64).toInt32) M Q) ∧ (¬ x1 ≤ 1 → ¬ l10 = 0 ∧ ¬ x8.toInt64 = 0 ∧ LX1_readsAll_84 G d rc rs p0 x1 l2 l4 l6 x8 x9 l10 x12 (((((l2 / l10) - (l2 / l10) / x8.toInt64 * x8.toInt64).toInt32) * x8) + (((l4 / l10) - (l4 / l10) / x8.toInt64 * x8.toInt64).toInt32)) M Q)))))) : LX1_readsAll_23 G d rc rs p0 x1 l2 l4 l6 x8 x9 l10 x12 z13 M Q := by
  show Wk G (d + 1) rc rs mX1_readsAll 23 _ _ M Q
  refine r_iload (pc := 23) (i := 12) dX1_readsAll_23 rfl ?_
  refine r_bipush (pc := 25) (v := 63) dX1_readsAll_25 (by decide) ?_
  refine r_icmp_ge (pc := 27) (tgt := 131) dX1_readsAll_27 (by decide) (fun c1 => ?_) (fun c1 => ?_)
  · replace h := h.1 c1
    refine r_iload (pc := 131) (i := 9) dX1_readsAll_131 rfl ?_
    exact r_iret (pc := 133) dX1_readsAll_133 rfl h
  · replace h := h.2 c1
    refine r_lload (pc := 30) (i := 10) dX1_readsAll_30 rfl ?_
    refine r_lconst (pc := 32) (v := 0) dX1_readsAll_32 (by decide) ?_
    refine r_lcmp (pc := 33) dX1_readsAll_33 ?_
    refine r_if_le (pc := 34) (tgt := 131) dX1_readsAll_34 (by decide) (fun c2 => ?_) (fun c2 => ?_)
    · replace h := h.1 c2
      refine r_iload (pc := 131) (i := 9) dX1_readsAll_131 rfl ?_
      exact r_iret (pc := 133) dX1_readsAll_133 rfl h
    · replace h := h.2 c2
      refine r_iload (pc := 37) (i := 8) dX1_readsAll_37 rfl ?_
      refine r_iconst (pc := 39) (v := 1) dX1_readsAll_39 (by decide) ?_
      refine r_icmp_le (pc := 40) (tgt := 131) dX1_readsAll_40 (by decide) (fun c3 => ?_) (fun c3 => ?_)
      · replace h := h.1 c3
        refine r_iload (pc := 131) (i := 9) dX1_readsAll_131 rfl ?_
        exact r_iret (pc := 133) dX1_readsAll_133 rfl h
      · replace h := h.2 c3
        refine r_iconst (pc := 43) (v := 0) dX1_readsAll_43 (by decide) ?_
        refine r_istore (pc := 44) (i := 13) dX1_readsAll_44 rfl (Nat.le_of_ble_eq_true rfl) ?_
        refine r_iload_n (pc := 46) (i := 1) dX1_readsAll_46 rfl rfl ?_
        refine r_if_le (pc := 47) (tgt := 61) dX1_readsAll_47 (by decide) (fun c4 => ?_) (fun c4 => ?_)
        · replace h := h.1 c4
          refine r_iload_n (pc := 61) (i := 1) dX1_readsAll_61 rfl rfl ?_
          refine r_iconst (pc := 62) (v := 1) dX1_readsAll_62 (by decide) ?_
          refine r_icmp_le (pc := 63) (tgt := 84) dX1_readsAll_63 (by decide) (fun c5 => ?_) (fun c5 => ?_)
          · replace h := h.1 c5
            exact h
          · replace h := h.2 c5
            refine r_iload (pc := 66) (i := 13) dX1_readsAll_66 rfl ?_
            refine r_iload (pc := 68) (i := 8) dX1_readsAll_68 rfl ?_
            refine r_imul (pc := 70) dX1_readsAll_70 ?_
            refine r_lload (pc := 71) (i := 4) dX1_readsAll_71 rfl ?_
            refine r_lload (pc := 73) (i := 10) dX1_readsAll_73 rfl ?_
            obtain ⟨n6, h⟩ := h
            refine r_ldiv (pc := 75) dX1_readsAll_75 n6 ?_
            refine r_iload (pc := 76) (i := 8) dX1_readsAll_76 rfl ?_
            refine r_i2l (pc := 78) dX1_readsAll_78 ?_
            obtain ⟨n7, h⟩ := h
            refine r_lrem (pc := 79) dX1_readsAll_79 n7 ?_
            refine r_l2i (pc := 80) dX1_readsAll_80 ?_
            refine r_iadd (pc := 81) dX1_readsAll_81 ?_
            refine r_istore (pc := 82) (i := 13) dX1_readsAll_82 rfl (Nat.le_of_ble_eq_true rfl) ?_
            exact h
        · replace h := h.2 c4
          refine r_lload_n (pc := 50) (i := 2) dX1_readsAll_50 rfl rfl ?_
          refine r_lload (pc := 51) (i := 10) dX1_readsAll_51 rfl ?_
          obtain ⟨n8, h⟩ := h
          refine r_ldiv (pc := 53) dX1_readsAll_53 n8 ?_
          refine r_iload (pc := 54) (i := 8) dX1_readsAll_54 rfl ?_
          refine r_i2l (pc := 56) dX1_readsAll_56 ?_
          obtain ⟨n9, h⟩ := h
          refine r_lrem (pc := 57) dX1_readsAll_57 n9 ?_
          refine r_l2i (pc := 58) dX1_readsAll_58 ?_
          refine r_istore (pc := 59) (i := 13) dX1_readsAll_59 rfl (Nat.le_of_ble_eq_true rfl) ?_
          refine r_iload_n (pc := 61) (i := 1) dX1_readsAll_61 rfl rfl ?_
          refine r_iconst (pc := 62) (v := 1) dX1_readsAll_62 (by decide) ?_
          refine r_icmp_le (pc := 63) (tgt := 84) dX1_readsAll_63 (by decide) (fun c10 => ?_) (fun c10 => ?_)
          · replace h := h.1 c10
            exact h
          · replace h := h.2 c10
            refine r_iload (pc := 66) (i := 13) dX1_readsAll_66 rfl ?_
            refine r_iload (pc := 68) (i := 8) dX1_readsAll_68 rfl ?_
            refine r_imul (pc := 70) dX1_readsAll_70 ?_
            refine r_lload (pc := 71) (i := 4) dX1_readsAll_71 rfl ?_
            refine r_lload (pc := 73) (i := 10) dX1_readsAll_73 rfl ?_
            obtain ⟨n11, h⟩ := h
            refine r_ldiv (pc := 75) dX1_readsAll_75 n11 ?_
            refine r_iload (pc := 76) (i := 8) dX1_readsAll_76 rfl ?_
            refine r_i2l (pc := 78) dX1_readsAll_78 ?_
            obtain ⟨n12, h⟩ := h
            refine r_lrem (pc := 79) dX1_readsAll_79 n12 ?_
            refine r_l2i (pc := 80) dX1_readsAll_80 ?_
            refine r_iadd (pc := 81) dX1_readsAll_81 ?_
            refine r_istore (pc := 82) (i := 13) dX1_readsAll_82 rfl (Nat.le_of_ble_eq_true rfl) ?_
            exact h
theorem vX1_readsAll_84 {G : GG} {d rc rs : Nat} (p0 : Nat) (x1 : Int32) (l2 : Int64) (l4 : Int64) (l6 : Int64) (x8 : Int32) (x9 : Int32) (l10 : Int64) (x12 : Int32) (x13 : Int32)  {M : Mem} {Q : Option Value → Mem → Prop} (h : (x1 ≤ 2 → (x_h M p0).1 = 17 ∧ Call G d 0 0 mX1_after [.ref p0, .int x9, .int x13] M (fun r3 M4 => ∃ v5 : Int32, r3 = some (.int v5) ∧ ¬ x8.toInt64 = 0 ∧ LX1_readsAll_23 G d rc rs p0 x1 l2 l4 l6 x8 v5 (l10 / x8.toInt64) (x12 + 1) (some (.int x13)) M4 Q)) ∧ (¬ x1 ≤ 2 → ¬ l10 = 0 ∧ ¬ x8.toInt64 = 0 ∧ (x_h M p0).1 = 17 ∧ Call G d 0 0 mX1_after [.ref p0, .int x9, .int ((x13 * x8) + (((l6 / l10) - (l6 / l10) / x8.toInt64 * x8.toInt64).toInt32))] M (fun r10 M11 => ∃ v12 : Int32, r10 = some (.int v12) ∧ ¬ x8.toInt64 = 0 ∧ LX1_readsAll_23 G d rc rs p0 x1 l2 l4 l6 x8 v12 (l10 / x8.toInt64) (x12 + 1) (some (.int ((x13 * x8) + (((l6 / l10) - (l6 / l10) / x8.toInt64 * x8.toInt64).toInt32)))) M11 Q))) : LX1_readsAll_84 G d rc rs p0 x1 l2 l4 l6 x8 x9 l10 x12 x13 M Q := by
  show Wk G (d + 1) rc rs mX1_readsAll 84 _ _ M Q
  refine r_iload_n (pc := 84) (i := 1) dX1_readsAll_84 rfl rfl ?_
  refine r_iconst (pc := 85) (v := 2) dX1_readsAll_85 (by decide) ?_
  refine r_icmp_le (pc := 86) (tgt := 107) dX1_readsAll_86 (by decide) (fun c1 => ?_) (fun c1 => ?_)
  · replace h := h.1 c1
    refine r_aload_n (pc := 107) (i := 0) dX1_readsAll_107 rfl rfl ?_
    refine r_iload (pc := 108) (i := 9) dX1_readsAll_108 rfl ?_
    refine r_iload (pc := 110) (i := 13) dX1_readsAll_110 rfl ?_
    obtain ⟨k2, h⟩ := h
    refine r_callV (pc := 112) (ci := 1) (as := [_, _]) (st := []) okX1_after lkX1_46 inX1_after seX1_after ⟨_, rfl, rfl⟩ dX1_readsAll_112 rfl k2 (Nat.le_of_ble_eq_true rfl) (Nat.zero_le _) (Nat.zero_le _) (Call.mono h (fun r3 M4 h => ?_))
    obtain ⟨v5, rfl, h⟩ := h
    refine r_istore (pc := 115) (i := 9) dX1_readsAll_115 rfl (Nat.le_of_ble_eq_true rfl) ?_
    refine r_lload (pc := 117) (i := 10) dX1_readsAll_117 rfl ?_
    refine r_iload (pc := 119) (i := 8) dX1_readsAll_119 rfl ?_
    refine r_i2l (pc := 121) dX1_readsAll_121 ?_
    obtain ⟨n6, h⟩ := h
    refine r_ldiv (pc := 122) dX1_readsAll_122 n6 ?_
    refine r_lstore (pc := 123) (i := 10) dX1_readsAll_123 rfl (Nat.le_of_ble_eq_true rfl) ?_
    refine r_iinc (pc := 125) (i := 12) (v := _ + 1) dX1_readsAll_125 rfl rfl rfl ?_
    refine r_goto (pc := 128) (tgt := 23) dX1_readsAll_128 (by decide) ?_
    exact h
  · replace h := h.2 c1
    refine r_iload (pc := 89) (i := 13) dX1_readsAll_89 rfl ?_
    refine r_iload (pc := 91) (i := 8) dX1_readsAll_91 rfl ?_
    refine r_imul (pc := 93) dX1_readsAll_93 ?_
    refine r_lload (pc := 94) (i := 6) dX1_readsAll_94 rfl ?_
    refine r_lload (pc := 96) (i := 10) dX1_readsAll_96 rfl ?_
    obtain ⟨n7, h⟩ := h
    refine r_ldiv (pc := 98) dX1_readsAll_98 n7 ?_
    refine r_iload (pc := 99) (i := 8) dX1_readsAll_99 rfl ?_
    refine r_i2l (pc := 101) dX1_readsAll_101 ?_
    obtain ⟨n8, h⟩ := h
    refine r_lrem (pc := 102) dX1_readsAll_102 n8 ?_
    refine r_l2i (pc := 103) dX1_readsAll_103 ?_
    refine r_iadd (pc := 104) dX1_readsAll_104 ?_
    refine r_istore (pc := 105) (i := 13) dX1_readsAll_105 rfl (Nat.le_of_ble_eq_true rfl) ?_
    refine r_aload_n (pc := 107) (i := 0) dX1_readsAll_107 rfl rfl ?_
    refine r_iload (pc := 108) (i := 9) dX1_readsAll_108 rfl ?_
    refine r_iload (pc := 110) (i := 13) dX1_readsAll_110 rfl ?_
    obtain ⟨k9, h⟩ := h
    refine r_callV (pc := 112) (ci := 1) (as := [_, _]) (st := []) okX1_after lkX1_46 inX1_after seX1_after ⟨_, rfl, rfl⟩ dX1_readsAll_112 rfl k9 (Nat.le_of_ble_eq_true rfl) (Nat.zero_le _) (Nat.zero_le _) (Call.mono h (fun r10 M11 h => ?_))
    obtain ⟨v12, rfl, h⟩ := h
    refine r_istore (pc := 115) (i := 9) dX1_readsAll_115 rfl (Nat.le_of_ble_eq_true rfl) ?_
    refine r_lload (pc := 117) (i := 10) dX1_readsAll_117 rfl ?_
    refine r_iload (pc := 119) (i := 8) dX1_readsAll_119 rfl ?_
    refine r_i2l (pc := 121) dX1_readsAll_121 ?_
    obtain ⟨n13, h⟩ := h
    refine r_ldiv (pc := 122) dX1_readsAll_122 n13 ?_
    refine r_lstore (pc := 123) (i := 10) dX1_readsAll_123 rfl (Nat.le_of_ble_eq_true rfl) ?_
    refine r_iinc (pc := 125) (i := 12) (v := _ + 1) dX1_readsAll_125 rfl rfl rfl ?_
    refine r_goto (pc := 128) (tgt := 23) dX1_readsAll_128 (by decide) ?_
    exact h
