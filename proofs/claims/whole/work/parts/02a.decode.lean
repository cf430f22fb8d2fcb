theorem dX0_init_0 : decode cX0_init 0 = .ok (.aload_n 0, 1) := by decide +kernel
theorem dX0_init_1 : decode cX0_init 1 = .ok (.invokespecial 3, 3) := by decide +kernel
theorem dX0_init_4 : decode cX0_init 4 = .ok (.aload_n 0, 1) := by decide +kernel
theorem dX0_init_5 : decode cX0_init 5 = .ok (.bipush 49, 2) := by decide +kernel
theorem dX0_init_7 : decode cX0_init 7 = .ok (.newarray .int, 2) := by decide +kernel
theorem dX0_init_9 : decode cX0_init 9 = .ok (.putfield 9, 3) := by decide +kernel
theorem dX0_init_12 : decode cX0_init 12 = .ok (.aload_n 0, 1) := by decide +kernel
theorem dX0_init_13 : decode cX0_init 13 = .ok (.sipush 896, 3) := by decide +kernel
theorem dX0_init_16 : decode cX0_init 16 = .ok (.newarray .int, 2) := by decide +kernel
theorem dX0_init_18 : decode cX0_init 18 = .ok (.putfield 15, 3) := by decide +kernel
theorem dX0_init_21 : decode cX0_init 21 = .ok (.return_, 1) := by decide +kernel
theorem dX0_fill_0 : decode cX0_fill 0 = .ok (.iconst 1, 1) := by decide +kernel
theorem dX0_fill_1 : decode cX0_fill 1 = .ok (.aload_n 0, 1) := by decide +kernel
theorem dX0_fill_2 : decode cX0_fill 2 = .ok (.getfield 18, 3) := by decide +kernel
theorem dX0_fill_5 : decode cX0_fill 5 = .ok (.ishl, 1) := by decide +kernel
theorem dX0_fill_6 : decode cX0_fill 6 = .ok (.iconst 1, 1) := by decide +kernel
theorem dX0_fill_7 : decode cX0_fill 7 = .ok (.isub, 1) := by decide +kernel
theorem dX0_fill_8 : decode cX0_fill 8 = .ok (.istore_n 1, 1) := by decide +kernel
theorem dX0_fill_9 : decode cX0_fill 9 = .ok (.iload_n 1, 1) := by decide +kernel
theorem dX0_fill_10 : decode cX0_fill 10 = .ok (.ifCond .le 42, 3) := by decide +kernel
theorem dX0_fill_13 : decode cX0_fill 13 = .ok (.iconst 0, 1) := by decide +kernel
theorem dX0_fill_14 : decode cX0_fill 14 = .ok (.istore_n 2, 1) := by decide +kernel
theorem dX0_fill_15 : decode cX0_fill 15 = .ok (.iload_n 2, 1) := by decide +kernel
theorem dX0_fill_16 : decode cX0_fill 16 = .ok (.aload_n 0, 1) := by decide +kernel
theorem dX0_fill_17 : decode cX0_fill 17 = .ok (.getfield 18, 3) := by decide +kernel
theorem dX0_fill_20 : decode cX0_fill 20 = .ok (.if_icmp .ge 26, 3) := by decide +kernel
theorem dX0_fill_23 : decode cX0_fill 23 = .ok (.aload_n 0, 1) := by decide +kernel
theorem dX0_fill_24 : decode cX0_fill 24 = .ok (.getfield 15, 3) := by decide +kernel
theorem dX0_fill_27 : decode cX0_fill 27 = .ok (.iload_n 1, 1) := by decide +kernel
theorem dX0_fill_28 : decode cX0_fill 28 = .ok (.bipush 7, 2) := by decide +kernel
theorem dX0_fill_30 : decode cX0_fill 30 = .ok (.imul, 1) := by decide +kernel
theorem dX0_fill_31 : decode cX0_fill 31 = .ok (.iload_n 2, 1) := by decide +kernel
theorem dX0_fill_32 : decode cX0_fill 32 = .ok (.iadd, 1) := by decide +kernel
theorem dX0_fill_33 : decode cX0_fill 33 = .ok (.aload_n 0, 1) := by decide +kernel
theorem dX0_fill_34 : decode cX0_fill 34 = .ok (.iload_n 1, 1) := by decide +kernel
theorem dX0_fill_35 : decode cX0_fill 35 = .ok (.iload_n 2, 1) := by decide +kernel
theorem dX0_fill_36 : decode cX0_fill 36 = .ok (.invokevirtual 22, 3) := by decide +kernel
theorem dX0_fill_39 : decode cX0_fill 39 = .ok (.iastore, 1) := by decide +kernel
theorem dX0_fill_40 : decode cX0_fill 40 = .ok (.iinc 2 1, 3) := by decide +kernel
theorem dX0_fill_43 : decode cX0_fill 43 = .ok (.goto (-28), 3) := by decide +kernel
theorem dX0_fill_46 : decode cX0_fill 46 = .ok (.iinc 1 (-1), 3) := by decide +kernel
theorem dX0_fill_49 : decode cX0_fill 49 = .ok (.goto (-40), 3) := by decide +kernel
theorem dX0_fill_52 : decode cX0_fill 52 = .ok (.return_, 1) := by decide +kernel
theorem dX0_mostBehind_0 : decode cX0_mostBehind 0 = .ok (.iconst 0, 1) := by decide +kernel
theorem dX0_mostBehind_1 : decode cX0_mostBehind 1 = .ok (.istore_n 3, 1) := by decide +kernel
theorem dX0_mostBehind_2 : decode cX0_mostBehind 2 = .ok (.iconst 0, 1) := by decide +kernel
theorem dX0_mostBehind_3 : decode cX0_mostBehind 3 = .ok (.istore 4, 2) := by decide +kernel
theorem dX0_mostBehind_5 : decode cX0_mostBehind 5 = .ok (.iload 4, 2) := by decide +kernel
theorem dX0_mostBehind_7 : decode cX0_mostBehind 7 = .ok (.aload_n 0, 1) := by decide +kernel
theorem dX0_mostBehind_8 : decode cX0_mostBehind 8 = .ok (.getfield 18, 3) := by decide +kernel
theorem dX0_mostBehind_11 : decode cX0_mostBehind 11 = .ok (.if_icmp .ge 31, 3) := by decide +kernel
theorem dX0_mostBehind_14 : decode cX0_mostBehind 14 = .ok (.iload_n 1, 1) := by decide +kernel
theorem dX0_mostBehind_15 : decode cX0_mostBehind 15 = .ok (.iload 4, 2) := by decide +kernel
theorem dX0_mostBehind_17 : decode cX0_mostBehind 17 = .ok (.ishr, 1) := by decide +kernel
theorem dX0_mostBehind_18 : decode cX0_mostBehind 18 = .ok (.iconst 1, 1) := by decide +kernel
theorem dX0_mostBehind_19 : decode cX0_mostBehind 19 = .ok (.iand, 1) := by decide +kernel
theorem dX0_mostBehind_20 : decode cX0_mostBehind 20 = .ok (.ifCond .ne 16, 3) := by decide +kernel
theorem dX0_mostBehind_23 : decode cX0_mostBehind 23 = .ok (.iload_n 3, 1) := by decide +kernel
theorem dX0_mostBehind_24 : decode cX0_mostBehind 24 = .ok (.aload_n 0, 1) := by decide +kernel
theorem dX0_mostBehind_25 : decode cX0_mostBehind 25 = .ok (.iload_n 1, 1) := by decide +kernel
theorem dX0_mostBehind_26 : decode cX0_mostBehind 26 = .ok (.iload_n 2, 1) := by decide +kernel
theorem dX0_mostBehind_27 : decode cX0_mostBehind 27 = .ok (.iload 4, 2) := by decide +kernel
theorem dX0_mostBehind_29 : decode cX0_mostBehind 29 = .ok (.invokevirtual 26, 3) := by decide +kernel
theorem dX0_mostBehind_32 : decode cX0_mostBehind 32 = .ok (.invokestatic 30, 3) := by decide +kernel
theorem dX0_mostBehind_35 : decode cX0_mostBehind 35 = .ok (.istore_n 3, 1) := by decide +kernel
theorem dX0_mostBehind_36 : decode cX0_mostBehind 36 = .ok (.iinc 4 1, 3) := by decide +kernel
theorem dX0_mostBehind_39 : decode cX0_mostBehind 39 = .ok (.goto (-34), 3) := by decide +kernel
theorem dX0_mostBehind_42 : decode cX0_mostBehind 42 = .ok (.iload_n 3, 1) := by decide +kernel
theorem dX0_mostBehind_43 : decode cX0_mostBehind 43 = .ok (.ireturn, 1) := by decide +kernel
theorem dX0_worth_0 : decode cX0_worth 0 = .ok (.iload_n 2, 1) := by decide +kernel
theorem dX0_worth_1 : decode cX0_worth 1 = .ok (.iconst (-1), 1) := by decide +kernel
theorem dX0_worth_2 : decode cX0_worth 2 = .ok (.if_icmp .ne 7, 3) := by decide +kernel
theorem dX0_worth_5 : decode cX0_worth 5 = .ok (.iconst 0, 1) := by decide +kernel
theorem dX0_worth_6 : decode cX0_worth 6 = .ok (.goto 14, 3) := by decide +kernel
theorem dX0_worth_9 : decode cX0_worth 9 = .ok (.aload_n 0, 1) := by decide +kernel
theorem dX0_worth_10 : decode cX0_worth 10 = .ok (.getfield 9, 3) := by decide +kernel
theorem dX0_worth_13 : decode cX0_worth 13 = .ok (.iload_n 2, 1) := by decide +kernel
theorem dX0_worth_14 : decode cX0_worth 14 = .ok (.bipush 7, 2) := by decide +kernel
theorem dX0_worth_16 : decode cX0_worth 16 = .ok (.imul, 1) := by decide +kernel
theorem dX0_worth_17 : decode cX0_worth 17 = .ok (.iload_n 3, 1) := by decide +kernel
theorem dX0_worth_18 : decode cX0_worth 18 = .ok (.iadd, 1) := by decide +kernel
theorem dX0_worth_19 : decode cX0_worth 19 = .ok (.iaload, 1) := by decide +kernel
theorem dX0_worth_20 : decode cX0_worth 20 = .ok (.istore 4, 2) := by decide +kernel
theorem dX0_worth_22 : decode cX0_worth 22 = .ok (.iload 4, 2) := by decide +kernel
theorem dX0_worth_24 : decode cX0_worth 24 = .ok (.aload_n 0, 1) := by decide +kernel
theorem dX0_worth_25 : decode cX0_worth 25 = .ok (.getfield 15, 3) := by decide +kernel
theorem dX0_worth_28 : decode cX0_worth 28 = .ok (.iload_n 1, 1) := by decide +kernel
theorem dX0_worth_29 : decode cX0_worth 29 = .ok (.iconst 1, 1) := by decide +kernel
theorem dX0_worth_30 : decode cX0_worth 30 = .ok (.iload_n 3, 1) := by decide +kernel
theorem dX0_worth_31 : decode cX0_worth 31 = .ok (.ishl, 1) := by decide +kernel
theorem dX0_worth_32 : decode cX0_worth 32 = .ok (.ior, 1) := by decide +kernel
theorem dX0_worth_33 : decode cX0_worth 33 = .ok (.bipush 7, 2) := by decide +kernel
theorem dX0_worth_35 : decode cX0_worth 35 = .ok (.imul, 1) := by decide +kernel
theorem dX0_worth_36 : decode cX0_worth 36 = .ok (.iload_n 3, 1) := by decide +kernel
theorem dX0_worth_37 : decode cX0_worth 37 = .ok (.iadd, 1) := by decide +kernel
theorem dX0_worth_38 : decode cX0_worth 38 = .ok (.iaload, 1) := by decide +kernel
theorem dX0_worth_39 : decode cX0_worth 39 = .ok (.iadd, 1) := by decide +kernel
theorem dX0_worth_40 : decode cX0_worth 40 = .ok (.ireturn, 1) := by decide +kernel
theorem dX0_most_0 : decode cX0_most 0 = .ok (.aload_n 0, 1) := by decide +kernel
theorem dX0_most_1 : decode cX0_most 1 = .ok (.iconst 0, 1) := by decide +kernel
theorem dX0_most_2 : decode cX0_most 2 = .ok (.iconst (-1), 1) := by decide +kernel
theorem dX0_most_3 : decode cX0_most 3 = .ok (.invokevirtual 22, 3) := by decide +kernel
theorem dX0_most_6 : decode cX0_most 6 = .ok (.ireturn, 1) := by decide +kernel
theorem dX0_at_0 : decode cX0_at 0 = .ok (.iconst 0, 1) := by decide +kernel
theorem dX0_at_1 : decode cX0_at 1 = .ok (.istore_n 2, 1) := by decide +kernel
theorem dX0_at_2 : decode cX0_at 2 = .ok (.iconst (-1), 1) := by decide +kernel
theorem dX0_at_3 : decode cX0_at 3 = .ok (.istore_n 3, 1) := by decide +kernel
theorem dX0_at_4 : decode cX0_at 4 = .ok (.iconst 0, 1) := by decide +kernel
theorem dX0_at_5 : decode cX0_at 5 = .ok (.istore 4, 2) := by decide +kernel
theorem dX0_at_7 : decode cX0_at 7 = .ok (.iload 4, 2) := by decide +kernel
theorem dX0_at_9 : decode cX0_at 9 = .ok (.iload_n 1, 1) := by decide +kernel
theorem dX0_at_10 : decode cX0_at 10 = .ok (.if_icmp .gt 36, 3) := by decide +kernel
theorem dX0_at_13 : decode cX0_at 13 = .ok (.iload 4, 2) := by decide +kernel
theorem dX0_at_15 : decode cX0_at 15 = .ok (.aload_n 0, 1) := by decide +kernel
theorem dX0_at_16 : decode cX0_at 16 = .ok (.getfield 18, 3) := by decide +kernel
theorem dX0_at_19 : decode cX0_at 19 = .ok (.if_icmp .ge 27, 3) := by decide +kernel
theorem dX0_at_22 : decode cX0_at 22 = .ok (.aload_n 0, 1) := by decide +kernel
theorem dX0_at_23 : decode cX0_at 23 = .ok (.iload_n 2, 1) := by decide +kernel
theorem dX0_at_24 : decode cX0_at 24 = .ok (.iload_n 3, 1) := by decide +kernel
theorem dX0_at_25 : decode cX0_at 25 = .ok (.invokevirtual 35, 3) := by decide +kernel
theorem dX0_at_28 : decode cX0_at 28 = .ok (.istore 5, 2) := by decide +kernel
theorem dX0_at_30 : decode cX0_at 30 = .ok (.iload_n 2, 1) := by decide +kernel
theorem dX0_at_31 : decode cX0_at 31 = .ok (.iconst 1, 1) := by decide +kernel
theorem dX0_at_32 : decode cX0_at 32 = .ok (.iload 5, 2) := by decide +kernel
theorem dX0_at_34 : decode cX0_at 34 = .ok (.ishl, 1) := by decide +kernel
theorem dX0_at_35 : decode cX0_at 35 = .ok (.ior, 1) := by decide +kernel
theorem dX0_at_36 : decode cX0_at 36 = .ok (.istore_n 2, 1) := by decide +kernel
theorem dX0_at_37 : decode cX0_at 37 = .ok (.iload 5, 2) := by decide +kernel
theorem dX0_at_39 : decode cX0_at 39 = .ok (.istore_n 3, 1) := by decide +kernel
theorem dX0_at_40 : decode cX0_at 40 = .ok (.iinc 4 1, 3) := by decide +kernel
theorem dX0_at_43 : decode cX0_at 43 = .ok (.goto (-36), 3) := by decide +kernel
theorem dX0_at_46 : decode cX0_at 46 = .ok (.iload_n 3, 1) := by decide +kernel
theorem dX0_at_47 : decode cX0_at 47 = .ok (.ireturn, 1) := by decide +kernel
theorem dX0_firstBest_0 : decode cX0_firstBest 0 = .ok (.aload_n 0, 1) := by decide +kernel
theorem dX0_firstBest_1 : decode cX0_firstBest 1 = .ok (.iload_n 1, 1) := by decide +kernel
theorem dX0_firstBest_2 : decode cX0_firstBest 2 = .ok (.iload_n 2, 1) := by decide +kernel
theorem dX0_firstBest_3 : decode cX0_firstBest 3 = .ok (.invokevirtual 22, 3) := by decide +kernel
theorem dX0_firstBest_6 : decode cX0_firstBest 6 = .ok (.istore_n 3, 1) := by decide +kernel
theorem dX0_firstBest_7 : decode cX0_firstBest 7 = .ok (.iconst 0, 1) := by decide +kernel
theorem dX0_firstBest_8 : decode cX0_firstBest 8 = .ok (.istore 4, 2) := by decide +kernel
theorem dX0_firstBest_10 : decode cX0_firstBest 10 = .ok (.iload 4, 2) := by decide +kernel
theorem dX0_firstBest_12 : decode cX0_firstBest 12 = .ok (.aload_n 0, 1) := by decide +kernel
theorem dX0_firstBest_13 : decode cX0_firstBest 13 = .ok (.getfield 18, 3) := by decide +kernel
theorem dX0_firstBest_16 : decode cX0_firstBest 16 = .ok (.if_icmp .ge 33, 3) := by decide +kernel
theorem dX0_firstBest_19 : decode cX0_firstBest 19 = .ok (.iload_n 1, 1) := by decide +kernel
theorem dX0_firstBest_20 : decode cX0_firstBest 20 = .ok (.iload 4, 2) := by decide +kernel
theorem dX0_firstBest_22 : decode cX0_firstBest 22 = .ok (.ishr, 1) := by decide +kernel
theorem dX0_firstBest_23 : decode cX0_firstBest 23 = .ok (.iconst 1, 1) := by decide +kernel
theorem dX0_firstBest_24 : decode cX0_firstBest 24 = .ok (.iand, 1) := by decide +kernel
theorem dX0_firstBest_25 : decode cX0_firstBest 25 = .ok (.ifCond .ne 18, 3) := by decide +kernel
theorem dX0_firstBest_28 : decode cX0_firstBest 28 = .ok (.aload_n 0, 1) := by decide +kernel
theorem dX0_firstBest_29 : decode cX0_firstBest 29 = .ok (.iload_n 1, 1) := by decide +kernel
theorem dX0_firstBest_30 : decode cX0_firstBest 30 = .ok (.iload_n 2, 1) := by decide +kernel
theorem dX0_firstBest_31 : decode cX0_firstBest 31 = .ok (.iload 4, 2) := by decide +kernel
theorem dX0_firstBest_33 : decode cX0_firstBest 33 = .ok (.invokevirtual 26, 3) := by decide +kernel
theorem dX0_firstBest_36 : decode cX0_firstBest 36 = .ok (.iload_n 3, 1) := by decide +kernel
theorem dX0_firstBest_37 : decode cX0_firstBest 37 = .ok (.if_icmp .ne 6, 3) := by decide +kernel
theorem dX0_firstBest_40 : decode cX0_firstBest 40 = .ok (.iload 4, 2) := by decide +kernel
theorem dX0_firstBest_42 : decode cX0_firstBest 42 = .ok (.ireturn, 1) := by decide +kernel
theorem dX0_firstBest_43 : decode cX0_firstBest 43 = .ok (.iinc 4 1, 3) := by decide +kernel
theorem dX0_firstBest_46 : decode cX0_firstBest 46 = .ok (.goto (-36), 3) := by decide +kernel
theorem dX0_firstBest_49 : decode cX0_firstBest 49 = .ok (.iconst 0, 1) := by decide +kernel
theorem dX0_firstBest_50 : decode cX0_firstBest 50 = .ok (.ireturn, 1) := by decide +kernel
theorem dX1_init_0 : decode cX1_init 0 = .ok (.aload_n 0, 1) := by decide +kernel
theorem dX1_init_1 : decode cX1_init 1 = .ok (.invokespecial 3, 3) := by decide +kernel
theorem dX1_init_4 : decode cX1_init 4 = .ok (.return_, 1) := by decide +kernel
theorem dX1_clear_0 : decode cX1_clear 0 = .ok (.aload_n 0, 1) := by decide +kernel
theorem dX1_clear_1 : decode cX1_clear 1 = .ok (.iconst 0, 1) := by decide +kernel
theorem dX1_clear_2 : decode cX1_clear 2 = .ok (.putfield 9, 3) := by decide +kernel
theorem dX1_clear_5 : decode cX1_clear 5 = .ok (.aload_n 0, 1) := by decide +kernel
theorem dX1_clear_6 : decode cX1_clear 6 = .ok (.iconst 0, 1) := by decide +kernel
theorem dX1_clear_7 : decode cX1_clear 7 = .ok (.putfield 15, 3) := by decide +kernel
theorem dX1_clear_10 : decode cX1_clear 10 = .ok (.return_, 1) := by decide +kernel
theorem dX1_read_0 : decode cX1_read 0 = .ok (.aload_n 0, 1) := by decide +kernel
theorem dX1_read_1 : decode cX1_read 1 = .ok (.invokevirtual 18, 3) := by decide +kernel
theorem dX1_read_4 : decode cX1_read 4 = .ok (.iconst 0, 1) := by decide +kernel
theorem dX1_read_5 : decode cX1_read 5 = .ok (.istore_n 3, 1) := by decide +kernel
theorem dX1_read_6 : decode cX1_read 6 = .ok (.iload_n 3, 1) := by decide +kernel
theorem dX1_read_7 : decode cX1_read 7 = .ok (.bipush 60, 2) := by decide +kernel
theorem dX1_read_9 : decode cX1_read 9 = .ok (.if_icmp .ge 85, 3) := by decide +kernel
theorem dX1_read_12 : decode cX1_read 12 = .ok (.aload_n 1, 1) := by decide +kernel
theorem dX1_read_13 : decode cX1_read 13 = .ok (.invokevirtual 21, 3) := by decide +kernel
theorem dX1_read_16 : decode cX1_read 16 = .ok (.ifCond .eq 78, 3) := by decide +kernel
theorem dX1_read_19 : decode cX1_read 19 = .ok (.aload_n 1, 1) := by decide +kernel
theorem dX1_read_20 : decode cX1_read 20 = .ok (.iconst 0, 1) := by decide +kernel
theorem dX1_read_21 : decode cX1_read 21 = .ok (.iload_n 2, 1) := by decide +kernel
theorem dX1_read_22 : decode cX1_read 22 = .ok (.iconst 1, 1) := by decide +kernel
theorem dX1_read_23 : decode cX1_read 23 = .ok (.isub, 1) := by decide +kernel
theorem dX1_read_24 : decode cX1_read 24 = .ok (.invokevirtual 27, 3) := by decide +kernel
theorem dX1_read_27 : decode cX1_read 27 = .ok (.istore 4, 2) := by decide +kernel
theorem dX1_read_29 : decode cX1_read 29 = .ok (.aload_n 0, 1) := by decide +kernel
theorem dX1_read_30 : decode cX1_read 30 = .ok (.getfield 9, 3) := by decide +kernel
theorem dX1_read_33 : decode cX1_read 33 = .ok (.iload 4, 2) := by decide +kernel
theorem dX1_read_35 : decode cX1_read 35 = .ok (.ishr, 1) := by decide +kernel
theorem dX1_read_36 : decode cX1_read 36 = .ok (.iconst 1, 1) := by decide +kernel
theorem dX1_read_37 : decode cX1_read 37 = .ok (.iand, 1) := by decide +kernel
theorem dX1_read_38 : decode cX1_read 38 = .ok (.iconst 1, 1) := by decide +kernel
theorem dX1_read_39 : decode cX1_read 39 = .ok (.if_icmp .ne 12, 3) := by decide +kernel
theorem dX1_read_42 : decode cX1_read 42 = .ok (.aload_n 1, 1) := by decide +kernel
theorem dX1_read_43 : decode cX1_read 43 = .ok (.iconst 2, 1) := by decide +kernel
theorem dX1_read_44 : decode cX1_read 44 = .ok (.aload_n 1, 1) := by decide +kernel
theorem dX1_read_45 : decode cX1_read 45 = .ok (.getfield 31, 3) := by decide +kernel
theorem dX1_read_48 : decode cX1_read 48 = .ok (.invokevirtual 34, 3) := by decide +kernel
theorem dX1_read_51 : decode cX1_read 51 = .ok (.aload_n 0, 1) := by decide +kernel
theorem dX1_read_52 : decode cX1_read 52 = .ok (.dup, 1) := by decide +kernel
theorem dX1_read_53 : decode cX1_read 53 = .ok (.getfield 9, 3) := by decide +kernel
theorem dX1_read_56 : decode cX1_read 56 = .ok (.iconst 1, 1) := by decide +kernel
theorem dX1_read_57 : decode cX1_read 57 = .ok (.iload 4, 2) := by decide +kernel
theorem dX1_read_59 : decode cX1_read 59 = .ok (.ishl, 1) := by decide +kernel
theorem dX1_read_60 : decode cX1_read 60 = .ok (.ior, 1) := by decide +kernel
theorem dX1_read_61 : decode cX1_read 61 = .ok (.putfield 9, 3) := by decide +kernel
theorem dX1_read_64 : decode cX1_read 64 = .ok (.aload_n 0, 1) := by decide +kernel
theorem dX1_read_65 : decode cX1_read 65 = .ok (.dup, 1) := by decide +kernel
theorem dX1_read_66 : decode cX1_read 66 = .ok (.getfield 15, 3) := by decide +kernel
theorem dX1_read_69 : decode cX1_read 69 = .ok (.aload_n 1, 1) := by decide +kernel
theorem dX1_read_70 : decode cX1_read 70 = .ok (.iconst 0, 1) := by decide +kernel
theorem dX1_read_71 : decode cX1_read 71 = .ok (.iconst 1, 1) := by decide +kernel
theorem dX1_read_72 : decode cX1_read 72 = .ok (.invokevirtual 27, 3) := by decide +kernel
theorem dX1_read_75 : decode cX1_read 75 = .ok (.iload 4, 2) := by decide +kernel
theorem dX1_read_77 : decode cX1_read 77 = .ok (.ishl, 1) := by decide +kernel
theorem dX1_read_78 : decode cX1_read 78 = .ok (.ior, 1) := by decide +kernel
theorem dX1_read_79 : decode cX1_read 79 = .ok (.putfield 15, 3) := by decide +kernel
theorem dX1_read_82 : decode cX1_read 82 = .ok (.aload_n 1, 1) := by decide +kernel
theorem dX1_read_83 : decode cX1_read 83 = .ok (.bipush 59, 2) := by decide +kernel
theorem dX1_read_85 : decode cX1_read 85 = .ok (.invokevirtual 38, 3) := by decide +kernel
theorem dX1_read_88 : decode cX1_read 88 = .ok (.iinc 3 1, 3) := by decide +kernel
theorem dX1_read_91 : decode cX1_read 91 = .ok (.goto (-85), 3) := by decide +kernel
theorem dX1_read_94 : decode cX1_read 94 = .ok (.return_, 1) := by decide +kernel
theorem dX1_fits_0 : decode cX1_fits 0 = .ok (.iload_n 1, 1) := by decide +kernel
theorem dX1_fits_1 : decode cX1_fits 1 = .ok (.aload_n 0, 1) := by decide +kernel
theorem dX1_fits_2 : decode cX1_fits 2 = .ok (.getfield 9, 3) := by decide +kernel
theorem dX1_fits_5 : decode cX1_fits 5 = .ok (.iand, 1) := by decide +kernel
theorem dX1_fits_6 : decode cX1_fits 6 = .ok (.aload_n 0, 1) := by decide +kernel
theorem dX1_fits_7 : decode cX1_fits 7 = .ok (.getfield 15, 3) := by decide +kernel
theorem dX1_fits_10 : decode cX1_fits 10 = .ok (.if_icmp .ne 7, 3) := by decide +kernel
theorem dX1_fits_13 : decode cX1_fits 13 = .ok (.iconst 1, 1) := by decide +kernel
theorem dX1_fits_14 : decode cX1_fits 14 = .ok (.goto 4, 3) := by decide +kernel
theorem dX1_fits_17 : decode cX1_fits 17 = .ok (.iconst 0, 1) := by decide +kernel
theorem dX1_fits_18 : decode cX1_fits 18 = .ok (.ireturn, 1) := by decide +kernel
theorem dX2_init_0 : decode cX2_init 0 = .ok (.aload_n 0, 1) := by decide +kernel
theorem dX2_init_1 : decode cX2_init 1 = .ok (.invokespecial 3, 3) := by decide +kernel
theorem dX2_init_4 : decode cX2_init 4 = .ok (.aload_n 0, 1) := by decide +kernel
theorem dX2_init_5 : decode cX2_init 5 = .ok (.bipush 8, 2) := by decide +kernel
theorem dX2_init_7 : decode cX2_init 7 = .ok (.newarray .int, 2) := by decide +kernel
theorem dX2_init_9 : decode cX2_init 9 = .ok (.putfield 11, 3) := by decide +kernel
theorem dX2_init_12 : decode cX2_init 12 = .ok (.aload_n 0, 1) := by decide +kernel
theorem dX2_init_13 : decode cX2_init 13 = .ok (.sipush 150, 3) := by decide +kernel
theorem dX2_init_16 : decode cX2_init 16 = .ok (.newarray .int, 2) := by decide +kernel
theorem dX2_init_18 : decode cX2_init 18 = .ok (.putfield 15, 3) := by decide +kernel
theorem dX2_init_21 : decode cX2_init 21 = .ok (.aload_n 0, 1) := by decide +kernel
theorem dX2_init_22 : decode cX2_init 22 = .ok (.sipush 150, 3) := by decide +kernel
theorem dX2_init_25 : decode cX2_init 25 = .ok (.newarray .int, 2) := by decide +kernel
theorem dX2_init_27 : decode cX2_init 27 = .ok (.putfield 18, 3) := by decide +kernel
theorem dX2_init_30 : decode cX2_init 30 = .ok (.aload_n 0, 1) := by decide +kernel
theorem dX2_init_31 : decode cX2_init 31 = .ok (.sipush 150, 3) := by decide +kernel
theorem dX2_init_34 : decode cX2_init 34 = .ok (.newarray .int, 2) := by decide +kernel
theorem dX2_init_36 : decode cX2_init 36 = .ok (.putfield 21, 3) := by decide +kernel
theorem dX2_init_39 : decode cX2_init 39 = .ok (.aload_n 0, 1) := by decide +kernel
theorem dX2_init_40 : decode cX2_init 40 = .ok (.sipush 150, 3) := by decide +kernel
theorem dX2_init_43 : decode cX2_init 43 = .ok (.newarray .int, 2) := by decide +kernel
theorem dX2_init_45 : decode cX2_init 45 = .ok (.putfield 24, 3) := by decide +kernel
theorem dX2_init_48 : decode cX2_init 48 = .ok (.aload_n 0, 1) := by decide +kernel
theorem dX2_init_49 : decode cX2_init 49 = .ok (.iconst 1, 1) := by decide +kernel
theorem dX2_init_50 : decode cX2_init 50 = .ok (.putfield 27, 3) := by decide +kernel
theorem dX2_init_53 : decode cX2_init 53 = .ok (.return_, 1) := by decide +kernel
theorem dX2_plain_0 : decode cX2_plain 0 = .ok (.aload_n 0, 1) := by decide +kernel
theorem dX2_plain_1 : decode cX2_plain 1 = .ok (.iconst 0, 1) := by decide +kernel
theorem dX2_plain_2 : decode cX2_plain 2 = .ok (.putfield 27, 3) := by decide +kernel
theorem dX2_plain_5 : decode cX2_plain 5 = .ok (.aload_n 0, 1) := by decide +kernel
theorem dX2_plain_6 : decode cX2_plain 6 = .ok (.iconst 0, 1) := by decide +kernel
theorem dX2_plain_7 : decode cX2_plain 7 = .ok (.iconst 0, 1) := by decide +kernel
theorem dX2_plain_8 : decode cX2_plain 8 = .ok (.iconst 0, 1) := by decide +kernel
theorem dX2_plain_9 : decode cX2_plain 9 = .ok (.invokevirtual 31, 3) := by decide +kernel
theorem dX2_plain_12 : decode cX2_plain 12 = .ok (.pop, 1) := by decide +kernel
theorem dX2_plain_13 : decode cX2_plain 13 = .ok (.return_, 1) := by decide +kernel
theorem dX2_read_0 : decode cX2_read 0 = .ok (.aload_n 0, 1) := by decide +kernel
theorem dX2_read_1 : decode cX2_read 1 = .ok (.iconst 0, 1) := by decide +kernel
theorem dX2_read_2 : decode cX2_read 2 = .ok (.putfield 27, 3) := by decide +kernel
theorem dX2_read_5 : decode cX2_read 5 = .ok (.aload_n 0, 1) := by decide +kernel
theorem dX2_read_6 : decode cX2_read 6 = .ok (.aload_n 1, 1) := by decide +kernel
theorem dX2_read_7 : decode cX2_read 7 = .ok (.iconst 0, 1) := by decide +kernel
theorem dX2_read_8 : decode cX2_read 8 = .ok (.invokevirtual 35, 3) := by decide +kernel
theorem dX2_read_11 : decode cX2_read 11 = .ok (.pop, 1) := by decide +kernel
theorem dX2_read_12 : decode cX2_read 12 = .ok (.aload_n 1, 1) := by decide +kernel
theorem dX2_read_13 : decode cX2_read 13 = .ok (.invokevirtual 39, 3) := by decide +kernel
theorem dX2_read_16 : decode cX2_read 16 = .ok (.ifCond .eq 12, 3) := by decide +kernel
theorem dX2_read_19 : decode cX2_read 19 = .ok (.aload_n 1, 1) := by decide +kernel
theorem dX2_read_20 : decode cX2_read 20 = .ok (.iconst 1, 1) := by decide +kernel
theorem dX2_read_21 : decode cX2_read 21 = .ok (.aload_n 1, 1) := by decide +kernel
theorem dX2_read_22 : decode cX2_read 22 = .ok (.getfield 45, 3) := by decide +kernel
theorem dX2_read_25 : decode cX2_read 25 = .ok (.invokevirtual 48, 3) := by decide +kernel
theorem dX2_read_28 : decode cX2_read 28 = .ok (.return_, 1) := by decide +kernel
theorem dX2_add_0 : decode cX2_add 0 = .ok (.aload_n 0, 1) := by decide +kernel
theorem dX2_add_1 : decode cX2_add 1 = .ok (.getfield 27, 3) := by decide +kernel
theorem dX2_add_4 : decode cX2_add 4 = .ok (.sipush 150, 3) := by decide +kernel
theorem dX2_add_7 : decode cX2_add 7 = .ok (.if_icmp .lt 5, 3) := by decide +kernel
theorem dX2_add_10 : decode cX2_add 10 = .ok (.iconst 0, 1) := by decide +kernel
theorem dX2_add_11 : decode cX2_add 11 = .ok (.ireturn, 1) := by decide +kernel
theorem dX2_add_12 : decode cX2_add 12 = .ok (.aload_n 0, 1) := by decide +kernel
theorem dX2_add_13 : decode cX2_add 13 = .ok (.getfield 15, 3) := by decide +kernel
theorem dX2_add_16 : decode cX2_add 16 = .ok (.aload_n 0, 1) := by decide +kernel
theorem dX2_add_17 : decode cX2_add 17 = .ok (.getfield 27, 3) := by decide +kernel
theorem dX2_add_20 : decode cX2_add 20 = .ok (.iload_n 1, 1) := by decide +kernel
theorem dX2_add_21 : decode cX2_add 21 = .ok (.iastore, 1) := by decide +kernel
theorem dX2_add_22 : decode cX2_add 22 = .ok (.aload_n 0, 1) := by decide +kernel
theorem dX2_add_23 : decode cX2_add 23 = .ok (.getfield 18, 3) := by decide +kernel
theorem dX2_add_26 : decode cX2_add 26 = .ok (.aload_n 0, 1) := by decide +kernel
theorem dX2_add_27 : decode cX2_add 27 = .ok (.getfield 27, 3) := by decide +kernel
theorem dX2_add_30 : decode cX2_add 30 = .ok (.iload_n 2, 1) := by decide +kernel
theorem dX2_add_31 : decode cX2_add 31 = .ok (.iastore, 1) := by decide +kernel
theorem dX2_add_32 : decode cX2_add 32 = .ok (.aload_n 0, 1) := by decide +kernel
theorem dX2_add_33 : decode cX2_add 33 = .ok (.getfield 21, 3) := by decide +kernel
theorem dX2_add_36 : decode cX2_add 36 = .ok (.aload_n 0, 1) := by decide +kernel
theorem dX2_add_37 : decode cX2_add 37 = .ok (.getfield 27, 3) := by decide +kernel
theorem dX2_add_40 : decode cX2_add 40 = .ok (.iload_n 3, 1) := by decide +kernel
theorem dX2_add_41 : decode cX2_add 41 = .ok (.iastore, 1) := by decide +kernel
theorem dX2_add_42 : decode cX2_add 42 = .ok (.aload_n 0, 1) := by decide +kernel
theorem dX2_add_43 : decode cX2_add 43 = .ok (.dup, 1) := by decide +kernel
theorem dX2_add_44 : decode cX2_add 44 = .ok (.getfield 27, 3) := by decide +kernel
theorem dX2_add_47 : decode cX2_add 47 = .ok (.iconst 1, 1) := by decide +kernel
theorem dX2_add_48 : decode cX2_add 48 = .ok (.iadd, 1) := by decide +kernel
theorem dX2_add_49 : decode cX2_add 49 = .ok (.putfield 27, 3) := by decide +kernel
theorem dX2_add_52 : decode cX2_add 52 = .ok (.aload_n 0, 1) := by decide +kernel
theorem dX2_add_53 : decode cX2_add 53 = .ok (.getfield 27, 3) := by decide +kernel
theorem dX2_add_56 : decode cX2_add 56 = .ok (.iconst 1, 1) := by decide +kernel
theorem dX2_add_57 : decode cX2_add 57 = .ok (.isub, 1) := by decide +kernel
theorem dX2_add_58 : decode cX2_add 58 = .ok (.ireturn, 1) := by decide +kernel
theorem dX2_sum_0 : decode cX2_sum 0 = .ok (.aload_n 0, 1) := by decide +kernel
theorem dX2_sum_1 : decode cX2_sum 1 = .ok (.aload_n 1, 1) := by decide +kernel
theorem dX2_sum_2 : decode cX2_sum 2 = .ok (.iload_n 2, 1) := by decide +kernel
theorem dX2_sum_3 : decode cX2_sum 3 = .ok (.invokevirtual 52, 3) := by decide +kernel
theorem dX2_sum_6 : decode cX2_sum 6 = .ok (.istore_n 3, 1) := by decide +kernel
theorem dX2_sum_7 : decode cX2_sum 7 = .ok (.iconst 0, 1) := by decide +kernel
theorem dX2_sum_8 : decode cX2_sum 8 = .ok (.istore 4, 2) := by decide +kernel
theorem dX2_sum_10 : decode cX2_sum 10 = .ok (.iload 4, 2) := by decide +kernel
theorem dX2_sum_12 : decode cX2_sum 12 = .ok (.sipush 150, 3) := by decide +kernel
theorem dX2_sum_15 : decode cX2_sum 15 = .ok (.if_icmp .ge 52, 3) := by decide +kernel
theorem dX2_sum_18 : decode cX2_sum 18 = .ok (.aload_n 1, 1) := by decide +kernel
theorem dX2_sum_19 : decode cX2_sum 19 = .ok (.invokevirtual 55, 3) := by decide +kernel
theorem dX2_sum_22 : decode cX2_sum 22 = .ok (.istore 5, 2) := by decide +kernel
theorem dX2_sum_24 : decode cX2_sum 24 = .ok (.iload 5, 2) := by decide +kernel
theorem dX2_sum_26 : decode cX2_sum 26 = .ok (.bipush 43, 2) := by decide +kernel
theorem dX2_sum_28 : decode cX2_sum 28 = .ok (.if_icmp .eq 13, 3) := by decide +kernel
theorem dX2_sum_31 : decode cX2_sum 31 = .ok (.iload 5, 2) := by decide +kernel
theorem dX2_sum_33 : decode cX2_sum 33 = .ok (.bipush 45, 2) := by decide +kernel
theorem dX2_sum_35 : decode cX2_sum 35 = .ok (.if_icmp .eq 6, 3) := by decide +kernel
theorem dX2_sum_38 : decode cX2_sum 38 = .ok (.goto 29, 3) := by decide +kernel
theorem dX2_sum_41 : decode cX2_sum 41 = .ok (.aload_n 1, 1) := by decide +kernel
theorem dX2_sum_42 : decode cX2_sum 42 = .ok (.iload 5, 2) := by decide +kernel
theorem dX2_sum_44 : decode cX2_sum 44 = .ok (.invokevirtual 59, 3) := by decide +kernel
theorem dX2_sum_47 : decode cX2_sum 47 = .ok (.aload_n 0, 1) := by decide +kernel
theorem dX2_sum_48 : decode cX2_sum 48 = .ok (.iload 5, 2) := by decide +kernel
theorem dX2_sum_50 : decode cX2_sum 50 = .ok (.iload_n 3, 1) := by decide +kernel
theorem dX2_sum_51 : decode cX2_sum 51 = .ok (.aload_n 0, 1) := by decide +kernel
theorem dX2_sum_52 : decode cX2_sum 52 = .ok (.aload_n 1, 1) := by decide +kernel
theorem dX2_sum_53 : decode cX2_sum 53 = .ok (.iload_n 2, 1) := by decide +kernel
theorem dX2_sum_54 : decode cX2_sum 54 = .ok (.invokevirtual 52, 3) := by decide +kernel
theorem dX2_sum_57 : decode cX2_sum 57 = .ok (.invokevirtual 31, 3) := by decide +kernel
theorem dX2_sum_60 : decode cX2_sum 60 = .ok (.istore_n 3, 1) := by decide +kernel
theorem dX2_sum_61 : decode cX2_sum 61 = .ok (.iinc 4 1, 3) := by decide +kernel
theorem dX2_sum_64 : decode cX2_sum 64 = .ok (.goto (-54), 3) := by decide +kernel
theorem dX2_sum_67 : decode cX2_sum 67 = .ok (.iload_n 3, 1) := by decide +kernel
theorem dX2_sum_68 : decode cX2_sum 68 = .ok (.ireturn, 1) := by decide +kernel
theorem dX2_product_0 : decode cX2_product 0 = .ok (.aload_n 0, 1) := by decide +kernel
theorem dX2_product_1 : decode cX2_product 1 = .ok (.aload_n 1, 1) := by decide +kernel
theorem dX2_product_2 : decode cX2_product 2 = .ok (.iload_n 2, 1) := by decide +kernel
theorem dX2_product_3 : decode cX2_product 3 = .ok (.invokevirtual 63, 3) := by decide +kernel
theorem dX2_product_6 : decode cX2_product 6 = .ok (.istore_n 3, 1) := by decide +kernel
theorem dX2_product_7 : decode cX2_product 7 = .ok (.iconst 0, 1) := by decide +kernel
theorem dX2_product_8 : decode cX2_product 8 = .ok (.istore 4, 2) := by decide +kernel
theorem dX2_product_10 : decode cX2_product 10 = .ok (.iload 4, 2) := by decide +kernel
theorem dX2_product_12 : decode cX2_product 12 = .ok (.sipush 150, 3) := by decide +kernel
theorem dX2_product_15 : decode cX2_product 15 = .ok (.if_icmp .ge 59, 3) := by decide +kernel
theorem dX2_product_18 : decode cX2_product 18 = .ok (.aload_n 1, 1) := by decide +kernel
theorem dX2_product_19 : decode cX2_product 19 = .ok (.invokevirtual 55, 3) := by decide +kernel
theorem dX2_product_22 : decode cX2_product 22 = .ok (.istore 5, 2) := by decide +kernel
theorem dX2_product_24 : decode cX2_product 24 = .ok (.iload 5, 2) := by decide +kernel
theorem dX2_product_26 : decode cX2_product 26 = .ok (.bipush 42, 2) := by decide +kernel
theorem dX2_product_28 : decode cX2_product 28 = .ok (.if_icmp .eq 20, 3) := by decide +kernel
theorem dX2_product_31 : decode cX2_product 31 = .ok (.iload 5, 2) := by decide +kernel
theorem dX2_product_33 : decode cX2_product 33 = .ok (.bipush 47, 2) := by decide +kernel
theorem dX2_product_35 : decode cX2_product 35 = .ok (.if_icmp .eq 13, 3) := by decide +kernel
theorem dX2_product_38 : decode cX2_product 38 = .ok (.iload 5, 2) := by decide +kernel
theorem dX2_product_40 : decode cX2_product 40 = .ok (.bipush 37, 2) := by decide +kernel
theorem dX2_product_42 : decode cX2_product 42 = .ok (.if_icmp .eq 6, 3) := by decide +kernel
theorem dX2_product_45 : decode cX2_product 45 = .ok (.goto 29, 3) := by decide +kernel
theorem dX2_product_48 : decode cX2_product 48 = .ok (.aload_n 1, 1) := by decide +kernel
theorem dX2_product_49 : decode cX2_product 49 = .ok (.iload 5, 2) := by decide +kernel
theorem dX2_product_51 : decode cX2_product 51 = .ok (.invokevirtual 59, 3) := by decide +kernel
theorem dX2_product_54 : decode cX2_product 54 = .ok (.aload_n 0, 1) := by decide +kernel
theorem dX2_product_55 : decode cX2_product 55 = .ok (.iload 5, 2) := by decide +kernel
theorem dX2_product_57 : decode cX2_product 57 = .ok (.iload_n 3, 1) := by decide +kernel
theorem dX2_product_58 : decode cX2_product 58 = .ok (.aload_n 0, 1) := by decide +kernel
theorem dX2_product_59 : decode cX2_product 59 = .ok (.aload_n 1, 1) := by decide +kernel
theorem dX2_product_60 : decode cX2_product 60 = .ok (.iload_n 2, 1) := by decide +kernel
theorem dX2_product_61 : decode cX2_product 61 = .ok (.invokevirtual 63, 3) := by decide +kernel
theorem dX2_product_64 : decode cX2_product 64 = .ok (.invokevirtual 31, 3) := by decide +kernel
theorem dX2_product_67 : decode cX2_product 67 = .ok (.istore_n 3, 1) := by decide +kernel
theorem dX2_product_68 : decode cX2_product 68 = .ok (.iinc 4 1, 3) := by decide +kernel
theorem dX2_product_71 : decode cX2_product 71 = .ok (.goto (-61), 3) := by decide +kernel
theorem dX2_product_74 : decode cX2_product 74 = .ok (.iload_n 3, 1) := by decide +kernel
theorem dX2_product_75 : decode cX2_product 75 = .ok (.ireturn, 1) := by decide +kernel
theorem dX2_unit_0 : decode cX2_unit 0 = .ok (.aload_n 1, 1) := by decide +kernel
theorem dX2_unit_1 : decode cX2_unit 1 = .ok (.invokevirtual 55, 3) := by decide +kernel
theorem dX2_unit_4 : decode cX2_unit 4 = .ok (.istore_n 3, 1) := by decide +kernel
theorem dX2_unit_5 : decode cX2_unit 5 = .ok (.iload_n 3, 1) := by decide +kernel
theorem dX2_unit_6 : decode cX2_unit 6 = .ok (.bipush 48, 2) := by decide +kernel
theorem dX2_unit_8 : decode cX2_unit 8 = .ok (.if_icmp .lt 25, 3) := by decide +kernel
theorem dX2_unit_11 : decode cX2_unit 11 = .ok (.iload_n 3, 1) := by decide +kernel
theorem dX2_unit_12 : decode cX2_unit 12 = .ok (.bipush 57, 2) := by decide +kernel
theorem dX2_unit_14 : decode cX2_unit 14 = .ok (.if_icmp .gt 19, 3) := by decide +kernel
theorem dX2_unit_17 : decode cX2_unit 17 = .ok (.aload_n 0, 1) := by decide +kernel
theorem dX2_unit_18 : decode cX2_unit 18 = .ok (.bipush 8, 2) := by decide +kernel
theorem dX2_unit_20 : decode cX2_unit 20 = .ok (.aload_n 1, 1) := by decide +kernel
theorem dX2_unit_21 : decode cX2_unit 21 = .ok (.iconst 0, 1) := by decide +kernel
theorem dX2_unit_22 : decode cX2_unit 22 = .ok (.sipush 999, 3) := by decide +kernel
theorem dX2_unit_25 : decode cX2_unit 25 = .ok (.invokevirtual 66, 3) := by decide +kernel
theorem dX2_unit_28 : decode cX2_unit 28 = .ok (.iconst 0, 1) := by decide +kernel
theorem dX2_unit_29 : decode cX2_unit 29 = .ok (.invokevirtual 31, 3) := by decide +kernel
theorem dX2_unit_32 : decode cX2_unit 32 = .ok (.ireturn, 1) := by decide +kernel
theorem dX2_unit_33 : decode cX2_unit 33 = .ok (.iload_n 3, 1) := by decide +kernel
theorem dX2_unit_34 : decode cX2_unit 34 = .ok (.bipush 40, 2) := by decide +kernel
theorem dX2_unit_36 : decode cX2_unit 36 = .ok (.if_icmp .ne 10, 3) := by decide +kernel
theorem dX2_unit_39 : decode cX2_unit 39 = .ok (.aload_n 0, 1) := by decide +kernel
theorem dX2_unit_40 : decode cX2_unit 40 = .ok (.aload_n 1, 1) := by decide +kernel
theorem dX2_unit_41 : decode cX2_unit 41 = .ok (.iload_n 2, 1) := by decide +kernel
theorem dX2_unit_42 : decode cX2_unit 42 = .ok (.invokevirtual 70, 3) := by decide +kernel
theorem dX2_unit_45 : decode cX2_unit 45 = .ok (.ireturn, 1) := by decide +kernel
theorem dX2_unit_46 : decode cX2_unit 46 = .ok (.aload_n 1, 1) := by decide +kernel
theorem dX2_unit_47 : decode cX2_unit 47 = .ok (.invokevirtual 73, 3) := by decide +kernel
theorem dX2_unit_50 : decode cX2_unit 50 = .ok (.aload_n 1, 1) := by decide +kernel
theorem dX2_unit_51 : decode cX2_unit 51 = .ok (.ldc 76, 2) := by decide +kernel
theorem dX2_unit_53 : decode cX2_unit 53 = .ok (.invokevirtual 78, 3) := by decide +kernel
theorem dX2_unit_56 : decode cX2_unit 56 = .ok (.ifCond .eq 12, 3) := by decide +kernel
theorem dX2_unit_59 : decode cX2_unit 59 = .ok (.aload_n 0, 1) := by decide +kernel
theorem dX2_unit_60 : decode cX2_unit 60 = .ok (.aload_n 1, 1) := by decide +kernel
theorem dX2_unit_61 : decode cX2_unit 61 = .ok (.iload_n 2, 1) := by decide +kernel
theorem dX2_unit_62 : decode cX2_unit 62 = .ok (.bipush 9, 2) := by decide +kernel
theorem dX2_unit_64 : decode cX2_unit 64 = .ok (.invokevirtual 82, 3) := by decide +kernel
theorem dX2_unit_67 : decode cX2_unit 67 = .ok (.ireturn, 1) := by decide +kernel
theorem dX2_unit_68 : decode cX2_unit 68 = .ok (.aload_n 1, 1) := by decide +kernel
theorem dX2_unit_69 : decode cX2_unit 69 = .ok (.ldc 86, 2) := by decide +kernel
theorem dX2_unit_71 : decode cX2_unit 71 = .ok (.invokevirtual 78, 3) := by decide +kernel
theorem dX2_unit_74 : decode cX2_unit 74 = .ok (.ifCond .eq 12, 3) := by decide +kernel
theorem dX2_unit_77 : decode cX2_unit 77 = .ok (.aload_n 0, 1) := by decide +kernel
theorem dX2_unit_78 : decode cX2_unit 78 = .ok (.aload_n 1, 1) := by decide +kernel
theorem dX2_unit_79 : decode cX2_unit 79 = .ok (.iload_n 2, 1) := by decide +kernel
theorem dX2_unit_80 : decode cX2_unit 80 = .ok (.bipush 10, 2) := by decide +kernel
theorem dX2_unit_82 : decode cX2_unit 82 = .ok (.invokevirtual 82, 3) := by decide +kernel
theorem dX2_unit_85 : decode cX2_unit 85 = .ok (.ireturn, 1) := by decide +kernel
theorem dX2_unit_86 : decode cX2_unit 86 = .ok (.aload_n 1, 1) := by decide +kernel
theorem dX2_unit_87 : decode cX2_unit 87 = .ok (.invokestatic 88, 3) := by decide +kernel
theorem dX2_unit_90 : decode cX2_unit 90 = .ok (.istore 4, 2) := by decide +kernel
theorem dX2_unit_92 : decode cX2_unit 92 = .ok (.iload 4, 2) := by decide +kernel
theorem dX2_unit_94 : decode cX2_unit 94 = .ok (.iconst (-1), 1) := by decide +kernel
theorem dX2_unit_95 : decode cX2_unit 95 = .ok (.if_icmp .ne 14, 3) := by decide +kernel
theorem dX2_unit_98 : decode cX2_unit 98 = .ok (.aload_n 1, 1) := by decide +kernel
theorem dX2_unit_99 : decode cX2_unit 99 = .ok (.iconst 1, 1) := by decide +kernel
theorem dX2_unit_100 : decode cX2_unit 100 = .ok (.aload_n 1, 1) := by decide +kernel
theorem dX2_unit_101 : decode cX2_unit 101 = .ok (.getfield 92, 3) := by decide +kernel
theorem dX2_unit_104 : decode cX2_unit 104 = .ok (.invokevirtual 48, 3) := by decide +kernel
theorem dX2_unit_107 : decode cX2_unit 107 = .ok (.iconst 0, 1) := by decide +kernel
theorem dX2_unit_108 : decode cX2_unit 108 = .ok (.ireturn, 1) := by decide +kernel
theorem dX2_unit_109 : decode cX2_unit 109 = .ok (.aload_n 0, 1) := by decide +kernel
theorem dX2_unit_110 : decode cX2_unit 110 = .ok (.iload 4, 2) := by decide +kernel
theorem dX2_unit_112 : decode cX2_unit 112 = .ok (.iconst 0, 1) := by decide +kernel
theorem dX2_unit_113 : decode cX2_unit 113 = .ok (.iconst 0, 1) := by decide +kernel
theorem dX2_unit_114 : decode cX2_unit 114 = .ok (.invokevirtual 31, 3) := by decide +kernel
theorem dX2_unit_117 : decode cX2_unit 117 = .ok (.ireturn, 1) := by decide +kernel
theorem dX2_inner_0 : decode cX2_inner 0 = .ok (.iload_n 2, 1) := by decide +kernel
theorem dX2_inner_1 : decode cX2_inner 1 = .ok (.bipush 6, 2) := by decide +kernel
theorem dX2_inner_3 : decode cX2_inner 3 = .ok (.if_icmp .lt 14, 3) := by decide +kernel
theorem dX2_inner_6 : decode cX2_inner 6 = .ok (.aload_n 1, 1) := by decide +kernel
theorem dX2_inner_7 : decode cX2_inner 7 = .ok (.iconst 3, 1) := by decide +kernel
theorem dX2_inner_8 : decode cX2_inner 8 = .ok (.aload_n 1, 1) := by decide +kernel
theorem dX2_inner_9 : decode cX2_inner 9 = .ok (.getfield 45, 3) := by decide +kernel
theorem dX2_inner_12 : decode cX2_inner 12 = .ok (.invokevirtual 48, 3) := by decide +kernel
theorem dX2_inner_15 : decode cX2_inner 15 = .ok (.iconst 0, 1) := by decide +kernel
theorem dX2_inner_16 : decode cX2_inner 16 = .ok (.ireturn, 1) := by decide +kernel
theorem dX2_inner_17 : decode cX2_inner 17 = .ok (.aload_n 1, 1) := by decide +kernel
theorem dX2_inner_18 : decode cX2_inner 18 = .ok (.bipush 40, 2) := by decide +kernel
theorem dX2_inner_20 : decode cX2_inner 20 = .ok (.invokevirtual 59, 3) := by decide +kernel
theorem dX2_inner_23 : decode cX2_inner 23 = .ok (.aload_n 0, 1) := by decide +kernel
theorem dX2_inner_24 : decode cX2_inner 24 = .ok (.aload_n 1, 1) := by decide +kernel
theorem dX2_inner_25 : decode cX2_inner 25 = .ok (.iload_n 2, 1) := by decide +kernel
theorem dX2_inner_26 : decode cX2_inner 26 = .ok (.iconst 1, 1) := by decide +kernel
theorem dX2_inner_27 : decode cX2_inner 27 = .ok (.iadd, 1) := by decide +kernel
theorem dX2_inner_28 : decode cX2_inner 28 = .ok (.invokevirtual 35, 3) := by decide +kernel
theorem dX2_inner_31 : decode cX2_inner 31 = .ok (.istore_n 3, 1) := by decide +kernel
theorem dX2_inner_32 : decode cX2_inner 32 = .ok (.aload_n 1, 1) := by decide +kernel
theorem dX2_inner_33 : decode cX2_inner 33 = .ok (.bipush 41, 2) := by decide +kernel
theorem dX2_inner_35 : decode cX2_inner 35 = .ok (.invokevirtual 59, 3) := by decide +kernel
theorem dX2_inner_38 : decode cX2_inner 38 = .ok (.iload_n 3, 1) := by decide +kernel
theorem dX2_inner_39 : decode cX2_inner 39 = .ok (.ireturn, 1) := by decide +kernel
theorem dX2_pair_0 : decode cX2_pair 0 = .ok (.iload_n 2, 1) := by decide +kernel
theorem dX2_pair_1 : decode cX2_pair 1 = .ok (.bipush 6, 2) := by decide +kernel
theorem dX2_pair_3 : decode cX2_pair 3 = .ok (.if_icmp .lt 14, 3) := by decide +kernel
theorem dX2_pair_6 : decode cX2_pair 6 = .ok (.aload_n 1, 1) := by decide +kernel
theorem dX2_pair_7 : decode cX2_pair 7 = .ok (.iconst 3, 1) := by decide +kernel
theorem dX2_pair_8 : decode cX2_pair 8 = .ok (.aload_n 1, 1) := by decide +kernel
theorem dX2_pair_9 : decode cX2_pair 9 = .ok (.getfield 92, 3) := by decide +kernel
theorem dX2_pair_12 : decode cX2_pair 12 = .ok (.invokevirtual 48, 3) := by decide +kernel
theorem dX2_pair_15 : decode cX2_pair 15 = .ok (.iconst 0, 1) := by decide +kernel
theorem dX2_pair_16 : decode cX2_pair 16 = .ok (.ireturn, 1) := by decide +kernel
theorem dX2_pair_17 : decode cX2_pair 17 = .ok (.aload_n 1, 1) := by decide +kernel
theorem dX2_pair_18 : decode cX2_pair 18 = .ok (.bipush 91, 2) := by decide +kernel
theorem dX2_pair_20 : decode cX2_pair 20 = .ok (.invokevirtual 59, 3) := by decide +kernel
theorem dX2_pair_23 : decode cX2_pair 23 = .ok (.aload_n 0, 1) := by decide +kernel
theorem dX2_pair_24 : decode cX2_pair 24 = .ok (.aload_n 1, 1) := by decide +kernel
theorem dX2_pair_25 : decode cX2_pair 25 = .ok (.iload_n 2, 1) := by decide +kernel
theorem dX2_pair_26 : decode cX2_pair 26 = .ok (.iconst 1, 1) := by decide +kernel
theorem dX2_pair_27 : decode cX2_pair 27 = .ok (.iadd, 1) := by decide +kernel
theorem dX2_pair_28 : decode cX2_pair 28 = .ok (.invokevirtual 35, 3) := by decide +kernel
theorem dX2_pair_31 : decode cX2_pair 31 = .ok (.istore 4, 2) := by decide +kernel
theorem dX2_pair_33 : decode cX2_pair 33 = .ok (.aload_n 1, 1) := by decide +kernel
theorem dX2_pair_34 : decode cX2_pair 34 = .ok (.bipush 44, 2) := by decide +kernel
theorem dX2_pair_36 : decode cX2_pair 36 = .ok (.invokevirtual 59, 3) := by decide +kernel
theorem dX2_pair_39 : decode cX2_pair 39 = .ok (.aload_n 0, 1) := by decide +kernel
theorem dX2_pair_40 : decode cX2_pair 40 = .ok (.aload_n 1, 1) := by decide +kernel
theorem dX2_pair_41 : decode cX2_pair 41 = .ok (.iload_n 2, 1) := by decide +kernel
theorem dX2_pair_42 : decode cX2_pair 42 = .ok (.iconst 1, 1) := by decide +kernel
theorem dX2_pair_43 : decode cX2_pair 43 = .ok (.iadd, 1) := by decide +kernel
theorem dX2_pair_44 : decode cX2_pair 44 = .ok (.invokevirtual 35, 3) := by decide +kernel
theorem dX2_pair_47 : decode cX2_pair 47 = .ok (.istore 5, 2) := by decide +kernel
theorem dX2_pair_49 : decode cX2_pair 49 = .ok (.aload_n 1, 1) := by decide +kernel
theorem dX2_pair_50 : decode cX2_pair 50 = .ok (.bipush 93, 2) := by decide +kernel
theorem dX2_pair_52 : decode cX2_pair 52 = .ok (.invokevirtual 59, 3) := by decide +kernel
theorem dX2_pair_55 : decode cX2_pair 55 = .ok (.aload_n 0, 1) := by decide +kernel
theorem dX2_pair_56 : decode cX2_pair 56 = .ok (.iload_n 3, 1) := by decide +kernel
theorem dX2_pair_57 : decode cX2_pair 57 = .ok (.iload 4, 2) := by decide +kernel
theorem dX2_pair_59 : decode cX2_pair 59 = .ok (.iload 5, 2) := by decide +kernel
theorem dX2_pair_61 : decode cX2_pair 61 = .ok (.invokevirtual 31, 3) := by decide +kernel
theorem dX2_pair_64 : decode cX2_pair 64 = .ok (.ireturn, 1) := by decide +kernel
theorem dX2_factNamed_0 : decode cX2_factNamed 0 = .ok (.aload_n 0, 1) := by decide +kernel
theorem dX2_factNamed_1 : decode cX2_factNamed 1 = .ok (.ldc 95, 2) := by decide +kernel
theorem dX2_factNamed_3 : decode cX2_factNamed 3 = .ok (.invokevirtual 78, 3) := by decide +kernel
theorem dX2_factNamed_6 : decode cX2_factNamed 6 = .ok (.ifCond .eq 5, 3) := by decide +kernel
theorem dX2_factNamed_9 : decode cX2_factNamed 9 = .ok (.iconst 0, 1) := by decide +kernel
theorem dX2_factNamed_10 : decode cX2_factNamed 10 = .ok (.ireturn, 1) := by decide +kernel
theorem dX2_factNamed_11 : decode cX2_factNamed 11 = .ok (.aload_n 0, 1) := by decide +kernel
theorem dX2_factNamed_12 : decode cX2_factNamed 12 = .ok (.ldc 97, 2) := by decide +kernel
theorem dX2_factNamed_14 : decode cX2_factNamed 14 = .ok (.invokevirtual 78, 3) := by decide +kernel
theorem dX2_factNamed_17 : decode cX2_factNamed 17 = .ok (.ifCond .eq 5, 3) := by decide +kernel
theorem dX2_factNamed_20 : decode cX2_factNamed 20 = .ok (.iconst 1, 1) := by decide +kernel
theorem dX2_factNamed_21 : decode cX2_factNamed 21 = .ok (.ireturn, 1) := by decide +kernel
theorem dX2_factNamed_22 : decode cX2_factNamed 22 = .ok (.aload_n 0, 1) := by decide +kernel
theorem dX2_factNamed_23 : decode cX2_factNamed 23 = .ok (.ldc 99, 2) := by decide +kernel
theorem dX2_factNamed_25 : decode cX2_factNamed 25 = .ok (.invokevirtual 78, 3) := by decide +kernel
theorem dX2_factNamed_28 : decode cX2_factNamed 28 = .ok (.ifCond .eq 5, 3) := by decide +kernel
theorem dX2_factNamed_31 : decode cX2_factNamed 31 = .ok (.iconst 2, 1) := by decide +kernel
theorem dX2_factNamed_32 : decode cX2_factNamed 32 = .ok (.ireturn, 1) := by decide +kernel
theorem dX2_factNamed_33 : decode cX2_factNamed 33 = .ok (.aload_n 0, 1) := by decide +kernel
theorem dX2_factNamed_34 : decode cX2_factNamed 34 = .ok (.ldc 101, 2) := by decide +kernel
theorem dX2_factNamed_36 : decode cX2_factNamed 36 = .ok (.invokevirtual 78, 3) := by decide +kernel
theorem dX2_factNamed_39 : decode cX2_factNamed 39 = .ok (.ifCond .eq 5, 3) := by decide +kernel
theorem dX2_factNamed_42 : decode cX2_factNamed 42 = .ok (.iconst 3, 1) := by decide +kernel
theorem dX2_factNamed_43 : decode cX2_factNamed 43 = .ok (.ireturn, 1) := by decide +kernel
theorem dX2_factNamed_44 : decode cX2_factNamed 44 = .ok (.aload_n 0, 1) := by decide +kernel
theorem dX2_factNamed_45 : decode cX2_factNamed 45 = .ok (.ldc 103, 2) := by decide +kernel
theorem dX2_factNamed_47 : decode cX2_factNamed 47 = .ok (.invokevirtual 78, 3) := by decide +kernel
theorem dX2_factNamed_50 : decode cX2_factNamed 50 = .ok (.ifCond .eq 5, 3) := by decide +kernel
theorem dX2_factNamed_53 : decode cX2_factNamed 53 = .ok (.iconst 4, 1) := by decide +kernel
theorem dX2_factNamed_54 : decode cX2_factNamed 54 = .ok (.ireturn, 1) := by decide +kernel
theorem dX2_factNamed_55 : decode cX2_factNamed 55 = .ok (.aload_n 0, 1) := by decide +kernel
theorem dX2_factNamed_56 : decode cX2_factNamed 56 = .ok (.ldc 105, 2) := by decide +kernel
theorem dX2_factNamed_58 : decode cX2_factNamed 58 = .ok (.invokevirtual 78, 3) := by decide +kernel
theorem dX2_factNamed_61 : decode cX2_factNamed 61 = .ok (.ifCond .eq 5, 3) := by decide +kernel
theorem dX2_factNamed_64 : decode cX2_factNamed 64 = .ok (.iconst 5, 1) := by decide +kernel
theorem dX2_factNamed_65 : decode cX2_factNamed 65 = .ok (.ireturn, 1) := by decide +kernel
theorem dX2_factNamed_66 : decode cX2_factNamed 66 = .ok (.aload_n 0, 1) := by decide +kernel
theorem dX2_factNamed_67 : decode cX2_factNamed 67 = .ok (.ldc 107, 2) := by decide +kernel
theorem dX2_factNamed_69 : decode cX2_factNamed 69 = .ok (.invokevirtual 78, 3) := by decide +kernel
theorem dX2_factNamed_72 : decode cX2_factNamed 72 = .ok (.ifCond .eq 6, 3) := by decide +kernel
theorem dX2_factNamed_75 : decode cX2_factNamed 75 = .ok (.bipush 6, 2) := by decide +kernel
theorem dX2_factNamed_77 : decode cX2_factNamed 77 = .ok (.ireturn, 1) := by decide +kernel
theorem dX2_factNamed_78 : decode cX2_factNamed 78 = .ok (.aload_n 0, 1) := by decide +kernel
theorem dX2_factNamed_79 : decode cX2_factNamed 79 = .ok (.ldc 109, 2) := by decide +kernel
theorem dX2_factNamed_81 : decode cX2_factNamed 81 = .ok (.invokevirtual 78, 3) := by decide +kernel
theorem dX2_factNamed_84 : decode cX2_factNamed 84 = .ok (.ifCond .eq 8, 3) := by decide +kernel
theorem dX2_factNamed_87 : decode cX2_factNamed 87 = .ok (.bipush 7, 2) := by decide +kernel
theorem dX2_factNamed_89 : decode cX2_factNamed 89 = .ok (.goto 4, 3) := by decide +kernel
theorem dX2_factNamed_92 : decode cX2_factNamed 92 = .ok (.iconst (-1), 1) := by decide +kernel
theorem dX2_factNamed_93 : decode cX2_factNamed 93 = .ok (.ireturn, 1) := by decide +kernel
theorem dX2_weigh_0 : decode cX2_weigh 0 = .ok (.iconst 0, 1) := by decide +kernel
theorem dX2_weigh_1 : decode cX2_weigh 1 = .ok (.istore_n 1, 1) := by decide +kernel
theorem dX2_weigh_2 : decode cX2_weigh 2 = .ok (.iconst 0, 1) := by decide +kernel
theorem dX2_weigh_3 : decode cX2_weigh 3 = .ok (.istore_n 2, 1) := by decide +kernel
theorem dX2_weigh_4 : decode cX2_weigh 4 = .ok (.iload_n 2, 1) := by decide +kernel
theorem dX2_weigh_5 : decode cX2_weigh 5 = .ok (.aload_n 0, 1) := by decide +kernel
theorem dX2_weigh_6 : decode cX2_weigh 6 = .ok (.getfield 27, 3) := by decide +kernel
theorem dX2_weigh_9 : decode cX2_weigh 9 = .ok (.if_icmp .ge 82, 3) := by decide +kernel
theorem dX2_weigh_12 : decode cX2_weigh 12 = .ok (.aload_n 0, 1) := by decide +kernel
theorem dX2_weigh_13 : decode cX2_weigh 13 = .ok (.getfield 15, 3) := by decide +kernel
theorem dX2_weigh_16 : decode cX2_weigh 16 = .ok (.iload_n 2, 1) := by decide +kernel
theorem dX2_weigh_17 : decode cX2_weigh 17 = .ok (.iaload, 1) := by decide +kernel
theorem dX2_weigh_18 : decode cX2_weigh 18 = .ok (.istore_n 3, 1) := by decide +kernel
theorem dX2_weigh_19 : decode cX2_weigh 19 = .ok (.iload_n 3, 1) := by decide +kernel
theorem dX2_weigh_20 : decode cX2_weigh 20 = .ok (.bipush 8, 2) := by decide +kernel
theorem dX2_weigh_22 : decode cX2_weigh 22 = .ok (.if_icmp .ge 13, 3) := by decide +kernel
theorem dX2_weigh_25 : decode cX2_weigh 25 = .ok (.aload_n 0, 1) := by decide +kernel
theorem dX2_weigh_26 : decode cX2_weigh 26 = .ok (.getfield 11, 3) := by decide +kernel
theorem dX2_weigh_29 : decode cX2_weigh 29 = .ok (.iload_n 3, 1) := by decide +kernel
theorem dX2_weigh_30 : decode cX2_weigh 30 = .ok (.iaload, 1) := by decide +kernel
theorem dX2_weigh_31 : decode cX2_weigh 31 = .ok (.istore_n 1, 1) := by decide +kernel
theorem dX2_weigh_32 : decode cX2_weigh 32 = .ok (.goto 46, 3) := by decide +kernel
theorem dX2_weigh_35 : decode cX2_weigh 35 = .ok (.iload_n 3, 1) := by decide +kernel
theorem dX2_weigh_36 : decode cX2_weigh 36 = .ok (.bipush 8, 2) := by decide +kernel
theorem dX2_weigh_38 : decode cX2_weigh 38 = .ok (.if_icmp .ne 13, 3) := by decide +kernel
theorem dX2_weigh_41 : decode cX2_weigh 41 = .ok (.aload_n 0, 1) := by decide +kernel
theorem dX2_weigh_42 : decode cX2_weigh 42 = .ok (.getfield 18, 3) := by decide +kernel
theorem dX2_weigh_45 : decode cX2_weigh 45 = .ok (.iload_n 2, 1) := by decide +kernel
theorem dX2_weigh_46 : decode cX2_weigh 46 = .ok (.iaload, 1) := by decide +kernel
theorem dX2_weigh_47 : decode cX2_weigh 47 = .ok (.istore_n 1, 1) := by decide +kernel
theorem dX2_weigh_48 : decode cX2_weigh 48 = .ok (.goto 30, 3) := by decide +kernel
theorem dX2_weigh_51 : decode cX2_weigh 51 = .ok (.iload_n 3, 1) := by decide +kernel
theorem dX2_weigh_52 : decode cX2_weigh 52 = .ok (.aload_n 0, 1) := by decide +kernel
theorem dX2_weigh_53 : decode cX2_weigh 53 = .ok (.getfield 24, 3) := by decide +kernel
theorem dX2_weigh_56 : decode cX2_weigh 56 = .ok (.aload_n 0, 1) := by decide +kernel
theorem dX2_weigh_57 : decode cX2_weigh 57 = .ok (.getfield 18, 3) := by decide +kernel
theorem dX2_weigh_60 : decode cX2_weigh 60 = .ok (.iload_n 2, 1) := by decide +kernel
theorem dX2_weigh_61 : decode cX2_weigh 61 = .ok (.iaload, 1) := by decide +kernel
theorem dX2_weigh_62 : decode cX2_weigh 62 = .ok (.iaload, 1) := by decide +kernel
theorem dX2_weigh_63 : decode cX2_weigh 63 = .ok (.aload_n 0, 1) := by decide +kernel
theorem dX2_weigh_64 : decode cX2_weigh 64 = .ok (.getfield 24, 3) := by decide +kernel
theorem dX2_weigh_67 : decode cX2_weigh 67 = .ok (.aload_n 0, 1) := by decide +kernel
theorem dX2_weigh_68 : decode cX2_weigh 68 = .ok (.getfield 21, 3) := by decide +kernel
theorem dX2_weigh_71 : decode cX2_weigh 71 = .ok (.iload_n 2, 1) := by decide +kernel
theorem dX2_weigh_72 : decode cX2_weigh 72 = .ok (.iaload, 1) := by decide +kernel
theorem dX2_weigh_73 : decode cX2_weigh 73 = .ok (.iaload, 1) := by decide +kernel
theorem dX2_weigh_74 : decode cX2_weigh 74 = .ok (.invokestatic 111, 3) := by decide +kernel
theorem dX2_weigh_77 : decode cX2_weigh 77 = .ok (.istore_n 1, 1) := by decide +kernel
theorem dX2_weigh_78 : decode cX2_weigh 78 = .ok (.aload_n 0, 1) := by decide +kernel
theorem dX2_weigh_79 : decode cX2_weigh 79 = .ok (.getfield 24, 3) := by decide +kernel
theorem dX2_weigh_82 : decode cX2_weigh 82 = .ok (.iload_n 2, 1) := by decide +kernel
theorem dX2_weigh_83 : decode cX2_weigh 83 = .ok (.iload_n 1, 1) := by decide +kernel
theorem dX2_weigh_84 : decode cX2_weigh 84 = .ok (.iastore, 1) := by decide +kernel
theorem dX2_weigh_85 : decode cX2_weigh 85 = .ok (.iinc 2 1, 3) := by decide +kernel
theorem dX2_weigh_88 : decode cX2_weigh 88 = .ok (.goto (-84), 3) := by decide +kernel
theorem dX2_weigh_91 : decode cX2_weigh 91 = .ok (.iload_n 1, 1) := by decide +kernel
theorem dX2_weigh_92 : decode cX2_weigh 92 = .ok (.ifCond .ge 7, 3) := by decide +kernel
theorem dX2_weigh_95 : decode cX2_weigh 95 = .ok (.iconst 0, 1) := by decide +kernel
theorem dX2_weigh_96 : decode cX2_weigh 96 = .ok (.goto 15, 3) := by decide +kernel
theorem dX2_weigh_99 : decode cX2_weigh 99 = .ok (.iload_n 1, 1) := by decide +kernel
theorem dX2_weigh_100 : decode cX2_weigh 100 = .ok (.bipush 30, 2) := by decide +kernel
theorem dX2_weigh_102 : decode cX2_weigh 102 = .ok (.if_icmp .le 8, 3) := by decide +kernel
theorem dX2_weigh_105 : decode cX2_weigh 105 = .ok (.bipush 30, 2) := by decide +kernel
theorem dX2_weigh_107 : decode cX2_weigh 107 = .ok (.goto 4, 3) := by decide +kernel
theorem dX2_weigh_110 : decode cX2_weigh 110 = .ok (.iload_n 1, 1) := by decide +kernel
theorem dX2_weigh_111 : decode cX2_weigh 111 = .ok (.ireturn, 1) := by decide +kernel
theorem dX2_joined_0 : decode cX2_joined 0 = .ok (.iload_n 0, 1) := by decide +kernel
theorem dX2_joined_1 : decode cX2_joined 1 = .ok (.lookupswitch 106 #[(9, 95), (37, 83), (42, 67), (43, 59), (45, 63), (47, 71)], 59) := by decide +kernel
theorem dX2_joined_60 : decode cX2_joined 60 = .ok (.iload_n 1, 1) := by decide +kernel
theorem dX2_joined_61 : decode cX2_joined 61 = .ok (.iload_n 2, 1) := by decide +kernel
theorem dX2_joined_62 : decode cX2_joined 62 = .ok (.iadd, 1) := by decide +kernel
theorem dX2_joined_63 : decode cX2_joined 63 = .ok (.ireturn, 1) := by decide +kernel
theorem dX2_joined_64 : decode cX2_joined 64 = .ok (.iload_n 1, 1) := by decide +kernel
theorem dX2_joined_65 : decode cX2_joined 65 = .ok (.iload_n 2, 1) := by decide +kernel
theorem dX2_joined_66 : decode cX2_joined 66 = .ok (.isub, 1) := by decide +kernel
theorem dX2_joined_67 : decode cX2_joined 67 = .ok (.ireturn, 1) := by decide +kernel
theorem dX2_joined_68 : decode cX2_joined 68 = .ok (.iload_n 1, 1) := by decide +kernel
theorem dX2_joined_69 : decode cX2_joined 69 = .ok (.iload_n 2, 1) := by decide +kernel
theorem dX2_joined_70 : decode cX2_joined 70 = .ok (.imul, 1) := by decide +kernel
theorem dX2_joined_71 : decode cX2_joined 71 = .ok (.ireturn, 1) := by decide +kernel
theorem dX2_joined_72 : decode cX2_joined 72 = .ok (.iload_n 2, 1) := by decide +kernel
theorem dX2_joined_73 : decode cX2_joined 73 = .ok (.ifCond .ne 7, 3) := by decide +kernel
theorem dX2_joined_76 : decode cX2_joined 76 = .ok (.iconst 0, 1) := by decide +kernel
theorem dX2_joined_77 : decode cX2_joined 77 = .ok (.goto 6, 3) := by decide +kernel
theorem dX2_joined_80 : decode cX2_joined 80 = .ok (.iload_n 1, 1) := by decide +kernel
theorem dX2_joined_81 : decode cX2_joined 81 = .ok (.iload_n 2, 1) := by decide +kernel
theorem dX2_joined_82 : decode cX2_joined 82 = .ok (.idiv, 1) := by decide +kernel
theorem dX2_joined_83 : decode cX2_joined 83 = .ok (.ireturn, 1) := by decide +kernel
theorem dX2_joined_84 : decode cX2_joined 84 = .ok (.iload_n 2, 1) := by decide +kernel
theorem dX2_joined_85 : decode cX2_joined 85 = .ok (.ifCond .ne 7, 3) := by decide +kernel
theorem dX2_joined_88 : decode cX2_joined 88 = .ok (.iconst 0, 1) := by decide +kernel
theorem dX2_joined_89 : decode cX2_joined 89 = .ok (.goto 6, 3) := by decide +kernel
theorem dX2_joined_92 : decode cX2_joined 92 = .ok (.iload_n 1, 1) := by decide +kernel
theorem dX2_joined_93 : decode cX2_joined 93 = .ok (.iload_n 2, 1) := by decide +kernel
theorem dX2_joined_94 : decode cX2_joined 94 = .ok (.irem, 1) := by decide +kernel
theorem dX2_joined_95 : decode cX2_joined 95 = .ok (.ireturn, 1) := by decide +kernel
theorem dX2_joined_96 : decode cX2_joined 96 = .ok (.iload_n 1, 1) := by decide +kernel
theorem dX2_joined_97 : decode cX2_joined 97 = .ok (.iload_n 2, 1) := by decide +kernel
theorem dX2_joined_98 : decode cX2_joined 98 = .ok (.if_icmp .ge 7, 3) := by decide +kernel
theorem dX2_joined_101 : decode cX2_joined 101 = .ok (.iload_n 1, 1) := by decide +kernel
theorem dX2_joined_102 : decode cX2_joined 102 = .ok (.goto 4, 3) := by decide +kernel
theorem dX2_joined_105 : decode cX2_joined 105 = .ok (.iload_n 2, 1) := by decide +kernel
theorem dX2_joined_106 : decode cX2_joined 106 = .ok (.ireturn, 1) := by decide +kernel
theorem dX2_joined_107 : decode cX2_joined 107 = .ok (.iload_n 1, 1) := by decide +kernel
theorem dX2_joined_108 : decode cX2_joined 108 = .ok (.iload_n 2, 1) := by decide +kernel
theorem dX2_joined_109 : decode cX2_joined 109 = .ok (.if_icmp .le 7, 3) := by decide +kernel
theorem dX2_joined_112 : decode cX2_joined 112 = .ok (.iload_n 1, 1) := by decide +kernel
theorem dX2_joined_113 : decode cX2_joined 113 = .ok (.goto 4, 3) := by decide +kernel
theorem dX2_joined_116 : decode cX2_joined 116 = .ok (.iload_n 2, 1) := by decide +kernel
theorem dX2_joined_117 : decode cX2_joined 117 = .ok (.ireturn, 1) := by decide +kernel
theorem dX3_init_0 : decode cX3_init 0 = .ok (.aload_n 0, 1) := by decide +kernel
theorem dX3_init_1 : decode cX3_init 1 = .ok (.invokespecial 3, 3) := by decide +kernel
theorem dX3_init_4 : decode cX3_init 4 = .ok (.aload_n 0, 1) := by decide +kernel
theorem dX3_init_5 : decode cX3_init 5 = .ok (.new 9, 3) := by decide +kernel
theorem dX3_init_8 : decode cX3_init 8 = .ok (.dup, 1) := by decide +kernel
theorem dX3_init_9 : decode cX3_init 9 = .ok (.invokespecial 11, 3) := by decide +kernel
theorem dX3_init_12 : decode cX3_init 12 = .ok (.putfield 12, 3) := by decide +kernel
theorem dX3_init_15 : decode cX3_init 15 = .ok (.aload_n 0, 1) := by decide +kernel
theorem dX3_init_16 : decode cX3_init 16 = .ok (.bipush 16, 2) := by decide +kernel
theorem dX3_init_18 : decode cX3_init 18 = .ok (.anewarray 9, 3) := by decide +kernel
theorem dX3_init_21 : decode cX3_init 21 = .ok (.putfield 18, 3) := by decide +kernel
theorem dX3_init_24 : decode cX3_init 24 = .ok (.iconst 0, 1) := by decide +kernel
theorem dX3_init_25 : decode cX3_init 25 = .ok (.istore_n 1, 1) := by decide +kernel
theorem dX3_init_26 : decode cX3_init 26 = .ok (.iload_n 1, 1) := by decide +kernel
theorem dX3_init_27 : decode cX3_init 27 = .ok (.bipush 16, 2) := by decide +kernel
theorem dX3_init_29 : decode cX3_init 29 = .ok (.if_icmp .ge 22, 3) := by decide +kernel
theorem dX3_init_32 : decode cX3_init 32 = .ok (.aload_n 0, 1) := by decide +kernel
theorem dX3_init_33 : decode cX3_init 33 = .ok (.getfield 18, 3) := by decide +kernel
theorem dX3_init_36 : decode cX3_init 36 = .ok (.iload_n 1, 1) := by decide +kernel
theorem dX3_init_37 : decode cX3_init 37 = .ok (.new 9, 3) := by decide +kernel
theorem dX3_init_40 : decode cX3_init 40 = .ok (.dup, 1) := by decide +kernel
theorem dX3_init_41 : decode cX3_init 41 = .ok (.invokespecial 11, 3) := by decide +kernel
theorem dX3_init_44 : decode cX3_init 44 = .ok (.aastore, 1) := by decide +kernel
theorem dX3_init_45 : decode cX3_init 45 = .ok (.iinc 1 1, 3) := by decide +kernel
theorem dX3_init_48 : decode cX3_init 48 = .ok (.goto (-22), 3) := by decide +kernel
theorem dX3_init_51 : decode cX3_init 51 = .ok (.return_, 1) := by decide +kernel
theorem dX3_begin_0 : decode cX3_begin 0 = .ok (.aload_n 0, 1) := by decide +kernel
theorem dX3_begin_1 : decode cX3_begin 1 = .ok (.iconst 0, 1) := by decide +kernel
theorem dX3_begin_2 : decode cX3_begin 2 = .ok (.putfield 22, 3) := by decide +kernel
theorem dX3_begin_5 : decode cX3_begin 5 = .ok (.aload_n 0, 1) := by decide +kernel
theorem dX3_begin_6 : decode cX3_begin 6 = .ok (.getfield 12, 3) := by decide +kernel
theorem dX3_begin_9 : decode cX3_begin 9 = .ok (.aload_n 1, 1) := by decide +kernel
theorem dX3_begin_10 : decode cX3_begin 10 = .ok (.invokevirtual 26, 3) := by decide +kernel
theorem dX3_begin_13 : decode cX3_begin 13 = .ok (.return_, 1) := by decide +kernel
theorem dX3_keep_0 : decode cX3_keep 0 = .ok (.aload_n 0, 1) := by decide +kernel
theorem dX3_keep_1 : decode cX3_keep 1 = .ok (.getfield 22, 3) := by decide +kernel
theorem dX3_keep_4 : decode cX3_keep 4 = .ok (.bipush 16, 2) := by decide +kernel
theorem dX3_keep_6 : decode cX3_keep 6 = .ok (.if_icmp .ge 29, 3) := by decide +kernel
theorem dX3_keep_9 : decode cX3_keep 9 = .ok (.aload_n 0, 1) := by decide +kernel
theorem dX3_keep_10 : decode cX3_keep 10 = .ok (.getfield 18, 3) := by decide +kernel
theorem dX3_keep_13 : decode cX3_keep 13 = .ok (.aload_n 0, 1) := by decide +kernel
theorem dX3_keep_14 : decode cX3_keep 14 = .ok (.getfield 22, 3) := by decide +kernel
theorem dX3_keep_17 : decode cX3_keep 17 = .ok (.aaload, 1) := by decide +kernel
theorem dX3_keep_18 : decode cX3_keep 18 = .ok (.aload_n 0, 1) := by decide +kernel
theorem dX3_keep_19 : decode cX3_keep 19 = .ok (.getfield 12, 3) := by decide +kernel
theorem dX3_keep_22 : decode cX3_keep 22 = .ok (.invokevirtual 30, 3) := by decide +kernel
theorem dX3_keep_25 : decode cX3_keep 25 = .ok (.aload_n 0, 1) := by decide +kernel
theorem dX3_keep_26 : decode cX3_keep 26 = .ok (.dup, 1) := by decide +kernel
theorem dX3_keep_27 : decode cX3_keep 27 = .ok (.getfield 22, 3) := by decide +kernel
theorem dX3_keep_30 : decode cX3_keep 30 = .ok (.iconst 1, 1) := by decide +kernel
theorem dX3_keep_31 : decode cX3_keep 31 = .ok (.iadd, 1) := by decide +kernel
theorem dX3_keep_32 : decode cX3_keep 32 = .ok (.putfield 22, 3) := by decide +kernel
theorem dX3_keep_35 : decode cX3_keep 35 = .ok (.return_, 1) := by decide +kernel
theorem dX3_drop_0 : decode cX3_drop 0 = .ok (.aload_n 0, 1) := by decide +kernel
theorem dX3_drop_1 : decode cX3_drop 1 = .ok (.getfield 22, 3) := by decide +kernel
theorem dX3_drop_4 : decode cX3_drop 4 = .ok (.ifCond .le 29, 3) := by decide +kernel
theorem dX3_drop_7 : decode cX3_drop 7 = .ok (.aload_n 0, 1) := by decide +kernel
theorem dX3_drop_8 : decode cX3_drop 8 = .ok (.dup, 1) := by decide +kernel
theorem dX3_drop_9 : decode cX3_drop 9 = .ok (.getfield 22, 3) := by decide +kernel
theorem dX3_drop_12 : decode cX3_drop 12 = .ok (.iconst 1, 1) := by decide +kernel
theorem dX3_drop_13 : decode cX3_drop 13 = .ok (.isub, 1) := by decide +kernel
theorem dX3_drop_14 : decode cX3_drop 14 = .ok (.putfield 22, 3) := by decide +kernel
theorem dX3_drop_17 : decode cX3_drop 17 = .ok (.aload_n 0, 1) := by decide +kernel
theorem dX3_drop_18 : decode cX3_drop 18 = .ok (.getfield 12, 3) := by decide +kernel
theorem dX3_drop_21 : decode cX3_drop 21 = .ok (.aload_n 0, 1) := by decide +kernel
theorem dX3_drop_22 : decode cX3_drop 22 = .ok (.getfield 18, 3) := by decide +kernel
theorem dX3_drop_25 : decode cX3_drop 25 = .ok (.aload_n 0, 1) := by decide +kernel
theorem dX3_drop_26 : decode cX3_drop 26 = .ok (.getfield 22, 3) := by decide +kernel
theorem dX3_drop_29 : decode cX3_drop 29 = .ok (.aaload, 1) := by decide +kernel
theorem dX3_drop_30 : decode cX3_drop 30 = .ok (.invokevirtual 30, 3) := by decide +kernel
theorem dX3_drop_33 : decode cX3_drop 33 = .ok (.return_, 1) := by decide +kernel
theorem dX3_become_0 : decode cX3_become 0 = .ok (.aload_n 0, 1) := by decide +kernel
theorem dX3_become_1 : decode cX3_become 1 = .ok (.aload_n 1, 1) := by decide +kernel
theorem dX3_become_2 : decode cX3_become 2 = .ok (.getfield 22, 3) := by decide +kernel
theorem dX3_become_5 : decode cX3_become 5 = .ok (.putfield 22, 3) := by decide +kernel
theorem dX3_become_8 : decode cX3_become 8 = .ok (.aload_n 0, 1) := by decide +kernel
theorem dX3_become_9 : decode cX3_become 9 = .ok (.getfield 12, 3) := by decide +kernel
theorem dX3_become_12 : decode cX3_become 12 = .ok (.aload_n 1, 1) := by decide +kernel
theorem dX3_become_13 : decode cX3_become 13 = .ok (.getfield 12, 3) := by decide +kernel
theorem dX3_become_16 : decode cX3_become 16 = .ok (.invokevirtual 30, 3) := by decide +kernel
theorem dX3_become_19 : decode cX3_become 19 = .ok (.iconst 0, 1) := by decide +kernel
theorem dX3_become_20 : decode cX3_become 20 = .ok (.istore_n 2, 1) := by decide +kernel
theorem dX3_become_21 : decode cX3_become 21 = .ok (.iload_n 2, 1) := by decide +kernel
theorem dX3_become_22 : decode cX3_become 22 = .ok (.aload_n 0, 1) := by decide +kernel
theorem dX3_become_23 : decode cX3_become 23 = .ok (.getfield 22, 3) := by decide +kernel
theorem dX3_become_26 : decode cX3_become 26 = .ok (.if_icmp .ge 24, 3) := by decide +kernel
theorem dX3_become_29 : decode cX3_become 29 = .ok (.aload_n 0, 1) := by decide +kernel
theorem dX3_become_30 : decode cX3_become 30 = .ok (.getfield 18, 3) := by decide +kernel
theorem dX3_become_33 : decode cX3_become 33 = .ok (.iload_n 2, 1) := by decide +kernel
theorem dX3_become_34 : decode cX3_become 34 = .ok (.aaload, 1) := by decide +kernel
theorem dX3_become_35 : decode cX3_become 35 = .ok (.aload_n 1, 1) := by decide +kernel
theorem dX3_become_36 : decode cX3_become 36 = .ok (.getfield 18, 3) := by decide +kernel
theorem dX3_become_39 : decode cX3_become 39 = .ok (.iload_n 2, 1) := by decide +kernel
theorem dX3_become_40 : decode cX3_become 40 = .ok (.aaload, 1) := by decide +kernel
theorem dX3_become_41 : decode cX3_become 41 = .ok (.invokevirtual 30, 3) := by decide +kernel
theorem dX3_become_44 : decode cX3_become 44 = .ok (.iinc 2 1, 3) := by decide +kernel
theorem dX3_become_47 : decode cX3_become 47 = .ok (.goto (-26), 3) := by decide +kernel
theorem dX3_become_50 : decode cX3_become 50 = .ok (.return_, 1) := by decide +kernel
theorem dX4_init_0 : decode cX4_init 0 = .ok (.aload_n 0, 1) := by decide +kernel
theorem dX4_init_1 : decode cX4_init 1 = .ok (.invokespecial 3, 3) := by decide +kernel
theorem dX4_init_4 : decode cX4_init 4 = .ok (.aload_n 0, 1) := by decide +kernel
theorem dX4_init_5 : decode cX4_init 5 = .ok (.sipush 150, 3) := by decide +kernel
theorem dX4_init_8 : decode cX4_init 8 = .ok (.newarray .int, 2) := by decide +kernel
theorem dX4_init_10 : decode cX4_init 10 = .ok (.putfield 9, 3) := by decide +kernel
theorem dX4_init_13 : decode cX4_init 13 = .ok (.aload_n 0, 1) := by decide +kernel
theorem dX4_init_14 : decode cX4_init 14 = .ok (.sipush 150, 3) := by decide +kernel
theorem dX4_init_17 : decode cX4_init 17 = .ok (.newarray .int, 2) := by decide +kernel
theorem dX4_init_19 : decode cX4_init 19 = .ok (.putfield 15, 3) := by decide +kernel
theorem dX4_init_22 : decode cX4_init 22 = .ok (.aload_n 0, 1) := by decide +kernel
theorem dX4_init_23 : decode cX4_init 23 = .ok (.sipush 150, 3) := by decide +kernel
theorem dX4_init_26 : decode cX4_init 26 = .ok (.newarray .int, 2) := by decide +kernel
theorem dX4_init_28 : decode cX4_init 28 = .ok (.putfield 18, 3) := by decide +kernel
theorem dX4_init_31 : decode cX4_init 31 = .ok (.aload_n 0, 1) := by decide +kernel
theorem dX4_init_32 : decode cX4_init 32 = .ok (.sipush 150, 3) := by decide +kernel
theorem dX4_init_35 : decode cX4_init 35 = .ok (.newarray .int, 2) := by decide +kernel
theorem dX4_init_37 : decode cX4_init 37 = .ok (.putfield 21, 3) := by decide +kernel
theorem dX4_init_40 : decode cX4_init 40 = .ok (.return_, 1) := by decide +kernel
theorem dX4_read_0 : decode cX4_read 0 = .ok (.aload_n 0, 1) := by decide +kernel
theorem dX4_read_1 : decode cX4_read 1 = .ok (.iconst 0, 1) := by decide +kernel
theorem dX4_read_2 : decode cX4_read 2 = .ok (.putfield 24, 3) := by decide +kernel
theorem dX4_read_5 : decode cX4_read 5 = .ok (.aload_n 0, 1) := by decide +kernel
theorem dX4_read_6 : decode cX4_read 6 = .ok (.iconst 0, 1) := by decide +kernel
theorem dX4_read_7 : decode cX4_read 7 = .ok (.putfield 28, 3) := by decide +kernel
theorem dX4_read_10 : decode cX4_read 10 = .ok (.aload_n 0, 1) := by decide +kernel
theorem dX4_read_11 : decode cX4_read 11 = .ok (.iconst 0, 1) := by decide +kernel
theorem dX4_read_12 : decode cX4_read 12 = .ok (.putfield 31, 3) := by decide +kernel
theorem dX4_read_15 : decode cX4_read 15 = .ok (.aload_n 0, 1) := by decide +kernel
theorem dX4_read_16 : decode cX4_read 16 = .ok (.iconst 0, 1) := by decide +kernel
theorem dX4_read_17 : decode cX4_read 17 = .ok (.putfield 34, 3) := by decide +kernel
theorem dX4_read_20 : decode cX4_read 20 = .ok (.aload_n 0, 1) := by decide +kernel
theorem dX4_read_21 : decode cX4_read 21 = .ok (.aload_n 1, 1) := by decide +kernel
theorem dX4_read_22 : decode cX4_read 22 = .ok (.aload_n 2, 1) := by decide +kernel
theorem dX4_read_23 : decode cX4_read 23 = .ok (.iconst 0, 1) := by decide +kernel
theorem dX4_read_24 : decode cX4_read 24 = .ok (.invokevirtual 37, 3) := by decide +kernel
theorem dX4_read_27 : decode cX4_read 27 = .ok (.aload_n 1, 1) := by decide +kernel
theorem dX4_read_28 : decode cX4_read 28 = .ok (.invokevirtual 41, 3) := by decide +kernel
theorem dX4_read_31 : decode cX4_read 31 = .ok (.ifCond .eq 12, 3) := by decide +kernel
theorem dX4_read_34 : decode cX4_read 34 = .ok (.aload_n 1, 1) := by decide +kernel
theorem dX4_read_35 : decode cX4_read 35 = .ok (.iconst 1, 1) := by decide +kernel
theorem dX4_read_36 : decode cX4_read 36 = .ok (.aload_n 1, 1) := by decide +kernel
theorem dX4_read_37 : decode cX4_read 37 = .ok (.getfield 47, 3) := by decide +kernel
theorem dX4_read_40 : decode cX4_read 40 = .ok (.invokevirtual 50, 3) := by decide +kernel
theorem dX4_read_43 : decode cX4_read 43 = .ok (.return_, 1) := by decide +kernel
theorem dX4_readSteps_0 : decode cX4_readSteps 0 = .ok (.iconst 0, 1) := by decide +kernel
theorem dX4_readSteps_1 : decode cX4_readSteps 1 = .ok (.istore 4, 2) := by decide +kernel
theorem dX4_readSteps_3 : decode cX4_readSteps 3 = .ok (.iload 4, 2) := by decide +kernel
theorem dX4_readSteps_5 : decode cX4_readSteps 5 = .ok (.sipush 150, 3) := by decide +kernel
theorem dX4_readSteps_8 : decode cX4_readSteps 8 = .ok (.if_icmp .ge 32, 3) := by decide +kernel
theorem dX4_readSteps_11 : decode cX4_readSteps 11 = .ok (.aload_n 1, 1) := by decide +kernel
theorem dX4_readSteps_12 : decode cX4_readSteps 12 = .ok (.invokevirtual 41, 3) := by decide +kernel
theorem dX4_readSteps_15 : decode cX4_readSteps 15 = .ok (.ifCond .eq 25, 3) := by decide +kernel
theorem dX4_readSteps_18 : decode cX4_readSteps 18 = .ok (.aload_n 1, 1) := by decide +kernel
theorem dX4_readSteps_19 : decode cX4_readSteps 19 = .ok (.invokevirtual 54, 3) := by decide +kernel
theorem dX4_readSteps_22 : decode cX4_readSteps 22 = .ok (.bipush 93, 2) := by decide +kernel
theorem dX4_readSteps_24 : decode cX4_readSteps 24 = .ok (.if_icmp .eq 16, 3) := by decide +kernel
theorem dX4_readSteps_27 : decode cX4_readSteps 27 = .ok (.aload_n 0, 1) := by decide +kernel
theorem dX4_readSteps_28 : decode cX4_readSteps 28 = .ok (.aload_n 1, 1) := by decide +kernel
theorem dX4_readSteps_29 : decode cX4_readSteps 29 = .ok (.aload_n 2, 1) := by decide +kernel
theorem dX4_readSteps_30 : decode cX4_readSteps 30 = .ok (.iload_n 3, 1) := by decide +kernel
theorem dX4_readSteps_31 : decode cX4_readSteps 31 = .ok (.invokevirtual 58, 3) := by decide +kernel
theorem dX4_readSteps_34 : decode cX4_readSteps 34 = .ok (.iinc 4 1, 3) := by decide +kernel
theorem dX4_readSteps_37 : decode cX4_readSteps 37 = .ok (.goto (-34), 3) := by decide +kernel
theorem dX4_readSteps_40 : decode cX4_readSteps 40 = .ok (.return_, 1) := by decide +kernel
theorem dX4_readStep_0 : decode cX4_readStep 0 = .ok (.aload_n 1, 1) := by decide +kernel
theorem dX4_readStep_1 : decode cX4_readStep 1 = .ok (.invokevirtual 61, 3) := by decide +kernel
theorem dX4_readStep_4 : decode cX4_readStep 4 = .ok (.aload_n 1, 1) := by decide +kernel
theorem dX4_readStep_5 : decode cX4_readStep 5 = .ok (.invokestatic 64, 3) := by decide +kernel
theorem dX4_readStep_8 : decode cX4_readStep 8 = .ok (.istore 4, 2) := by decide +kernel
theorem dX4_readStep_10 : decode cX4_readStep 10 = .ok (.iload 4, 2) := by decide +kernel
theorem dX4_readStep_12 : decode cX4_readStep 12 = .ok (.iconst (-1), 1) := by decide +kernel
theorem dX4_readStep_13 : decode cX4_readStep 13 = .ok (.if_icmp .eq 13, 3) := by decide +kernel
theorem dX4_readStep_16 : decode cX4_readStep 16 = .ok (.aload_n 0, 1) := by decide +kernel
theorem dX4_readStep_17 : decode cX4_readStep 17 = .ok (.getfield 24, 3) := by decide +kernel
theorem dX4_readStep_20 : decode cX4_readStep 20 = .ok (.sipush 150, 3) := by decide +kernel
theorem dX4_readStep_23 : decode cX4_readStep 23 = .ok (.if_icmp .lt 13, 3) := by decide +kernel
theorem dX4_readStep_26 : decode cX4_readStep 26 = .ok (.aload_n 1, 1) := by decide +kernel
theorem dX4_readStep_27 : decode cX4_readStep 27 = .ok (.iconst 1, 1) := by decide +kernel
theorem dX4_readStep_28 : decode cX4_readStep 28 = .ok (.aload_n 1, 1) := by decide +kernel
theorem dX4_readStep_29 : decode cX4_readStep 29 = .ok (.getfield 68, 3) := by decide +kernel
theorem dX4_readStep_32 : decode cX4_readStep 32 = .ok (.invokevirtual 50, 3) := by decide +kernel
theorem dX4_readStep_35 : decode cX4_readStep 35 = .ok (.return_, 1) := by decide +kernel
theorem dX4_readStep_36 : decode cX4_readStep 36 = .ok (.iload 4, 2) := by decide +kernel
theorem dX4_readStep_38 : decode cX4_readStep 38 = .ok (.bipush 7, 2) := by decide +kernel
theorem dX4_readStep_40 : decode cX4_readStep 40 = .ok (.if_icmp .ne 19, 3) := by decide +kernel
theorem dX4_readStep_43 : decode cX4_readStep 43 = .ok (.iload_n 3, 1) := by decide +kernel
theorem dX4_readStep_44 : decode cX4_readStep 44 = .ok (.bipush 6, 2) := by decide +kernel
theorem dX4_readStep_46 : decode cX4_readStep 46 = .ok (.if_icmp .lt 13, 3) := by decide +kernel
theorem dX4_readStep_49 : decode cX4_readStep 49 = .ok (.aload_n 1, 1) := by decide +kernel
theorem dX4_readStep_50 : decode cX4_readStep 50 = .ok (.iconst 3, 1) := by decide +kernel
theorem dX4_readStep_51 : decode cX4_readStep 51 = .ok (.aload_n 1, 1) := by decide +kernel
theorem dX4_readStep_52 : decode cX4_readStep 52 = .ok (.getfield 68, 3) := by decide +kernel
theorem dX4_readStep_55 : decode cX4_readStep 55 = .ok (.invokevirtual 50, 3) := by decide +kernel
theorem dX4_readStep_58 : decode cX4_readStep 58 = .ok (.return_, 1) := by decide +kernel
theorem dX4_readStep_59 : decode cX4_readStep 59 = .ok (.aload_n 0, 1) := by decide +kernel
theorem dX4_readStep_60 : decode cX4_readStep 60 = .ok (.getfield 24, 3) := by decide +kernel
theorem dX4_readStep_63 : decode cX4_readStep 63 = .ok (.istore 5, 2) := by decide +kernel
theorem dX4_readStep_65 : decode cX4_readStep 65 = .ok (.aload_n 0, 1) := by decide +kernel
theorem dX4_readStep_66 : decode cX4_readStep 66 = .ok (.dup, 1) := by decide +kernel
theorem dX4_readStep_67 : decode cX4_readStep 67 = .ok (.getfield 24, 3) := by decide +kernel
theorem dX4_readStep_70 : decode cX4_readStep 70 = .ok (.iconst 1, 1) := by decide +kernel
theorem dX4_readStep_71 : decode cX4_readStep 71 = .ok (.iadd, 1) := by decide +kernel
theorem dX4_readStep_72 : decode cX4_readStep 72 = .ok (.putfield 24, 3) := by decide +kernel
theorem dX4_readStep_75 : decode cX4_readStep 75 = .ok (.aload_n 0, 1) := by decide +kernel
theorem dX4_readStep_76 : decode cX4_readStep 76 = .ok (.getfield 9, 3) := by decide +kernel
theorem dX4_readStep_79 : decode cX4_readStep 79 = .ok (.iload 5, 2) := by decide +kernel
theorem dX4_readStep_81 : decode cX4_readStep 81 = .ok (.iload 4, 2) := by decide +kernel
theorem dX4_readStep_83 : decode cX4_readStep 83 = .ok (.iastore, 1) := by decide +kernel
theorem dX4_readStep_84 : decode cX4_readStep 84 = .ok (.aload_n 0, 1) := by decide +kernel
theorem dX4_readStep_85 : decode cX4_readStep 85 = .ok (.getfield 15, 3) := by decide +kernel
theorem dX4_readStep_88 : decode cX4_readStep 88 = .ok (.iload 5, 2) := by decide +kernel
theorem dX4_readStep_90 : decode cX4_readStep 90 = .ok (.iload 4, 2) := by decide +kernel
theorem dX4_readStep_92 : decode cX4_readStep 92 = .ok (.iconst 1, 1) := by decide +kernel
theorem dX4_readStep_93 : decode cX4_readStep 93 = .ok (.if_icmp .eq 16, 3) := by decide +kernel
theorem dX4_readStep_96 : decode cX4_readStep 96 = .ok (.iload 4, 2) := by decide +kernel
theorem dX4_readStep_98 : decode cX4_readStep 98 = .ok (.iconst 2, 1) := by decide +kernel
theorem dX4_readStep_99 : decode cX4_readStep 99 = .ok (.if_icmp .eq 10, 3) := by decide +kernel
theorem dX4_readStep_102 : decode cX4_readStep 102 = .ok (.iload 4, 2) := by decide +kernel
theorem dX4_readStep_104 : decode cX4_readStep 104 = .ok (.bipush 6, 2) := by decide +kernel
theorem dX4_readStep_106 : decode cX4_readStep 106 = .ok (.if_icmp .ne 7, 3) := by decide +kernel
theorem dX4_readStep_109 : decode cX4_readStep 109 = .ok (.iconst 0, 1) := by decide +kernel
theorem dX4_readStep_110 : decode cX4_readStep 110 = .ok (.goto 14, 3) := by decide +kernel
theorem dX4_readStep_113 : decode cX4_readStep 113 = .ok (.aload_n 1, 1) := by decide +kernel
theorem dX4_readStep_114 : decode cX4_readStep 114 = .ok (.iconst 0, 1) := by decide +kernel
theorem dX4_readStep_115 : decode cX4_readStep 115 = .ok (.iload 4, 2) := by decide +kernel
theorem dX4_readStep_117 : decode cX4_readStep 117 = .ok (.aload_n 2, 1) := by decide +kernel
theorem dX4_readStep_118 : decode cX4_readStep 118 = .ok (.invokestatic 71, 3) := by decide +kernel
theorem dX4_readStep_121 : decode cX4_readStep 121 = .ok (.invokevirtual 75, 3) := by decide +kernel
theorem dX4_readStep_124 : decode cX4_readStep 124 = .ok (.iastore, 1) := by decide +kernel
theorem dX4_readStep_125 : decode cX4_readStep 125 = .ok (.aload_n 0, 1) := by decide +kernel
theorem dX4_readStep_126 : decode cX4_readStep 126 = .ok (.getfield 18, 3) := by decide +kernel
theorem dX4_readStep_129 : decode cX4_readStep 129 = .ok (.iload 5, 2) := by decide +kernel
theorem dX4_readStep_131 : decode cX4_readStep 131 = .ok (.iload 4, 2) := by decide +kernel
theorem dX4_readStep_133 : decode cX4_readStep 133 = .ok (.iconst 5, 1) := by decide +kernel
theorem dX4_readStep_134 : decode cX4_readStep 134 = .ok (.if_icmp .ne 12, 3) := by decide +kernel
theorem dX4_readStep_137 : decode cX4_readStep 137 = .ok (.aload_n 1, 1) := by decide +kernel
theorem dX4_readStep_138 : decode cX4_readStep 138 = .ok (.iconst 0, 1) := by decide +kernel
theorem dX4_readStep_139 : decode cX4_readStep 139 = .ok (.iconst 5, 1) := by decide +kernel
theorem dX4_readStep_140 : decode cX4_readStep 140 = .ok (.invokevirtual 75, 3) := by decide +kernel
theorem dX4_readStep_143 : decode cX4_readStep 143 = .ok (.goto 4, 3) := by decide +kernel
theorem dX4_readStep_146 : decode cX4_readStep 146 = .ok (.iconst 0, 1) := by decide +kernel
theorem dX4_readStep_147 : decode cX4_readStep 147 = .ok (.iastore, 1) := by decide +kernel
theorem dX4_readStep_148 : decode cX4_readStep 148 = .ok (.iload 4, 2) := by decide +kernel
theorem dX4_readStep_150 : decode cX4_readStep 150 = .ok (.bipush 7, 2) := by decide +kernel
theorem dX4_readStep_152 : decode cX4_readStep 152 = .ok (.if_icmp .ne 24, 3) := by decide +kernel
theorem dX4_readStep_155 : decode cX4_readStep 155 = .ok (.aload_n 1, 1) := by decide +kernel
theorem dX4_readStep_156 : decode cX4_readStep 156 = .ok (.bipush 91, 2) := by decide +kernel
theorem dX4_readStep_158 : decode cX4_readStep 158 = .ok (.invokevirtual 79, 3) := by decide +kernel
theorem dX4_readStep_161 : decode cX4_readStep 161 = .ok (.aload_n 0, 1) := by decide +kernel
theorem dX4_readStep_162 : decode cX4_readStep 162 = .ok (.aload_n 1, 1) := by decide +kernel
theorem dX4_readStep_163 : decode cX4_readStep 163 = .ok (.aload_n 2, 1) := by decide +kernel
theorem dX4_readStep_164 : decode cX4_readStep 164 = .ok (.iload_n 3, 1) := by decide +kernel
theorem dX4_readStep_165 : decode cX4_readStep 165 = .ok (.iconst 1, 1) := by decide +kernel
theorem dX4_readStep_166 : decode cX4_readStep 166 = .ok (.iadd, 1) := by decide +kernel
theorem dX4_readStep_167 : decode cX4_readStep 167 = .ok (.invokevirtual 37, 3) := by decide +kernel
theorem dX4_readStep_170 : decode cX4_readStep 170 = .ok (.aload_n 1, 1) := by decide +kernel
theorem dX4_readStep_171 : decode cX4_readStep 171 = .ok (.bipush 93, 2) := by decide +kernel
theorem dX4_readStep_173 : decode cX4_readStep 173 = .ok (.invokevirtual 79, 3) := by decide +kernel
theorem dX4_readStep_176 : decode cX4_readStep 176 = .ok (.aload_n 0, 1) := by decide +kernel
theorem dX4_readStep_177 : decode cX4_readStep 177 = .ok (.getfield 21, 3) := by decide +kernel
theorem dX4_readStep_180 : decode cX4_readStep 180 = .ok (.iload 5, 2) := by decide +kernel
theorem dX4_readStep_182 : decode cX4_readStep 182 = .ok (.aload_n 0, 1) := by decide +kernel
theorem dX4_readStep_183 : decode cX4_readStep 183 = .ok (.getfield 24, 3) := by decide +kernel
theorem dX4_readStep_186 : decode cX4_readStep 186 = .ok (.iastore, 1) := by decide +kernel
theorem dX4_readStep_187 : decode cX4_readStep 187 = .ok (.aload_n 1, 1) := by decide +kernel
theorem dX4_readStep_188 : decode cX4_readStep 188 = .ok (.bipush 59, 2) := by decide +kernel
theorem dX4_readStep_190 : decode cX4_readStep 190 = .ok (.invokevirtual 79, 3) := by decide +kernel
theorem dX4_readStep_193 : decode cX4_readStep 193 = .ok (.return_, 1) := by decide +kernel
theorem dX4_stepNamed_0 : decode cX4_stepNamed 0 = .ok (.aload_n 0, 1) := by decide +kernel
theorem dX4_stepNamed_1 : decode cX4_stepNamed 1 = .ok (.ldc 83, 2) := by decide +kernel
theorem dX4_stepNamed_3 : decode cX4_stepNamed 3 = .ok (.invokevirtual 85, 3) := by decide +kernel
theorem dX4_stepNamed_6 : decode cX4_stepNamed 6 = .ok (.ifCond .eq 5, 3) := by decide +kernel
theorem dX4_stepNamed_9 : decode cX4_stepNamed 9 = .ok (.iconst 0, 1) := by decide +kernel
theorem dX4_stepNamed_10 : decode cX4_stepNamed 10 = .ok (.ireturn, 1) := by decide +kernel
theorem dX4_stepNamed_11 : decode cX4_stepNamed 11 = .ok (.aload_n 0, 1) := by decide +kernel
theorem dX4_stepNamed_12 : decode cX4_stepNamed 12 = .ok (.ldc 89, 2) := by decide +kernel
theorem dX4_stepNamed_14 : decode cX4_stepNamed 14 = .ok (.invokevirtual 85, 3) := by decide +kernel
theorem dX4_stepNamed_17 : decode cX4_stepNamed 17 = .ok (.ifCond .eq 5, 3) := by decide +kernel
theorem dX4_stepNamed_20 : decode cX4_stepNamed 20 = .ok (.iconst 1, 1) := by decide +kernel
theorem dX4_stepNamed_21 : decode cX4_stepNamed 21 = .ok (.ireturn, 1) := by decide +kernel
theorem dX4_stepNamed_22 : decode cX4_stepNamed 22 = .ok (.aload_n 0, 1) := by decide +kernel
theorem dX4_stepNamed_23 : decode cX4_stepNamed 23 = .ok (.ldc 91, 2) := by decide +kernel
theorem dX4_stepNamed_25 : decode cX4_stepNamed 25 = .ok (.invokevirtual 85, 3) := by decide +kernel
theorem dX4_stepNamed_28 : decode cX4_stepNamed 28 = .ok (.ifCond .eq 5, 3) := by decide +kernel
theorem dX4_stepNamed_31 : decode cX4_stepNamed 31 = .ok (.iconst 2, 1) := by decide +kernel
theorem dX4_stepNamed_32 : decode cX4_stepNamed 32 = .ok (.ireturn, 1) := by decide +kernel
theorem dX4_stepNamed_33 : decode cX4_stepNamed 33 = .ok (.aload_n 0, 1) := by decide +kernel
theorem dX4_stepNamed_34 : decode cX4_stepNamed 34 = .ok (.ldc 93, 2) := by decide +kernel
theorem dX4_stepNamed_36 : decode cX4_stepNamed 36 = .ok (.invokevirtual 85, 3) := by decide +kernel
theorem dX4_stepNamed_39 : decode cX4_stepNamed 39 = .ok (.ifCond .eq 5, 3) := by decide +kernel
theorem dX4_stepNamed_42 : decode cX4_stepNamed 42 = .ok (.iconst 3, 1) := by decide +kernel
theorem dX4_stepNamed_43 : decode cX4_stepNamed 43 = .ok (.ireturn, 1) := by decide +kernel
theorem dX4_stepNamed_44 : decode cX4_stepNamed 44 = .ok (.aload_n 0, 1) := by decide +kernel
theorem dX4_stepNamed_45 : decode cX4_stepNamed 45 = .ok (.ldc 95, 2) := by decide +kernel
theorem dX4_stepNamed_47 : decode cX4_stepNamed 47 = .ok (.invokevirtual 85, 3) := by decide +kernel
theorem dX4_stepNamed_50 : decode cX4_stepNamed 50 = .ok (.ifCond .eq 5, 3) := by decide +kernel
theorem dX4_stepNamed_53 : decode cX4_stepNamed 53 = .ok (.iconst 4, 1) := by decide +kernel
theorem dX4_stepNamed_54 : decode cX4_stepNamed 54 = .ok (.ireturn, 1) := by decide +kernel
theorem dX4_stepNamed_55 : decode cX4_stepNamed 55 = .ok (.aload_n 0, 1) := by decide +kernel
theorem dX4_stepNamed_56 : decode cX4_stepNamed 56 = .ok (.ldc 97, 2) := by decide +kernel
theorem dX4_stepNamed_58 : decode cX4_stepNamed 58 = .ok (.invokevirtual 85, 3) := by decide +kernel
theorem dX4_stepNamed_61 : decode cX4_stepNamed 61 = .ok (.ifCond .eq 5, 3) := by decide +kernel
theorem dX4_stepNamed_64 : decode cX4_stepNamed 64 = .ok (.iconst 5, 1) := by decide +kernel
theorem dX4_stepNamed_65 : decode cX4_stepNamed 65 = .ok (.ireturn, 1) := by decide +kernel
theorem dX4_stepNamed_66 : decode cX4_stepNamed 66 = .ok (.aload_n 0, 1) := by decide +kernel
theorem dX4_stepNamed_67 : decode cX4_stepNamed 67 = .ok (.ldc 98, 2) := by decide +kernel
theorem dX4_stepNamed_69 : decode cX4_stepNamed 69 = .ok (.invokevirtual 85, 3) := by decide +kernel
theorem dX4_stepNamed_72 : decode cX4_stepNamed 72 = .ok (.ifCond .eq 6, 3) := by decide +kernel
theorem dX4_stepNamed_75 : decode cX4_stepNamed 75 = .ok (.bipush 6, 2) := by decide +kernel
theorem dX4_stepNamed_77 : decode cX4_stepNamed 77 = .ok (.ireturn, 1) := by decide +kernel
theorem dX4_stepNamed_78 : decode cX4_stepNamed 78 = .ok (.aload_n 0, 1) := by decide +kernel
theorem dX4_stepNamed_79 : decode cX4_stepNamed 79 = .ok (.ldc 100, 2) := by decide +kernel
theorem dX4_stepNamed_81 : decode cX4_stepNamed 81 = .ok (.invokevirtual 85, 3) := by decide +kernel
theorem dX4_stepNamed_84 : decode cX4_stepNamed 84 = .ok (.ifCond .eq 8, 3) := by decide +kernel
theorem dX4_stepNamed_87 : decode cX4_stepNamed 87 = .ok (.bipush 7, 2) := by decide +kernel
theorem dX4_stepNamed_89 : decode cX4_stepNamed 89 = .ok (.goto 4, 3) := by decide +kernel
theorem dX4_stepNamed_92 : decode cX4_stepNamed 92 = .ok (.iconst (-1), 1) := by decide +kernel
theorem dX4_stepNamed_93 : decode cX4_stepNamed 93 = .ok (.ireturn, 1) := by decide +kernel
theorem dX4_mostOf_0 : decode cX4_mostOf 0 = .ok (.iload_n 0, 1) := by decide +kernel
theorem dX4_mostOf_1 : decode cX4_mostOf 1 = .ok (.bipush 7, 2) := by decide +kernel
theorem dX4_mostOf_3 : decode cX4_mostOf 3 = .ok (.if_icmp .ne 6, 3) := by decide +kernel
theorem dX4_mostOf_6 : decode cX4_mostOf 6 = .ok (.bipush 60, 2) := by decide +kernel
theorem dX4_mostOf_8 : decode cX4_mostOf 8 = .ok (.ireturn, 1) := by decide +kernel
theorem dX4_mostOf_9 : decode cX4_mostOf 9 = .ok (.iload_n 0, 1) := by decide +kernel
theorem dX4_mostOf_10 : decode cX4_mostOf 10 = .ok (.ifCond .eq 8, 3) := by decide +kernel
theorem dX4_mostOf_13 : decode cX4_mostOf 13 = .ok (.iload_n 0, 1) := by decide +kernel
theorem dX4_mostOf_14 : decode cX4_mostOf 14 = .ok (.iconst 5, 1) := by decide +kernel
theorem dX4_mostOf_15 : decode cX4_mostOf 15 = .ok (.if_icmp .ne 12, 3) := by decide +kernel
theorem dX4_mostOf_18 : decode cX4_mostOf 18 = .ok (.aload_n 1, 1) := by decide +kernel
theorem dX4_mostOf_19 : decode cX4_mostOf 19 = .ok (.getfield 102, 3) := by decide +kernel
theorem dX4_mostOf_22 : decode cX4_mostOf 22 = .ok (.iconst 1, 1) := by decide +kernel
theorem dX4_mostOf_23 : decode cX4_mostOf 23 = .ok (.isub, 1) := by decide +kernel
theorem dX4_mostOf_24 : decode cX4_mostOf 24 = .ok (.goto 9, 3) := by decide +kernel
theorem dX4_mostOf_27 : decode cX4_mostOf 27 = .ok (.aload_n 1, 1) := by decide +kernel
theorem dX4_mostOf_28 : decode cX4_mostOf 28 = .ok (.getfield 107, 3) := by decide +kernel
theorem dX4_mostOf_31 : decode cX4_mostOf 31 = .ok (.iconst 1, 1) := by decide +kernel
theorem dX4_mostOf_32 : decode cX4_mostOf 32 = .ok (.isub, 1) := by decide +kernel
theorem dX4_mostOf_33 : decode cX4_mostOf 33 = .ok (.ireturn, 1) := by decide +kernel
theorem dX4_perform_0 : decode cX4_perform 0 = .ok (.iload_n 3, 1) := by decide +kernel
theorem dX4_perform_1 : decode cX4_perform 1 = .ok (.istore 5, 2) := by decide +kernel
theorem dX4_perform_3 : decode cX4_perform 3 = .ok (.iload 5, 2) := by decide +kernel
theorem dX4_perform_5 : decode cX4_perform 5 = .ok (.iload 4, 2) := by decide +kernel
theorem dX4_perform_7 : decode cX4_perform 7 = .ok (.if_icmp .ge 135, 3) := by decide +kernel
theorem dX4_perform_10 : decode cX4_perform 10 = .ok (.aload_n 0, 1) := by decide +kernel
theorem dX4_perform_11 : decode cX4_perform 11 = .ok (.getfield 34, 3) := by decide +kernel
theorem dX4_perform_14 : decode cX4_perform 14 = .ok (.sipush 200, 3) := by decide +kernel
theorem dX4_perform_17 : decode cX4_perform 17 = .ok (.if_icmp .ge 125, 3) := by decide +kernel
theorem dX4_perform_20 : decode cX4_perform 20 = .ok (.aload_n 0, 1) := by decide +kernel
theorem dX4_perform_21 : decode cX4_perform 21 = .ok (.dup, 1) := by decide +kernel
theorem dX4_perform_22 : decode cX4_perform 22 = .ok (.getfield 34, 3) := by decide +kernel
theorem dX4_perform_25 : decode cX4_perform 25 = .ok (.iconst 1, 1) := by decide +kernel
theorem dX4_perform_26 : decode cX4_perform 26 = .ok (.iadd, 1) := by decide +kernel
theorem dX4_perform_27 : decode cX4_perform 27 = .ok (.putfield 34, 3) := by decide +kernel
theorem dX4_perform_30 : decode cX4_perform 30 = .ok (.aload_n 0, 1) := by decide +kernel
theorem dX4_perform_31 : decode cX4_perform 31 = .ok (.getfield 9, 3) := by decide +kernel
theorem dX4_perform_34 : decode cX4_perform 34 = .ok (.iload 5, 2) := by decide +kernel
theorem dX4_perform_36 : decode cX4_perform 36 = .ok (.iaload, 1) := by decide +kernel
theorem dX4_perform_37 : decode cX4_perform 37 = .ok (.bipush 7, 2) := by decide +kernel
theorem dX4_perform_39 : decode cX4_perform 39 = .ok (.if_icmp .ne 63, 3) := by decide +kernel
theorem dX4_perform_42 : decode cX4_perform 42 = .ok (.iconst 0, 1) := by decide +kernel
theorem dX4_perform_43 : decode cX4_perform 43 = .ok (.istore 6, 2) := by decide +kernel
theorem dX4_perform_45 : decode cX4_perform 45 = .ok (.iload 6, 2) := by decide +kernel
theorem dX4_perform_47 : decode cX4_perform 47 = .ok (.aload_n 0, 1) := by decide +kernel
theorem dX4_perform_48 : decode cX4_perform 48 = .ok (.getfield 15, 3) := by decide +kernel
theorem dX4_perform_51 : decode cX4_perform 51 = .ok (.iload 5, 2) := by decide +kernel
theorem dX4_perform_53 : decode cX4_perform 53 = .ok (.iaload, 1) := by decide +kernel
theorem dX4_perform_54 : decode cX4_perform 54 = .ok (.if_icmp .ge 36, 3) := by decide +kernel
theorem dX4_perform_57 : decode cX4_perform 57 = .ok (.aload_n 0, 1) := by decide +kernel
theorem dX4_perform_58 : decode cX4_perform 58 = .ok (.getfield 34, 3) := by decide +kernel
theorem dX4_perform_61 : decode cX4_perform 61 = .ok (.sipush 200, 3) := by decide +kernel
theorem dX4_perform_64 : decode cX4_perform 64 = .ok (.if_icmp .ge 26, 3) := by decide +kernel
theorem dX4_perform_67 : decode cX4_perform 67 = .ok (.aload_n 0, 1) := by decide +kernel
theorem dX4_perform_68 : decode cX4_perform 68 = .ok (.aload_n 1, 1) := by decide +kernel
theorem dX4_perform_69 : decode cX4_perform 69 = .ok (.aload_n 2, 1) := by decide +kernel
theorem dX4_perform_70 : decode cX4_perform 70 = .ok (.iload 5, 2) := by decide +kernel
theorem dX4_perform_72 : decode cX4_perform 72 = .ok (.iconst 1, 1) := by decide +kernel
theorem dX4_perform_73 : decode cX4_perform 73 = .ok (.iadd, 1) := by decide +kernel
theorem dX4_perform_74 : decode cX4_perform 74 = .ok (.aload_n 0, 1) := by decide +kernel
theorem dX4_perform_75 : decode cX4_perform 75 = .ok (.getfield 21, 3) := by decide +kernel
theorem dX4_perform_78 : decode cX4_perform 78 = .ok (.iload 5, 2) := by decide +kernel
theorem dX4_perform_80 : decode cX4_perform 80 = .ok (.iaload, 1) := by decide +kernel
theorem dX4_perform_81 : decode cX4_perform 81 = .ok (.invokevirtual 110, 3) := by decide +kernel
theorem dX4_perform_84 : decode cX4_perform 84 = .ok (.iinc 6 1, 3) := by decide +kernel
theorem dX4_perform_87 : decode cX4_perform 87 = .ok (.goto (-42), 3) := by decide +kernel
theorem dX4_perform_90 : decode cX4_perform 90 = .ok (.aload_n 0, 1) := by decide +kernel
theorem dX4_perform_91 : decode cX4_perform 91 = .ok (.getfield 21, 3) := by decide +kernel
theorem dX4_perform_94 : decode cX4_perform 94 = .ok (.iload 5, 2) := by decide +kernel
theorem dX4_perform_96 : decode cX4_perform 96 = .ok (.iaload, 1) := by decide +kernel
theorem dX4_perform_97 : decode cX4_perform 97 = .ok (.istore 5, 2) := by decide +kernel
theorem dX4_perform_99 : decode cX4_perform 99 = .ok (.goto (-96), 3) := by decide +kernel
theorem dX4_perform_102 : decode cX4_perform 102 = .ok (.aload_n 0, 1) := by decide +kernel
theorem dX4_perform_103 : decode cX4_perform 103 = .ok (.aload_n 1, 1) := by decide +kernel
theorem dX4_perform_104 : decode cX4_perform 104 = .ok (.aload_n 2, 1) := by decide +kernel
theorem dX4_perform_105 : decode cX4_perform 105 = .ok (.iload 5, 2) := by decide +kernel
theorem dX4_perform_107 : decode cX4_perform 107 = .ok (.invokevirtual 114, 3) := by decide +kernel
theorem dX4_perform_110 : decode cX4_perform 110 = .ok (.ifCond .eq 16, 3) := by decide +kernel
theorem dX4_perform_113 : decode cX4_perform 113 = .ok (.aload_n 0, 1) := by decide +kernel
theorem dX4_perform_114 : decode cX4_perform 114 = .ok (.dup, 1) := by decide +kernel
theorem dX4_perform_115 : decode cX4_perform 115 = .ok (.getfield 28, 3) := by decide +kernel
theorem dX4_perform_118 : decode cX4_perform 118 = .ok (.iconst 1, 1) := by decide +kernel
theorem dX4_perform_119 : decode cX4_perform 119 = .ok (.iadd, 1) := by decide +kernel
theorem dX4_perform_120 : decode cX4_perform 120 = .ok (.putfield 28, 3) := by decide +kernel
theorem dX4_perform_123 : decode cX4_perform 123 = .ok (.goto 13, 3) := by decide +kernel
theorem dX4_perform_126 : decode cX4_perform 126 = .ok (.aload_n 0, 1) := by decide +kernel
theorem dX4_perform_127 : decode cX4_perform 127 = .ok (.dup, 1) := by decide +kernel
theorem dX4_perform_128 : decode cX4_perform 128 = .ok (.getfield 31, 3) := by decide +kernel
theorem dX4_perform_131 : decode cX4_perform 131 = .ok (.iconst 1, 1) := by decide +kernel
theorem dX4_perform_132 : decode cX4_perform 132 = .ok (.iadd, 1) := by decide +kernel
theorem dX4_perform_133 : decode cX4_perform 133 = .ok (.putfield 31, 3) := by decide +kernel
theorem dX4_perform_136 : decode cX4_perform 136 = .ok (.iinc 5 1, 3) := by decide +kernel
theorem dX4_perform_139 : decode cX4_perform 139 = .ok (.goto (-136), 3) := by decide +kernel
theorem dX4_perform_142 : decode cX4_perform 142 = .ok (.return_, 1) := by decide +kernel
theorem dX4_doStep_0 : decode cX4_doStep 0 = .ok (.aload_n 0, 1) := by decide +kernel
theorem dX4_doStep_1 : decode cX4_doStep 1 = .ok (.getfield 9, 3) := by decide +kernel
theorem dX4_doStep_4 : decode cX4_doStep 4 = .ok (.iload_n 3, 1) := by decide +kernel
theorem dX4_doStep_5 : decode cX4_doStep 5 = .ok (.iaload, 1) := by decide +kernel
theorem dX4_doStep_6 : decode cX4_doStep 6 = .ok (.tableswitch 115 0 5 #[38, 59, 67, 73, 85, 97], 38) := by decide +kernel
theorem dX4_doStep_44 : decode cX4_doStep 44 = .ok (.aload_n 1, 1) := by decide +kernel
theorem dX4_doStep_45 : decode cX4_doStep 45 = .ok (.aload_n 2, 1) := by decide +kernel
theorem dX4_doStep_46 : decode cX4_doStep 46 = .ok (.aload_n 0, 1) := by decide +kernel
theorem dX4_doStep_47 : decode cX4_doStep 47 = .ok (.getfield 15, 3) := by decide +kernel
theorem dX4_doStep_50 : decode cX4_doStep 50 = .ok (.iload_n 3, 1) := by decide +kernel
theorem dX4_doStep_51 : decode cX4_doStep 51 = .ok (.iaload, 1) := by decide +kernel
theorem dX4_doStep_52 : decode cX4_doStep 52 = .ok (.invokevirtual 118, 3) := by decide +kernel
theorem dX4_doStep_55 : decode cX4_doStep 55 = .ok (.iconst (-1), 1) := by decide +kernel
theorem dX4_doStep_56 : decode cX4_doStep 56 = .ok (.if_icmp .eq 7, 3) := by decide +kernel
theorem dX4_doStep_59 : decode cX4_doStep 59 = .ok (.iconst 1, 1) := by decide +kernel
theorem dX4_doStep_60 : decode cX4_doStep 60 = .ok (.goto 4, 3) := by decide +kernel
theorem dX4_doStep_63 : decode cX4_doStep 63 = .ok (.iconst 0, 1) := by decide +kernel
theorem dX4_doStep_64 : decode cX4_doStep 64 = .ok (.ireturn, 1) := by decide +kernel
theorem dX4_doStep_65 : decode cX4_doStep 65 = .ok (.aload_n 1, 1) := by decide +kernel
theorem dX4_doStep_66 : decode cX4_doStep 66 = .ok (.aload_n 2, 1) := by decide +kernel
theorem dX4_doStep_67 : decode cX4_doStep 67 = .ok (.invokevirtual 124, 3) := by decide +kernel
theorem dX4_doStep_70 : decode cX4_doStep 70 = .ok (.pop, 1) := by decide +kernel
theorem dX4_doStep_71 : decode cX4_doStep 71 = .ok (.iconst 1, 1) := by decide +kernel
theorem dX4_doStep_72 : decode cX4_doStep 72 = .ok (.ireturn, 1) := by decide +kernel
theorem dX4_doStep_73 : decode cX4_doStep 73 = .ok (.aload_n 1, 1) := by decide +kernel
theorem dX4_doStep_74 : decode cX4_doStep 74 = .ok (.aload_n 2, 1) := by decide +kernel
theorem dX4_doStep_75 : decode cX4_doStep 75 = .ok (.invokevirtual 128, 3) := by decide +kernel
theorem dX4_doStep_78 : decode cX4_doStep 78 = .ok (.ireturn, 1) := by decide +kernel
theorem dX4_doStep_79 : decode cX4_doStep 79 = .ok (.aload_n 2, 1) := by decide +kernel
theorem dX4_doStep_80 : decode cX4_doStep 80 = .ok (.aload_n 0, 1) := by decide +kernel
theorem dX4_doStep_81 : decode cX4_doStep 81 = .ok (.getfield 15, 3) := by decide +kernel
theorem dX4_doStep_84 : decode cX4_doStep 84 = .ok (.iload_n 3, 1) := by decide +kernel
theorem dX4_doStep_85 : decode cX4_doStep 85 = .ok (.iaload, 1) := by decide +kernel
theorem dX4_doStep_86 : decode cX4_doStep 86 = .ok (.iconst 1, 1) := by decide +kernel
theorem dX4_doStep_87 : decode cX4_doStep 87 = .ok (.invokevirtual 131, 3) := by decide +kernel
theorem dX4_doStep_90 : decode cX4_doStep 90 = .ok (.ireturn, 1) := by decide +kernel
theorem dX4_doStep_91 : decode cX4_doStep 91 = .ok (.aload_n 2, 1) := by decide +kernel
theorem dX4_doStep_92 : decode cX4_doStep 92 = .ok (.aload_n 0, 1) := by decide +kernel
theorem dX4_doStep_93 : decode cX4_doStep 93 = .ok (.getfield 15, 3) := by decide +kernel
theorem dX4_doStep_96 : decode cX4_doStep 96 = .ok (.iload_n 3, 1) := by decide +kernel
theorem dX4_doStep_97 : decode cX4_doStep 97 = .ok (.iaload, 1) := by decide +kernel
theorem dX4_doStep_98 : decode cX4_doStep 98 = .ok (.iconst 0, 1) := by decide +kernel
theorem dX4_doStep_99 : decode cX4_doStep 99 = .ok (.invokevirtual 131, 3) := by decide +kernel
theorem dX4_doStep_102 : decode cX4_doStep 102 = .ok (.ireturn, 1) := by decide +kernel
theorem dX4_doStep_103 : decode cX4_doStep 103 = .ok (.aload_n 1, 1) := by decide +kernel
theorem dX4_doStep_104 : decode cX4_doStep 104 = .ok (.aload_n 2, 1) := by decide +kernel
theorem dX4_doStep_105 : decode cX4_doStep 105 = .ok (.aload_n 0, 1) := by decide +kernel
theorem dX4_doStep_106 : decode cX4_doStep 106 = .ok (.getfield 15, 3) := by decide +kernel
theorem dX4_doStep_109 : decode cX4_doStep 109 = .ok (.iload_n 3, 1) := by decide +kernel
theorem dX4_doStep_110 : decode cX4_doStep 110 = .ok (.iaload, 1) := by decide +kernel
theorem dX4_doStep_111 : decode cX4_doStep 111 = .ok (.aload_n 0, 1) := by decide +kernel
theorem dX4_doStep_112 : decode cX4_doStep 112 = .ok (.getfield 18, 3) := by decide +kernel
theorem dX4_doStep_115 : decode cX4_doStep 115 = .ok (.iload_n 3, 1) := by decide +kernel
theorem dX4_doStep_116 : decode cX4_doStep 116 = .ok (.iaload, 1) := by decide +kernel
theorem dX4_doStep_117 : decode cX4_doStep 117 = .ok (.invokevirtual 137, 3) := by decide +kernel
theorem dX4_doStep_120 : decode cX4_doStep 120 = .ok (.ireturn, 1) := by decide +kernel
theorem dX4_doStep_121 : decode cX4_doStep 121 = .ok (.aload_n 2, 1) := by decide +kernel
theorem dX4_doStep_122 : decode cX4_doStep 122 = .ok (.getfield 141, 3) := by decide +kernel
theorem dX4_doStep_125 : decode cX4_doStep 125 = .ok (.sipush 400, 3) := by decide +kernel
theorem dX4_doStep_128 : decode cX4_doStep 128 = .ok (.if_icmp .ge 15, 3) := by decide +kernel
theorem dX4_doStep_131 : decode cX4_doStep 131 = .ok (.aload_n 1, 1) := by decide +kernel
theorem dX4_doStep_132 : decode cX4_doStep 132 = .ok (.aload_n 2, 1) := by decide +kernel
theorem dX4_doStep_133 : decode cX4_doStep 133 = .ok (.invokevirtual 143, 3) := by decide +kernel
theorem dX4_doStep_136 : decode cX4_doStep 136 = .ok (.ifCond .eq 7, 3) := by decide +kernel
theorem dX4_doStep_139 : decode cX4_doStep 139 = .ok (.iconst 1, 1) := by decide +kernel
theorem dX4_doStep_140 : decode cX4_doStep 140 = .ok (.goto 4, 3) := by decide +kernel
theorem dX4_doStep_143 : decode cX4_doStep 143 = .ok (.iconst 0, 1) := by decide +kernel
theorem dX4_doStep_144 : decode cX4_doStep 144 = .ok (.ireturn, 1) := by decide +kernel
theorem dX5_init_0 : decode cX5_init 0 = .ok (.aload_n 0, 1) := by decide +kernel
theorem dX5_init_1 : decode cX5_init 1 = .ok (.invokespecial 3, 3) := by decide +kernel
theorem dX5_init_4 : decode cX5_init 4 = .ok (.aload_n 0, 1) := by decide +kernel
theorem dX5_init_5 : decode cX5_init 5 = .ok (.iconst 5, 1) := by decide +kernel
theorem dX5_init_6 : decode cX5_init 6 = .ok (.putfield 9, 3) := by decide +kernel
theorem dX5_init_9 : decode cX5_init 9 = .ok (.aload_n 0, 1) := by decide +kernel
theorem dX5_init_10 : decode cX5_init 10 = .ok (.bipush 7, 2) := by decide +kernel
theorem dX5_init_12 : decode cX5_init 12 = .ok (.newarray .int, 2) := by decide +kernel
theorem dX5_init_14 : decode cX5_init 14 = .ok (.putfield 15, 3) := by decide +kernel
theorem dX5_init_17 : decode cX5_init 17 = .ok (.aload_n 0, 1) := by decide +kernel
theorem dX5_init_18 : decode cX5_init 18 = .ok (.bipush 7, 2) := by decide +kernel
theorem dX5_init_20 : decode cX5_init 20 = .ok (.newarray .int, 2) := by decide +kernel
theorem dX5_init_22 : decode cX5_init 22 = .ok (.putfield 19, 3) := by decide +kernel
theorem dX5_init_25 : decode cX5_init 25 = .ok (.aload_n 0, 1) := by decide +kernel
theorem dX5_init_26 : decode cX5_init 26 = .ok (.bipush 7, 2) := by decide +kernel
theorem dX5_init_28 : decode cX5_init 28 = .ok (.newarray .int, 2) := by decide +kernel
theorem dX5_init_30 : decode cX5_init 30 = .ok (.putfield 22, 3) := by decide +kernel
theorem dX5_init_33 : decode cX5_init 33 = .ok (.aload_n 0, 1) := by decide +kernel
theorem dX5_init_34 : decode cX5_init 34 = .ok (.bipush 20, 2) := by decide +kernel
theorem dX5_init_36 : decode cX5_init 36 = .ok (.newarray .int, 2) := by decide +kernel
theorem dX5_init_38 : decode cX5_init 38 = .ok (.putfield 25, 3) := by decide +kernel
theorem dX5_init_41 : decode cX5_init 41 = .ok (.aload_n 0, 1) := by decide +kernel
theorem dX5_init_42 : decode cX5_init 42 = .ok (.bipush 20, 2) := by decide +kernel
theorem dX5_init_44 : decode cX5_init 44 = .ok (.newarray .int, 2) := by decide +kernel
theorem dX5_init_46 : decode cX5_init 46 = .ok (.putfield 28, 3) := by decide +kernel
theorem dX5_init_49 : decode cX5_init 49 = .ok (.aload_n 0, 1) := by decide +kernel
theorem dX5_init_50 : decode cX5_init 50 = .ok (.bipush 20, 2) := by decide +kernel
theorem dX5_init_52 : decode cX5_init 52 = .ok (.newarray .int, 2) := by decide +kernel
theorem dX5_init_54 : decode cX5_init 54 = .ok (.putfield 31, 3) := by decide +kernel
theorem dX5_init_57 : decode cX5_init 57 = .ok (.aload_n 0, 1) := by decide +kernel
theorem dX5_init_58 : decode cX5_init 58 = .ok (.bipush 12, 2) := by decide +kernel
theorem dX5_init_60 : decode cX5_init 60 = .ok (.newarray .int, 2) := by decide +kernel
theorem dX5_init_62 : decode cX5_init 62 = .ok (.putfield 34, 3) := by decide +kernel
theorem dX5_init_65 : decode cX5_init 65 = .ok (.aload_n 0, 1) := by decide +kernel
theorem dX5_init_66 : decode cX5_init 66 = .ok (.bipush 12, 2) := by decide +kernel
theorem dX5_init_68 : decode cX5_init 68 = .ok (.newarray .int, 2) := by decide +kernel
theorem dX5_init_70 : decode cX5_init 70 = .ok (.putfield 37, 3) := by decide +kernel
theorem dX5_init_73 : decode cX5_init 73 = .ok (.return_, 1) := by decide +kernel
theorem dX5_read_0 : decode cX5_read 0 = .ok (.aload_n 0, 1) := by decide +kernel
theorem dX5_read_1 : decode cX5_read 1 = .ok (.iconst 0, 1) := by decide +kernel
theorem dX5_read_2 : decode cX5_read 2 = .ok (.putfield 40, 3) := by decide +kernel
theorem dX5_read_5 : decode cX5_read 5 = .ok (.aload_n 0, 1) := by decide +kernel
theorem dX5_read_6 : decode cX5_read 6 = .ok (.iconst 0, 1) := by decide +kernel
theorem dX5_read_7 : decode cX5_read 7 = .ok (.putfield 43, 3) := by decide +kernel
theorem dX5_read_10 : decode cX5_read 10 = .ok (.aload_n 0, 1) := by decide +kernel
theorem dX5_read_11 : decode cX5_read 11 = .ok (.iconst 0, 1) := by decide +kernel
theorem dX5_read_12 : decode cX5_read 12 = .ok (.putfield 46, 3) := by decide +kernel
theorem dX5_read_15 : decode cX5_read 15 = .ok (.aload_n 0, 1) := by decide +kernel
theorem dX5_read_16 : decode cX5_read 16 = .ok (.iconst 5, 1) := by decide +kernel
theorem dX5_read_17 : decode cX5_read 17 = .ok (.putfield 9, 3) := by decide +kernel
theorem dX5_read_20 : decode cX5_read 20 = .ok (.iconst 0, 1) := by decide +kernel
theorem dX5_read_21 : decode cX5_read 21 = .ok (.istore_n 2, 1) := by decide +kernel
theorem dX5_read_22 : decode cX5_read 22 = .ok (.iload_n 2, 1) := by decide +kernel
theorem dX5_read_23 : decode cX5_read 23 = .ok (.bipush 60, 2) := by decide +kernel
theorem dX5_read_25 : decode cX5_read 25 = .ok (.if_icmp .gt 32, 3) := by decide +kernel
theorem dX5_read_28 : decode cX5_read 28 = .ok (.aload_n 1, 1) := by decide +kernel
theorem dX5_read_29 : decode cX5_read 29 = .ok (.invokevirtual 49, 3) := by decide +kernel
theorem dX5_read_32 : decode cX5_read 32 = .ok (.ifCond .eq 25, 3) := by decide +kernel
theorem dX5_read_35 : decode cX5_read 35 = .ok (.aload_n 0, 1) := by decide +kernel
theorem dX5_read_36 : decode cX5_read 36 = .ok (.aload_n 1, 1) := by decide +kernel
theorem dX5_read_37 : decode cX5_read 37 = .ok (.iload_n 2, 1) := by decide +kernel
theorem dX5_read_38 : decode cX5_read 38 = .ok (.bipush 60, 2) := by decide +kernel
theorem dX5_read_40 : decode cX5_read 40 = .ok (.if_icmp .ge 7, 3) := by decide +kernel
theorem dX5_read_43 : decode cX5_read 43 = .ok (.iconst 1, 1) := by decide +kernel
theorem dX5_read_44 : decode cX5_read 44 = .ok (.goto 4, 3) := by decide +kernel
theorem dX5_read_47 : decode cX5_read 47 = .ok (.iconst 0, 1) := by decide +kernel
theorem dX5_read_48 : decode cX5_read 48 = .ok (.invokevirtual 55, 3) := by decide +kernel
theorem dX5_read_51 : decode cX5_read 51 = .ok (.iinc 2 1, 3) := by decide +kernel
theorem dX5_read_54 : decode cX5_read 54 = .ok (.goto (-32), 3) := by decide +kernel
theorem dX5_read_57 : decode cX5_read 57 = .ok (.return_, 1) := by decide +kernel
theorem dX5_readClause_0 : decode cX5_readClause 0 = .ok (.aload_n 1, 1) := by decide +kernel
theorem dX5_readClause_1 : decode cX5_readClause 1 = .ok (.invokevirtual 59, 3) := by decide +kernel
theorem dX5_readClause_4 : decode cX5_readClause 4 = .ok (.aload_n 1, 1) := by decide +kernel
theorem dX5_readClause_5 : decode cX5_readClause 5 = .ok (.ldc 62, 2) := by decide +kernel
theorem dX5_readClause_7 : decode cX5_readClause 7 = .ok (.invokevirtual 64, 3) := by decide +kernel
theorem dX5_readClause_10 : decode cX5_readClause 10 = .ok (.ifCond .eq 12, 3) := by decide +kernel
theorem dX5_readClause_13 : decode cX5_readClause 13 = .ok (.aload_n 0, 1) := by decide +kernel
theorem dX5_readClause_14 : decode cX5_readClause 14 = .ok (.aload_n 1, 1) := by decide +kernel
theorem dX5_readClause_15 : decode cX5_readClause 15 = .ok (.iload_n 2, 1) := by decide +kernel
theorem dX5_readClause_16 : decode cX5_readClause 16 = .ok (.invokevirtual 68, 3) := by decide +kernel
theorem dX5_readClause_19 : decode cX5_readClause 19 = .ok (.goto 66, 3) := by decide +kernel
theorem dX5_readClause_22 : decode cX5_readClause 22 = .ok (.aload_n 1, 1) := by decide +kernel
theorem dX5_readClause_23 : decode cX5_readClause 23 = .ok (.ldc 71, 2) := by decide +kernel
theorem dX5_readClause_25 : decode cX5_readClause 25 = .ok (.invokevirtual 64, 3) := by decide +kernel
theorem dX5_readClause_28 : decode cX5_readClause 28 = .ok (.ifCond .eq 12, 3) := by decide +kernel
theorem dX5_readClause_31 : decode cX5_readClause 31 = .ok (.aload_n 0, 1) := by decide +kernel
theorem dX5_readClause_32 : decode cX5_readClause 32 = .ok (.aload_n 1, 1) := by decide +kernel
theorem dX5_readClause_33 : decode cX5_readClause 33 = .ok (.iload_n 2, 1) := by decide +kernel
theorem dX5_readClause_34 : decode cX5_readClause 34 = .ok (.invokevirtual 73, 3) := by decide +kernel
theorem dX5_readClause_37 : decode cX5_readClause 37 = .ok (.goto 48, 3) := by decide +kernel
theorem dX5_readClause_40 : decode cX5_readClause 40 = .ok (.aload_n 1, 1) := by decide +kernel
theorem dX5_readClause_41 : decode cX5_readClause 41 = .ok (.ldc 76, 2) := by decide +kernel
theorem dX5_readClause_43 : decode cX5_readClause 43 = .ok (.invokevirtual 64, 3) := by decide +kernel
theorem dX5_readClause_46 : decode cX5_readClause 46 = .ok (.ifCond .eq 12, 3) := by decide +kernel
theorem dX5_readClause_49 : decode cX5_readClause 49 = .ok (.aload_n 0, 1) := by decide +kernel
theorem dX5_readClause_50 : decode cX5_readClause 50 = .ok (.aload_n 1, 1) := by decide +kernel
theorem dX5_readClause_51 : decode cX5_readClause 51 = .ok (.iload_n 2, 1) := by decide +kernel
theorem dX5_readClause_52 : decode cX5_readClause 52 = .ok (.invokevirtual 78, 3) := by decide +kernel
theorem dX5_readClause_55 : decode cX5_readClause 55 = .ok (.goto 30, 3) := by decide +kernel
theorem dX5_readClause_58 : decode cX5_readClause 58 = .ok (.aload_n 1, 1) := by decide +kernel
theorem dX5_readClause_59 : decode cX5_readClause 59 = .ok (.ldc 81, 2) := by decide +kernel
theorem dX5_readClause_61 : decode cX5_readClause 61 = .ok (.invokevirtual 64, 3) := by decide +kernel
theorem dX5_readClause_64 : decode cX5_readClause 64 = .ok (.ifCond .eq 12, 3) := by decide +kernel
theorem dX5_readClause_67 : decode cX5_readClause 67 = .ok (.aload_n 0, 1) := by decide +kernel
theorem dX5_readClause_68 : decode cX5_readClause 68 = .ok (.aload_n 1, 1) := by decide +kernel
theorem dX5_readClause_69 : decode cX5_readClause 69 = .ok (.iload_n 2, 1) := by decide +kernel
theorem dX5_readClause_70 : decode cX5_readClause 70 = .ok (.invokevirtual 83, 3) := by decide +kernel
theorem dX5_readClause_73 : decode cX5_readClause 73 = .ok (.goto 12, 3) := by decide +kernel
theorem dX5_readClause_76 : decode cX5_readClause 76 = .ok (.aload_n 1, 1) := by decide +kernel
theorem dX5_readClause_77 : decode cX5_readClause 77 = .ok (.iconst 1, 1) := by decide +kernel
theorem dX5_readClause_78 : decode cX5_readClause 78 = .ok (.aload_n 1, 1) := by decide +kernel
theorem dX5_readClause_79 : decode cX5_readClause 79 = .ok (.getfield 86, 3) := by decide +kernel
theorem dX5_readClause_82 : decode cX5_readClause 82 = .ok (.invokevirtual 89, 3) := by decide +kernel
theorem dX5_readClause_85 : decode cX5_readClause 85 = .ok (.aload_n 1, 1) := by decide +kernel
theorem dX5_readClause_86 : decode cX5_readClause 86 = .ok (.bipush 59, 2) := by decide +kernel
theorem dX5_readClause_88 : decode cX5_readClause 88 = .ok (.invokevirtual 93, 3) := by decide +kernel
theorem dX5_readClause_91 : decode cX5_readClause 91 = .ok (.return_, 1) := by decide +kernel
theorem dX5_readSinger_0 : decode cX5_readSinger 0 = .ok (.iload_n 2, 1) := by decide +kernel
theorem dX5_readSinger_1 : decode cX5_readSinger 1 = .ok (.ifCond .eq 12, 3) := by decide +kernel
theorem dX5_readSinger_4 : decode cX5_readSinger 4 = .ok (.aload_n 0, 1) := by decide +kernel
theorem dX5_readSinger_5 : decode cX5_readSinger 5 = .ok (.getfield 40, 3) := by decide +kernel
theorem dX5_readSinger_8 : decode cX5_readSinger 8 = .ok (.bipush 7, 2) := by decide +kernel
theorem dX5_readSinger_10 : decode cX5_readSinger 10 = .ok (.if_icmp .lt 13, 3) := by decide +kernel
theorem dX5_readSinger_13 : decode cX5_readSinger 13 = .ok (.aload_n 1, 1) := by decide +kernel
theorem dX5_readSinger_14 : decode cX5_readSinger 14 = .ok (.iconst 3, 1) := by decide +kernel
theorem dX5_readSinger_15 : decode cX5_readSinger 15 = .ok (.aload_n 1, 1) := by decide +kernel
theorem dX5_readSinger_16 : decode cX5_readSinger 16 = .ok (.getfield 86, 3) := by decide +kernel
theorem dX5_readSinger_19 : decode cX5_readSinger 19 = .ok (.invokevirtual 89, 3) := by decide +kernel
theorem dX5_readSinger_22 : decode cX5_readSinger 22 = .ok (.return_, 1) := by decide +kernel
theorem dX5_readSinger_23 : decode cX5_readSinger 23 = .ok (.aload_n 0, 1) := by decide +kernel
theorem dX5_readSinger_24 : decode cX5_readSinger 24 = .ok (.getfield 15, 3) := by decide +kernel
theorem dX5_readSinger_27 : decode cX5_readSinger 27 = .ok (.aload_n 0, 1) := by decide +kernel
theorem dX5_readSinger_28 : decode cX5_readSinger 28 = .ok (.getfield 40, 3) := by decide +kernel
theorem dX5_readSinger_31 : decode cX5_readSinger 31 = .ok (.aload_n 1, 1) := by decide +kernel
theorem dX5_readSinger_32 : decode cX5_readSinger 32 = .ok (.iconst 0, 1) := by decide +kernel
theorem dX5_readSinger_33 : decode cX5_readSinger 33 = .ok (.iconst 5, 1) := by decide +kernel
theorem dX5_readSinger_34 : decode cX5_readSinger 34 = .ok (.invokevirtual 97, 3) := by decide +kernel
theorem dX5_readSinger_37 : decode cX5_readSinger 37 = .ok (.iastore, 1) := by decide +kernel
theorem dX5_readSinger_38 : decode cX5_readSinger 38 = .ok (.aload_n 0, 1) := by decide +kernel
theorem dX5_readSinger_39 : decode cX5_readSinger 39 = .ok (.getfield 19, 3) := by decide +kernel
theorem dX5_readSinger_42 : decode cX5_readSinger 42 = .ok (.aload_n 0, 1) := by decide +kernel
theorem dX5_readSinger_43 : decode cX5_readSinger 43 = .ok (.getfield 40, 3) := by decide +kernel
theorem dX5_readSinger_46 : decode cX5_readSinger 46 = .ok (.aload_n 1, 1) := by decide +kernel
theorem dX5_readSinger_47 : decode cX5_readSinger 47 = .ok (.iconst 0, 1) := by decide +kernel
theorem dX5_readSinger_48 : decode cX5_readSinger 48 = .ok (.bipush 60, 2) := by decide +kernel
theorem dX5_readSinger_50 : decode cX5_readSinger 50 = .ok (.invokevirtual 97, 3) := by decide +kernel
theorem dX5_readSinger_53 : decode cX5_readSinger 53 = .ok (.iastore, 1) := by decide +kernel
theorem dX5_readSinger_54 : decode cX5_readSinger 54 = .ok (.aload_n 0, 1) := by decide +kernel
theorem dX5_readSinger_55 : decode cX5_readSinger 55 = .ok (.getfield 22, 3) := by decide +kernel
theorem dX5_readSinger_58 : decode cX5_readSinger 58 = .ok (.aload_n 0, 1) := by decide +kernel
theorem dX5_readSinger_59 : decode cX5_readSinger 59 = .ok (.getfield 40, 3) := by decide +kernel
theorem dX5_readSinger_62 : decode cX5_readSinger 62 = .ok (.aload_n 1, 1) := by decide +kernel
theorem dX5_readSinger_63 : decode cX5_readSinger 63 = .ok (.iconst 1, 1) := by decide +kernel
theorem dX5_readSinger_64 : decode cX5_readSinger 64 = .ok (.bipush 30, 2) := by decide +kernel
theorem dX5_readSinger_66 : decode cX5_readSinger 66 = .ok (.invokevirtual 97, 3) := by decide +kernel
theorem dX5_readSinger_69 : decode cX5_readSinger 69 = .ok (.iastore, 1) := by decide +kernel
theorem dX5_readSinger_70 : decode cX5_readSinger 70 = .ok (.aload_n 0, 1) := by decide +kernel
theorem dX5_readSinger_71 : decode cX5_readSinger 71 = .ok (.dup, 1) := by decide +kernel
theorem dX5_readSinger_72 : decode cX5_readSinger 72 = .ok (.getfield 40, 3) := by decide +kernel
theorem dX5_readSinger_75 : decode cX5_readSinger 75 = .ok (.iconst 1, 1) := by decide +kernel
theorem dX5_readSinger_76 : decode cX5_readSinger 76 = .ok (.iadd, 1) := by decide +kernel
theorem dX5_readSinger_77 : decode cX5_readSinger 77 = .ok (.putfield 40, 3) := by decide +kernel
theorem dX5_readSinger_80 : decode cX5_readSinger 80 = .ok (.return_, 1) := by decide +kernel
theorem dX5_readNote_0 : decode cX5_readNote 0 = .ok (.iload_n 2, 1) := by decide +kernel
theorem dX5_readNote_1 : decode cX5_readNote 1 = .ok (.ifCond .eq 12, 3) := by decide +kernel
theorem dX5_readNote_4 : decode cX5_readNote 4 = .ok (.aload_n 0, 1) := by decide +kernel
theorem dX5_readNote_5 : decode cX5_readNote 5 = .ok (.getfield 43, 3) := by decide +kernel
theorem dX5_readNote_8 : decode cX5_readNote 8 = .ok (.bipush 20, 2) := by decide +kernel
theorem dX5_readNote_10 : decode cX5_readNote 10 = .ok (.if_icmp .lt 13, 3) := by decide +kernel
theorem dX5_readNote_13 : decode cX5_readNote 13 = .ok (.aload_n 1, 1) := by decide +kernel
theorem dX5_readNote_14 : decode cX5_readNote 14 = .ok (.iconst 3, 1) := by decide +kernel
theorem dX5_readNote_15 : decode cX5_readNote 15 = .ok (.aload_n 1, 1) := by decide +kernel
theorem dX5_readNote_16 : decode cX5_readNote 16 = .ok (.getfield 86, 3) := by decide +kernel
theorem dX5_readNote_19 : decode cX5_readNote 19 = .ok (.invokevirtual 89, 3) := by decide +kernel
theorem dX5_readNote_22 : decode cX5_readNote 22 = .ok (.return_, 1) := by decide +kernel
theorem dX5_readNote_23 : decode cX5_readNote 23 = .ok (.aload_n 0, 1) := by decide +kernel
theorem dX5_readNote_24 : decode cX5_readNote 24 = .ok (.getfield 25, 3) := by decide +kernel
theorem dX5_readNote_27 : decode cX5_readNote 27 = .ok (.aload_n 0, 1) := by decide +kernel
theorem dX5_readNote_28 : decode cX5_readNote 28 = .ok (.getfield 43, 3) := by decide +kernel
theorem dX5_readNote_31 : decode cX5_readNote 31 = .ok (.aload_n 1, 1) := by decide +kernel
theorem dX5_readNote_32 : decode cX5_readNote 32 = .ok (.iconst 0, 1) := by decide +kernel
theorem dX5_readNote_33 : decode cX5_readNote 33 = .ok (.iconst 5, 1) := by decide +kernel
theorem dX5_readNote_34 : decode cX5_readNote 34 = .ok (.invokevirtual 97, 3) := by decide +kernel
theorem dX5_readNote_37 : decode cX5_readNote 37 = .ok (.iastore, 1) := by decide +kernel
theorem dX5_readNote_38 : decode cX5_readNote 38 = .ok (.aload_n 0, 1) := by decide +kernel
theorem dX5_readNote_39 : decode cX5_readNote 39 = .ok (.getfield 28, 3) := by decide +kernel
theorem dX5_readNote_42 : decode cX5_readNote 42 = .ok (.aload_n 0, 1) := by decide +kernel
theorem dX5_readNote_43 : decode cX5_readNote 43 = .ok (.getfield 43, 3) := by decide +kernel
theorem dX5_readNote_46 : decode cX5_readNote 46 = .ok (.aload_n 1, 1) := by decide +kernel
theorem dX5_readNote_47 : decode cX5_readNote 47 = .ok (.iconst 1, 1) := by decide +kernel
theorem dX5_readNote_48 : decode cX5_readNote 48 = .ok (.bipush 9, 2) := by decide +kernel
theorem dX5_readNote_50 : decode cX5_readNote 50 = .ok (.invokevirtual 97, 3) := by decide +kernel
theorem dX5_readNote_53 : decode cX5_readNote 53 = .ok (.iastore, 1) := by decide +kernel
theorem dX5_readNote_54 : decode cX5_readNote 54 = .ok (.aload_n 0, 1) := by decide +kernel
theorem dX5_readNote_55 : decode cX5_readNote 55 = .ok (.getfield 31, 3) := by decide +kernel
theorem dX5_readNote_58 : decode cX5_readNote 58 = .ok (.aload_n 0, 1) := by decide +kernel
theorem dX5_readNote_59 : decode cX5_readNote 59 = .ok (.getfield 43, 3) := by decide +kernel
theorem dX5_readNote_62 : decode cX5_readNote 62 = .ok (.iconst 1, 1) := by decide +kernel
theorem dX5_readNote_63 : decode cX5_readNote 63 = .ok (.aload_n 0, 1) := by decide +kernel
theorem dX5_readNote_64 : decode cX5_readNote 64 = .ok (.getfield 25, 3) := by decide +kernel
theorem dX5_readNote_67 : decode cX5_readNote 67 = .ok (.aload_n 0, 1) := by decide +kernel
theorem dX5_readNote_68 : decode cX5_readNote 68 = .ok (.getfield 43, 3) := by decide +kernel
theorem dX5_readNote_71 : decode cX5_readNote 71 = .ok (.iaload, 1) := by decide +kernel
theorem dX5_readNote_72 : decode cX5_readNote 72 = .ok (.ishl, 1) := by decide +kernel
theorem dX5_readNote_73 : decode cX5_readNote 73 = .ok (.iastore, 1) := by decide +kernel
theorem dX5_readNote_74 : decode cX5_readNote 74 = .ok (.aload_n 0, 1) := by decide +kernel
theorem dX5_readNote_75 : decode cX5_readNote 75 = .ok (.dup, 1) := by decide +kernel
theorem dX5_readNote_76 : decode cX5_readNote 76 = .ok (.getfield 43, 3) := by decide +kernel
theorem dX5_readNote_79 : decode cX5_readNote 79 = .ok (.iconst 1, 1) := by decide +kernel
theorem dX5_readNote_80 : decode cX5_readNote 80 = .ok (.iadd, 1) := by decide +kernel
theorem dX5_readNote_81 : decode cX5_readNote 81 = .ok (.putfield 43, 3) := by decide +kernel
theorem dX5_readNote_84 : decode cX5_readNote 84 = .ok (.return_, 1) := by decide +kernel
theorem dX5_readLike_0 : decode cX5_readLike 0 = .ok (.iload_n 2, 1) := by decide +kernel
theorem dX5_readLike_1 : decode cX5_readLike 1 = .ok (.ifCond .eq 12, 3) := by decide +kernel
theorem dX5_readLike_4 : decode cX5_readLike 4 = .ok (.aload_n 0, 1) := by decide +kernel
theorem dX5_readLike_5 : decode cX5_readLike 5 = .ok (.getfield 46, 3) := by decide +kernel
theorem dX5_readLike_8 : decode cX5_readLike 8 = .ok (.bipush 12, 2) := by decide +kernel
theorem dX5_readLike_10 : decode cX5_readLike 10 = .ok (.if_icmp .lt 13, 3) := by decide +kernel
theorem dX5_readLike_13 : decode cX5_readLike 13 = .ok (.aload_n 1, 1) := by decide +kernel
theorem dX5_readLike_14 : decode cX5_readLike 14 = .ok (.iconst 3, 1) := by decide +kernel
theorem dX5_readLike_15 : decode cX5_readLike 15 = .ok (.aload_n 1, 1) := by decide +kernel
theorem dX5_readLike_16 : decode cX5_readLike 16 = .ok (.getfield 86, 3) := by decide +kernel
theorem dX5_readLike_19 : decode cX5_readLike 19 = .ok (.invokevirtual 89, 3) := by decide +kernel
theorem dX5_readLike_22 : decode cX5_readLike 22 = .ok (.return_, 1) := by decide +kernel
theorem dX5_readLike_23 : decode cX5_readLike 23 = .ok (.aload_n 0, 1) := by decide +kernel
theorem dX5_readLike_24 : decode cX5_readLike 24 = .ok (.getfield 34, 3) := by decide +kernel
theorem dX5_readLike_27 : decode cX5_readLike 27 = .ok (.aload_n 0, 1) := by decide +kernel
theorem dX5_readLike_28 : decode cX5_readLike 28 = .ok (.getfield 46, 3) := by decide +kernel
theorem dX5_readLike_31 : decode cX5_readLike 31 = .ok (.aload_n 1, 1) := by decide +kernel
theorem dX5_readLike_32 : decode cX5_readLike 32 = .ok (.iconst 0, 1) := by decide +kernel
theorem dX5_readLike_33 : decode cX5_readLike 33 = .ok (.aload_n 0, 1) := by decide +kernel
theorem dX5_readLike_34 : decode cX5_readLike 34 = .ok (.getfield 43, 3) := by decide +kernel
theorem dX5_readLike_37 : decode cX5_readLike 37 = .ok (.iconst 1, 1) := by decide +kernel
theorem dX5_readLike_38 : decode cX5_readLike 38 = .ok (.isub, 1) := by decide +kernel
theorem dX5_readLike_39 : decode cX5_readLike 39 = .ok (.invokevirtual 97, 3) := by decide +kernel
theorem dX5_readLike_42 : decode cX5_readLike 42 = .ok (.iastore, 1) := by decide +kernel
theorem dX5_readLike_43 : decode cX5_readLike 43 = .ok (.aload_n 0, 1) := by decide +kernel
theorem dX5_readLike_44 : decode cX5_readLike 44 = .ok (.getfield 37, 3) := by decide +kernel
theorem dX5_readLike_47 : decode cX5_readLike 47 = .ok (.aload_n 0, 1) := by decide +kernel
theorem dX5_readLike_48 : decode cX5_readLike 48 = .ok (.getfield 46, 3) := by decide +kernel
theorem dX5_readLike_51 : decode cX5_readLike 51 = .ok (.aload_n 1, 1) := by decide +kernel
theorem dX5_readLike_52 : decode cX5_readLike 52 = .ok (.iconst 0, 1) := by decide +kernel
theorem dX5_readLike_53 : decode cX5_readLike 53 = .ok (.iconst 5, 1) := by decide +kernel
theorem dX5_readLike_54 : decode cX5_readLike 54 = .ok (.invokevirtual 97, 3) := by decide +kernel
theorem dX5_readLike_57 : decode cX5_readLike 57 = .ok (.iastore, 1) := by decide +kernel
theorem dX5_readLike_58 : decode cX5_readLike 58 = .ok (.aload_n 0, 1) := by decide +kernel
theorem dX5_readLike_59 : decode cX5_readLike 59 = .ok (.getfield 31, 3) := by decide +kernel
theorem dX5_readLike_62 : decode cX5_readLike 62 = .ok (.aload_n 0, 1) := by decide +kernel
theorem dX5_readLike_63 : decode cX5_readLike 63 = .ok (.getfield 34, 3) := by decide +kernel
theorem dX5_readLike_66 : decode cX5_readLike 66 = .ok (.aload_n 0, 1) := by decide +kernel
theorem dX5_readLike_67 : decode cX5_readLike 67 = .ok (.getfield 46, 3) := by decide +kernel
theorem dX5_readLike_70 : decode cX5_readLike 70 = .ok (.iaload, 1) := by decide +kernel
theorem dX5_readLike_71 : decode cX5_readLike 71 = .ok (.dup2, 1) := by decide +kernel
theorem dX5_readLike_72 : decode cX5_readLike 72 = .ok (.iaload, 1) := by decide +kernel
theorem dX5_readLike_73 : decode cX5_readLike 73 = .ok (.iconst 1, 1) := by decide +kernel
theorem dX5_readLike_74 : decode cX5_readLike 74 = .ok (.aload_n 0, 1) := by decide +kernel
theorem dX5_readLike_75 : decode cX5_readLike 75 = .ok (.getfield 37, 3) := by decide +kernel
theorem dX5_readLike_78 : decode cX5_readLike 78 = .ok (.aload_n 0, 1) := by decide +kernel
theorem dX5_readLike_79 : decode cX5_readLike 79 = .ok (.getfield 46, 3) := by decide +kernel
theorem dX5_readLike_82 : decode cX5_readLike 82 = .ok (.iaload, 1) := by decide +kernel
theorem dX5_readLike_83 : decode cX5_readLike 83 = .ok (.ishl, 1) := by decide +kernel
theorem dX5_readLike_84 : decode cX5_readLike 84 = .ok (.ior, 1) := by decide +kernel
theorem dX5_readLike_85 : decode cX5_readLike 85 = .ok (.iastore, 1) := by decide +kernel
theorem dX5_readLike_86 : decode cX5_readLike 86 = .ok (.aload_n 0, 1) := by decide +kernel
theorem dX5_readLike_87 : decode cX5_readLike 87 = .ok (.dup, 1) := by decide +kernel
theorem dX5_readLike_88 : decode cX5_readLike 88 = .ok (.getfield 46, 3) := by decide +kernel
theorem dX5_readLike_91 : decode cX5_readLike 91 = .ok (.iconst 1, 1) := by decide +kernel
theorem dX5_readLike_92 : decode cX5_readLike 92 = .ok (.iadd, 1) := by decide +kernel
theorem dX5_readLike_93 : decode cX5_readLike 93 = .ok (.putfield 46, 3) := by decide +kernel
theorem dX5_readLike_96 : decode cX5_readLike 96 = .ok (.return_, 1) := by decide +kernel
theorem dX5_readRest_0 : decode cX5_readRest 0 = .ok (.iload_n 2, 1) := by decide +kernel
theorem dX5_readRest_1 : decode cX5_readRest 1 = .ok (.ifCond .ne 13, 3) := by decide +kernel
theorem dX5_readRest_4 : decode cX5_readRest 4 = .ok (.aload_n 1, 1) := by decide +kernel
theorem dX5_readRest_5 : decode cX5_readRest 5 = .ok (.iconst 3, 1) := by decide +kernel
theorem dX5_readRest_6 : decode cX5_readRest 6 = .ok (.aload_n 1, 1) := by decide +kernel
theorem dX5_readRest_7 : decode cX5_readRest 7 = .ok (.getfield 86, 3) := by decide +kernel
theorem dX5_readRest_10 : decode cX5_readRest 10 = .ok (.invokevirtual 89, 3) := by decide +kernel
theorem dX5_readRest_13 : decode cX5_readRest 13 = .ok (.return_, 1) := by decide +kernel
theorem dX5_readRest_14 : decode cX5_readRest 14 = .ok (.aload_n 0, 1) := by decide +kernel
theorem dX5_readRest_15 : decode cX5_readRest 15 = .ok (.aload_n 1, 1) := by decide +kernel
theorem dX5_readRest_16 : decode cX5_readRest 16 = .ok (.iconst 0, 1) := by decide +kernel
theorem dX5_readRest_17 : decode cX5_readRest 17 = .ok (.bipush 30, 2) := by decide +kernel
theorem dX5_readRest_19 : decode cX5_readRest 19 = .ok (.invokevirtual 97, 3) := by decide +kernel
theorem dX5_readRest_22 : decode cX5_readRest 22 = .ok (.putfield 9, 3) := by decide +kernel
theorem dX5_readRest_25 : decode cX5_readRest 25 = .ok (.return_, 1) := by decide +kernel
theorem dX6_init_0 : decode cX6_init 0 = .ok (.aload_n 0, 1) := by decide +kernel
theorem dX6_init_1 : decode cX6_init 1 = .ok (.invokespecial 3, 3) := by decide +kernel
theorem dX6_init_4 : decode cX6_init 4 = .ok (.aload_n 0, 1) := by decide +kernel
theorem dX6_init_5 : decode cX6_init 5 = .ok (.bipush 7, 2) := by decide +kernel
theorem dX6_init_7 : decode cX6_init 7 = .ok (.newarray .int, 2) := by decide +kernel
theorem dX6_init_9 : decode cX6_init 9 = .ok (.putfield 9, 3) := by decide +kernel
theorem dX6_init_12 : decode cX6_init 12 = .ok (.aload_n 0, 1) := by decide +kernel
theorem dX6_init_13 : decode cX6_init 13 = .ok (.bipush 7, 2) := by decide +kernel
theorem dX6_init_15 : decode cX6_init 15 = .ok (.newarray .int, 2) := by decide +kernel
theorem dX6_init_17 : decode cX6_init 17 = .ok (.putfield 15, 3) := by decide +kernel
theorem dX6_init_20 : decode cX6_init 20 = .ok (.aload_n 0, 1) := by decide +kernel
theorem dX6_init_21 : decode cX6_init 21 = .ok (.bipush 7, 2) := by decide +kernel
theorem dX6_init_23 : decode cX6_init 23 = .ok (.newarray .int, 2) := by decide +kernel
theorem dX6_init_25 : decode cX6_init 25 = .ok (.putfield 18, 3) := by decide +kernel
theorem dX6_init_28 : decode cX6_init 28 = .ok (.aload_n 0, 1) := by decide +kernel
theorem dX6_init_29 : decode cX6_init 29 = .ok (.bipush 7, 2) := by decide +kernel
theorem dX6_init_31 : decode cX6_init 31 = .ok (.newarray .int, 2) := by decide +kernel
theorem dX6_init_33 : decode cX6_init 33 = .ok (.putfield 21, 3) := by decide +kernel
theorem dX6_init_36 : decode cX6_init 36 = .ok (.aload_n 0, 1) := by decide +kernel
theorem dX6_init_37 : decode cX6_init 37 = .ok (.bipush 20, 2) := by decide +kernel
theorem dX6_init_39 : decode cX6_init 39 = .ok (.newarray .int, 2) := by decide +kernel
theorem dX6_init_41 : decode cX6_init 41 = .ok (.putfield 24, 3) := by decide +kernel
theorem dX6_init_44 : decode cX6_init 44 = .ok (.return_, 1) := by decide +kernel
theorem dX6_begin_0 : decode cX6_begin 0 = .ok (.aload_n 0, 1) := by decide +kernel
theorem dX6_begin_1 : decode cX6_begin 1 = .ok (.iconst 0, 1) := by decide +kernel
theorem dX6_begin_2 : decode cX6_begin 2 = .ok (.putfield 27, 3) := by decide +kernel
theorem dX6_begin_5 : decode cX6_begin 5 = .ok (.aload_n 0, 1) := by decide +kernel
theorem dX6_begin_6 : decode cX6_begin 6 = .ok (.iconst 0, 1) := by decide +kernel
theorem dX6_begin_7 : decode cX6_begin 7 = .ok (.putfield 31, 3) := by decide +kernel
theorem dX6_begin_10 : decode cX6_begin 10 = .ok (.aload_n 0, 1) := by decide +kernel
theorem dX6_begin_11 : decode cX6_begin 11 = .ok (.iconst 0, 1) := by decide +kernel
theorem dX6_begin_12 : decode cX6_begin 12 = .ok (.putfield 34, 3) := by decide +kernel
theorem dX6_begin_15 : decode cX6_begin 15 = .ok (.iconst 0, 1) := by decide +kernel
theorem dX6_begin_16 : decode cX6_begin 16 = .ok (.istore_n 2, 1) := by decide +kernel
theorem dX6_begin_17 : decode cX6_begin 17 = .ok (.iload_n 2, 1) := by decide +kernel
theorem dX6_begin_18 : decode cX6_begin 18 = .ok (.bipush 7, 2) := by decide +kernel
theorem dX6_begin_20 : decode cX6_begin 20 = .ok (.if_icmp .ge 54, 3) := by decide +kernel
theorem dX6_begin_23 : decode cX6_begin 23 = .ok (.aload_n 0, 1) := by decide +kernel
theorem dX6_begin_24 : decode cX6_begin 24 = .ok (.getfield 9, 3) := by decide +kernel
theorem dX6_begin_27 : decode cX6_begin 27 = .ok (.iload_n 2, 1) := by decide +kernel
theorem dX6_begin_28 : decode cX6_begin 28 = .ok (.iload_n 2, 1) := by decide +kernel
theorem dX6_begin_29 : decode cX6_begin 29 = .ok (.aload_n 1, 1) := by decide +kernel
theorem dX6_begin_30 : decode cX6_begin 30 = .ok (.getfield 37, 3) := by decide +kernel
theorem dX6_begin_33 : decode cX6_begin 33 = .ok (.if_icmp .ge 12, 3) := by decide +kernel
theorem dX6_begin_36 : decode cX6_begin 36 = .ok (.aload_n 1, 1) := by decide +kernel
theorem dX6_begin_37 : decode cX6_begin 37 = .ok (.getfield 42, 3) := by decide +kernel
theorem dX6_begin_40 : decode cX6_begin 40 = .ok (.iload_n 2, 1) := by decide +kernel
theorem dX6_begin_41 : decode cX6_begin 41 = .ok (.iaload, 1) := by decide +kernel
theorem dX6_begin_42 : decode cX6_begin 42 = .ok (.goto 4, 3) := by decide +kernel
theorem dX6_begin_45 : decode cX6_begin 45 = .ok (.iconst 0, 1) := by decide +kernel
theorem dX6_begin_46 : decode cX6_begin 46 = .ok (.iastore, 1) := by decide +kernel
theorem dX6_begin_47 : decode cX6_begin 47 = .ok (.aload_n 0, 1) := by decide +kernel
theorem dX6_begin_48 : decode cX6_begin 48 = .ok (.getfield 15, 3) := by decide +kernel
theorem dX6_begin_51 : decode cX6_begin 51 = .ok (.iload_n 2, 1) := by decide +kernel
theorem dX6_begin_52 : decode cX6_begin 52 = .ok (.iconst 0, 1) := by decide +kernel
theorem dX6_begin_53 : decode cX6_begin 53 = .ok (.iastore, 1) := by decide +kernel
theorem dX6_begin_54 : decode cX6_begin 54 = .ok (.aload_n 0, 1) := by decide +kernel
theorem dX6_begin_55 : decode cX6_begin 55 = .ok (.getfield 18, 3) := by decide +kernel
theorem dX6_begin_58 : decode cX6_begin 58 = .ok (.iload_n 2, 1) := by decide +kernel
theorem dX6_begin_59 : decode cX6_begin 59 = .ok (.iconst 0, 1) := by decide +kernel
theorem dX6_begin_60 : decode cX6_begin 60 = .ok (.iastore, 1) := by decide +kernel
theorem dX6_begin_61 : decode cX6_begin 61 = .ok (.aload_n 0, 1) := by decide +kernel
theorem dX6_begin_62 : decode cX6_begin 62 = .ok (.getfield 21, 3) := by decide +kernel
theorem dX6_begin_65 : decode cX6_begin 65 = .ok (.iload_n 2, 1) := by decide +kernel
theorem dX6_begin_66 : decode cX6_begin 66 = .ok (.iconst 0, 1) := by decide +kernel
theorem dX6_begin_67 : decode cX6_begin 67 = .ok (.iastore, 1) := by decide +kernel
theorem dX6_begin_68 : decode cX6_begin 68 = .ok (.iinc 2 1, 3) := by decide +kernel
theorem dX6_begin_71 : decode cX6_begin 71 = .ok (.goto (-54), 3) := by decide +kernel
theorem dX6_begin_74 : decode cX6_begin 74 = .ok (.aload_n 1, 1) := by decide +kernel
theorem dX6_begin_75 : decode cX6_begin 75 = .ok (.getfield 45, 3) := by decide +kernel
theorem dX6_begin_78 : decode cX6_begin 78 = .ok (.iconst 0, 1) := by decide +kernel
theorem dX6_begin_79 : decode cX6_begin 79 = .ok (.aload_n 0, 1) := by decide +kernel
theorem dX6_begin_80 : decode cX6_begin 80 = .ok (.getfield 24, 3) := by decide +kernel
theorem dX6_begin_83 : decode cX6_begin 83 = .ok (.iconst 0, 1) := by decide +kernel
theorem dX6_begin_84 : decode cX6_begin 84 = .ok (.bipush 20, 2) := by decide +kernel
theorem dX6_begin_86 : decode cX6_begin 86 = .ok (.invokestatic 46, 3) := by decide +kernel
theorem dX6_begin_89 : decode cX6_begin 89 = .ok (.return_, 1) := by decide +kernel
theorem dX6_become_0 : decode cX6_become 0 = .ok (.aload_n 0, 1) := by decide +kernel
theorem dX6_become_1 : decode cX6_become 1 = .ok (.aload_n 1, 1) := by decide +kernel
theorem dX6_become_2 : decode cX6_become 2 = .ok (.getfield 27, 3) := by decide +kernel
theorem dX6_become_5 : decode cX6_become 5 = .ok (.putfield 27, 3) := by decide +kernel
theorem dX6_become_8 : decode cX6_become 8 = .ok (.aload_n 0, 1) := by decide +kernel
theorem dX6_become_9 : decode cX6_become 9 = .ok (.aload_n 1, 1) := by decide +kernel
theorem dX6_become_10 : decode cX6_become 10 = .ok (.getfield 31, 3) := by decide +kernel
theorem dX6_become_13 : decode cX6_become 13 = .ok (.putfield 31, 3) := by decide +kernel
theorem dX6_become_16 : decode cX6_become 16 = .ok (.aload_n 0, 1) := by decide +kernel
theorem dX6_become_17 : decode cX6_become 17 = .ok (.aload_n 1, 1) := by decide +kernel
theorem dX6_become_18 : decode cX6_become 18 = .ok (.getfield 34, 3) := by decide +kernel
theorem dX6_become_21 : decode cX6_become 21 = .ok (.putfield 34, 3) := by decide +kernel
theorem dX6_become_24 : decode cX6_become 24 = .ok (.aload_n 1, 1) := by decide +kernel
theorem dX6_become_25 : decode cX6_become 25 = .ok (.getfield 9, 3) := by decide +kernel
theorem dX6_become_28 : decode cX6_become 28 = .ok (.iconst 0, 1) := by decide +kernel
theorem dX6_become_29 : decode cX6_become 29 = .ok (.aload_n 0, 1) := by decide +kernel
theorem dX6_become_30 : decode cX6_become 30 = .ok (.getfield 9, 3) := by decide +kernel
theorem dX6_become_33 : decode cX6_become 33 = .ok (.iconst 0, 1) := by decide +kernel
theorem dX6_become_34 : decode cX6_become 34 = .ok (.bipush 7, 2) := by decide +kernel
theorem dX6_become_36 : decode cX6_become 36 = .ok (.invokestatic 46, 3) := by decide +kernel
theorem dX6_become_39 : decode cX6_become 39 = .ok (.aload_n 1, 1) := by decide +kernel
theorem dX6_become_40 : decode cX6_become 40 = .ok (.getfield 15, 3) := by decide +kernel
theorem dX6_become_43 : decode cX6_become 43 = .ok (.iconst 0, 1) := by decide +kernel
theorem dX6_become_44 : decode cX6_become 44 = .ok (.aload_n 0, 1) := by decide +kernel
theorem dX6_become_45 : decode cX6_become 45 = .ok (.getfield 15, 3) := by decide +kernel
theorem dX6_become_48 : decode cX6_become 48 = .ok (.iconst 0, 1) := by decide +kernel
theorem dX6_become_49 : decode cX6_become 49 = .ok (.bipush 7, 2) := by decide +kernel
theorem dX6_become_51 : decode cX6_become 51 = .ok (.invokestatic 46, 3) := by decide +kernel
theorem dX6_become_54 : decode cX6_become 54 = .ok (.aload_n 1, 1) := by decide +kernel
theorem dX6_become_55 : decode cX6_become 55 = .ok (.getfield 18, 3) := by decide +kernel
theorem dX6_become_58 : decode cX6_become 58 = .ok (.iconst 0, 1) := by decide +kernel
theorem dX6_become_59 : decode cX6_become 59 = .ok (.aload_n 0, 1) := by decide +kernel
theorem dX6_become_60 : decode cX6_become 60 = .ok (.getfield 18, 3) := by decide +kernel
theorem dX6_become_63 : decode cX6_become 63 = .ok (.iconst 0, 1) := by decide +kernel
theorem dX6_become_64 : decode cX6_become 64 = .ok (.bipush 7, 2) := by decide +kernel
theorem dX6_become_66 : decode cX6_become 66 = .ok (.invokestatic 46, 3) := by decide +kernel
theorem dX6_become_69 : decode cX6_become 69 = .ok (.aload_n 1, 1) := by decide +kernel
theorem dX6_become_70 : decode cX6_become 70 = .ok (.getfield 21, 3) := by decide +kernel
theorem dX6_become_73 : decode cX6_become 73 = .ok (.iconst 0, 1) := by decide +kernel
theorem dX6_become_74 : decode cX6_become 74 = .ok (.aload_n 0, 1) := by decide +kernel
theorem dX6_become_75 : decode cX6_become 75 = .ok (.getfield 21, 3) := by decide +kernel
theorem dX6_become_78 : decode cX6_become 78 = .ok (.iconst 0, 1) := by decide +kernel
theorem dX6_become_79 : decode cX6_become 79 = .ok (.bipush 7, 2) := by decide +kernel
theorem dX6_become_81 : decode cX6_become 81 = .ok (.invokestatic 46, 3) := by decide +kernel
theorem dX6_become_84 : decode cX6_become 84 = .ok (.aload_n 1, 1) := by decide +kernel
theorem dX6_become_85 : decode cX6_become 85 = .ok (.getfield 24, 3) := by decide +kernel
theorem dX6_become_88 : decode cX6_become 88 = .ok (.iconst 0, 1) := by decide +kernel
theorem dX6_become_89 : decode cX6_become 89 = .ok (.aload_n 0, 1) := by decide +kernel
theorem dX6_become_90 : decode cX6_become 90 = .ok (.getfield 24, 3) := by decide +kernel
theorem dX6_become_93 : decode cX6_become 93 = .ok (.iconst 0, 1) := by decide +kernel
theorem dX6_become_94 : decode cX6_become 94 = .ok (.bipush 20, 2) := by decide +kernel
theorem dX6_become_96 : decode cX6_become 96 = .ok (.invokestatic 46, 3) := by decide +kernel
theorem dX6_become_99 : decode cX6_become 99 = .ok (.return_, 1) := by decide +kernel
theorem dX6_turn_0 : decode cX6_turn 0 = .ok (.aload_n 0, 1) := by decide +kernel
theorem dX6_turn_1 : decode cX6_turn 1 = .ok (.getfield 31, 3) := by decide +kernel
theorem dX6_turn_4 : decode cX6_turn 4 = .ok (.iload_n 1, 1) := by decide +kernel
theorem dX6_turn_5 : decode cX6_turn 5 = .ok (.ishr, 1) := by decide +kernel
theorem dX6_turn_6 : decode cX6_turn 6 = .ok (.iconst 1, 1) := by decide +kernel
theorem dX6_turn_7 : decode cX6_turn 7 = .ok (.iand, 1) := by decide +kernel
theorem dX6_turn_8 : decode cX6_turn 8 = .ok (.iload_n 2, 1) := by decide +kernel
theorem dX6_turn_9 : decode cX6_turn 9 = .ok (.if_icmp .ne 5, 3) := by decide +kernel
theorem dX6_turn_12 : decode cX6_turn 12 = .ok (.iconst 0, 1) := by decide +kernel
theorem dX6_turn_13 : decode cX6_turn 13 = .ok (.ireturn, 1) := by decide +kernel
theorem dX6_turn_14 : decode cX6_turn 14 = .ok (.aload_n 0, 1) := by decide +kernel
theorem dX6_turn_15 : decode cX6_turn 15 = .ok (.dup, 1) := by decide +kernel
theorem dX6_turn_16 : decode cX6_turn 16 = .ok (.getfield 31, 3) := by decide +kernel
theorem dX6_turn_19 : decode cX6_turn 19 = .ok (.iconst 1, 1) := by decide +kernel
theorem dX6_turn_20 : decode cX6_turn 20 = .ok (.iload_n 1, 1) := by decide +kernel
theorem dX6_turn_21 : decode cX6_turn 21 = .ok (.ishl, 1) := by decide +kernel
theorem dX6_turn_22 : decode cX6_turn 22 = .ok (.ixor, 1) := by decide +kernel
theorem dX6_turn_23 : decode cX6_turn 23 = .ok (.putfield 31, 3) := by decide +kernel
theorem dX6_turn_26 : decode cX6_turn 26 = .ok (.iconst 1, 1) := by decide +kernel
theorem dX6_turn_27 : decode cX6_turn 27 = .ok (.ireturn, 1) := by decide +kernel
theorem dX7_init_0 : decode cX7_init 0 = .ok (.aload_n 0, 1) := by decide +kernel
theorem dX7_init_1 : decode cX7_init 1 = .ok (.invokespecial 3, 3) := by decide +kernel
theorem dX7_init_4 : decode cX7_init 4 = .ok (.aload_n 0, 1) := by decide +kernel
theorem dX7_init_5 : decode cX7_init 5 = .ok (.new 9, 3) := by decide +kernel
theorem dX7_init_8 : decode cX7_init 8 = .ok (.dup, 1) := by decide +kernel
theorem dX7_init_9 : decode cX7_init 9 = .ok (.invokespecial 11, 3) := by decide +kernel
theorem dX7_init_12 : decode cX7_init 12 = .ok (.putfield 12, 3) := by decide +kernel
theorem dX7_init_15 : decode cX7_init 15 = .ok (.aload_n 0, 1) := by decide +kernel
theorem dX7_init_16 : decode cX7_init 16 = .ok (.new 18, 3) := by decide +kernel
theorem dX7_init_19 : decode cX7_init 19 = .ok (.dup, 1) := by decide +kernel
theorem dX7_init_20 : decode cX7_init 20 = .ok (.invokespecial 20, 3) := by decide +kernel
theorem dX7_init_23 : decode cX7_init 23 = .ok (.putfield 21, 3) := by decide +kernel
theorem dX7_init_26 : decode cX7_init 26 = .ok (.return_, 1) := by decide +kernel
theorem dX7_breathFor_0 : decode cX7_breathFor 0 = .ok (.aload_n 0, 1) := by decide +kernel
theorem dX7_breathFor_1 : decode cX7_breathFor 1 = .ok (.getfield 21, 3) := by decide +kernel
theorem dX7_breathFor_4 : decode cX7_breathFor 4 = .ok (.getfield 25, 3) := by decide +kernel
theorem dX7_breathFor_7 : decode cX7_breathFor 7 = .ok (.astore 4, 2) := by decide +kernel
theorem dX7_breathFor_9 : decode cX7_breathFor 9 = .ok (.aload 4, 2) := by decide +kernel
theorem dX7_breathFor_11 : decode cX7_breathFor 11 = .ok (.iconst 0, 1) := by decide +kernel
theorem dX7_breathFor_12 : decode cX7_breathFor 12 = .ok (.aload_n 0, 1) := by decide +kernel
theorem dX7_breathFor_13 : decode cX7_breathFor 13 = .ok (.getfield 12, 3) := by decide +kernel
theorem dX7_breathFor_16 : decode cX7_breathFor 16 = .ok (.getfield 29, 3) := by decide +kernel
theorem dX7_breathFor_19 : decode cX7_breathFor 19 = .ok (.iload_n 2, 1) := by decide +kernel
theorem dX7_breathFor_20 : decode cX7_breathFor 20 = .ok (.iaload, 1) := by decide +kernel
theorem dX7_breathFor_21 : decode cX7_breathFor 21 = .ok (.iastore, 1) := by decide +kernel
theorem dX7_breathFor_22 : decode cX7_breathFor 22 = .ok (.aload 4, 2) := by decide +kernel
theorem dX7_breathFor_24 : decode cX7_breathFor 24 = .ok (.iconst 1, 1) := by decide +kernel
theorem dX7_breathFor_25 : decode cX7_breathFor 25 = .ok (.aload_n 0, 1) := by decide +kernel
theorem dX7_breathFor_26 : decode cX7_breathFor 26 = .ok (.getfield 12, 3) := by decide +kernel
theorem dX7_breathFor_29 : decode cX7_breathFor 29 = .ok (.getfield 32, 3) := by decide +kernel
theorem dX7_breathFor_32 : decode cX7_breathFor 32 = .ok (.iload_n 3, 1) := by decide +kernel
theorem dX7_breathFor_33 : decode cX7_breathFor 33 = .ok (.iaload, 1) := by decide +kernel
theorem dX7_breathFor_34 : decode cX7_breathFor 34 = .ok (.iastore, 1) := by decide +kernel
theorem dX7_breathFor_35 : decode cX7_breathFor 35 = .ok (.aload 4, 2) := by decide +kernel
theorem dX7_breathFor_37 : decode cX7_breathFor 37 = .ok (.iconst 2, 1) := by decide +kernel
theorem dX7_breathFor_38 : decode cX7_breathFor 38 = .ok (.aload_n 1, 1) := by decide +kernel
theorem dX7_breathFor_39 : decode cX7_breathFor 39 = .ok (.getfield 35, 3) := by decide +kernel
theorem dX7_breathFor_42 : decode cX7_breathFor 42 = .ok (.iload_n 3, 1) := by decide +kernel
theorem dX7_breathFor_43 : decode cX7_breathFor 43 = .ok (.iaload, 1) := by decide +kernel
theorem dX7_breathFor_44 : decode cX7_breathFor 44 = .ok (.iastore, 1) := by decide +kernel
theorem dX7_breathFor_45 : decode cX7_breathFor 45 = .ok (.aload 4, 2) := by decide +kernel
theorem dX7_breathFor_47 : decode cX7_breathFor 47 = .ok (.iconst 3, 1) := by decide +kernel
theorem dX7_breathFor_48 : decode cX7_breathFor 48 = .ok (.aload_n 1, 1) := by decide +kernel
theorem dX7_breathFor_49 : decode cX7_breathFor 49 = .ok (.getfield 40, 3) := by decide +kernel
theorem dX7_breathFor_52 : decode cX7_breathFor 52 = .ok (.iload_n 3, 1) := by decide +kernel
theorem dX7_breathFor_53 : decode cX7_breathFor 53 = .ok (.iaload, 1) := by decide +kernel
theorem dX7_breathFor_54 : decode cX7_breathFor 54 = .ok (.iastore, 1) := by decide +kernel
theorem dX7_breathFor_55 : decode cX7_breathFor 55 = .ok (.aload 4, 2) := by decide +kernel
theorem dX7_breathFor_57 : decode cX7_breathFor 57 = .ok (.iconst 4, 1) := by decide +kernel
theorem dX7_breathFor_58 : decode cX7_breathFor 58 = .ok (.iload_n 2, 1) := by decide +kernel
theorem dX7_breathFor_59 : decode cX7_breathFor 59 = .ok (.iastore, 1) := by decide +kernel
theorem dX7_breathFor_60 : decode cX7_breathFor 60 = .ok (.aload 4, 2) := by decide +kernel
theorem dX7_breathFor_62 : decode cX7_breathFor 62 = .ok (.iconst 5, 1) := by decide +kernel
theorem dX7_breathFor_63 : decode cX7_breathFor 63 = .ok (.aload_n 1, 1) := by decide +kernel
theorem dX7_breathFor_64 : decode cX7_breathFor 64 = .ok (.getfield 43, 3) := by decide +kernel
theorem dX7_breathFor_67 : decode cX7_breathFor 67 = .ok (.iload_n 2, 1) := by decide +kernel
theorem dX7_breathFor_68 : decode cX7_breathFor 68 = .ok (.iaload, 1) := by decide +kernel
theorem dX7_breathFor_69 : decode cX7_breathFor 69 = .ok (.iastore, 1) := by decide +kernel
theorem dX7_breathFor_70 : decode cX7_breathFor 70 = .ok (.aload 4, 2) := by decide +kernel
theorem dX7_breathFor_72 : decode cX7_breathFor 72 = .ok (.bipush 6, 2) := by decide +kernel
theorem dX7_breathFor_74 : decode cX7_breathFor 74 = .ok (.aload_n 1, 1) := by decide +kernel
theorem dX7_breathFor_75 : decode cX7_breathFor 75 = .ok (.getfield 46, 3) := by decide +kernel
theorem dX7_breathFor_78 : decode cX7_breathFor 78 = .ok (.iastore, 1) := by decide +kernel
theorem dX7_breathFor_79 : decode cX7_breathFor 79 = .ok (.aload 4, 2) := by decide +kernel
theorem dX7_breathFor_81 : decode cX7_breathFor 81 = .ok (.bipush 7, 2) := by decide +kernel
theorem dX7_breathFor_83 : decode cX7_breathFor 83 = .ok (.iload_n 3, 1) := by decide +kernel
theorem dX7_breathFor_84 : decode cX7_breathFor 84 = .ok (.iastore, 1) := by decide +kernel
theorem dX7_breathFor_85 : decode cX7_breathFor 85 = .ok (.aload_n 0, 1) := by decide +kernel
theorem dX7_breathFor_86 : decode cX7_breathFor 86 = .ok (.getfield 21, 3) := by decide +kernel
theorem dX7_breathFor_89 : decode cX7_breathFor 89 = .ok (.invokevirtual 50, 3) := by decide +kernel
theorem dX7_breathFor_92 : decode cX7_breathFor 92 = .ok (.ireturn, 1) := by decide +kernel
theorem dX7_singNote_0 : decode cX7_singNote 0 = .ok (.iconst 0, 1) := by decide +kernel
theorem dX7_singNote_1 : decode cX7_singNote 1 = .ok (.istore_n 3, 1) := by decide +kernel
theorem dX7_singNote_2 : decode cX7_singNote 2 = .ok (.iload_n 3, 1) := by decide +kernel
theorem dX7_singNote_3 : decode cX7_singNote 3 = .ok (.aload_n 0, 1) := by decide +kernel
theorem dX7_singNote_4 : decode cX7_singNote 4 = .ok (.getfield 12, 3) := by decide +kernel
theorem dX7_singNote_7 : decode cX7_singNote 7 = .ok (.getfield 54, 3) := by decide +kernel
theorem dX7_singNote_10 : decode cX7_singNote 10 = .ok (.if_icmp .ge 95, 3) := by decide +kernel
theorem dX7_singNote_13 : decode cX7_singNote 13 = .ok (.aload_n 0, 1) := by decide +kernel
theorem dX7_singNote_14 : decode cX7_singNote 14 = .ok (.getfield 12, 3) := by decide +kernel
theorem dX7_singNote_17 : decode cX7_singNote 17 = .ok (.getfield 57, 3) := by decide +kernel
theorem dX7_singNote_20 : decode cX7_singNote 20 = .ok (.iload_n 3, 1) := by decide +kernel
theorem dX7_singNote_21 : decode cX7_singNote 21 = .ok (.iaload, 1) := by decide +kernel
theorem dX7_singNote_22 : decode cX7_singNote 22 = .ok (.aload_n 1, 1) := by decide +kernel
theorem dX7_singNote_23 : decode cX7_singNote 23 = .ok (.getfield 43, 3) := by decide +kernel
theorem dX7_singNote_26 : decode cX7_singNote 26 = .ok (.iload_n 2, 1) := by decide +kernel
theorem dX7_singNote_27 : decode cX7_singNote 27 = .ok (.iaload, 1) := by decide +kernel
theorem dX7_singNote_28 : decode cX7_singNote 28 = .ok (.if_icmp .ne 71, 3) := by decide +kernel
theorem dX7_singNote_31 : decode cX7_singNote 31 = .ok (.aload_n 1, 1) := by decide +kernel
theorem dX7_singNote_32 : decode cX7_singNote 32 = .ok (.getfield 60, 3) := by decide +kernel
theorem dX7_singNote_35 : decode cX7_singNote 35 = .ok (.iload_n 3, 1) := by decide +kernel
theorem dX7_singNote_36 : decode cX7_singNote 36 = .ok (.ishr, 1) := by decide +kernel
theorem dX7_singNote_37 : decode cX7_singNote 37 = .ok (.iconst 1, 1) := by decide +kernel
theorem dX7_singNote_38 : decode cX7_singNote 38 = .ok (.iand, 1) := by decide +kernel
theorem dX7_singNote_39 : decode cX7_singNote 39 = .ok (.iconst 1, 1) := by decide +kernel
theorem dX7_singNote_40 : decode cX7_singNote 40 = .ok (.if_icmp .ne 6, 3) := by decide +kernel
theorem dX7_singNote_43 : decode cX7_singNote 43 = .ok (.goto 56, 3) := by decide +kernel
theorem dX7_singNote_46 : decode cX7_singNote 46 = .ok (.aload_n 0, 1) := by decide +kernel
theorem dX7_singNote_47 : decode cX7_singNote 47 = .ok (.aload_n 1, 1) := by decide +kernel
theorem dX7_singNote_48 : decode cX7_singNote 48 = .ok (.iload_n 2, 1) := by decide +kernel
theorem dX7_singNote_49 : decode cX7_singNote 49 = .ok (.iload_n 3, 1) := by decide +kernel
theorem dX7_singNote_50 : decode cX7_singNote 50 = .ok (.invokevirtual 63, 3) := by decide +kernel
theorem dX7_singNote_53 : decode cX7_singNote 53 = .ok (.istore 4, 2) := by decide +kernel
theorem dX7_singNote_55 : decode cX7_singNote 55 = .ok (.iload 4, 2) := by decide +kernel
theorem dX7_singNote_57 : decode cX7_singNote 57 = .ok (.aload_n 1, 1) := by decide +kernel
theorem dX7_singNote_58 : decode cX7_singNote 58 = .ok (.getfield 35, 3) := by decide +kernel
theorem dX7_singNote_61 : decode cX7_singNote 61 = .ok (.iload_n 3, 1) := by decide +kernel
theorem dX7_singNote_62 : decode cX7_singNote 62 = .ok (.iaload, 1) := by decide +kernel
theorem dX7_singNote_63 : decode cX7_singNote 63 = .ok (.if_icmp .gt 36, 3) := by decide +kernel
theorem dX7_singNote_66 : decode cX7_singNote 66 = .ok (.aload_n 1, 1) := by decide +kernel
theorem dX7_singNote_67 : decode cX7_singNote 67 = .ok (.getfield 35, 3) := by decide +kernel
theorem dX7_singNote_70 : decode cX7_singNote 70 = .ok (.iload_n 3, 1) := by decide +kernel
theorem dX7_singNote_71 : decode cX7_singNote 71 = .ok (.dup2, 1) := by decide +kernel
theorem dX7_singNote_72 : decode cX7_singNote 72 = .ok (.iaload, 1) := by decide +kernel
theorem dX7_singNote_73 : decode cX7_singNote 73 = .ok (.iload 4, 2) := by decide +kernel
theorem dX7_singNote_75 : decode cX7_singNote 75 = .ok (.isub, 1) := by decide +kernel
theorem dX7_singNote_76 : decode cX7_singNote 76 = .ok (.iastore, 1) := by decide +kernel
theorem dX7_singNote_77 : decode cX7_singNote 77 = .ok (.aload_n 1, 1) := by decide +kernel
theorem dX7_singNote_78 : decode cX7_singNote 78 = .ok (.getfield 40, 3) := by decide +kernel
theorem dX7_singNote_81 : decode cX7_singNote 81 = .ok (.iload_n 3, 1) := by decide +kernel
theorem dX7_singNote_82 : decode cX7_singNote 82 = .ok (.dup2, 1) := by decide +kernel
theorem dX7_singNote_83 : decode cX7_singNote 83 = .ok (.iaload, 1) := by decide +kernel
theorem dX7_singNote_84 : decode cX7_singNote 84 = .ok (.iconst 1, 1) := by decide +kernel
theorem dX7_singNote_85 : decode cX7_singNote 85 = .ok (.iadd, 1) := by decide +kernel
theorem dX7_singNote_86 : decode cX7_singNote 86 = .ok (.iastore, 1) := by decide +kernel
theorem dX7_singNote_87 : decode cX7_singNote 87 = .ok (.aload_n 1, 1) := by decide +kernel
theorem dX7_singNote_88 : decode cX7_singNote 88 = .ok (.getfield 67, 3) := by decide +kernel
theorem dX7_singNote_91 : decode cX7_singNote 91 = .ok (.iload_n 3, 1) := by decide +kernel
theorem dX7_singNote_92 : decode cX7_singNote 92 = .ok (.dup2, 1) := by decide +kernel
theorem dX7_singNote_93 : decode cX7_singNote 93 = .ok (.iaload, 1) := by decide +kernel
theorem dX7_singNote_94 : decode cX7_singNote 94 = .ok (.iconst 1, 1) := by decide +kernel
theorem dX7_singNote_95 : decode cX7_singNote 95 = .ok (.iadd, 1) := by decide +kernel
theorem dX7_singNote_96 : decode cX7_singNote 96 = .ok (.iastore, 1) := by decide +kernel
theorem dX7_singNote_97 : decode cX7_singNote 97 = .ok (.iload_n 3, 1) := by decide +kernel
theorem dX7_singNote_98 : decode cX7_singNote 98 = .ok (.ireturn, 1) := by decide +kernel
theorem dX7_singNote_99 : decode cX7_singNote 99 = .ok (.iinc 3 1, 3) := by decide +kernel
theorem dX7_singNote_102 : decode cX7_singNote 102 = .ok (.goto (-100), 3) := by decide +kernel
theorem dX7_singNote_105 : decode cX7_singNote 105 = .ok (.iconst (-1), 1) := by decide +kernel
theorem dX7_singNote_106 : decode cX7_singNote 106 = .ok (.ireturn, 1) := by decide +kernel
theorem dX7_singHymn_0 : decode cX7_singHymn 0 = .ok (.iconst 0, 1) := by decide +kernel
theorem dX7_singHymn_1 : decode cX7_singHymn 1 = .ok (.istore_n 2, 1) := by decide +kernel
theorem dX7_singHymn_2 : decode cX7_singHymn 2 = .ok (.iconst 0, 1) := by decide +kernel
theorem dX7_singHymn_3 : decode cX7_singHymn 3 = .ok (.istore_n 3, 1) := by decide +kernel
theorem dX7_singHymn_4 : decode cX7_singHymn 4 = .ok (.iload_n 3, 1) := by decide +kernel
theorem dX7_singHymn_5 : decode cX7_singHymn 5 = .ok (.aload_n 0, 1) := by decide +kernel
theorem dX7_singHymn_6 : decode cX7_singHymn 6 = .ok (.getfield 12, 3) := by decide +kernel
theorem dX7_singHymn_9 : decode cX7_singHymn 9 = .ok (.getfield 70, 3) := by decide +kernel
theorem dX7_singHymn_12 : decode cX7_singHymn 12 = .ok (.if_icmp .ge 38, 3) := by decide +kernel
theorem dX7_singHymn_15 : decode cX7_singHymn 15 = .ok (.aload_n 0, 1) := by decide +kernel
theorem dX7_singHymn_16 : decode cX7_singHymn 16 = .ok (.aload_n 1, 1) := by decide +kernel
theorem dX7_singHymn_17 : decode cX7_singHymn 17 = .ok (.iload_n 3, 1) := by decide +kernel
theorem dX7_singHymn_18 : decode cX7_singHymn 18 = .ok (.invokevirtual 73, 3) := by decide +kernel
theorem dX7_singHymn_21 : decode cX7_singHymn 21 = .ok (.iconst (-1), 1) := by decide +kernel
theorem dX7_singHymn_22 : decode cX7_singHymn 22 = .ok (.if_icmp .ne 16, 3) := by decide +kernel
theorem dX7_singHymn_25 : decode cX7_singHymn 25 = .ok (.aload_n 1, 1) := by decide +kernel
theorem dX7_singHymn_26 : decode cX7_singHymn 26 = .ok (.dup, 1) := by decide +kernel
theorem dX7_singHymn_27 : decode cX7_singHymn 27 = .ok (.getfield 77, 3) := by decide +kernel
theorem dX7_singHymn_30 : decode cX7_singHymn 30 = .ok (.iconst 1, 1) := by decide +kernel
theorem dX7_singHymn_31 : decode cX7_singHymn 31 = .ok (.iadd, 1) := by decide +kernel
theorem dX7_singHymn_32 : decode cX7_singHymn 32 = .ok (.putfield 77, 3) := by decide +kernel
theorem dX7_singHymn_35 : decode cX7_singHymn 35 = .ok (.goto 9, 3) := by decide +kernel
theorem dX7_singHymn_38 : decode cX7_singHymn 38 = .ok (.iload_n 2, 1) := by decide +kernel
theorem dX7_singHymn_39 : decode cX7_singHymn 39 = .ok (.iconst 1, 1) := by decide +kernel
theorem dX7_singHymn_40 : decode cX7_singHymn 40 = .ok (.iload_n 3, 1) := by decide +kernel
theorem dX7_singHymn_41 : decode cX7_singHymn 41 = .ok (.ishl, 1) := by decide +kernel
theorem dX7_singHymn_42 : decode cX7_singHymn 42 = .ok (.ior, 1) := by decide +kernel
theorem dX7_singHymn_43 : decode cX7_singHymn 43 = .ok (.istore_n 2, 1) := by decide +kernel
theorem dX7_singHymn_44 : decode cX7_singHymn 44 = .ok (.iinc 3 1, 3) := by decide +kernel
theorem dX7_singHymn_47 : decode cX7_singHymn 47 = .ok (.goto (-43), 3) := by decide +kernel
theorem dX7_singHymn_50 : decode cX7_singHymn 50 = .ok (.iload_n 2, 1) := by decide +kernel
theorem dX7_singHymn_51 : decode cX7_singHymn 51 = .ok (.ireturn, 1) := by decide +kernel
theorem dX7_rest_0 : decode cX7_rest 0 = .ok (.iconst 0, 1) := by decide +kernel
theorem dX7_rest_1 : decode cX7_rest 1 = .ok (.istore_n 2, 1) := by decide +kernel
theorem dX7_rest_2 : decode cX7_rest 2 = .ok (.iconst 0, 1) := by decide +kernel
theorem dX7_rest_3 : decode cX7_rest 3 = .ok (.istore_n 3, 1) := by decide +kernel
theorem dX7_rest_4 : decode cX7_rest 4 = .ok (.iload_n 3, 1) := by decide +kernel
theorem dX7_rest_5 : decode cX7_rest 5 = .ok (.aload_n 0, 1) := by decide +kernel
theorem dX7_rest_6 : decode cX7_rest 6 = .ok (.getfield 12, 3) := by decide +kernel
theorem dX7_rest_9 : decode cX7_rest 9 = .ok (.getfield 54, 3) := by decide +kernel
theorem dX7_rest_12 : decode cX7_rest 12 = .ok (.if_icmp .ge 67, 3) := by decide +kernel
theorem dX7_rest_15 : decode cX7_rest 15 = .ok (.iload_n 2, 1) := by decide +kernel
theorem dX7_rest_16 : decode cX7_rest 16 = .ok (.aload_n 1, 1) := by decide +kernel
theorem dX7_rest_17 : decode cX7_rest 17 = .ok (.getfield 35, 3) := by decide +kernel
theorem dX7_rest_20 : decode cX7_rest 20 = .ok (.iload_n 3, 1) := by decide +kernel
theorem dX7_rest_21 : decode cX7_rest 21 = .ok (.iaload, 1) := by decide +kernel
theorem dX7_rest_22 : decode cX7_rest 22 = .ok (.aload_n 0, 1) := by decide +kernel
theorem dX7_rest_23 : decode cX7_rest 23 = .ok (.getfield 12, 3) := by decide +kernel
theorem dX7_rest_26 : decode cX7_rest 26 = .ok (.getfield 80, 3) := by decide +kernel
theorem dX7_rest_29 : decode cX7_rest 29 = .ok (.iload_n 3, 1) := by decide +kernel
theorem dX7_rest_30 : decode cX7_rest 30 = .ok (.iaload, 1) := by decide +kernel
theorem dX7_rest_31 : decode cX7_rest 31 = .ok (.if_icmp .ge 7, 3) := by decide +kernel
theorem dX7_rest_34 : decode cX7_rest 34 = .ok (.iconst 1, 1) := by decide +kernel
theorem dX7_rest_35 : decode cX7_rest 35 = .ok (.goto 4, 3) := by decide +kernel
theorem dX7_rest_38 : decode cX7_rest 38 = .ok (.iconst 0, 1) := by decide +kernel
theorem dX7_rest_39 : decode cX7_rest 39 = .ok (.ior, 1) := by decide +kernel
theorem dX7_rest_40 : decode cX7_rest 40 = .ok (.istore_n 2, 1) := by decide +kernel
theorem dX7_rest_41 : decode cX7_rest 41 = .ok (.aload_n 1, 1) := by decide +kernel
theorem dX7_rest_42 : decode cX7_rest 42 = .ok (.getfield 35, 3) := by decide +kernel
theorem dX7_rest_45 : decode cX7_rest 45 = .ok (.iload_n 3, 1) := by decide +kernel
theorem dX7_rest_46 : decode cX7_rest 46 = .ok (.aload_n 1, 1) := by decide +kernel
theorem dX7_rest_47 : decode cX7_rest 47 = .ok (.getfield 35, 3) := by decide +kernel
theorem dX7_rest_50 : decode cX7_rest 50 = .ok (.iload_n 3, 1) := by decide +kernel
theorem dX7_rest_51 : decode cX7_rest 51 = .ok (.iaload, 1) := by decide +kernel
theorem dX7_rest_52 : decode cX7_rest 52 = .ok (.aload_n 0, 1) := by decide +kernel
theorem dX7_rest_53 : decode cX7_rest 53 = .ok (.getfield 12, 3) := by decide +kernel
theorem dX7_rest_56 : decode cX7_rest 56 = .ok (.getfield 83, 3) := by decide +kernel
theorem dX7_rest_59 : decode cX7_rest 59 = .ok (.iadd, 1) := by decide +kernel
theorem dX7_rest_60 : decode cX7_rest 60 = .ok (.aload_n 0, 1) := by decide +kernel
theorem dX7_rest_61 : decode cX7_rest 61 = .ok (.getfield 12, 3) := by decide +kernel
theorem dX7_rest_64 : decode cX7_rest 64 = .ok (.getfield 80, 3) := by decide +kernel
theorem dX7_rest_67 : decode cX7_rest 67 = .ok (.iload_n 3, 1) := by decide +kernel
theorem dX7_rest_68 : decode cX7_rest 68 = .ok (.iaload, 1) := by decide +kernel
theorem dX7_rest_69 : decode cX7_rest 69 = .ok (.invokestatic 86, 3) := by decide +kernel
theorem dX7_rest_72 : decode cX7_rest 72 = .ok (.iastore, 1) := by decide +kernel
theorem dX7_rest_73 : decode cX7_rest 73 = .ok (.iinc 3 1, 3) := by decide +kernel
theorem dX7_rest_76 : decode cX7_rest 76 = .ok (.goto (-72), 3) := by decide +kernel
theorem dX7_rest_79 : decode cX7_rest 79 = .ok (.iload_n 2, 1) := by decide +kernel
theorem dX7_rest_80 : decode cX7_rest 80 = .ok (.ireturn, 1) := by decide +kernel
theorem dX7_reword_0 : decode cX7_reword 0 = .ok (.aload_n 1, 1) := by decide +kernel
theorem dX7_reword_1 : decode cX7_reword 1 = .ok (.getfield 43, 3) := by decide +kernel
theorem dX7_reword_4 : decode cX7_reword 4 = .ok (.iload_n 2, 1) := by decide +kernel
theorem dX7_reword_5 : decode cX7_reword 5 = .ok (.iaload, 1) := by decide +kernel
theorem dX7_reword_6 : decode cX7_reword 6 = .ok (.iload_n 3, 1) := by decide +kernel
theorem dX7_reword_7 : decode cX7_reword 7 = .ok (.if_icmp .eq 19, 3) := by decide +kernel
theorem dX7_reword_10 : decode cX7_reword 10 = .ok (.aload_n 0, 1) := by decide +kernel
theorem dX7_reword_11 : decode cX7_reword 11 = .ok (.getfield 12, 3) := by decide +kernel
theorem dX7_reword_14 : decode cX7_reword 14 = .ok (.getfield 92, 3) := by decide +kernel
theorem dX7_reword_17 : decode cX7_reword 17 = .ok (.iload_n 2, 1) := by decide +kernel
theorem dX7_reword_18 : decode cX7_reword 18 = .ok (.iaload, 1) := by decide +kernel
theorem dX7_reword_19 : decode cX7_reword 19 = .ok (.iload_n 3, 1) := by decide +kernel
theorem dX7_reword_20 : decode cX7_reword 20 = .ok (.ishr, 1) := by decide +kernel
theorem dX7_reword_21 : decode cX7_reword 21 = .ok (.iconst 1, 1) := by decide +kernel
theorem dX7_reword_22 : decode cX7_reword 22 = .ok (.iand, 1) := by decide +kernel
theorem dX7_reword_23 : decode cX7_reword 23 = .ok (.ifCond .ne 5, 3) := by decide +kernel
theorem dX7_reword_26 : decode cX7_reword 26 = .ok (.iconst 0, 1) := by decide +kernel
theorem dX7_reword_27 : decode cX7_reword 27 = .ok (.ireturn, 1) := by decide +kernel
theorem dX7_reword_28 : decode cX7_reword 28 = .ok (.aload_n 1, 1) := by decide +kernel
theorem dX7_reword_29 : decode cX7_reword 29 = .ok (.getfield 43, 3) := by decide +kernel
theorem dX7_reword_32 : decode cX7_reword 32 = .ok (.iload_n 2, 1) := by decide +kernel
theorem dX7_reword_33 : decode cX7_reword 33 = .ok (.iload_n 3, 1) := by decide +kernel
theorem dX7_reword_34 : decode cX7_reword 34 = .ok (.iastore, 1) := by decide +kernel
theorem dX7_reword_35 : decode cX7_reword 35 = .ok (.iconst 1, 1) := by decide +kernel
theorem dX7_reword_36 : decode cX7_reword 36 = .ok (.ireturn, 1) := by decide +kernel
theorem dX7_refresh_0 : decode cX7_refresh 0 = .ok (.iconst 0, 1) := by decide +kernel
theorem dX7_refresh_1 : decode cX7_refresh 1 = .ok (.istore_n 2, 1) := by decide +kernel
theorem dX7_refresh_2 : decode cX7_refresh 2 = .ok (.iload_n 2, 1) := by decide +kernel
theorem dX7_refresh_3 : decode cX7_refresh 3 = .ok (.aload_n 0, 1) := by decide +kernel
theorem dX7_refresh_4 : decode cX7_refresh 4 = .ok (.getfield 12, 3) := by decide +kernel
theorem dX7_refresh_7 : decode cX7_refresh 7 = .ok (.getfield 54, 3) := by decide +kernel
theorem dX7_refresh_10 : decode cX7_refresh 10 = .ok (.if_icmp .ge 24, 3) := by decide +kernel
theorem dX7_refresh_13 : decode cX7_refresh 13 = .ok (.aload_n 1, 1) := by decide +kernel
theorem dX7_refresh_14 : decode cX7_refresh 14 = .ok (.getfield 35, 3) := by decide +kernel
theorem dX7_refresh_17 : decode cX7_refresh 17 = .ok (.iload_n 2, 1) := by decide +kernel
theorem dX7_refresh_18 : decode cX7_refresh 18 = .ok (.aload_n 0, 1) := by decide +kernel
theorem dX7_refresh_19 : decode cX7_refresh 19 = .ok (.getfield 12, 3) := by decide +kernel
theorem dX7_refresh_22 : decode cX7_refresh 22 = .ok (.getfield 80, 3) := by decide +kernel
theorem dX7_refresh_25 : decode cX7_refresh 25 = .ok (.iload_n 2, 1) := by decide +kernel
theorem dX7_refresh_26 : decode cX7_refresh 26 = .ok (.iaload, 1) := by decide +kernel
theorem dX7_refresh_27 : decode cX7_refresh 27 = .ok (.iastore, 1) := by decide +kernel
theorem dX7_refresh_28 : decode cX7_refresh 28 = .ok (.iinc 2 1, 3) := by decide +kernel
theorem dX7_refresh_31 : decode cX7_refresh 31 = .ok (.goto (-29), 3) := by decide +kernel
theorem dX7_refresh_34 : decode cX7_refresh 34 = .ok (.return_, 1) := by decide +kernel
theorem dX7_nextDay_0 : decode cX7_nextDay 0 = .ok (.aload_n 0, 1) := by decide +kernel
theorem dX7_nextDay_1 : decode cX7_nextDay 1 = .ok (.aload_n 1, 1) := by decide +kernel
theorem dX7_nextDay_2 : decode cX7_nextDay 2 = .ok (.invokevirtual 95, 3) := by decide +kernel
theorem dX7_nextDay_5 : decode cX7_nextDay 5 = .ok (.iconst 0, 1) := by decide +kernel
theorem dX7_nextDay_6 : decode cX7_nextDay 6 = .ok (.istore_n 2, 1) := by decide +kernel
theorem dX7_nextDay_7 : decode cX7_nextDay 7 = .ok (.iload_n 2, 1) := by decide +kernel
theorem dX7_nextDay_8 : decode cX7_nextDay 8 = .ok (.aload_n 0, 1) := by decide +kernel
theorem dX7_nextDay_9 : decode cX7_nextDay 9 = .ok (.getfield 12, 3) := by decide +kernel
theorem dX7_nextDay_12 : decode cX7_nextDay 12 = .ok (.getfield 54, 3) := by decide +kernel
theorem dX7_nextDay_15 : decode cX7_nextDay 15 = .ok (.if_icmp .ge 53, 3) := by decide +kernel
theorem dX7_nextDay_18 : decode cX7_nextDay 18 = .ok (.aload_n 1, 1) := by decide +kernel
theorem dX7_nextDay_19 : decode cX7_nextDay 19 = .ok (.getfield 67, 3) := by decide +kernel
theorem dX7_nextDay_22 : decode cX7_nextDay 22 = .ok (.iload_n 2, 1) := by decide +kernel
theorem dX7_nextDay_23 : decode cX7_nextDay 23 = .ok (.iaload, 1) := by decide +kernel
theorem dX7_nextDay_24 : decode cX7_nextDay 24 = .ok (.ifCond .le 31, 3) := by decide +kernel
theorem dX7_nextDay_27 : decode cX7_nextDay 27 = .ok (.aload_n 1, 1) := by decide +kernel
theorem dX7_nextDay_28 : decode cX7_nextDay 28 = .ok (.getfield 99, 3) := by decide +kernel
theorem dX7_nextDay_31 : decode cX7_nextDay 31 = .ok (.iload_n 2, 1) := by decide +kernel
theorem dX7_nextDay_32 : decode cX7_nextDay 32 = .ok (.aload_n 1, 1) := by decide +kernel
theorem dX7_nextDay_33 : decode cX7_nextDay 33 = .ok (.getfield 99, 3) := by decide +kernel
theorem dX7_nextDay_36 : decode cX7_nextDay 36 = .ok (.iload_n 2, 1) := by decide +kernel
theorem dX7_nextDay_37 : decode cX7_nextDay 37 = .ok (.iaload, 1) := by decide +kernel
theorem dX7_nextDay_38 : decode cX7_nextDay 38 = .ok (.aload_n 0, 1) := by decide +kernel
theorem dX7_nextDay_39 : decode cX7_nextDay 39 = .ok (.getfield 12, 3) := by decide +kernel
theorem dX7_nextDay_42 : decode cX7_nextDay 42 = .ok (.getfield 32, 3) := by decide +kernel
theorem dX7_nextDay_45 : decode cX7_nextDay 45 = .ok (.iload_n 2, 1) := by decide +kernel
theorem dX7_nextDay_46 : decode cX7_nextDay 46 = .ok (.iaload, 1) := by decide +kernel
theorem dX7_nextDay_47 : decode cX7_nextDay 47 = .ok (.iadd, 1) := by decide +kernel
theorem dX7_nextDay_48 : decode cX7_nextDay 48 = .ok (.sipush 9999, 3) := by decide +kernel
theorem dX7_nextDay_51 : decode cX7_nextDay 51 = .ok (.invokestatic 86, 3) := by decide +kernel
theorem dX7_nextDay_54 : decode cX7_nextDay 54 = .ok (.iastore, 1) := by decide +kernel
theorem dX7_nextDay_55 : decode cX7_nextDay 55 = .ok (.aload_n 1, 1) := by decide +kernel
theorem dX7_nextDay_56 : decode cX7_nextDay 56 = .ok (.getfield 67, 3) := by decide +kernel
theorem dX7_nextDay_59 : decode cX7_nextDay 59 = .ok (.iload_n 2, 1) := by decide +kernel
theorem dX7_nextDay_60 : decode cX7_nextDay 60 = .ok (.iconst 0, 1) := by decide +kernel
theorem dX7_nextDay_61 : decode cX7_nextDay 61 = .ok (.iastore, 1) := by decide +kernel
theorem dX7_nextDay_62 : decode cX7_nextDay 62 = .ok (.iinc 2 1, 3) := by decide +kernel
theorem dX7_nextDay_65 : decode cX7_nextDay 65 = .ok (.goto (-58), 3) := by decide +kernel
theorem dX7_nextDay_68 : decode cX7_nextDay 68 = .ok (.aload_n 1, 1) := by decide +kernel
theorem dX7_nextDay_69 : decode cX7_nextDay 69 = .ok (.dup, 1) := by decide +kernel
theorem dX7_nextDay_70 : decode cX7_nextDay 70 = .ok (.getfield 46, 3) := by decide +kernel
theorem dX7_nextDay_73 : decode cX7_nextDay 73 = .ok (.iconst 1, 1) := by decide +kernel
theorem dX7_nextDay_74 : decode cX7_nextDay 74 = .ok (.iadd, 1) := by decide +kernel
theorem dX7_nextDay_75 : decode cX7_nextDay 75 = .ok (.putfield 46, 3) := by decide +kernel
theorem dX7_nextDay_78 : decode cX7_nextDay 78 = .ok (.iconst 1, 1) := by decide +kernel
theorem dX7_nextDay_79 : decode cX7_nextDay 79 = .ok (.ireturn, 1) := by decide +kernel
theorem dX8_init_0 : decode cX8_init 0 = .ok (.aload_n 0, 1) := by decide +kernel
theorem dX8_init_1 : decode cX8_init 1 = .ok (.invokespecial 3, 3) := by decide +kernel
theorem dX8_init_4 : decode cX8_init 4 = .ok (.aload_n 0, 1) := by decide +kernel
theorem dX8_init_5 : decode cX8_init 5 = .ok (.iconst (-1), 1) := by decide +kernel
theorem dX8_init_6 : decode cX8_init 6 = .ok (.putfield 9, 3) := by decide +kernel
theorem dX8_init_9 : decode cX8_init 9 = .ok (.aload_n 0, 1) := by decide +kernel
theorem dX8_init_10 : decode cX8_init 10 = .ok (.sipush 600, 3) := by decide +kernel
theorem dX8_init_13 : decode cX8_init 13 = .ok (.newarray .byte, 2) := by decide +kernel
theorem dX8_init_15 : decode cX8_init 15 = .ok (.putfield 15, 3) := by decide +kernel
theorem dX8_init_18 : decode cX8_init 18 = .ok (.return_, 1) := by decide +kernel
theorem dX8_add_0 : decode cX8_add 0 = .ok (.bipush 24, 2) := by decide +kernel
theorem dX8_add_2 : decode cX8_add 2 = .ok (.istore_n 2, 1) := by decide +kernel
theorem dX8_add_3 : decode cX8_add 3 = .ok (.iload_n 2, 1) := by decide +kernel
theorem dX8_add_4 : decode cX8_add 4 = .ok (.ifCond .lt 42, 3) := by decide +kernel
theorem dX8_add_7 : decode cX8_add 7 = .ok (.aload_n 0, 1) := by decide +kernel
theorem dX8_add_8 : decode cX8_add 8 = .ok (.getfield 19, 3) := by decide +kernel
theorem dX8_add_11 : decode cX8_add 11 = .ok (.sipush 600, 3) := by decide +kernel
theorem dX8_add_14 : decode cX8_add 14 = .ok (.if_icmp .ge 32, 3) := by decide +kernel
theorem dX8_add_17 : decode cX8_add 17 = .ok (.aload_n 0, 1) := by decide +kernel
theorem dX8_add_18 : decode cX8_add 18 = .ok (.getfield 15, 3) := by decide +kernel
theorem dX8_add_21 : decode cX8_add 21 = .ok (.aload_n 0, 1) := by decide +kernel
theorem dX8_add_22 : decode cX8_add 22 = .ok (.getfield 19, 3) := by decide +kernel
theorem dX8_add_25 : decode cX8_add 25 = .ok (.iload_n 1, 1) := by decide +kernel
theorem dX8_add_26 : decode cX8_add 26 = .ok (.iload_n 2, 1) := by decide +kernel
theorem dX8_add_27 : decode cX8_add 27 = .ok (.iushr, 1) := by decide +kernel
theorem dX8_add_28 : decode cX8_add 28 = .ok (.i2b, 1) := by decide +kernel
theorem dX8_add_29 : decode cX8_add 29 = .ok (.bastore, 1) := by decide +kernel
theorem dX8_add_30 : decode cX8_add 30 = .ok (.aload_n 0, 1) := by decide +kernel
theorem dX8_add_31 : decode cX8_add 31 = .ok (.dup, 1) := by decide +kernel
theorem dX8_add_32 : decode cX8_add 32 = .ok (.getfield 19, 3) := by decide +kernel
theorem dX8_add_35 : decode cX8_add 35 = .ok (.iconst 1, 1) := by decide +kernel
theorem dX8_add_36 : decode cX8_add 36 = .ok (.iadd, 1) := by decide +kernel
theorem dX8_add_37 : decode cX8_add 37 = .ok (.putfield 19, 3) := by decide +kernel
theorem dX8_add_40 : decode cX8_add 40 = .ok (.iinc 2 (-8), 3) := by decide +kernel
theorem dX8_add_43 : decode cX8_add 43 = .ok (.goto (-40), 3) := by decide +kernel
theorem dX8_add_46 : decode cX8_add 46 = .ok (.return_, 1) := by decide +kernel
theorem dX8_open_0 : decode cX8_open 0 = .ok (.aload_n 0, 1) := by decide +kernel
theorem dX8_open_1 : decode cX8_open 1 = .ok (.iload_n 1, 1) := by decide +kernel
theorem dX8_open_2 : decode cX8_open 2 = .ok (.putfield 22, 3) := by decide +kernel
theorem dX8_open_5 : decode cX8_open 5 = .ok (.aload_n 0, 1) := by decide +kernel
theorem dX8_open_6 : decode cX8_open 6 = .ok (.iconst 0, 1) := by decide +kernel
theorem dX8_open_7 : decode cX8_open 7 = .ok (.putfield 19, 3) := by decide +kernel
theorem dX8_open_10 : decode cX8_open 10 = .ok (.aload_n 0, 1) := by decide +kernel
theorem dX8_open_11 : decode cX8_open 11 = .ok (.iconst 0, 1) := by decide +kernel
theorem dX8_open_12 : decode cX8_open 12 = .ok (.putfield 25, 3) := by decide +kernel
theorem dX8_open_15 : decode cX8_open 15 = .ok (.aload_n 0, 1) := by decide +kernel
theorem dX8_open_16 : decode cX8_open 16 = .ok (.iconst 0, 1) := by decide +kernel
theorem dX8_open_17 : decode cX8_open 17 = .ok (.putfield 28, 3) := by decide +kernel
theorem dX8_open_20 : decode cX8_open 20 = .ok (.aload_n 0, 1) := by decide +kernel
theorem dX8_open_21 : decode cX8_open 21 = .ok (.iconst 0, 1) := by decide +kernel
theorem dX8_open_22 : decode cX8_open 22 = .ok (.putfield 31, 3) := by decide +kernel
theorem dX8_open_25 : decode cX8_open 25 = .ok (.aload_n 0, 1) := by decide +kernel
theorem dX8_open_26 : decode cX8_open 26 = .ok (.iconst (-1), 1) := by decide +kernel
theorem dX8_open_27 : decode cX8_open 27 = .ok (.putfield 9, 3) := by decide +kernel
theorem dX8_open_30 : decode cX8_open 30 = .ok (.return_, 1) := by decide +kernel
theorem dX8_fine_0 : decode cX8_fine 0 = .ok (.aload_n 0, 1) := by decide +kernel
theorem dX8_fine_1 : decode cX8_fine 1 = .ok (.getfield 31, 3) := by decide +kernel
theorem dX8_fine_4 : decode cX8_fine 4 = .ok (.ifCond .ne 7, 3) := by decide +kernel
theorem dX8_fine_7 : decode cX8_fine 7 = .ok (.iconst 1, 1) := by decide +kernel
theorem dX8_fine_8 : decode cX8_fine 8 = .ok (.goto 4, 3) := by decide +kernel
theorem dX8_fine_11 : decode cX8_fine 11 = .ok (.iconst 0, 1) := by decide +kernel
theorem dX8_fine_12 : decode cX8_fine 12 = .ok (.ireturn, 1) := by decide +kernel
theorem dX8_fail_0 : decode cX8_fail 0 = .ok (.aload_n 0, 1) := by decide +kernel
theorem dX8_fail_1 : decode cX8_fail 1 = .ok (.getfield 31, 3) := by decide +kernel
theorem dX8_fail_4 : decode cX8_fail 4 = .ok (.ifCond .ne 21, 3) := by decide +kernel
theorem dX8_fail_7 : decode cX8_fail 7 = .ok (.aload_n 0, 1) := by decide +kernel
theorem dX8_fail_8 : decode cX8_fail 8 = .ok (.iload_n 1, 1) := by decide +kernel
theorem dX8_fail_9 : decode cX8_fail 9 = .ok (.putfield 31, 3) := by decide +kernel
theorem dX8_fail_12 : decode cX8_fail 12 = .ok (.aload_n 0, 1) := by decide +kernel
theorem dX8_fail_13 : decode cX8_fail 13 = .ok (.iload_n 2, 1) := by decide +kernel
theorem dX8_fail_14 : decode cX8_fail 14 = .ok (.putfield 9, 3) := by decide +kernel
theorem dX8_fail_17 : decode cX8_fail 17 = .ok (.aload_n 0, 1) := by decide +kernel
theorem dX8_fail_18 : decode cX8_fail 18 = .ok (.aload_n 0, 1) := by decide +kernel
theorem dX8_fail_19 : decode cX8_fail 19 = .ok (.getfield 22, 3) := by decide +kernel
theorem dX8_fail_22 : decode cX8_fail 22 = .ok (.putfield 25, 3) := by decide +kernel
theorem dX8_fail_25 : decode cX8_fail 25 = .ok (.return_, 1) := by decide +kernel
theorem dX8_peek_0 : decode cX8_peek 0 = .ok (.aload_n 0, 1) := by decide +kernel
theorem dX8_peek_1 : decode cX8_peek 1 = .ok (.getfield 25, 3) := by decide +kernel
theorem dX8_peek_4 : decode cX8_peek 4 = .ok (.aload_n 0, 1) := by decide +kernel
theorem dX8_peek_5 : decode cX8_peek 5 = .ok (.getfield 22, 3) := by decide +kernel
theorem dX8_peek_8 : decode cX8_peek 8 = .ok (.if_icmp .ge 30, 3) := by decide +kernel
theorem dX8_peek_11 : decode cX8_peek 11 = .ok (.aload_n 0, 1) := by decide +kernel
theorem dX8_peek_12 : decode cX8_peek 12 = .ok (.getfield 15, 3) := by decide +kernel
theorem dX8_peek_15 : decode cX8_peek 15 = .ok (.aload_n 0, 1) := by decide +kernel
theorem dX8_peek_16 : decode cX8_peek 16 = .ok (.getfield 25, 3) := by decide +kernel
theorem dX8_peek_19 : decode cX8_peek 19 = .ok (.baload, 1) := by decide +kernel
theorem dX8_peek_20 : decode cX8_peek 20 = .ok (.bipush 32, 2) := by decide +kernel
theorem dX8_peek_22 : decode cX8_peek 22 = .ok (.if_icmp .ne 16, 3) := by decide +kernel
theorem dX8_peek_25 : decode cX8_peek 25 = .ok (.aload_n 0, 1) := by decide +kernel
theorem dX8_peek_26 : decode cX8_peek 26 = .ok (.dup, 1) := by decide +kernel
theorem dX8_peek_27 : decode cX8_peek 27 = .ok (.getfield 25, 3) := by decide +kernel
theorem dX8_peek_30 : decode cX8_peek 30 = .ok (.iconst 1, 1) := by decide +kernel
theorem dX8_peek_31 : decode cX8_peek 31 = .ok (.iadd, 1) := by decide +kernel
theorem dX8_peek_32 : decode cX8_peek 32 = .ok (.putfield 25, 3) := by decide +kernel
theorem dX8_peek_35 : decode cX8_peek 35 = .ok (.goto (-35), 3) := by decide +kernel
theorem dX8_peek_38 : decode cX8_peek 38 = .ok (.aload_n 0, 1) := by decide +kernel
theorem dX8_peek_39 : decode cX8_peek 39 = .ok (.getfield 25, 3) := by decide +kernel
theorem dX8_peek_42 : decode cX8_peek 42 = .ok (.aload_n 0, 1) := by decide +kernel
theorem dX8_peek_43 : decode cX8_peek 43 = .ok (.getfield 22, 3) := by decide +kernel
theorem dX8_peek_46 : decode cX8_peek 46 = .ok (.if_icmp .ge 19, 3) := by decide +kernel
theorem dX8_peek_49 : decode cX8_peek 49 = .ok (.aload_n 0, 1) := by decide +kernel
theorem dX8_peek_50 : decode cX8_peek 50 = .ok (.getfield 15, 3) := by decide +kernel
theorem dX8_peek_53 : decode cX8_peek 53 = .ok (.aload_n 0, 1) := by decide +kernel
theorem dX8_peek_54 : decode cX8_peek 54 = .ok (.getfield 25, 3) := by decide +kernel
theorem dX8_peek_57 : decode cX8_peek 57 = .ok (.baload, 1) := by decide +kernel
theorem dX8_peek_58 : decode cX8_peek 58 = .ok (.sipush 255, 3) := by decide +kernel
theorem dX8_peek_61 : decode cX8_peek 61 = .ok (.iand, 1) := by decide +kernel
theorem dX8_peek_62 : decode cX8_peek 62 = .ok (.goto 4, 3) := by decide +kernel
theorem dX8_peek_65 : decode cX8_peek 65 = .ok (.iconst (-1), 1) := by decide +kernel
theorem dX8_peek_66 : decode cX8_peek 66 = .ok (.ireturn, 1) := by decide +kernel
theorem dX8_more_0 : decode cX8_more 0 = .ok (.aload_n 0, 1) := by decide +kernel
theorem dX8_more_1 : decode cX8_more 1 = .ok (.getfield 31, 3) := by decide +kernel
theorem dX8_more_4 : decode cX8_more 4 = .ok (.ifCond .ne 15, 3) := by decide +kernel
theorem dX8_more_7 : decode cX8_more 7 = .ok (.aload_n 0, 1) := by decide +kernel
theorem dX8_more_8 : decode cX8_more 8 = .ok (.invokevirtual 34, 3) := by decide +kernel
theorem dX8_more_11 : decode cX8_more 11 = .ok (.iconst (-1), 1) := by decide +kernel
theorem dX8_more_12 : decode cX8_more 12 = .ok (.if_icmp .eq 7, 3) := by decide +kernel
theorem dX8_more_15 : decode cX8_more 15 = .ok (.iconst 1, 1) := by decide +kernel
theorem dX8_more_16 : decode cX8_more 16 = .ok (.goto 4, 3) := by decide +kernel
theorem dX8_more_19 : decode cX8_more 19 = .ok (.iconst 0, 1) := by decide +kernel
theorem dX8_more_20 : decode cX8_more 20 = .ok (.ireturn, 1) := by decide +kernel
theorem dX8_sign_0 : decode cX8_sign 0 = .ok (.aload_n 0, 1) := by decide +kernel
theorem dX8_sign_1 : decode cX8_sign 1 = .ok (.invokevirtual 34, 3) := by decide +kernel
theorem dX8_sign_4 : decode cX8_sign 4 = .ok (.iload_n 1, 1) := by decide +kernel
theorem dX8_sign_5 : decode cX8_sign 5 = .ok (.if_icmp .ne 16, 3) := by decide +kernel
theorem dX8_sign_8 : decode cX8_sign 8 = .ok (.aload_n 0, 1) := by decide +kernel
theorem dX8_sign_9 : decode cX8_sign 9 = .ok (.dup, 1) := by decide +kernel
theorem dX8_sign_10 : decode cX8_sign 10 = .ok (.getfield 25, 3) := by decide +kernel
theorem dX8_sign_13 : decode cX8_sign 13 = .ok (.iconst 1, 1) := by decide +kernel
theorem dX8_sign_14 : decode cX8_sign 14 = .ok (.iadd, 1) := by decide +kernel
theorem dX8_sign_15 : decode cX8_sign 15 = .ok (.putfield 25, 3) := by decide +kernel
theorem dX8_sign_18 : decode cX8_sign 18 = .ok (.goto 12, 3) := by decide +kernel
theorem dX8_sign_21 : decode cX8_sign 21 = .ok (.aload_n 0, 1) := by decide +kernel
theorem dX8_sign_22 : decode cX8_sign 22 = .ok (.iconst 1, 1) := by decide +kernel
theorem dX8_sign_23 : decode cX8_sign 23 = .ok (.aload_n 0, 1) := by decide +kernel
theorem dX8_sign_24 : decode cX8_sign 24 = .ok (.getfield 25, 3) := by decide +kernel
theorem dX8_sign_27 : decode cX8_sign 27 = .ok (.invokevirtual 38, 3) := by decide +kernel
theorem dX8_sign_30 : decode cX8_sign 30 = .ok (.return_, 1) := by decide +kernel
theorem dX8_word_0 : decode cX8_word 0 = .ok (.aload_n 0, 1) := by decide +kernel
theorem dX8_word_1 : decode cX8_word 1 = .ok (.invokevirtual 34, 3) := by decide +kernel
theorem dX8_word_4 : decode cX8_word 4 = .ok (.pop, 1) := by decide +kernel
theorem dX8_word_5 : decode cX8_word 5 = .ok (.aload_n 0, 1) := by decide +kernel
theorem dX8_word_6 : decode cX8_word 6 = .ok (.aload_n 0, 1) := by decide +kernel
theorem dX8_word_7 : decode cX8_word 7 = .ok (.getfield 25, 3) := by decide +kernel
theorem dX8_word_10 : decode cX8_word 10 = .ok (.putfield 28, 3) := by decide +kernel
theorem dX8_word_13 : decode cX8_word 13 = .ok (.aload_n 0, 1) := by decide +kernel
theorem dX8_word_14 : decode cX8_word 14 = .ok (.getfield 25, 3) := by decide +kernel
theorem dX8_word_17 : decode cX8_word 17 = .ok (.aload_n 0, 1) := by decide +kernel
theorem dX8_word_18 : decode cX8_word 18 = .ok (.getfield 22, 3) := by decide +kernel
theorem dX8_word_21 : decode cX8_word 21 = .ok (.if_icmp .ge 44, 3) := by decide +kernel
theorem dX8_word_24 : decode cX8_word 24 = .ok (.aload_n 0, 1) := by decide +kernel
theorem dX8_word_25 : decode cX8_word 25 = .ok (.getfield 15, 3) := by decide +kernel
theorem dX8_word_28 : decode cX8_word 28 = .ok (.aload_n 0, 1) := by decide +kernel
theorem dX8_word_29 : decode cX8_word 29 = .ok (.getfield 25, 3) := by decide +kernel
theorem dX8_word_32 : decode cX8_word 32 = .ok (.baload, 1) := by decide +kernel
theorem dX8_word_33 : decode cX8_word 33 = .ok (.bipush 97, 2) := by decide +kernel
theorem dX8_word_35 : decode cX8_word 35 = .ok (.if_icmp .lt 30, 3) := by decide +kernel
theorem dX8_word_38 : decode cX8_word 38 = .ok (.aload_n 0, 1) := by decide +kernel
theorem dX8_word_39 : decode cX8_word 39 = .ok (.getfield 15, 3) := by decide +kernel
theorem dX8_word_42 : decode cX8_word 42 = .ok (.aload_n 0, 1) := by decide +kernel
theorem dX8_word_43 : decode cX8_word 43 = .ok (.getfield 25, 3) := by decide +kernel
theorem dX8_word_46 : decode cX8_word 46 = .ok (.baload, 1) := by decide +kernel
theorem dX8_word_47 : decode cX8_word 47 = .ok (.bipush 122, 2) := by decide +kernel
theorem dX8_word_49 : decode cX8_word 49 = .ok (.if_icmp .gt 16, 3) := by decide +kernel
theorem dX8_word_52 : decode cX8_word 52 = .ok (.aload_n 0, 1) := by decide +kernel
theorem dX8_word_53 : decode cX8_word 53 = .ok (.dup, 1) := by decide +kernel
theorem dX8_word_54 : decode cX8_word 54 = .ok (.getfield 25, 3) := by decide +kernel
theorem dX8_word_57 : decode cX8_word 57 = .ok (.iconst 1, 1) := by decide +kernel
theorem dX8_word_58 : decode cX8_word 58 = .ok (.iadd, 1) := by decide +kernel
theorem dX8_word_59 : decode cX8_word 59 = .ok (.putfield 25, 3) := by decide +kernel
theorem dX8_word_62 : decode cX8_word 62 = .ok (.goto (-49), 3) := by decide +kernel
theorem dX8_word_65 : decode cX8_word 65 = .ok (.return_, 1) := by decide +kernel
theorem dX8_says_0 : decode cX8_says 0 = .ok (.aload_n 0, 1) := by decide +kernel
theorem dX8_says_1 : decode cX8_says 1 = .ok (.getfield 25, 3) := by decide +kernel
theorem dX8_says_4 : decode cX8_says 4 = .ok (.aload_n 0, 1) := by decide +kernel
theorem dX8_says_5 : decode cX8_says 5 = .ok (.getfield 28, 3) := by decide +kernel
theorem dX8_says_8 : decode cX8_says 8 = .ok (.isub, 1) := by decide +kernel
theorem dX8_says_9 : decode cX8_says 9 = .ok (.aload_n 1, 1) := by decide +kernel
theorem dX8_says_10 : decode cX8_says 10 = .ok (.invokevirtual 42, 3) := by decide +kernel
theorem dX8_says_13 : decode cX8_says 13 = .ok (.if_icmp .eq 5, 3) := by decide +kernel
theorem dX8_says_16 : decode cX8_says 16 = .ok (.iconst 0, 1) := by decide +kernel
theorem dX8_says_17 : decode cX8_says 17 = .ok (.ireturn, 1) := by decide +kernel
theorem dX8_says_18 : decode cX8_says 18 = .ok (.iconst 0, 1) := by decide +kernel
theorem dX8_says_19 : decode cX8_says 19 = .ok (.istore_n 2, 1) := by decide +kernel
theorem dX8_says_20 : decode cX8_says 20 = .ok (.iload_n 2, 1) := by decide +kernel
theorem dX8_says_21 : decode cX8_says 21 = .ok (.aload_n 1, 1) := by decide +kernel
theorem dX8_says_22 : decode cX8_says 22 = .ok (.invokevirtual 42, 3) := by decide +kernel
theorem dX8_says_25 : decode cX8_says 25 = .ok (.if_icmp .ge 30, 3) := by decide +kernel
theorem dX8_says_28 : decode cX8_says 28 = .ok (.aload_n 0, 1) := by decide +kernel
theorem dX8_says_29 : decode cX8_says 29 = .ok (.getfield 15, 3) := by decide +kernel
theorem dX8_says_32 : decode cX8_says 32 = .ok (.aload_n 0, 1) := by decide +kernel
theorem dX8_says_33 : decode cX8_says 33 = .ok (.getfield 28, 3) := by decide +kernel
theorem dX8_says_36 : decode cX8_says 36 = .ok (.iload_n 2, 1) := by decide +kernel
theorem dX8_says_37 : decode cX8_says 37 = .ok (.iadd, 1) := by decide +kernel
theorem dX8_says_38 : decode cX8_says 38 = .ok (.baload, 1) := by decide +kernel
theorem dX8_says_39 : decode cX8_says 39 = .ok (.aload_n 1, 1) := by decide +kernel
theorem dX8_says_40 : decode cX8_says 40 = .ok (.iload_n 2, 1) := by decide +kernel
theorem dX8_says_41 : decode cX8_says 41 = .ok (.invokevirtual 47, 3) := by decide +kernel
theorem dX8_says_44 : decode cX8_says 44 = .ok (.if_icmp .eq 5, 3) := by decide +kernel
theorem dX8_says_47 : decode cX8_says 47 = .ok (.iconst 0, 1) := by decide +kernel
theorem dX8_says_48 : decode cX8_says 48 = .ok (.ireturn, 1) := by decide +kernel
theorem dX8_says_49 : decode cX8_says 49 = .ok (.iinc 2 1, 3) := by decide +kernel
theorem dX8_says_52 : decode cX8_says 52 = .ok (.goto (-32), 3) := by decide +kernel
theorem dX8_says_55 : decode cX8_says 55 = .ok (.iconst 1, 1) := by decide +kernel
theorem dX8_says_56 : decode cX8_says 56 = .ok (.ireturn, 1) := by decide +kernel
theorem dX8_figure_0 : decode cX8_figure 0 = .ok (.aload_n 0, 1) := by decide +kernel
theorem dX8_figure_1 : decode cX8_figure 1 = .ok (.invokevirtual 34, 3) := by decide +kernel
theorem dX8_figure_4 : decode cX8_figure 4 = .ok (.pop, 1) := by decide +kernel
theorem dX8_figure_5 : decode cX8_figure 5 = .ok (.aload_n 0, 1) := by decide +kernel
theorem dX8_figure_6 : decode cX8_figure 6 = .ok (.aload_n 0, 1) := by decide +kernel
theorem dX8_figure_7 : decode cX8_figure 7 = .ok (.getfield 25, 3) := by decide +kernel
theorem dX8_figure_10 : decode cX8_figure 10 = .ok (.putfield 28, 3) := by decide +kernel
theorem dX8_figure_13 : decode cX8_figure 13 = .ok (.iconst 0, 1) := by decide +kernel
theorem dX8_figure_14 : decode cX8_figure 14 = .ok (.istore_n 3, 1) := by decide +kernel
theorem dX8_figure_15 : decode cX8_figure 15 = .ok (.aload_n 0, 1) := by decide +kernel
theorem dX8_figure_16 : decode cX8_figure 16 = .ok (.getfield 25, 3) := by decide +kernel
theorem dX8_figure_19 : decode cX8_figure 19 = .ok (.aload_n 0, 1) := by decide +kernel
theorem dX8_figure_20 : decode cX8_figure 20 = .ok (.getfield 22, 3) := by decide +kernel
theorem dX8_figure_23 : decode cX8_figure 23 = .ok (.if_icmp .ge 75, 3) := by decide +kernel
theorem dX8_figure_26 : decode cX8_figure 26 = .ok (.aload_n 0, 1) := by decide +kernel
theorem dX8_figure_27 : decode cX8_figure 27 = .ok (.getfield 15, 3) := by decide +kernel
theorem dX8_figure_30 : decode cX8_figure 30 = .ok (.aload_n 0, 1) := by decide +kernel
theorem dX8_figure_31 : decode cX8_figure 31 = .ok (.getfield 25, 3) := by decide +kernel
theorem dX8_figure_34 : decode cX8_figure 34 = .ok (.baload, 1) := by decide +kernel
theorem dX8_figure_35 : decode cX8_figure 35 = .ok (.bipush 48, 2) := by decide +kernel
theorem dX8_figure_37 : decode cX8_figure 37 = .ok (.if_icmp .lt 61, 3) := by decide +kernel
theorem dX8_figure_40 : decode cX8_figure 40 = .ok (.aload_n 0, 1) := by decide +kernel
theorem dX8_figure_41 : decode cX8_figure 41 = .ok (.getfield 15, 3) := by decide +kernel
theorem dX8_figure_44 : decode cX8_figure 44 = .ok (.aload_n 0, 1) := by decide +kernel
theorem dX8_figure_45 : decode cX8_figure 45 = .ok (.getfield 25, 3) := by decide +kernel
theorem dX8_figure_48 : decode cX8_figure 48 = .ok (.baload, 1) := by decide +kernel
theorem dX8_figure_49 : decode cX8_figure 49 = .ok (.bipush 57, 2) := by decide +kernel
theorem dX8_figure_51 : decode cX8_figure 51 = .ok (.if_icmp .gt 47, 3) := by decide +kernel
theorem dX8_figure_54 : decode cX8_figure 54 = .ok (.iload_n 3, 1) := by decide +kernel
theorem dX8_figure_55 : decode cX8_figure 55 = .ok (.bipush 10, 2) := by decide +kernel
theorem dX8_figure_57 : decode cX8_figure 57 = .ok (.imul, 1) := by decide +kernel
theorem dX8_figure_58 : decode cX8_figure 58 = .ok (.aload_n 0, 1) := by decide +kernel
theorem dX8_figure_59 : decode cX8_figure 59 = .ok (.getfield 15, 3) := by decide +kernel
theorem dX8_figure_62 : decode cX8_figure 62 = .ok (.aload_n 0, 1) := by decide +kernel
theorem dX8_figure_63 : decode cX8_figure 63 = .ok (.getfield 25, 3) := by decide +kernel
theorem dX8_figure_66 : decode cX8_figure 66 = .ok (.baload, 1) := by decide +kernel
theorem dX8_figure_67 : decode cX8_figure 67 = .ok (.iadd, 1) := by decide +kernel
theorem dX8_figure_68 : decode cX8_figure 68 = .ok (.bipush 48, 2) := by decide +kernel
theorem dX8_figure_70 : decode cX8_figure 70 = .ok (.isub, 1) := by decide +kernel
theorem dX8_figure_71 : decode cX8_figure 71 = .ok (.istore_n 3, 1) := by decide +kernel
theorem dX8_figure_72 : decode cX8_figure 72 = .ok (.iload_n 3, 1) := by decide +kernel
theorem dX8_figure_73 : decode cX8_figure 73 = .ok (.ldc 51, 2) := by decide +kernel
theorem dX8_figure_75 : decode cX8_figure 75 = .ok (.if_icmp .le 8, 3) := by decide +kernel
theorem dX8_figure_78 : decode cX8_figure 78 = .ok (.ldc 51, 2) := by decide +kernel
theorem dX8_figure_80 : decode cX8_figure 80 = .ok (.goto 4, 3) := by decide +kernel
theorem dX8_figure_83 : decode cX8_figure 83 = .ok (.iload_n 3, 1) := by decide +kernel
theorem dX8_figure_84 : decode cX8_figure 84 = .ok (.istore_n 3, 1) := by decide +kernel
theorem dX8_figure_85 : decode cX8_figure 85 = .ok (.aload_n 0, 1) := by decide +kernel
theorem dX8_figure_86 : decode cX8_figure 86 = .ok (.dup, 1) := by decide +kernel
theorem dX8_figure_87 : decode cX8_figure 87 = .ok (.getfield 25, 3) := by decide +kernel
theorem dX8_figure_90 : decode cX8_figure 90 = .ok (.iconst 1, 1) := by decide +kernel
theorem dX8_figure_91 : decode cX8_figure 91 = .ok (.iadd, 1) := by decide +kernel
theorem dX8_figure_92 : decode cX8_figure 92 = .ok (.putfield 25, 3) := by decide +kernel
theorem dX8_figure_95 : decode cX8_figure 95 = .ok (.goto (-80), 3) := by decide +kernel
theorem dX8_figure_98 : decode cX8_figure 98 = .ok (.aload_n 0, 1) := by decide +kernel
theorem dX8_figure_99 : decode cX8_figure 99 = .ok (.getfield 25, 3) := by decide +kernel
theorem dX8_figure_102 : decode cX8_figure 102 = .ok (.aload_n 0, 1) := by decide +kernel
theorem dX8_figure_103 : decode cX8_figure 103 = .ok (.getfield 28, 3) := by decide +kernel
theorem dX8_figure_106 : decode cX8_figure 106 = .ok (.if_icmp .ne 15, 3) := by decide +kernel
theorem dX8_figure_109 : decode cX8_figure 109 = .ok (.aload_n 0, 1) := by decide +kernel
theorem dX8_figure_110 : decode cX8_figure 110 = .ok (.iconst 1, 1) := by decide +kernel
theorem dX8_figure_111 : decode cX8_figure 111 = .ok (.aload_n 0, 1) := by decide +kernel
theorem dX8_figure_112 : decode cX8_figure 112 = .ok (.getfield 28, 3) := by decide +kernel
theorem dX8_figure_115 : decode cX8_figure 115 = .ok (.invokevirtual 38, 3) := by decide +kernel
theorem dX8_figure_118 : decode cX8_figure 118 = .ok (.goto 22, 3) := by decide +kernel
theorem dX8_figure_121 : decode cX8_figure 121 = .ok (.iload_n 3, 1) := by decide +kernel
theorem dX8_figure_122 : decode cX8_figure 122 = .ok (.iload_n 1, 1) := by decide +kernel
theorem dX8_figure_123 : decode cX8_figure 123 = .ok (.if_icmp .lt 8, 3) := by decide +kernel
theorem dX8_figure_126 : decode cX8_figure 126 = .ok (.iload_n 3, 1) := by decide +kernel
theorem dX8_figure_127 : decode cX8_figure 127 = .ok (.iload_n 2, 1) := by decide +kernel
theorem dX8_figure_128 : decode cX8_figure 128 = .ok (.if_icmp .le 12, 3) := by decide +kernel
theorem dX8_figure_131 : decode cX8_figure 131 = .ok (.aload_n 0, 1) := by decide +kernel
theorem dX8_figure_132 : decode cX8_figure 132 = .ok (.iconst 2, 1) := by decide +kernel
theorem dX8_figure_133 : decode cX8_figure 133 = .ok (.aload_n 0, 1) := by decide +kernel
theorem dX8_figure_134 : decode cX8_figure 134 = .ok (.getfield 28, 3) := by decide +kernel
theorem dX8_figure_137 : decode cX8_figure 137 = .ok (.invokevirtual 38, 3) := by decide +kernel
theorem dX8_figure_140 : decode cX8_figure 140 = .ok (.aload_n 0, 1) := by decide +kernel
theorem dX8_figure_141 : decode cX8_figure 141 = .ok (.getfield 31, 3) := by decide +kernel
theorem dX8_figure_144 : decode cX8_figure 144 = .ok (.ifCond .ne 7, 3) := by decide +kernel
theorem dX8_figure_147 : decode cX8_figure 147 = .ok (.iload_n 3, 1) := by decide +kernel
theorem dX8_figure_148 : decode cX8_figure 148 = .ok (.goto 4, 3) := by decide +kernel
theorem dX8_figure_151 : decode cX8_figure 151 = .ok (.iload_n 1, 1) := by decide +kernel
theorem dX8_figure_152 : decode cX8_figure 152 = .ok (.ireturn, 1) := by decide +kernel
theorem dX9_init_0 : decode cX9_init 0 = .ok (.aload_n 0, 1) := by decide +kernel
theorem dX9_init_1 : decode cX9_init 1 = .ok (.invokespecial 1, 3) := by decide +kernel
theorem dX9_init_4 : decode cX9_init 4 = .ok (.aload_n 0, 1) := by decide +kernel
theorem dX9_init_5 : decode cX9_init 5 = .ok (.new 7, 3) := by decide +kernel
theorem dX9_init_8 : decode cX9_init 8 = .ok (.dup, 1) := by decide +kernel
theorem dX9_init_9 : decode cX9_init 9 = .ok (.invokespecial 9, 3) := by decide +kernel
theorem dX9_init_12 : decode cX9_init 12 = .ok (.putfield 10, 3) := by decide +kernel
theorem dX9_init_15 : decode cX9_init 15 = .ok (.aload_n 0, 1) := by decide +kernel
theorem dX9_init_16 : decode cX9_init 16 = .ok (.new 16, 3) := by decide +kernel
theorem dX9_init_19 : decode cX9_init 19 = .ok (.dup, 1) := by decide +kernel
theorem dX9_init_20 : decode cX9_init 20 = .ok (.invokespecial 18, 3) := by decide +kernel
theorem dX9_init_23 : decode cX9_init 23 = .ok (.putfield 19, 3) := by decide +kernel
theorem dX9_init_26 : decode cX9_init 26 = .ok (.aload_n 0, 1) := by decide +kernel
theorem dX9_init_27 : decode cX9_init 27 = .ok (.new 23, 3) := by decide +kernel
theorem dX9_init_30 : decode cX9_init 30 = .ok (.dup, 1) := by decide +kernel
theorem dX9_init_31 : decode cX9_init 31 = .ok (.invokespecial 25, 3) := by decide +kernel
theorem dX9_init_34 : decode cX9_init 34 = .ok (.putfield 26, 3) := by decide +kernel
theorem dX9_init_37 : decode cX9_init 37 = .ok (.aload_n 0, 1) := by decide +kernel
theorem dX9_init_38 : decode cX9_init 38 = .ok (.new 30, 3) := by decide +kernel
theorem dX9_init_41 : decode cX9_init 41 = .ok (.dup, 1) := by decide +kernel
theorem dX9_init_42 : decode cX9_init 42 = .ok (.invokespecial 32, 3) := by decide +kernel
theorem dX9_init_45 : decode cX9_init 45 = .ok (.putfield 33, 3) := by decide +kernel
theorem dX9_init_48 : decode cX9_init 48 = .ok (.aload_n 0, 1) := by decide +kernel
theorem dX9_init_49 : decode cX9_init 49 = .ok (.iconst 3, 1) := by decide +kernel
theorem dX9_init_50 : decode cX9_init 50 = .ok (.anewarray 30, 3) := by decide +kernel
theorem dX9_init_53 : decode cX9_init 53 = .ok (.putfield 37, 3) := by decide +kernel
theorem dX9_init_56 : decode cX9_init 56 = .ok (.aload_n 0, 1) := by decide +kernel
theorem dX9_init_57 : decode cX9_init 57 = .ok (.new 41, 3) := by decide +kernel
theorem dX9_init_60 : decode cX9_init 60 = .ok (.dup, 1) := by decide +kernel
theorem dX9_init_61 : decode cX9_init 61 = .ok (.invokespecial 43, 3) := by decide +kernel
theorem dX9_init_64 : decode cX9_init 64 = .ok (.putfield 44, 3) := by decide +kernel
theorem dX9_init_67 : decode cX9_init 67 = .ok (.aload_n 0, 1) := by decide +kernel
theorem dX9_init_68 : decode cX9_init 68 = .ok (.new 48, 3) := by decide +kernel
theorem dX9_init_71 : decode cX9_init 71 = .ok (.dup, 1) := by decide +kernel
theorem dX9_init_72 : decode cX9_init 72 = .ok (.invokespecial 50, 3) := by decide +kernel
theorem dX9_init_75 : decode cX9_init 75 = .ok (.putfield 51, 3) := by decide +kernel
theorem dX9_init_78 : decode cX9_init 78 = .ok (.aload_n 0, 1) := by decide +kernel
theorem dX9_init_79 : decode cX9_init 79 = .ok (.bipush 20, 2) := by decide +kernel
theorem dX9_init_81 : decode cX9_init 81 = .ok (.newarray .int, 2) := by decide +kernel
theorem dX9_init_83 : decode cX9_init 83 = .ok (.putfield 55, 3) := by decide +kernel
theorem dX9_init_86 : decode cX9_init 86 = .ok (.aload_n 0, 1) := by decide +kernel
theorem dX9_init_87 : decode cX9_init 87 = .ok (.new 59, 3) := by decide +kernel
theorem dX9_init_90 : decode cX9_init 90 = .ok (.dup, 1) := by decide +kernel
theorem dX9_init_91 : decode cX9_init 91 = .ok (.invokespecial 61, 3) := by decide +kernel
theorem dX9_init_94 : decode cX9_init 94 = .ok (.putfield 62, 3) := by decide +kernel
theorem dX9_init_97 : decode cX9_init 97 = .ok (.aload_n 0, 1) := by decide +kernel
theorem dX9_init_98 : decode cX9_init 98 = .ok (.new 66, 3) := by decide +kernel
theorem dX9_init_101 : decode cX9_init 101 = .ok (.dup, 1) := by decide +kernel
theorem dX9_init_102 : decode cX9_init 102 = .ok (.invokespecial 68, 3) := by decide +kernel
theorem dX9_init_105 : decode cX9_init 105 = .ok (.putfield 69, 3) := by decide +kernel
theorem dX9_init_108 : decode cX9_init 108 = .ok (.aload_n 0, 1) := by decide +kernel
theorem dX9_init_109 : decode cX9_init 109 = .ok (.new 73, 3) := by decide +kernel
theorem dX9_init_112 : decode cX9_init 112 = .ok (.dup, 1) := by decide +kernel
theorem dX9_init_113 : decode cX9_init 113 = .ok (.invokespecial 75, 3) := by decide +kernel
theorem dX9_init_116 : decode cX9_init 116 = .ok (.putfield 76, 3) := by decide +kernel
theorem dX9_init_119 : decode cX9_init 119 = .ok (.aload_n 0, 1) := by decide +kernel
theorem dX9_init_120 : decode cX9_init 120 = .ok (.new 73, 3) := by decide +kernel
theorem dX9_init_123 : decode cX9_init 123 = .ok (.dup, 1) := by decide +kernel
theorem dX9_init_124 : decode cX9_init 124 = .ok (.invokespecial 75, 3) := by decide +kernel
theorem dX9_init_127 : decode cX9_init 127 = .ok (.putfield 80, 3) := by decide +kernel
theorem dX9_init_130 : decode cX9_init 130 = .ok (.iconst 0, 1) := by decide +kernel
theorem dX9_init_131 : decode cX9_init 131 = .ok (.istore_n 1, 1) := by decide +kernel
theorem dX9_init_132 : decode cX9_init 132 = .ok (.iload_n 1, 1) := by decide +kernel
theorem dX9_init_133 : decode cX9_init 133 = .ok (.iconst 3, 1) := by decide +kernel
theorem dX9_init_134 : decode cX9_init 134 = .ok (.if_icmp .ge 22, 3) := by decide +kernel
theorem dX9_init_137 : decode cX9_init 137 = .ok (.aload_n 0, 1) := by decide +kernel
theorem dX9_init_138 : decode cX9_init 138 = .ok (.getfield 37, 3) := by decide +kernel
theorem dX9_init_141 : decode cX9_init 141 = .ok (.iload_n 1, 1) := by decide +kernel
theorem dX9_init_142 : decode cX9_init 142 = .ok (.new 30, 3) := by decide +kernel
theorem dX9_init_145 : decode cX9_init 145 = .ok (.dup, 1) := by decide +kernel
theorem dX9_init_146 : decode cX9_init 146 = .ok (.invokespecial 32, 3) := by decide +kernel
theorem dX9_init_149 : decode cX9_init 149 = .ok (.aastore, 1) := by decide +kernel
theorem dX9_init_150 : decode cX9_init 150 = .ok (.iinc 1 1, 3) := by decide +kernel
theorem dX9_init_153 : decode cX9_init 153 = .ok (.goto (-21), 3) := by decide +kernel
theorem dX9_init_156 : decode cX9_init 156 = .ok (.return_, 1) := by decide +kernel
theorem dX9_feed_0 : decode cX9_feed 0 = .ok (.aload_n 0, 1) := by decide +kernel
theorem dX9_feed_1 : decode cX9_feed 1 = .ok (.getfield 10, 3) := by decide +kernel
theorem dX9_feed_4 : decode cX9_feed 4 = .ok (.getfield 83, 3) := by decide +kernel
theorem dX9_feed_7 : decode cX9_feed 7 = .ok (.bipush 20, 2) := by decide +kernel
theorem dX9_feed_9 : decode cX9_feed 9 = .ok (.iadd, 1) := by decide +kernel
theorem dX9_feed_10 : decode cX9_feed 10 = .ok (.sipush 600, 3) := by decide +kernel
theorem dX9_feed_13 : decode cX9_feed 13 = .ok (.if_icmp .le 5, 3) := by decide +kernel
theorem dX9_feed_16 : decode cX9_feed 16 = .ok (.iconst (-1), 1) := by decide +kernel
theorem dX9_feed_17 : decode cX9_feed 17 = .ok (.ireturn, 1) := by decide +kernel
theorem dX9_feed_18 : decode cX9_feed 18 = .ok (.aload_n 0, 1) := by decide +kernel
theorem dX9_feed_19 : decode cX9_feed 19 = .ok (.getfield 10, 3) := by decide +kernel
theorem dX9_feed_22 : decode cX9_feed 22 = .ok (.iload_n 1, 1) := by decide +kernel
theorem dX9_feed_23 : decode cX9_feed 23 = .ok (.invokevirtual 87, 3) := by decide +kernel
theorem dX9_feed_26 : decode cX9_feed 26 = .ok (.aload_n 0, 1) := by decide +kernel
theorem dX9_feed_27 : decode cX9_feed 27 = .ok (.getfield 10, 3) := by decide +kernel
theorem dX9_feed_30 : decode cX9_feed 30 = .ok (.iload_n 2, 1) := by decide +kernel
theorem dX9_feed_31 : decode cX9_feed 31 = .ok (.invokevirtual 87, 3) := by decide +kernel
theorem dX9_feed_34 : decode cX9_feed 34 = .ok (.aload_n 0, 1) := by decide +kernel
theorem dX9_feed_35 : decode cX9_feed 35 = .ok (.getfield 10, 3) := by decide +kernel
theorem dX9_feed_38 : decode cX9_feed 38 = .ok (.iload_n 3, 1) := by decide +kernel
theorem dX9_feed_39 : decode cX9_feed 39 = .ok (.invokevirtual 87, 3) := by decide +kernel
theorem dX9_feed_42 : decode cX9_feed 42 = .ok (.aload_n 0, 1) := by decide +kernel
theorem dX9_feed_43 : decode cX9_feed 43 = .ok (.getfield 10, 3) := by decide +kernel
theorem dX9_feed_46 : decode cX9_feed 46 = .ok (.iload 4, 2) := by decide +kernel
theorem dX9_feed_48 : decode cX9_feed 48 = .ok (.invokevirtual 87, 3) := by decide +kernel
theorem dX9_feed_51 : decode cX9_feed 51 = .ok (.aload_n 0, 1) := by decide +kernel
theorem dX9_feed_52 : decode cX9_feed 52 = .ok (.getfield 10, 3) := by decide +kernel
theorem dX9_feed_55 : decode cX9_feed 55 = .ok (.iload 5, 2) := by decide +kernel
theorem dX9_feed_57 : decode cX9_feed 57 = .ok (.invokevirtual 87, 3) := by decide +kernel
theorem dX9_feed_60 : decode cX9_feed 60 = .ok (.aload_n 0, 1) := by decide +kernel
theorem dX9_feed_61 : decode cX9_feed 61 = .ok (.getfield 10, 3) := by decide +kernel
theorem dX9_feed_64 : decode cX9_feed 64 = .ok (.getfield 83, 3) := by decide +kernel
theorem dX9_feed_67 : decode cX9_feed 67 = .ok (.ireturn, 1) := by decide +kernel
theorem dX9_choir_0 : decode cX9_choir 0 = .ok (.aload_n 0, 1) := by decide +kernel
theorem dX9_choir_1 : decode cX9_choir 1 = .ok (.iload_n 1, 1) := by decide +kernel
theorem dX9_choir_2 : decode cX9_choir 2 = .ok (.sipush 600, 3) := by decide +kernel
theorem dX9_choir_5 : decode cX9_choir 5 = .ok (.invokevirtual 91, 3) := by decide +kernel
theorem dX9_choir_8 : decode cX9_choir 8 = .ok (.aload_n 0, 1) := by decide +kernel
theorem dX9_choir_9 : decode cX9_choir 9 = .ok (.getfield 62, 3) := by decide +kernel
theorem dX9_choir_12 : decode cX9_choir 12 = .ok (.aload_n 0, 1) := by decide +kernel
theorem dX9_choir_13 : decode cX9_choir 13 = .ok (.getfield 10, 3) := by decide +kernel
theorem dX9_choir_16 : decode cX9_choir 16 = .ok (.invokevirtual 95, 3) := by decide +kernel
theorem dX9_choir_19 : decode cX9_choir 19 = .ok (.aload_n 0, 1) := by decide +kernel
theorem dX9_choir_20 : decode cX9_choir 20 = .ok (.getfield 10, 3) := by decide +kernel
theorem dX9_choir_23 : decode cX9_choir 23 = .ok (.invokevirtual 99, 3) := by decide +kernel
theorem dX9_choir_26 : decode cX9_choir 26 = .ok (.ifCond .ne 14, 3) := by decide +kernel
theorem dX9_choir_29 : decode cX9_choir 29 = .ok (.aload_n 0, 1) := by decide +kernel
theorem dX9_choir_30 : decode cX9_choir 30 = .ok (.getfield 10, 3) := by decide +kernel
theorem dX9_choir_33 : decode cX9_choir 33 = .ok (.getfield 103, 3) := by decide +kernel
theorem dX9_choir_36 : decode cX9_choir 36 = .ok (.bipush 10, 2) := by decide +kernel
theorem dX9_choir_38 : decode cX9_choir 38 = .ok (.isub, 1) := by decide +kernel
theorem dX9_choir_39 : decode cX9_choir 39 = .ok (.ireturn, 1) := by decide +kernel
theorem dX9_choir_40 : decode cX9_choir 40 = .ok (.aload_n 0, 1) := by decide +kernel
theorem dX9_choir_41 : decode cX9_choir 41 = .ok (.getfield 19, 3) := by decide +kernel
theorem dX9_choir_44 : decode cX9_choir 44 = .ok (.getfield 106, 3) := by decide +kernel
theorem dX9_choir_47 : decode cX9_choir 47 = .ok (.astore_n 2, 1) := by decide +kernel
theorem dX9_choir_48 : decode cX9_choir 48 = .ok (.aload_n 0, 1) := by decide +kernel
theorem dX9_choir_49 : decode cX9_choir 49 = .ok (.getfield 19, 3) := by decide +kernel
theorem dX9_choir_52 : decode cX9_choir 52 = .ok (.aload_n 0, 1) := by decide +kernel
theorem dX9_choir_53 : decode cX9_choir 53 = .ok (.getfield 62, 3) := by decide +kernel
theorem dX9_choir_56 : decode cX9_choir 56 = .ok (.putfield 106, 3) := by decide +kernel
theorem dX9_choir_59 : decode cX9_choir 59 = .ok (.aload_n 0, 1) := by decide +kernel
theorem dX9_choir_60 : decode cX9_choir 60 = .ok (.aload_n 2, 1) := by decide +kernel
theorem dX9_choir_61 : decode cX9_choir 61 = .ok (.putfield 62, 3) := by decide +kernel
theorem dX9_choir_64 : decode cX9_choir 64 = .ok (.aload_n 0, 1) := by decide +kernel
theorem dX9_choir_65 : decode cX9_choir 65 = .ok (.invokevirtual 109, 3) := by decide +kernel
theorem dX9_choir_68 : decode cX9_choir 68 = .ok (.aload_n 0, 1) := by decide +kernel
theorem dX9_choir_69 : decode cX9_choir 69 = .ok (.getfield 19, 3) := by decide +kernel
theorem dX9_choir_72 : decode cX9_choir 72 = .ok (.getfield 106, 3) := by decide +kernel
theorem dX9_choir_75 : decode cX9_choir 75 = .ok (.getfield 112, 3) := by decide +kernel
theorem dX9_choir_78 : decode cX9_choir 78 = .ok (.ireturn, 1) := by decide +kernel
theorem dX9_law_0 : decode cX9_law 0 = .ok (.aload_n 0, 1) := by decide +kernel
theorem dX9_law_1 : decode cX9_law 1 = .ok (.iload_n 1, 1) := by decide +kernel
theorem dX9_law_2 : decode cX9_law 2 = .ok (.sipush 150, 3) := by decide +kernel
theorem dX9_law_5 : decode cX9_law 5 = .ok (.invokevirtual 91, 3) := by decide +kernel
theorem dX9_law_8 : decode cX9_law 8 = .ok (.aload_n 0, 1) := by decide +kernel
theorem dX9_law_9 : decode cX9_law 9 = .ok (.getfield 69, 3) := by decide +kernel
theorem dX9_law_12 : decode cX9_law 12 = .ok (.aload_n 0, 1) := by decide +kernel
theorem dX9_law_13 : decode cX9_law 13 = .ok (.getfield 10, 3) := by decide +kernel
theorem dX9_law_16 : decode cX9_law 16 = .ok (.invokevirtual 115, 3) := by decide +kernel
theorem dX9_law_19 : decode cX9_law 19 = .ok (.aload_n 0, 1) := by decide +kernel
theorem dX9_law_20 : decode cX9_law 20 = .ok (.getfield 10, 3) := by decide +kernel
theorem dX9_law_23 : decode cX9_law 23 = .ok (.invokevirtual 99, 3) := by decide +kernel
theorem dX9_law_26 : decode cX9_law 26 = .ok (.ifCond .ne 14, 3) := by decide +kernel
theorem dX9_law_29 : decode cX9_law 29 = .ok (.aload_n 0, 1) := by decide +kernel
theorem dX9_law_30 : decode cX9_law 30 = .ok (.getfield 10, 3) := by decide +kernel
theorem dX9_law_33 : decode cX9_law 33 = .ok (.getfield 103, 3) := by decide +kernel
theorem dX9_law_36 : decode cX9_law 36 = .ok (.bipush 10, 2) := by decide +kernel
theorem dX9_law_38 : decode cX9_law 38 = .ok (.isub, 1) := by decide +kernel
theorem dX9_law_39 : decode cX9_law 39 = .ok (.ireturn, 1) := by decide +kernel
theorem dX9_law_40 : decode cX9_law 40 = .ok (.aload_n 0, 1) := by decide +kernel
theorem dX9_law_41 : decode cX9_law 41 = .ok (.getfield 19, 3) := by decide +kernel
theorem dX9_law_44 : decode cX9_law 44 = .ok (.getfield 116, 3) := by decide +kernel
theorem dX9_law_47 : decode cX9_law 47 = .ok (.astore_n 2, 1) := by decide +kernel
theorem dX9_law_48 : decode cX9_law 48 = .ok (.aload_n 0, 1) := by decide +kernel
theorem dX9_law_49 : decode cX9_law 49 = .ok (.getfield 19, 3) := by decide +kernel
theorem dX9_law_52 : decode cX9_law 52 = .ok (.aload_n 0, 1) := by decide +kernel
theorem dX9_law_53 : decode cX9_law 53 = .ok (.getfield 69, 3) := by decide +kernel
theorem dX9_law_56 : decode cX9_law 56 = .ok (.putfield 116, 3) := by decide +kernel
theorem dX9_law_59 : decode cX9_law 59 = .ok (.aload_n 0, 1) := by decide +kernel
theorem dX9_law_60 : decode cX9_law 60 = .ok (.aload_n 2, 1) := by decide +kernel
theorem dX9_law_61 : decode cX9_law 61 = .ok (.putfield 69, 3) := by decide +kernel
theorem dX9_law_64 : decode cX9_law 64 = .ok (.iconst 1, 1) := by decide +kernel
theorem dX9_law_65 : decode cX9_law 65 = .ok (.ireturn, 1) := by decide +kernel
theorem dX9_work_0 : decode cX9_work 0 = .ok (.aload_n 0, 1) := by decide +kernel
theorem dX9_work_1 : decode cX9_work 1 = .ok (.iload_n 1, 1) := by decide +kernel
theorem dX9_work_2 : decode cX9_work 2 = .ok (.sipush 150, 3) := by decide +kernel
theorem dX9_work_5 : decode cX9_work 5 = .ok (.invokevirtual 91, 3) := by decide +kernel
theorem dX9_work_8 : decode cX9_work 8 = .ok (.aload_n 0, 1) := by decide +kernel
theorem dX9_work_9 : decode cX9_work 9 = .ok (.getfield 33, 3) := by decide +kernel
theorem dX9_work_12 : decode cX9_work 12 = .ok (.getfield 119, 3) := by decide +kernel
theorem dX9_work_15 : decode cX9_work 15 = .ok (.bipush 16, 2) := by decide +kernel
theorem dX9_work_17 : decode cX9_work 17 = .ok (.if_icmp .lt 6, 3) := by decide +kernel
theorem dX9_work_20 : decode cX9_work 20 = .ok (.bipush (-20), 2) := by decide +kernel
theorem dX9_work_22 : decode cX9_work 22 = .ok (.ireturn, 1) := by decide +kernel
theorem dX9_work_23 : decode cX9_work 23 = .ok (.aload_n 0, 1) := by decide +kernel
theorem dX9_work_24 : decode cX9_work 24 = .ok (.getfield 26, 3) := by decide +kernel
theorem dX9_work_27 : decode cX9_work 27 = .ok (.aload_n 0, 1) := by decide +kernel
theorem dX9_work_28 : decode cX9_work 28 = .ok (.getfield 10, 3) := by decide +kernel
theorem dX9_work_31 : decode cX9_work 31 = .ok (.aload_n 0, 1) := by decide +kernel
theorem dX9_work_32 : decode cX9_work 32 = .ok (.getfield 19, 3) := by decide +kernel
theorem dX9_work_35 : decode cX9_work 35 = .ok (.getfield 106, 3) := by decide +kernel
theorem dX9_work_38 : decode cX9_work 38 = .ok (.invokevirtual 122, 3) := by decide +kernel
theorem dX9_work_41 : decode cX9_work 41 = .ok (.aload_n 0, 1) := by decide +kernel
theorem dX9_work_42 : decode cX9_work 42 = .ok (.getfield 10, 3) := by decide +kernel
theorem dX9_work_45 : decode cX9_work 45 = .ok (.invokevirtual 99, 3) := by decide +kernel
theorem dX9_work_48 : decode cX9_work 48 = .ok (.ifCond .ne 14, 3) := by decide +kernel
theorem dX9_work_51 : decode cX9_work 51 = .ok (.aload_n 0, 1) := by decide +kernel
theorem dX9_work_52 : decode cX9_work 52 = .ok (.getfield 10, 3) := by decide +kernel
theorem dX9_work_55 : decode cX9_work 55 = .ok (.getfield 103, 3) := by decide +kernel
theorem dX9_work_58 : decode cX9_work 58 = .ok (.bipush 10, 2) := by decide +kernel
theorem dX9_work_60 : decode cX9_work 60 = .ok (.isub, 1) := by decide +kernel
theorem dX9_work_61 : decode cX9_work 61 = .ok (.ireturn, 1) := by decide +kernel
theorem dX9_work_62 : decode cX9_work 62 = .ok (.aload_n 0, 1) := by decide +kernel
theorem dX9_work_63 : decode cX9_work 63 = .ok (.getfield 33, 3) := by decide +kernel
theorem dX9_work_66 : decode cX9_work 66 = .ok (.invokevirtual 125, 3) := by decide +kernel
theorem dX9_work_69 : decode cX9_work 69 = .ok (.aload_n 0, 1) := by decide +kernel
theorem dX9_work_70 : decode cX9_work 70 = .ok (.getfield 26, 3) := by decide +kernel
theorem dX9_work_73 : decode cX9_work 73 = .ok (.aload_n 0, 1) := by decide +kernel
theorem dX9_work_74 : decode cX9_work 74 = .ok (.getfield 19, 3) := by decide +kernel
theorem dX9_work_77 : decode cX9_work 77 = .ok (.aload_n 0, 1) := by decide +kernel
theorem dX9_work_78 : decode cX9_work 78 = .ok (.getfield 33, 3) := by decide +kernel
theorem dX9_work_81 : decode cX9_work 81 = .ok (.getfield 128, 3) := by decide +kernel
theorem dX9_work_84 : decode cX9_work 84 = .ok (.iconst 0, 1) := by decide +kernel
theorem dX9_work_85 : decode cX9_work 85 = .ok (.aload_n 0, 1) := by decide +kernel
theorem dX9_work_86 : decode cX9_work 86 = .ok (.getfield 26, 3) := by decide +kernel
theorem dX9_work_89 : decode cX9_work 89 = .ok (.getfield 131, 3) := by decide +kernel
theorem dX9_work_92 : decode cX9_work 92 = .ok (.invokevirtual 134, 3) := by decide +kernel
theorem dX9_work_95 : decode cX9_work 95 = .ok (.aload_n 0, 1) := by decide +kernel
theorem dX9_work_96 : decode cX9_work 96 = .ok (.aload_n 0, 1) := by decide +kernel
theorem dX9_work_97 : decode cX9_work 97 = .ok (.getfield 26, 3) := by decide +kernel
theorem dX9_work_100 : decode cX9_work 100 = .ok (.getfield 138, 3) := by decide +kernel
theorem dX9_work_103 : decode cX9_work 103 = .ok (.putfield 141, 3) := by decide +kernel
theorem dX9_work_106 : decode cX9_work 106 = .ok (.aload_n 0, 1) := by decide +kernel
theorem dX9_work_107 : decode cX9_work 107 = .ok (.getfield 26, 3) := by decide +kernel
theorem dX9_work_110 : decode cX9_work 110 = .ok (.getfield 144, 3) := by decide +kernel
theorem dX9_work_113 : decode cX9_work 113 = .ok (.ireturn, 1) := by decide +kernel
theorem dX9_book_0 : decode cX9_book 0 = .ok (.aload_n 0, 1) := by decide +kernel
theorem dX9_book_1 : decode cX9_book 1 = .ok (.iload_n 1, 1) := by decide +kernel
theorem dX9_book_2 : decode cX9_book 2 = .ok (.bipush 60, 2) := by decide +kernel
theorem dX9_book_4 : decode cX9_book 4 = .ok (.invokevirtual 91, 3) := by decide +kernel
theorem dX9_book_7 : decode cX9_book 7 = .ok (.aload_n 0, 1) := by decide +kernel
theorem dX9_book_8 : decode cX9_book 8 = .ok (.getfield 80, 3) := by decide +kernel
theorem dX9_book_11 : decode cX9_book 11 = .ok (.aload_n 0, 1) := by decide +kernel
theorem dX9_book_12 : decode cX9_book 12 = .ok (.getfield 10, 3) := by decide +kernel
theorem dX9_book_15 : decode cX9_book 15 = .ok (.aload_n 0, 1) := by decide +kernel
theorem dX9_book_16 : decode cX9_book 16 = .ok (.getfield 19, 3) := by decide +kernel
theorem dX9_book_19 : decode cX9_book 19 = .ok (.getfield 106, 3) := by decide +kernel
theorem dX9_book_22 : decode cX9_book 22 = .ok (.getfield 147, 3) := by decide +kernel
theorem dX9_book_25 : decode cX9_book 25 = .ok (.invokevirtual 150, 3) := by decide +kernel
theorem dX9_book_28 : decode cX9_book 28 = .ok (.aload_n 0, 1) := by decide +kernel
theorem dX9_book_29 : decode cX9_book 29 = .ok (.getfield 10, 3) := by decide +kernel
theorem dX9_book_32 : decode cX9_book 32 = .ok (.invokevirtual 99, 3) := by decide +kernel
theorem dX9_book_35 : decode cX9_book 35 = .ok (.ifCond .ne 14, 3) := by decide +kernel
theorem dX9_book_38 : decode cX9_book 38 = .ok (.aload_n 0, 1) := by decide +kernel
theorem dX9_book_39 : decode cX9_book 39 = .ok (.getfield 10, 3) := by decide +kernel
theorem dX9_book_42 : decode cX9_book 42 = .ok (.getfield 103, 3) := by decide +kernel
theorem dX9_book_45 : decode cX9_book 45 = .ok (.bipush 10, 2) := by decide +kernel
theorem dX9_book_47 : decode cX9_book 47 = .ok (.isub, 1) := by decide +kernel
theorem dX9_book_48 : decode cX9_book 48 = .ok (.ireturn, 1) := by decide +kernel
theorem dX9_book_49 : decode cX9_book 49 = .ok (.aload_n 0, 1) := by decide +kernel
theorem dX9_book_50 : decode cX9_book 50 = .ok (.getfield 76, 3) := by decide +kernel
theorem dX9_book_53 : decode cX9_book 53 = .ok (.astore_n 2, 1) := by decide +kernel
theorem dX9_book_54 : decode cX9_book 54 = .ok (.aload_n 0, 1) := by decide +kernel
theorem dX9_book_55 : decode cX9_book 55 = .ok (.aload_n 0, 1) := by decide +kernel
theorem dX9_book_56 : decode cX9_book 56 = .ok (.getfield 80, 3) := by decide +kernel
theorem dX9_book_59 : decode cX9_book 59 = .ok (.putfield 76, 3) := by decide +kernel
theorem dX9_book_62 : decode cX9_book 62 = .ok (.aload_n 0, 1) := by decide +kernel
theorem dX9_book_63 : decode cX9_book 63 = .ok (.aload_n 2, 1) := by decide +kernel
theorem dX9_book_64 : decode cX9_book 64 = .ok (.putfield 80, 3) := by decide +kernel
theorem dX9_book_67 : decode cX9_book 67 = .ok (.aload_n 0, 1) := by decide +kernel
theorem dX9_book_68 : decode cX9_book 68 = .ok (.getfield 76, 3) := by decide +kernel
theorem dX9_book_71 : decode cX9_book 71 = .ok (.getfield 153, 3) := by decide +kernel
theorem dX9_book_74 : decode cX9_book 74 = .ok (.invokestatic 156, 3) := by decide +kernel
theorem dX9_book_77 : decode cX9_book 77 = .ok (.ireturn, 1) := by decide +kernel
theorem dX9_fault_0 : decode cX9_fault 0 = .ok (.aload_n 0, 1) := by decide +kernel
theorem dX9_fault_1 : decode cX9_fault 1 = .ok (.getfield 10, 3) := by decide +kernel
theorem dX9_fault_4 : decode cX9_fault 4 = .ok (.getfield 162, 3) := by decide +kernel
theorem dX9_fault_7 : decode cX9_fault 7 = .ok (.ireturn, 1) := by decide +kernel
theorem dX9_undo_0 : decode cX9_undo 0 = .ok (.aload_n 0, 1) := by decide +kernel
theorem dX9_undo_1 : decode cX9_undo 1 = .ok (.getfield 33, 3) := by decide +kernel
theorem dX9_undo_4 : decode cX9_undo 4 = .ok (.getfield 119, 3) := by decide +kernel
theorem dX9_undo_7 : decode cX9_undo 7 = .ok (.ifCond .gt 5, 3) := by decide +kernel
theorem dX9_undo_10 : decode cX9_undo 10 = .ok (.iconst (-1), 1) := by decide +kernel
theorem dX9_undo_11 : decode cX9_undo 11 = .ok (.ireturn, 1) := by decide +kernel
theorem dX9_undo_12 : decode cX9_undo 12 = .ok (.aload_n 0, 1) := by decide +kernel
theorem dX9_undo_13 : decode cX9_undo 13 = .ok (.getfield 33, 3) := by decide +kernel
theorem dX9_undo_16 : decode cX9_undo 16 = .ok (.invokevirtual 165, 3) := by decide +kernel
theorem dX9_undo_19 : decode cX9_undo 19 = .ok (.aload_n 0, 1) := by decide +kernel
theorem dX9_undo_20 : decode cX9_undo 20 = .ok (.iconst 0, 1) := by decide +kernel
theorem dX9_undo_21 : decode cX9_undo 21 = .ok (.putfield 141, 3) := by decide +kernel
theorem dX9_undo_24 : decode cX9_undo 24 = .ok (.aload_n 0, 1) := by decide +kernel
theorem dX9_undo_25 : decode cX9_undo 25 = .ok (.getfield 33, 3) := by decide +kernel
theorem dX9_undo_28 : decode cX9_undo 28 = .ok (.getfield 119, 3) := by decide +kernel
theorem dX9_undo_31 : decode cX9_undo 31 = .ok (.ireturn, 1) := by decide +kernel
theorem dX9_told_0 : decode cX9_told 0 = .ok (.aload_n 0, 1) := by decide +kernel
theorem dX9_told_1 : decode cX9_told 1 = .ok (.iload_n 1, 1) := by decide +kernel
theorem dX9_told_2 : decode cX9_told 2 = .ok (.iconst 0, 1) := by decide +kernel
theorem dX9_told_3 : decode cX9_told 3 = .ok (.bipush 11, 2) := by decide +kernel
theorem dX9_told_5 : decode cX9_told 5 = .ok (.invokestatic 168, 3) := by decide +kernel
theorem dX9_told_8 : decode cX9_told 8 = .ok (.invokevirtual 172, 3) := by decide +kernel
theorem dX9_told_11 : decode cX9_told 11 = .ok (.aload_n 0, 1) := by decide +kernel
