theorem dX10_singer_150 : decode cX10_singer 150 = .ok (.iload_n 1, 1) := by decide +kernel
theorem dX10_singer_151 : decode cX10_singer 151 = .ok (.iadd, 1) := by decide +kernel
theorem dX10_singer_152 : decode cX10_singer 152 = .ok (.iaload, 1) := by decide +kernel
theorem dX10_singer_153 : decode cX10_singer 153 = .ok (.ireturn, 1) := by decide +kernel
theorem dX10_note_0 : decode cX10_note 0 = .ok (.aload_n 0, 1) := by decide +kernel
theorem dX10_note_1 : decode cX10_note 1 = .ok (.iconst 0, 1) := by decide +kernel
theorem dX10_note_2 : decode cX10_note 2 = .ok (.putfield 95, 3) := by decide +kernel
theorem dX10_note_5 : decode cX10_note 5 = .ok (.aload_n 0, 1) := by decide +kernel
theorem dX10_note_6 : decode cX10_note 6 = .ok (.aload_n 0, 1) := by decide +kernel
theorem dX10_note_7 : decode cX10_note 7 = .ok (.iload_n 1, 1) := by decide +kernel
theorem dX10_note_8 : decode cX10_note 8 = .ok (.invokevirtual 324, 3) := by decide +kernel
theorem dX10_note_11 : decode cX10_note 11 = .ok (.ifCond .ne 7, 3) := by decide +kernel
theorem dX10_note_14 : decode cX10_note 14 = .ok (.iconst 1, 1) := by decide +kernel
theorem dX10_note_15 : decode cX10_note 15 = .ok (.goto 4, 3) := by decide +kernel
theorem dX10_note_18 : decode cX10_note 18 = .ok (.iconst 0, 1) := by decide +kernel
theorem dX10_note_19 : decode cX10_note 19 = .ok (.iconst 1, 1) := by decide +kernel
theorem dX10_note_20 : decode cX10_note 20 = .ok (.iconst 0, 1) := by decide +kernel
theorem dX10_note_21 : decode cX10_note 21 = .ok (.invokevirtual 171, 3) := by decide +kernel
theorem dX10_note_24 : decode cX10_note 24 = .ok (.ifCond .ne 26, 3) := by decide +kernel
theorem dX10_note_27 : decode cX10_note 27 = .ok (.aload_n 0, 1) := by decide +kernel
theorem dX10_note_28 : decode cX10_note 28 = .ok (.iload_n 2, 1) := by decide +kernel
theorem dX10_note_29 : decode cX10_note 29 = .ok (.iconst 0, 1) := by decide +kernel
theorem dX10_note_30 : decode cX10_note 30 = .ok (.iconst 3, 1) := by decide +kernel
theorem dX10_note_31 : decode cX10_note 31 = .ok (.invokestatic 129, 3) := by decide +kernel
theorem dX10_note_34 : decode cX10_note 34 = .ok (.ifCond .ne 7, 3) := by decide +kernel
theorem dX10_note_37 : decode cX10_note 37 = .ok (.iconst 1, 1) := by decide +kernel
theorem dX10_note_38 : decode cX10_note 38 = .ok (.goto 4, 3) := by decide +kernel
theorem dX10_note_41 : decode cX10_note 41 = .ok (.iconst 0, 1) := by decide +kernel
theorem dX10_note_42 : decode cX10_note 42 = .ok (.iconst 2, 1) := by decide +kernel
theorem dX10_note_43 : decode cX10_note 43 = .ok (.iconst 1, 1) := by decide +kernel
theorem dX10_note_44 : decode cX10_note 44 = .ok (.invokevirtual 171, 3) := by decide +kernel
theorem dX10_note_47 : decode cX10_note 47 = .ok (.ifCond .eq 5, 3) := by decide +kernel
theorem dX10_note_50 : decode cX10_note 50 = .ok (.iconst 0, 1) := by decide +kernel
theorem dX10_note_51 : decode cX10_note 51 = .ok (.ireturn, 1) := by decide +kernel
theorem dX10_note_52 : decode cX10_note 52 = .ok (.iload_n 2, 1) := by decide +kernel
theorem dX10_note_53 : decode cX10_note 53 = .ok (.ifCond .ne 15, 3) := by decide +kernel
theorem dX10_note_56 : decode cX10_note 56 = .ok (.aload_n 0, 1) := by decide +kernel
theorem dX10_note_57 : decode cX10_note 57 = .ok (.getfield 67, 3) := by decide +kernel
theorem dX10_note_60 : decode cX10_note 60 = .ok (.bipush 35, 2) := by decide +kernel
theorem dX10_note_62 : decode cX10_note 62 = .ok (.iload_n 1, 1) := by decide +kernel
theorem dX10_note_63 : decode cX10_note 63 = .ok (.iadd, 1) := by decide +kernel
theorem dX10_note_64 : decode cX10_note 64 = .ok (.iaload, 1) := by decide +kernel
theorem dX10_note_65 : decode cX10_note 65 = .ok (.goto 30, 3) := by decide +kernel
theorem dX10_note_68 : decode cX10_note 68 = .ok (.iload_n 2, 1) := by decide +kernel
theorem dX10_note_69 : decode cX10_note 69 = .ok (.iconst 3, 1) := by decide +kernel
theorem dX10_note_70 : decode cX10_note 70 = .ok (.if_icmp .ge 16, 3) := by decide +kernel
theorem dX10_note_73 : decode cX10_note 73 = .ok (.aload_n 0, 1) := by decide +kernel
theorem dX10_note_74 : decode cX10_note 74 = .ok (.getfield 37, 3) := by decide +kernel
theorem dX10_note_77 : decode cX10_note 77 = .ok (.iload_n 1, 1) := by decide +kernel
theorem dX10_note_78 : decode cX10_note 78 = .ok (.aaload, 1) := by decide +kernel
theorem dX10_note_79 : decode cX10_note 79 = .ok (.iload_n 2, 1) := by decide +kernel
theorem dX10_note_80 : decode cX10_note 80 = .ok (.iconst 1, 1) := by decide +kernel
theorem dX10_note_81 : decode cX10_note 81 = .ok (.isub, 1) := by decide +kernel
theorem dX10_note_82 : decode cX10_note 82 = .ok (.iaload, 1) := by decide +kernel
theorem dX10_note_83 : decode cX10_note 83 = .ok (.goto 12, 3) := by decide +kernel
theorem dX10_note_86 : decode cX10_note 86 = .ok (.aload_n 0, 1) := by decide +kernel
theorem dX10_note_87 : decode cX10_note 87 = .ok (.aload_n 0, 1) := by decide +kernel
theorem dX10_note_88 : decode cX10_note 88 = .ok (.getfield 67, 3) := by decide +kernel
theorem dX10_note_91 : decode cX10_note 91 = .ok (.iload_n 1, 1) := by decide +kernel
theorem dX10_note_92 : decode cX10_note 92 = .ok (.invokevirtual 269, 3) := by decide +kernel
theorem dX10_note_95 : decode cX10_note 95 = .ok (.ireturn, 1) := by decide +kernel
theorem dX10_like_0 : decode cX10_like 0 = .ok (.aload_n 0, 1) := by decide +kernel
theorem dX10_like_1 : decode cX10_like 1 = .ok (.iconst 0, 1) := by decide +kernel
theorem dX10_like_2 : decode cX10_like 2 = .ok (.putfield 95, 3) := by decide +kernel
theorem dX10_like_5 : decode cX10_like 5 = .ok (.aload_n 0, 1) := by decide +kernel
theorem dX10_like_6 : decode cX10_like 6 = .ok (.iload_n 1, 1) := by decide +kernel
theorem dX10_like_7 : decode cX10_like 7 = .ok (.iconst 0, 1) := by decide +kernel
theorem dX10_like_8 : decode cX10_like 8 = .ok (.aload_n 0, 1) := by decide +kernel
theorem dX10_like_9 : decode cX10_like 9 = .ok (.getfield 23, 3) := by decide +kernel
theorem dX10_like_12 : decode cX10_like 12 = .ok (.iconst 2, 1) := by decide +kernel
theorem dX10_like_13 : decode cX10_like 13 = .ok (.iaload, 1) := by decide +kernel
theorem dX10_like_14 : decode cX10_like 14 = .ok (.iconst 1, 1) := by decide +kernel
theorem dX10_like_15 : decode cX10_like 15 = .ok (.isub, 1) := by decide +kernel
theorem dX10_like_16 : decode cX10_like 16 = .ok (.invokestatic 129, 3) := by decide +kernel
theorem dX10_like_19 : decode cX10_like 19 = .ok (.ifCond .ne 7, 3) := by decide +kernel
theorem dX10_like_22 : decode cX10_like 22 = .ok (.iconst 1, 1) := by decide +kernel
theorem dX10_like_23 : decode cX10_like 23 = .ok (.goto 4, 3) := by decide +kernel
theorem dX10_like_26 : decode cX10_like 26 = .ok (.iconst 0, 1) := by decide +kernel
theorem dX10_like_27 : decode cX10_like 27 = .ok (.iconst 1, 1) := by decide +kernel
theorem dX10_like_28 : decode cX10_like 28 = .ok (.iconst 0, 1) := by decide +kernel
theorem dX10_like_29 : decode cX10_like 29 = .ok (.invokevirtual 171, 3) := by decide +kernel
theorem dX10_like_32 : decode cX10_like 32 = .ok (.ifCond .ne 26, 3) := by decide +kernel
theorem dX10_like_35 : decode cX10_like 35 = .ok (.aload_n 0, 1) := by decide +kernel
theorem dX10_like_36 : decode cX10_like 36 = .ok (.iload_n 2, 1) := by decide +kernel
theorem dX10_like_37 : decode cX10_like 37 = .ok (.iconst 0, 1) := by decide +kernel
theorem dX10_like_38 : decode cX10_like 38 = .ok (.iconst 1, 1) := by decide +kernel
theorem dX10_like_39 : decode cX10_like 39 = .ok (.invokestatic 129, 3) := by decide +kernel
theorem dX10_like_42 : decode cX10_like 42 = .ok (.ifCond .ne 7, 3) := by decide +kernel
theorem dX10_like_45 : decode cX10_like 45 = .ok (.iconst 1, 1) := by decide +kernel
theorem dX10_like_46 : decode cX10_like 46 = .ok (.goto 4, 3) := by decide +kernel
theorem dX10_like_49 : decode cX10_like 49 = .ok (.iconst 0, 1) := by decide +kernel
theorem dX10_like_50 : decode cX10_like 50 = .ok (.iconst 2, 1) := by decide +kernel
theorem dX10_like_51 : decode cX10_like 51 = .ok (.iconst 1, 1) := by decide +kernel
theorem dX10_like_52 : decode cX10_like 52 = .ok (.invokevirtual 171, 3) := by decide +kernel
theorem dX10_like_55 : decode cX10_like 55 = .ok (.ifCond .eq 5, 3) := by decide +kernel
theorem dX10_like_58 : decode cX10_like 58 = .ok (.iconst 0, 1) := by decide +kernel
theorem dX10_like_59 : decode cX10_like 59 = .ok (.ireturn, 1) := by decide +kernel
theorem dX10_like_60 : decode cX10_like 60 = .ok (.aload_n 0, 1) := by decide +kernel
theorem dX10_like_61 : decode cX10_like 61 = .ok (.getfield 43, 3) := by decide +kernel
theorem dX10_like_64 : decode cX10_like 64 = .ok (.iload_n 1, 1) := by decide +kernel
theorem dX10_like_65 : decode cX10_like 65 = .ok (.aaload, 1) := by decide +kernel
theorem dX10_like_66 : decode cX10_like 66 = .ok (.iload_n 2, 1) := by decide +kernel
theorem dX10_like_67 : decode cX10_like 67 = .ok (.iaload, 1) := by decide +kernel
theorem dX10_like_68 : decode cX10_like 68 = .ok (.ireturn, 1) := by decide +kernel
theorem dX10_takes_0 : decode cX10_takes 0 = .ok (.aload_n 0, 1) := by decide +kernel
theorem dX10_takes_1 : decode cX10_takes 1 = .ok (.iconst 0, 1) := by decide +kernel
theorem dX10_takes_2 : decode cX10_takes 2 = .ok (.putfield 95, 3) := by decide +kernel
theorem dX10_takes_5 : decode cX10_takes 5 = .ok (.aload_n 0, 1) := by decide +kernel
theorem dX10_takes_6 : decode cX10_takes 6 = .ok (.aload_n 0, 1) := by decide +kernel
theorem dX10_takes_7 : decode cX10_takes 7 = .ok (.iload_n 1, 1) := by decide +kernel
theorem dX10_takes_8 : decode cX10_takes 8 = .ok (.invokevirtual 324, 3) := by decide +kernel
theorem dX10_takes_11 : decode cX10_takes 11 = .ok (.ifCond .eq 11, 3) := by decide +kernel
theorem dX10_takes_14 : decode cX10_takes 14 = .ok (.aload_n 0, 1) := by decide +kernel
theorem dX10_takes_15 : decode cX10_takes 15 = .ok (.iload_n 2, 1) := by decide +kernel
theorem dX10_takes_16 : decode cX10_takes 16 = .ok (.invokevirtual 321, 3) := by decide +kernel
theorem dX10_takes_19 : decode cX10_takes 19 = .ok (.ifCond .ne 7, 3) := by decide +kernel
theorem dX10_takes_22 : decode cX10_takes 22 = .ok (.iconst 1, 1) := by decide +kernel
theorem dX10_takes_23 : decode cX10_takes 23 = .ok (.goto 4, 3) := by decide +kernel
theorem dX10_takes_26 : decode cX10_takes 26 = .ok (.iconst 0, 1) := by decide +kernel
theorem dX10_takes_27 : decode cX10_takes 27 = .ok (.iconst 1, 1) := by decide +kernel
theorem dX10_takes_28 : decode cX10_takes 28 = .ok (.iconst 0, 1) := by decide +kernel
theorem dX10_takes_29 : decode cX10_takes 29 = .ok (.invokevirtual 171, 3) := by decide +kernel
theorem dX10_takes_32 : decode cX10_takes 32 = .ok (.ifCond .eq 5, 3) := by decide +kernel
theorem dX10_takes_35 : decode cX10_takes 35 = .ok (.iconst 0, 1) := by decide +kernel
theorem dX10_takes_36 : decode cX10_takes 36 = .ok (.ireturn, 1) := by decide +kernel
theorem dX10_takes_37 : decode cX10_takes 37 = .ok (.aload_n 0, 1) := by decide +kernel
theorem dX10_takes_38 : decode cX10_takes 38 = .ok (.aload_n 0, 1) := by decide +kernel
theorem dX10_takes_39 : decode cX10_takes 39 = .ok (.getfield 67, 3) := by decide +kernel
theorem dX10_takes_42 : decode cX10_takes 42 = .ok (.iload_n 1, 1) := by decide +kernel
theorem dX10_takes_43 : decode cX10_takes 43 = .ok (.iload_n 2, 1) := by decide +kernel
theorem dX10_takes_44 : decode cX10_takes 44 = .ok (.invokevirtual 265, 3) := by decide +kernel
theorem dX10_takes_47 : decode cX10_takes 47 = .ok (.ireturn, 1) := by decide +kernel
theorem dX10_would_0 : decode cX10_would 0 = .ok (.aload_n 0, 1) := by decide +kernel
theorem dX10_would_1 : decode cX10_would 1 = .ok (.iconst 0, 1) := by decide +kernel
theorem dX10_would_2 : decode cX10_would 2 = .ok (.putfield 95, 3) := by decide +kernel
theorem dX10_would_5 : decode cX10_would 5 = .ok (.aload_n 0, 1) := by decide +kernel
theorem dX10_would_6 : decode cX10_would 6 = .ok (.iload_n 1, 1) := by decide +kernel
theorem dX10_would_7 : decode cX10_would 7 = .ok (.iconst 1, 1) := by decide +kernel
theorem dX10_would_8 : decode cX10_would 8 = .ok (.bipush 9, 2) := by decide +kernel
theorem dX10_would_10 : decode cX10_would 10 = .ok (.invokestatic 129, 3) := by decide +kernel
theorem dX10_would_13 : decode cX10_would 13 = .ok (.ifCond .eq 77, 3) := by decide +kernel
theorem dX10_would_16 : decode cX10_would 16 = .ok (.iload_n 2, 1) := by decide +kernel
theorem dX10_would_17 : decode cX10_would 17 = .ok (.iconst 0, 1) := by decide +kernel
theorem dX10_would_18 : decode cX10_would 18 = .ok (.bipush 60, 2) := by decide +kernel
theorem dX10_would_20 : decode cX10_would 20 = .ok (.invokestatic 129, 3) := by decide +kernel
theorem dX10_would_23 : decode cX10_would 23 = .ok (.ifCond .eq 67, 3) := by decide +kernel
theorem dX10_would_26 : decode cX10_would 26 = .ok (.iload_n 3, 1) := by decide +kernel
theorem dX10_would_27 : decode cX10_would 27 = .ok (.iconst 0, 1) := by decide +kernel
theorem dX10_would_28 : decode cX10_would 28 = .ok (.bipush 30, 2) := by decide +kernel
theorem dX10_would_30 : decode cX10_would 30 = .ok (.invokestatic 129, 3) := by decide +kernel
theorem dX10_would_33 : decode cX10_would 33 = .ok (.ifCond .eq 57, 3) := by decide +kernel
theorem dX10_would_36 : decode cX10_would 36 = .ok (.iload 4, 2) := by decide +kernel
theorem dX10_would_38 : decode cX10_would 38 = .ok (.iconst 0, 1) := by decide +kernel
theorem dX10_would_39 : decode cX10_would 39 = .ok (.sipush 9999, 3) := by decide +kernel
theorem dX10_would_42 : decode cX10_would 42 = .ok (.invokestatic 129, 3) := by decide +kernel
theorem dX10_would_45 : decode cX10_would 45 = .ok (.ifCond .eq 45, 3) := by decide +kernel
theorem dX10_would_48 : decode cX10_would 48 = .ok (.iload 5, 2) := by decide +kernel
theorem dX10_would_50 : decode cX10_would 50 = .ok (.iconst 0, 1) := by decide +kernel
theorem dX10_would_51 : decode cX10_would 51 = .ok (.bipush 19, 2) := by decide +kernel
theorem dX10_would_53 : decode cX10_would 53 = .ok (.invokestatic 129, 3) := by decide +kernel
theorem dX10_would_56 : decode cX10_would 56 = .ok (.ifCond .eq 34, 3) := by decide +kernel
theorem dX10_would_59 : decode cX10_would 59 = .ok (.iload 6, 2) := by decide +kernel
theorem dX10_would_61 : decode cX10_would 61 = .ok (.invokestatic 327, 3) := by decide +kernel
theorem dX10_would_64 : decode cX10_would 64 = .ok (.ifCond .eq 26, 3) := by decide +kernel
theorem dX10_would_67 : decode cX10_would 67 = .ok (.iload 7, 2) := by decide +kernel
theorem dX10_would_69 : decode cX10_would 69 = .ok (.iconst 0, 1) := by decide +kernel
theorem dX10_would_70 : decode cX10_would 70 = .ok (.sipush 400, 3) := by decide +kernel
theorem dX10_would_73 : decode cX10_would 73 = .ok (.invokestatic 129, 3) := by decide +kernel
theorem dX10_would_76 : decode cX10_would 76 = .ok (.ifCond .eq 14, 3) := by decide +kernel
theorem dX10_would_79 : decode cX10_would 79 = .ok (.iload 8, 2) := by decide +kernel
theorem dX10_would_81 : decode cX10_would 81 = .ok (.iconst 0, 1) := by decide +kernel
theorem dX10_would_82 : decode cX10_would 82 = .ok (.bipush 6, 2) := by decide +kernel
theorem dX10_would_84 : decode cX10_would 84 = .ok (.invokestatic 129, 3) := by decide +kernel
theorem dX10_would_87 : decode cX10_would 87 = .ok (.ifCond .ne 7, 3) := by decide +kernel
theorem dX10_would_90 : decode cX10_would 90 = .ok (.iconst 1, 1) := by decide +kernel
theorem dX10_would_91 : decode cX10_would 91 = .ok (.goto 4, 3) := by decide +kernel
theorem dX10_would_94 : decode cX10_would 94 = .ok (.iconst 0, 1) := by decide +kernel
theorem dX10_would_95 : decode cX10_would 95 = .ok (.iconst 1, 1) := by decide +kernel
theorem dX10_would_96 : decode cX10_would 96 = .ok (.iconst 1, 1) := by decide +kernel
theorem dX10_would_97 : decode cX10_would 97 = .ok (.invokevirtual 171, 3) := by decide +kernel
theorem dX10_would_100 : decode cX10_would 100 = .ok (.ifCond .eq 5, 3) := by decide +kernel
theorem dX10_would_103 : decode cX10_would 103 = .ok (.iconst 0, 1) := by decide +kernel
theorem dX10_would_104 : decode cX10_would 104 = .ok (.ireturn, 1) := by decide +kernel
theorem dX10_would_105 : decode cX10_would 105 = .ok (.aload_n 0, 1) := by decide +kernel
theorem dX10_would_106 : decode cX10_would 106 = .ok (.iload_n 1, 1) := by decide +kernel
theorem dX10_would_107 : decode cX10_would 107 = .ok (.iload_n 2, 1) := by decide +kernel
theorem dX10_would_108 : decode cX10_would 108 = .ok (.iload_n 3, 1) := by decide +kernel
theorem dX10_would_109 : decode cX10_would 109 = .ok (.iload 4, 2) := by decide +kernel
theorem dX10_would_111 : decode cX10_would 111 = .ok (.iload 5, 2) := by decide +kernel
theorem dX10_would_113 : decode cX10_would 113 = .ok (.iload 6, 2) := by decide +kernel
theorem dX10_would_115 : decode cX10_would 115 = .ok (.iload 7, 2) := by decide +kernel
theorem dX10_would_117 : decode cX10_would 117 = .ok (.iload 8, 2) := by decide +kernel
theorem dX10_would_119 : decode cX10_would 119 = .ok (.invokevirtual 261, 3) := by decide +kernel
theorem dX10_would_122 : decode cX10_would 122 = .ok (.ireturn, 1) := by decide +kernel
theorem dX10_ahead_0 : decode cX10_ahead 0 = .ok (.aload_n 0, 1) := by decide +kernel
theorem dX10_ahead_1 : decode cX10_ahead 1 = .ok (.iconst 0, 1) := by decide +kernel
theorem dX10_ahead_2 : decode cX10_ahead 2 = .ok (.putfield 95, 3) := by decide +kernel
theorem dX10_ahead_5 : decode cX10_ahead 5 = .ok (.aload_n 0, 1) := by decide +kernel
theorem dX10_ahead_6 : decode cX10_ahead 6 = .ok (.iload_n 1, 1) := by decide +kernel
theorem dX10_ahead_7 : decode cX10_ahead 7 = .ok (.iconst 0, 1) := by decide +kernel
theorem dX10_ahead_8 : decode cX10_ahead 8 = .ok (.bipush 20, 2) := by decide +kernel
theorem dX10_ahead_10 : decode cX10_ahead 10 = .ok (.invokestatic 129, 3) := by decide +kernel
theorem dX10_ahead_13 : decode cX10_ahead 13 = .ok (.ifCond .eq 12, 3) := by decide +kernel
theorem dX10_ahead_16 : decode cX10_ahead 16 = .ok (.iload_n 2, 1) := by decide +kernel
theorem dX10_ahead_17 : decode cX10_ahead 17 = .ok (.iconst 0, 1) := by decide +kernel
theorem dX10_ahead_18 : decode cX10_ahead 18 = .ok (.iconst 2, 1) := by decide +kernel
theorem dX10_ahead_19 : decode cX10_ahead 19 = .ok (.invokestatic 129, 3) := by decide +kernel
theorem dX10_ahead_22 : decode cX10_ahead 22 = .ok (.ifCond .ne 7, 3) := by decide +kernel
theorem dX10_ahead_25 : decode cX10_ahead 25 = .ok (.iconst 1, 1) := by decide +kernel
theorem dX10_ahead_26 : decode cX10_ahead 26 = .ok (.goto 4, 3) := by decide +kernel
theorem dX10_ahead_29 : decode cX10_ahead 29 = .ok (.iconst 0, 1) := by decide +kernel
theorem dX10_ahead_30 : decode cX10_ahead 30 = .ok (.iconst 1, 1) := by decide +kernel
theorem dX10_ahead_31 : decode cX10_ahead 31 = .ok (.iconst 1, 1) := by decide +kernel
theorem dX10_ahead_32 : decode cX10_ahead 32 = .ok (.invokevirtual 171, 3) := by decide +kernel
theorem dX10_ahead_35 : decode cX10_ahead 35 = .ok (.ifCond .eq 5, 3) := by decide +kernel
theorem dX10_ahead_38 : decode cX10_ahead 38 = .ok (.iconst 0, 1) := by decide +kernel
theorem dX10_ahead_39 : decode cX10_ahead 39 = .ok (.ireturn, 1) := by decide +kernel
theorem dX10_ahead_40 : decode cX10_ahead 40 = .ok (.aload_n 0, 1) := by decide +kernel
theorem dX10_ahead_41 : decode cX10_ahead 41 = .ok (.getfield 67, 3) := by decide +kernel
theorem dX10_ahead_44 : decode cX10_ahead 44 = .ok (.aload_n 0, 1) := by decide +kernel
theorem dX10_ahead_45 : decode cX10_ahead 45 = .ok (.getfield 70, 3) := by decide +kernel
theorem dX10_ahead_48 : decode cX10_ahead 48 = .ok (.invokestatic 310, 3) := by decide +kernel
theorem dX10_ahead_51 : decode cX10_ahead 51 = .ok (.iconst 0, 1) := by decide +kernel
theorem dX10_ahead_52 : decode cX10_ahead 52 = .ok (.istore_n 3, 1) := by decide +kernel
theorem dX10_ahead_53 : decode cX10_ahead 53 = .ok (.iload_n 3, 1) := by decide +kernel
theorem dX10_ahead_54 : decode cX10_ahead 54 = .ok (.iload_n 1, 1) := by decide +kernel
theorem dX10_ahead_55 : decode cX10_ahead 55 = .ok (.if_icmp .ge 17, 3) := by decide +kernel
theorem dX10_ahead_58 : decode cX10_ahead 58 = .ok (.aload_n 0, 1) := by decide +kernel
theorem dX10_ahead_59 : decode cX10_ahead 59 = .ok (.aload_n 0, 1) := by decide +kernel
theorem dX10_ahead_60 : decode cX10_ahead 60 = .ok (.getfield 70, 3) := by decide +kernel
theorem dX10_ahead_63 : decode cX10_ahead 63 = .ok (.invokevirtual 280, 3) := by decide +kernel
theorem dX10_ahead_66 : decode cX10_ahead 66 = .ok (.iinc 3 1, 3) := by decide +kernel
theorem dX10_ahead_69 : decode cX10_ahead 69 = .ok (.goto (-16), 3) := by decide +kernel
theorem dX10_ahead_72 : decode cX10_ahead 72 = .ok (.iconst 0, 1) := by decide +kernel
theorem dX10_ahead_73 : decode cX10_ahead 73 = .ok (.istore_n 3, 1) := by decide +kernel
theorem dX10_ahead_74 : decode cX10_ahead 74 = .ok (.iconst 0, 1) := by decide +kernel
theorem dX10_ahead_75 : decode cX10_ahead 75 = .ok (.istore 4, 2) := by decide +kernel
theorem dX10_ahead_77 : decode cX10_ahead 77 = .ok (.iload 4, 2) := by decide +kernel
theorem dX10_ahead_79 : decode cX10_ahead 79 = .ok (.aload_n 0, 1) := by decide +kernel
theorem dX10_ahead_80 : decode cX10_ahead 80 = .ok (.getfield 23, 3) := by decide +kernel
theorem dX10_ahead_83 : decode cX10_ahead 83 = .ok (.iconst 0, 1) := by decide +kernel
theorem dX10_ahead_84 : decode cX10_ahead 84 = .ok (.iaload, 1) := by decide +kernel
theorem dX10_ahead_85 : decode cX10_ahead 85 = .ok (.if_icmp .ge 32, 3) := by decide +kernel
theorem dX10_ahead_88 : decode cX10_ahead 88 = .ok (.iload_n 3, 1) := by decide +kernel
theorem dX10_ahead_89 : decode cX10_ahead 89 = .ok (.aload_n 0, 1) := by decide +kernel
theorem dX10_ahead_90 : decode cX10_ahead 90 = .ok (.getfield 70, 3) := by decide +kernel
theorem dX10_ahead_93 : decode cX10_ahead 93 = .ok (.iconst 0, 1) := by decide +kernel
theorem dX10_ahead_94 : decode cX10_ahead 94 = .ok (.iload 4, 2) := by decide +kernel
theorem dX10_ahead_96 : decode cX10_ahead 96 = .ok (.iadd, 1) := by decide +kernel
theorem dX10_ahead_97 : decode cX10_ahead 97 = .ok (.iaload, 1) := by decide +kernel
theorem dX10_ahead_98 : decode cX10_ahead 98 = .ok (.ifCond .ne 10, 3) := by decide +kernel
theorem dX10_ahead_101 : decode cX10_ahead 101 = .ok (.iconst 1, 1) := by decide +kernel
theorem dX10_ahead_102 : decode cX10_ahead 102 = .ok (.iload 4, 2) := by decide +kernel
theorem dX10_ahead_104 : decode cX10_ahead 104 = .ok (.ishl, 1) := by decide +kernel
theorem dX10_ahead_105 : decode cX10_ahead 105 = .ok (.goto 4, 3) := by decide +kernel
theorem dX10_ahead_108 : decode cX10_ahead 108 = .ok (.iconst 0, 1) := by decide +kernel
theorem dX10_ahead_109 : decode cX10_ahead 109 = .ok (.ior, 1) := by decide +kernel
theorem dX10_ahead_110 : decode cX10_ahead 110 = .ok (.istore_n 3, 1) := by decide +kernel
theorem dX10_ahead_111 : decode cX10_ahead 111 = .ok (.iinc 4 1, 3) := by decide +kernel
theorem dX10_ahead_114 : decode cX10_ahead 114 = .ok (.goto (-37), 3) := by decide +kernel
theorem dX10_ahead_117 : decode cX10_ahead 117 = .ok (.iload_n 2, 1) := by decide +kernel
theorem dX10_ahead_118 : decode cX10_ahead 118 = .ok (.ifCond .ne 21, 3) := by decide +kernel
theorem dX10_ahead_121 : decode cX10_ahead 121 = .ok (.aload_n 0, 1) := by decide +kernel
theorem dX10_ahead_122 : decode cX10_ahead 122 = .ok (.getfield 70, 3) := by decide +kernel
theorem dX10_ahead_125 : decode cX10_ahead 125 = .ok (.bipush 55, 2) := by decide +kernel
theorem dX10_ahead_127 : decode cX10_ahead 127 = .ok (.iaload, 1) := by decide +kernel
theorem dX10_ahead_128 : decode cX10_ahead 128 = .ok (.aload_n 0, 1) := by decide +kernel
theorem dX10_ahead_129 : decode cX10_ahead 129 = .ok (.getfield 67, 3) := by decide +kernel
theorem dX10_ahead_132 : decode cX10_ahead 132 = .ok (.bipush 55, 2) := by decide +kernel
theorem dX10_ahead_134 : decode cX10_ahead 134 = .ok (.iaload, 1) := by decide +kernel
theorem dX10_ahead_135 : decode cX10_ahead 135 = .ok (.isub, 1) := by decide +kernel
theorem dX10_ahead_136 : decode cX10_ahead 136 = .ok (.goto 21, 3) := by decide +kernel
theorem dX10_ahead_139 : decode cX10_ahead 139 = .ok (.iload_n 2, 1) := by decide +kernel
theorem dX10_ahead_140 : decode cX10_ahead 140 = .ok (.iconst 1, 1) := by decide +kernel
theorem dX10_ahead_141 : decode cX10_ahead 141 = .ok (.if_icmp .ne 15, 3) := by decide +kernel
theorem dX10_ahead_144 : decode cX10_ahead 144 = .ok (.aload_n 0, 1) := by decide +kernel
theorem dX10_ahead_145 : decode cX10_ahead 145 = .ok (.aload_n 0, 1) := by decide +kernel
theorem dX10_ahead_146 : decode cX10_ahead 146 = .ok (.getfield 70, 3) := by decide +kernel
theorem dX10_ahead_149 : decode cX10_ahead 149 = .ok (.iconst 0, 1) := by decide +kernel
theorem dX10_ahead_150 : decode cX10_ahead 150 = .ok (.invokevirtual 318, 3) := by decide +kernel
theorem dX10_ahead_153 : decode cX10_ahead 153 = .ok (.goto 4, 3) := by decide +kernel
theorem dX10_ahead_156 : decode cX10_ahead 156 = .ok (.iload_n 3, 1) := by decide +kernel
theorem dX10_ahead_157 : decode cX10_ahead 157 = .ok (.ireturn, 1) := by decide +kernel
theorem dX10_everySinger_0 : decode cX10_everySinger 0 = .ok (.iconst 1, 1) := by decide +kernel
theorem dX10_everySinger_1 : decode cX10_everySinger 1 = .ok (.aload_n 0, 1) := by decide +kernel
theorem dX10_everySinger_2 : decode cX10_everySinger 2 = .ok (.getfield 23, 3) := by decide +kernel
theorem dX10_everySinger_5 : decode cX10_everySinger 5 = .ok (.iconst 0, 1) := by decide +kernel
theorem dX10_everySinger_6 : decode cX10_everySinger 6 = .ok (.iaload, 1) := by decide +kernel
theorem dX10_everySinger_7 : decode cX10_everySinger 7 = .ok (.ishl, 1) := by decide +kernel
theorem dX10_everySinger_8 : decode cX10_everySinger 8 = .ok (.iconst 1, 1) := by decide +kernel
theorem dX10_everySinger_9 : decode cX10_everySinger 9 = .ok (.isub, 1) := by decide +kernel
theorem dX10_everySinger_10 : decode cX10_everySinger 10 = .ok (.ireturn, 1) := by decide +kernel
theorem dX10_onlyThese_0 : decode cX10_onlyThese 0 = .ok (.iconst 0, 1) := by decide +kernel
theorem dX10_onlyThese_1 : decode cX10_onlyThese 1 = .ok (.istore_n 2, 1) := by decide +kernel
theorem dX10_onlyThese_2 : decode cX10_onlyThese 2 = .ok (.iload_n 2, 1) := by decide +kernel
theorem dX10_onlyThese_3 : decode cX10_onlyThese 3 = .ok (.aload_n 0, 1) := by decide +kernel
theorem dX10_onlyThese_4 : decode cX10_onlyThese 4 = .ok (.getfield 23, 3) := by decide +kernel
theorem dX10_onlyThese_7 : decode cX10_onlyThese 7 = .ok (.iconst 0, 1) := by decide +kernel
theorem dX10_onlyThese_8 : decode cX10_onlyThese 8 = .ok (.iaload, 1) := by decide +kernel
theorem dX10_onlyThese_9 : decode cX10_onlyThese 9 = .ok (.if_icmp .ge 31, 3) := by decide +kernel
theorem dX10_onlyThese_12 : decode cX10_onlyThese 12 = .ok (.aload_n 0, 1) := by decide +kernel
theorem dX10_onlyThese_13 : decode cX10_onlyThese 13 = .ok (.getfield 70, 3) := by decide +kernel
theorem dX10_onlyThese_16 : decode cX10_onlyThese 16 = .ok (.bipush 7, 2) := by decide +kernel
theorem dX10_onlyThese_18 : decode cX10_onlyThese 18 = .ok (.iload_n 2, 1) := by decide +kernel
theorem dX10_onlyThese_19 : decode cX10_onlyThese 19 = .ok (.iadd, 1) := by decide +kernel
theorem dX10_onlyThese_20 : decode cX10_onlyThese 20 = .ok (.iload_n 1, 1) := by decide +kernel
theorem dX10_onlyThese_21 : decode cX10_onlyThese 21 = .ok (.iload_n 2, 1) := by decide +kernel
theorem dX10_onlyThese_22 : decode cX10_onlyThese 22 = .ok (.invokestatic 254, 3) := by decide +kernel
theorem dX10_onlyThese_25 : decode cX10_onlyThese 25 = .ok (.ifCond .eq 7, 3) := by decide +kernel
theorem dX10_onlyThese_28 : decode cX10_onlyThese 28 = .ok (.iconst 0, 1) := by decide +kernel
theorem dX10_onlyThese_29 : decode cX10_onlyThese 29 = .ok (.goto 4, 3) := by decide +kernel
theorem dX10_onlyThese_32 : decode cX10_onlyThese 32 = .ok (.iconst 1, 1) := by decide +kernel
theorem dX10_onlyThese_33 : decode cX10_onlyThese 33 = .ok (.iastore, 1) := by decide +kernel
theorem dX10_onlyThese_34 : decode cX10_onlyThese 34 = .ok (.iinc 2 1, 3) := by decide +kernel
theorem dX10_onlyThese_37 : decode cX10_onlyThese 37 = .ok (.goto (-35), 3) := by decide +kernel
theorem dX10_onlyThese_40 : decode cX10_onlyThese 40 = .ok (.return_, 1) := by decide +kernel
theorem dX10_payOf_0 : decode cX10_payOf 0 = .ok (.iconst 0, 1) := by decide +kernel
theorem dX10_payOf_1 : decode cX10_payOf 1 = .ok (.istore_n 2, 1) := by decide +kernel
theorem dX10_payOf_2 : decode cX10_payOf 2 = .ok (.iconst 0, 1) := by decide +kernel
theorem dX10_payOf_3 : decode cX10_payOf 3 = .ok (.istore_n 3, 1) := by decide +kernel
theorem dX10_payOf_4 : decode cX10_payOf 4 = .ok (.iload_n 3, 1) := by decide +kernel
theorem dX10_payOf_5 : decode cX10_payOf 5 = .ok (.aload_n 0, 1) := by decide +kernel
theorem dX10_payOf_6 : decode cX10_payOf 6 = .ok (.getfield 23, 3) := by decide +kernel
theorem dX10_payOf_9 : decode cX10_payOf 9 = .ok (.iconst 0, 1) := by decide +kernel
theorem dX10_payOf_10 : decode cX10_payOf 10 = .ok (.iaload, 1) := by decide +kernel
theorem dX10_payOf_11 : decode cX10_payOf 11 = .ok (.if_icmp .ge 32, 3) := by decide +kernel
theorem dX10_payOf_14 : decode cX10_payOf 14 = .ok (.iload_n 2, 1) := by decide +kernel
theorem dX10_payOf_15 : decode cX10_payOf 15 = .ok (.iload_n 1, 1) := by decide +kernel
theorem dX10_payOf_16 : decode cX10_payOf 16 = .ok (.iload_n 3, 1) := by decide +kernel
theorem dX10_payOf_17 : decode cX10_payOf 17 = .ok (.invokestatic 254, 3) := by decide +kernel
theorem dX10_payOf_20 : decode cX10_payOf 20 = .ok (.ifCond .eq 14, 3) := by decide +kernel
theorem dX10_payOf_23 : decode cX10_payOf 23 = .ok (.aload_n 0, 1) := by decide +kernel
theorem dX10_payOf_24 : decode cX10_payOf 24 = .ok (.getfield 31, 3) := by decide +kernel
theorem dX10_payOf_27 : decode cX10_payOf 27 = .ok (.iload_n 3, 1) := by decide +kernel
theorem dX10_payOf_28 : decode cX10_payOf 28 = .ok (.aaload, 1) := by decide +kernel
theorem dX10_payOf_29 : decode cX10_payOf 29 = .ok (.iconst 1, 1) := by decide +kernel
theorem dX10_payOf_30 : decode cX10_payOf 30 = .ok (.iaload, 1) := by decide +kernel
theorem dX10_payOf_31 : decode cX10_payOf 31 = .ok (.goto 4, 3) := by decide +kernel
theorem dX10_payOf_34 : decode cX10_payOf 34 = .ok (.iconst 0, 1) := by decide +kernel
theorem dX10_payOf_35 : decode cX10_payOf 35 = .ok (.iadd, 1) := by decide +kernel
theorem dX10_payOf_36 : decode cX10_payOf 36 = .ok (.istore_n 2, 1) := by decide +kernel
theorem dX10_payOf_37 : decode cX10_payOf 37 = .ok (.iinc 3 1, 3) := by decide +kernel
theorem dX10_payOf_40 : decode cX10_payOf 40 = .ok (.goto (-36), 3) := by decide +kernel
theorem dX10_payOf_43 : decode cX10_payOf 43 = .ok (.iload_n 2, 1) := by decide +kernel
theorem dX10_payOf_44 : decode cX10_payOf 44 = .ok (.ireturn, 1) := by decide +kernel
theorem dX10_cast_0 : decode cX10_cast 0 = .ok (.aload_n 0, 1) := by decide +kernel
theorem dX10_cast_1 : decode cX10_cast 1 = .ok (.iconst 0, 1) := by decide +kernel
theorem dX10_cast_2 : decode cX10_cast 2 = .ok (.putfield 95, 3) := by decide +kernel
theorem dX10_cast_5 : decode cX10_cast 5 = .ok (.iconst (-1), 1) := by decide +kernel
theorem dX10_cast_6 : decode cX10_cast 6 = .ok (.istore_n 1, 1) := by decide +kernel
theorem dX10_cast_7 : decode cX10_cast 7 = .ok (.iconst 0, 1) := by decide +kernel
theorem dX10_cast_8 : decode cX10_cast 8 = .ok (.istore_n 2, 1) := by decide +kernel
theorem dX10_cast_9 : decode cX10_cast 9 = .ok (.iload_n 2, 1) := by decide +kernel
theorem dX10_cast_10 : decode cX10_cast 10 = .ok (.aload_n 0, 1) := by decide +kernel
theorem dX10_cast_11 : decode cX10_cast 11 = .ok (.invokevirtual 330, 3) := by decide +kernel
theorem dX10_cast_14 : decode cX10_cast 14 = .ok (.if_icmp .gt 107, 3) := by decide +kernel
theorem dX10_cast_17 : decode cX10_cast 17 = .ok (.iload_n 1, 1) := by decide +kernel
theorem dX10_cast_18 : decode cX10_cast 18 = .ok (.iconst (-1), 1) := by decide +kernel
theorem dX10_cast_19 : decode cX10_cast 19 = .ok (.if_icmp .ne 7, 3) := by decide +kernel
theorem dX10_cast_22 : decode cX10_cast 22 = .ok (.iconst (-1), 1) := by decide +kernel
theorem dX10_cast_23 : decode cX10_cast 23 = .ok (.goto 12, 3) := by decide +kernel
theorem dX10_cast_26 : decode cX10_cast 26 = .ok (.iload_n 2, 1) := by decide +kernel
theorem dX10_cast_27 : decode cX10_cast 27 = .ok (.invokestatic 333, 3) := by decide +kernel
theorem dX10_cast_30 : decode cX10_cast 30 = .ok (.iload_n 1, 1) := by decide +kernel
theorem dX10_cast_31 : decode cX10_cast 31 = .ok (.invokestatic 333, 3) := by decide +kernel
theorem dX10_cast_34 : decode cX10_cast 34 = .ok (.isub, 1) := by decide +kernel
theorem dX10_cast_35 : decode cX10_cast 35 = .ok (.istore_n 3, 1) := by decide +kernel
theorem dX10_cast_36 : decode cX10_cast 36 = .ok (.iload_n 3, 1) := by decide +kernel
theorem dX10_cast_37 : decode cX10_cast 37 = .ok (.ifCond .gt 78, 3) := by decide +kernel
theorem dX10_cast_40 : decode cX10_cast 40 = .ok (.iload_n 3, 1) := by decide +kernel
theorem dX10_cast_41 : decode cX10_cast 41 = .ok (.ifCond .ne 19, 3) := by decide +kernel
theorem dX10_cast_44 : decode cX10_cast 44 = .ok (.aload_n 0, 1) := by decide +kernel
theorem dX10_cast_45 : decode cX10_cast 45 = .ok (.iload_n 2, 1) := by decide +kernel
theorem dX10_cast_46 : decode cX10_cast 46 = .ok (.invokevirtual 336, 3) := by decide +kernel
theorem dX10_cast_49 : decode cX10_cast 49 = .ok (.aload_n 0, 1) := by decide +kernel
theorem dX10_cast_50 : decode cX10_cast 50 = .ok (.iload_n 1, 1) := by decide +kernel
theorem dX10_cast_51 : decode cX10_cast 51 = .ok (.invokevirtual 336, 3) := by decide +kernel
theorem dX10_cast_54 : decode cX10_cast 54 = .ok (.if_icmp .lt 6, 3) := by decide +kernel
theorem dX10_cast_57 : decode cX10_cast 57 = .ok (.goto 58, 3) := by decide +kernel
theorem dX10_cast_60 : decode cX10_cast 60 = .ok (.aload_n 0, 1) := by decide +kernel
theorem dX10_cast_61 : decode cX10_cast 61 = .ok (.getfield 67, 3) := by decide +kernel
theorem dX10_cast_64 : decode cX10_cast 64 = .ok (.aload_n 0, 1) := by decide +kernel
theorem dX10_cast_65 : decode cX10_cast 65 = .ok (.getfield 70, 3) := by decide +kernel
theorem dX10_cast_68 : decode cX10_cast 68 = .ok (.invokestatic 310, 3) := by decide +kernel
theorem dX10_cast_71 : decode cX10_cast 71 = .ok (.aload_n 0, 1) := by decide +kernel
theorem dX10_cast_72 : decode cX10_cast 72 = .ok (.aload_n 0, 1) := by decide +kernel
theorem dX10_cast_73 : decode cX10_cast 73 = .ok (.getfield 70, 3) := by decide +kernel
theorem dX10_cast_76 : decode cX10_cast 76 = .ok (.invokevirtual 188, 3) := by decide +kernel
theorem dX10_cast_79 : decode cX10_cast 79 = .ok (.aload_n 0, 1) := by decide +kernel
theorem dX10_cast_80 : decode cX10_cast 80 = .ok (.iload_n 2, 1) := by decide +kernel
theorem dX10_cast_81 : decode cX10_cast 81 = .ok (.invokevirtual 339, 3) := by decide +kernel
theorem dX10_cast_84 : decode cX10_cast 84 = .ok (.aload_n 0, 1) := by decide +kernel
theorem dX10_cast_85 : decode cX10_cast 85 = .ok (.aload_n 0, 1) := by decide +kernel
theorem dX10_cast_86 : decode cX10_cast 86 = .ok (.getfield 70, 3) := by decide +kernel
theorem dX10_cast_89 : decode cX10_cast 89 = .ok (.invokevirtual 280, 3) := by decide +kernel
theorem dX10_cast_92 : decode cX10_cast 92 = .ok (.aload_n 0, 1) := by decide +kernel
theorem dX10_cast_93 : decode cX10_cast 93 = .ok (.getfield 273, 3) := by decide +kernel
theorem dX10_cast_96 : decode cX10_cast 96 = .ok (.iconst 1, 1) := by decide +kernel
theorem dX10_cast_97 : decode cX10_cast 97 = .ok (.aload_n 0, 1) := by decide +kernel
theorem dX10_cast_98 : decode cX10_cast 98 = .ok (.getfield 23, 3) := by decide +kernel
theorem dX10_cast_101 : decode cX10_cast 101 = .ok (.iconst 1, 1) := by decide +kernel
theorem dX10_cast_102 : decode cX10_cast 102 = .ok (.iaload, 1) := by decide +kernel
theorem dX10_cast_103 : decode cX10_cast 103 = .ok (.ishl, 1) := by decide +kernel
theorem dX10_cast_104 : decode cX10_cast 104 = .ok (.iconst 1, 1) := by decide +kernel
theorem dX10_cast_105 : decode cX10_cast 105 = .ok (.isub, 1) := by decide +kernel
theorem dX10_cast_106 : decode cX10_cast 106 = .ok (.if_icmp .ne 7, 3) := by decide +kernel
theorem dX10_cast_109 : decode cX10_cast 109 = .ok (.iload_n 2, 1) := by decide +kernel
theorem dX10_cast_110 : decode cX10_cast 110 = .ok (.goto 4, 3) := by decide +kernel
theorem dX10_cast_113 : decode cX10_cast 113 = .ok (.iload_n 1, 1) := by decide +kernel
theorem dX10_cast_114 : decode cX10_cast 114 = .ok (.istore_n 1, 1) := by decide +kernel
theorem dX10_cast_115 : decode cX10_cast 115 = .ok (.iinc 2 1, 3) := by decide +kernel
theorem dX10_cast_118 : decode cX10_cast 118 = .ok (.goto (-109), 3) := by decide +kernel
theorem dX10_cast_121 : decode cX10_cast 121 = .ok (.iload_n 1, 1) := by decide +kernel
theorem dX10_cast_122 : decode cX10_cast 122 = .ok (.ireturn, 1) := by decide +kernel
theorem dX10_handedOf_0 : decode cX10_handedOf 0 = .ok (.iconst 0, 1) := by decide +kernel
theorem dX10_handedOf_1 : decode cX10_handedOf 1 = .ok (.istore_n 3, 1) := by decide +kernel
theorem dX10_handedOf_2 : decode cX10_handedOf 2 = .ok (.iconst 0, 1) := by decide +kernel
theorem dX10_handedOf_3 : decode cX10_handedOf 3 = .ok (.istore 4, 2) := by decide +kernel
theorem dX10_handedOf_5 : decode cX10_handedOf 5 = .ok (.iload 4, 2) := by decide +kernel
theorem dX10_handedOf_7 : decode cX10_handedOf 7 = .ok (.iconst 1, 1) := by decide +kernel
theorem dX10_handedOf_8 : decode cX10_handedOf 8 = .ok (.iadd, 1) := by decide +kernel
theorem dX10_handedOf_9 : decode cX10_handedOf 9 = .ok (.aload_n 0, 1) := by decide +kernel
theorem dX10_handedOf_10 : decode cX10_handedOf 10 = .ok (.getfield 23, 3) := by decide +kernel
theorem dX10_handedOf_13 : decode cX10_handedOf 13 = .ok (.iconst 1, 1) := by decide +kernel
theorem dX10_handedOf_14 : decode cX10_handedOf 14 = .ok (.iaload, 1) := by decide +kernel
theorem dX10_handedOf_15 : decode cX10_handedOf 15 = .ok (.if_icmp .ge 72, 3) := by decide +kernel
theorem dX10_handedOf_18 : decode cX10_handedOf 18 = .ok (.iload_n 1, 1) := by decide +kernel
theorem dX10_handedOf_19 : decode cX10_handedOf 19 = .ok (.iload_n 2, 1) := by decide +kernel
theorem dX10_handedOf_20 : decode cX10_handedOf 20 = .ok (.if_icmp .eq 67, 3) := by decide +kernel
theorem dX10_handedOf_23 : decode cX10_handedOf 23 = .ok (.aload_n 0, 1) := by decide +kernel
theorem dX10_handedOf_24 : decode cX10_handedOf 24 = .ok (.getfield 67, 3) := by decide +kernel
theorem dX10_handedOf_27 : decode cX10_handedOf 27 = .ok (.bipush 35, 2) := by decide +kernel
theorem dX10_handedOf_29 : decode cX10_handedOf 29 = .ok (.iload 4, 2) := by decide +kernel
theorem dX10_handedOf_31 : decode cX10_handedOf 31 = .ok (.iadd, 1) := by decide +kernel
theorem dX10_handedOf_32 : decode cX10_handedOf 32 = .ok (.iaload, 1) := by decide +kernel
theorem dX10_handedOf_33 : decode cX10_handedOf 33 = .ok (.istore 5, 2) := by decide +kernel
theorem dX10_handedOf_35 : decode cX10_handedOf 35 = .ok (.aload_n 0, 1) := by decide +kernel
theorem dX10_handedOf_36 : decode cX10_handedOf 36 = .ok (.getfield 67, 3) := by decide +kernel
theorem dX10_handedOf_39 : decode cX10_handedOf 39 = .ok (.bipush 35, 2) := by decide +kernel
theorem dX10_handedOf_41 : decode cX10_handedOf 41 = .ok (.iload 4, 2) := by decide +kernel
theorem dX10_handedOf_43 : decode cX10_handedOf 43 = .ok (.iadd, 1) := by decide +kernel
theorem dX10_handedOf_44 : decode cX10_handedOf 44 = .ok (.iconst 1, 1) := by decide +kernel
theorem dX10_handedOf_45 : decode cX10_handedOf 45 = .ok (.iadd, 1) := by decide +kernel
theorem dX10_handedOf_46 : decode cX10_handedOf 46 = .ok (.iaload, 1) := by decide +kernel
theorem dX10_handedOf_47 : decode cX10_handedOf 47 = .ok (.istore 6, 2) := by decide +kernel
theorem dX10_handedOf_49 : decode cX10_handedOf 49 = .ok (.iload_n 3, 1) := by decide +kernel
theorem dX10_handedOf_50 : decode cX10_handedOf 50 = .ok (.iload 5, 2) := by decide +kernel
theorem dX10_handedOf_52 : decode cX10_handedOf 52 = .ok (.iload_n 1, 1) := by decide +kernel
theorem dX10_handedOf_53 : decode cX10_handedOf 53 = .ok (.if_icmp .ne 9, 3) := by decide +kernel
theorem dX10_handedOf_56 : decode cX10_handedOf 56 = .ok (.iload 6, 2) := by decide +kernel
theorem dX10_handedOf_58 : decode cX10_handedOf 58 = .ok (.iload_n 2, 1) := by decide +kernel
theorem dX10_handedOf_59 : decode cX10_handedOf 59 = .ok (.if_icmp .eq 15, 3) := by decide +kernel
theorem dX10_handedOf_62 : decode cX10_handedOf 62 = .ok (.iload 5, 2) := by decide +kernel
theorem dX10_handedOf_64 : decode cX10_handedOf 64 = .ok (.iload_n 2, 1) := by decide +kernel
theorem dX10_handedOf_65 : decode cX10_handedOf 65 = .ok (.if_icmp .ne 13, 3) := by decide +kernel
theorem dX10_handedOf_68 : decode cX10_handedOf 68 = .ok (.iload 6, 2) := by decide +kernel
theorem dX10_handedOf_70 : decode cX10_handedOf 70 = .ok (.iload_n 1, 1) := by decide +kernel
theorem dX10_handedOf_71 : decode cX10_handedOf 71 = .ok (.if_icmp .ne 7, 3) := by decide +kernel
theorem dX10_handedOf_74 : decode cX10_handedOf 74 = .ok (.iconst 1, 1) := by decide +kernel
theorem dX10_handedOf_75 : decode cX10_handedOf 75 = .ok (.goto 4, 3) := by decide +kernel
theorem dX10_handedOf_78 : decode cX10_handedOf 78 = .ok (.iconst 0, 1) := by decide +kernel
theorem dX10_handedOf_79 : decode cX10_handedOf 79 = .ok (.iadd, 1) := by decide +kernel
theorem dX10_handedOf_80 : decode cX10_handedOf 80 = .ok (.istore_n 3, 1) := by decide +kernel
theorem dX10_handedOf_81 : decode cX10_handedOf 81 = .ok (.iinc 4 1, 3) := by decide +kernel
theorem dX10_handedOf_84 : decode cX10_handedOf 84 = .ok (.goto (-79), 3) := by decide +kernel
theorem dX10_handedOf_87 : decode cX10_handedOf 87 = .ok (.iload_n 3, 1) := by decide +kernel
theorem dX10_handedOf_88 : decode cX10_handedOf 88 = .ok (.ireturn, 1) := by decide +kernel
theorem dX10_handed_0 : decode cX10_handed 0 = .ok (.aload_n 0, 1) := by decide +kernel
theorem dX10_handed_1 : decode cX10_handed 1 = .ok (.iconst 0, 1) := by decide +kernel
theorem dX10_handed_2 : decode cX10_handed 2 = .ok (.putfield 95, 3) := by decide +kernel
theorem dX10_handed_5 : decode cX10_handed 5 = .ok (.aload_n 0, 1) := by decide +kernel
theorem dX10_handed_6 : decode cX10_handed 6 = .ok (.iload_n 1, 1) := by decide +kernel
theorem dX10_handed_7 : decode cX10_handed 7 = .ok (.invokestatic 327, 3) := by decide +kernel
theorem dX10_handed_10 : decode cX10_handed 10 = .ok (.ifCond .eq 10, 3) := by decide +kernel
theorem dX10_handed_13 : decode cX10_handed 13 = .ok (.iload_n 2, 1) := by decide +kernel
theorem dX10_handed_14 : decode cX10_handed 14 = .ok (.invokestatic 327, 3) := by decide +kernel
theorem dX10_handed_17 : decode cX10_handed 17 = .ok (.ifCond .ne 7, 3) := by decide +kernel
theorem dX10_handed_20 : decode cX10_handed 20 = .ok (.iconst 1, 1) := by decide +kernel
theorem dX10_handed_21 : decode cX10_handed 21 = .ok (.goto 4, 3) := by decide +kernel
theorem dX10_handed_24 : decode cX10_handed 24 = .ok (.iconst 0, 1) := by decide +kernel
theorem dX10_handed_25 : decode cX10_handed 25 = .ok (.iconst 1, 1) := by decide +kernel
theorem dX10_handed_26 : decode cX10_handed 26 = .ok (.iconst 1, 1) := by decide +kernel
theorem dX10_handed_27 : decode cX10_handed 27 = .ok (.invokevirtual 171, 3) := by decide +kernel
theorem dX10_handed_30 : decode cX10_handed 30 = .ok (.ifCond .eq 5, 3) := by decide +kernel
theorem dX10_handed_33 : decode cX10_handed 33 = .ok (.iconst 0, 1) := by decide +kernel
theorem dX10_handed_34 : decode cX10_handed 34 = .ok (.ireturn, 1) := by decide +kernel
theorem dX10_handed_35 : decode cX10_handed 35 = .ok (.aload_n 0, 1) := by decide +kernel
theorem dX10_handed_36 : decode cX10_handed 36 = .ok (.iload_n 1, 1) := by decide +kernel
theorem dX10_handed_37 : decode cX10_handed 37 = .ok (.iload_n 2, 1) := by decide +kernel
theorem dX10_handed_38 : decode cX10_handed 38 = .ok (.invokevirtual 342, 3) := by decide +kernel
theorem dX10_handed_41 : decode cX10_handed 41 = .ok (.ireturn, 1) := by decide +kernel
theorem dX10_benches_0 : decode cX10_benches 0 = .ok (.iload_n 1, 1) := by decide +kernel
theorem dX10_benches_1 : decode cX10_benches 1 = .ok (.aload_n 0, 1) := by decide +kernel
theorem dX10_benches_2 : decode cX10_benches 2 = .ok (.getfield 23, 3) := by decide +kernel
theorem dX10_benches_5 : decode cX10_benches 5 = .ok (.iconst 0, 1) := by decide +kernel
theorem dX10_benches_6 : decode cX10_benches 6 = .ok (.iaload, 1) := by decide +kernel
theorem dX10_benches_7 : decode cX10_benches 7 = .ok (.if_icmp .ne 47, 3) := by decide +kernel
theorem dX10_benches_10 : decode cX10_benches 10 = .ok (.iload_n 3, 1) := by decide +kernel
theorem dX10_benches_11 : decode cX10_benches 11 = .ok (.aload_n 0, 1) := by decide +kernel
theorem dX10_benches_12 : decode cX10_benches 12 = .ok (.getfield 345, 3) := by decide +kernel
theorem dX10_benches_15 : decode cX10_benches 15 = .ok (.if_icmp .gt 4, 3) := by decide +kernel
theorem dX10_benches_18 : decode cX10_benches 18 = .ok (.return_, 1) := by decide +kernel
theorem dX10_benches_19 : decode cX10_benches 19 = .ok (.aload_n 0, 1) := by decide +kernel
theorem dX10_benches_20 : decode cX10_benches 20 = .ok (.iload_n 3, 1) := by decide +kernel
theorem dX10_benches_21 : decode cX10_benches 21 = .ok (.putfield 345, 3) := by decide +kernel
theorem dX10_benches_24 : decode cX10_benches 24 = .ok (.iconst 0, 1) := by decide +kernel
theorem dX10_benches_25 : decode cX10_benches 25 = .ok (.istore 4, 2) := by decide +kernel
theorem dX10_benches_27 : decode cX10_benches 27 = .ok (.iload 4, 2) := by decide +kernel
theorem dX10_benches_29 : decode cX10_benches 29 = .ok (.iload_n 1, 1) := by decide +kernel
theorem dX10_benches_30 : decode cX10_benches 30 = .ok (.if_icmp .ge 23, 3) := by decide +kernel
theorem dX10_benches_33 : decode cX10_benches 33 = .ok (.aload_n 0, 1) := by decide +kernel
theorem dX10_benches_34 : decode cX10_benches 34 = .ok (.getfield 82, 3) := by decide +kernel
theorem dX10_benches_37 : decode cX10_benches 37 = .ok (.iload 4, 2) := by decide +kernel
theorem dX10_benches_39 : decode cX10_benches 39 = .ok (.aload_n 0, 1) := by decide +kernel
theorem dX10_benches_40 : decode cX10_benches 40 = .ok (.getfield 79, 3) := by decide +kernel
theorem dX10_benches_43 : decode cX10_benches 43 = .ok (.iload 4, 2) := by decide +kernel
theorem dX10_benches_45 : decode cX10_benches 45 = .ok (.iaload, 1) := by decide +kernel
theorem dX10_benches_46 : decode cX10_benches 46 = .ok (.iastore, 1) := by decide +kernel
theorem dX10_benches_47 : decode cX10_benches 47 = .ok (.iinc 4 1, 3) := by decide +kernel
theorem dX10_benches_50 : decode cX10_benches 50 = .ok (.goto (-23), 3) := by decide +kernel
theorem dX10_benches_53 : decode cX10_benches 53 = .ok (.return_, 1) := by decide +kernel
theorem dX10_benches_54 : decode cX10_benches 54 = .ok (.iconst 0, 1) := by decide +kernel
theorem dX10_benches_55 : decode cX10_benches 55 = .ok (.istore 4, 2) := by decide +kernel
theorem dX10_benches_57 : decode cX10_benches 57 = .ok (.iload 4, 2) := by decide +kernel
theorem dX10_benches_59 : decode cX10_benches 59 = .ok (.aload_n 0, 1) := by decide +kernel
theorem dX10_benches_60 : decode cX10_benches 60 = .ok (.getfield 23, 3) := by decide +kernel
theorem dX10_benches_63 : decode cX10_benches 63 = .ok (.iconst 0, 1) := by decide +kernel
theorem dX10_benches_64 : decode cX10_benches 64 = .ok (.iaload, 1) := by decide +kernel
theorem dX10_benches_65 : decode cX10_benches 65 = .ok (.if_icmp .ge 80, 3) := by decide +kernel
theorem dX10_benches_68 : decode cX10_benches 68 = .ok (.iload_n 2, 1) := by decide +kernel
theorem dX10_benches_69 : decode cX10_benches 69 = .ok (.iload 4, 2) := by decide +kernel
theorem dX10_benches_71 : decode cX10_benches 71 = .ok (.invokestatic 254, 3) := by decide +kernel
theorem dX10_benches_74 : decode cX10_benches 74 = .ok (.ifCond .eq 6, 3) := by decide +kernel
theorem dX10_benches_77 : decode cX10_benches 77 = .ok (.goto 62, 3) := by decide +kernel
theorem dX10_benches_80 : decode cX10_benches 80 = .ok (.aload_n 0, 1) := by decide +kernel
theorem dX10_benches_81 : decode cX10_benches 81 = .ok (.getfield 79, 3) := by decide +kernel
theorem dX10_benches_84 : decode cX10_benches 84 = .ok (.iload_n 1, 1) := by decide +kernel
theorem dX10_benches_85 : decode cX10_benches 85 = .ok (.iload 4, 2) := by decide +kernel
theorem dX10_benches_87 : decode cX10_benches 87 = .ok (.iastore, 1) := by decide +kernel
theorem dX10_benches_88 : decode cX10_benches 88 = .ok (.aload_n 0, 1) := by decide +kernel
theorem dX10_benches_89 : decode cX10_benches 89 = .ok (.iload_n 1, 1) := by decide +kernel
theorem dX10_benches_90 : decode cX10_benches 90 = .ok (.iconst 1, 1) := by decide +kernel
theorem dX10_benches_91 : decode cX10_benches 91 = .ok (.iadd, 1) := by decide +kernel
theorem dX10_benches_92 : decode cX10_benches 92 = .ok (.iload_n 2, 1) := by decide +kernel
theorem dX10_benches_93 : decode cX10_benches 93 = .ok (.iconst 1, 1) := by decide +kernel
theorem dX10_benches_94 : decode cX10_benches 94 = .ok (.iload 4, 2) := by decide +kernel
theorem dX10_benches_96 : decode cX10_benches 96 = .ok (.ishl, 1) := by decide +kernel
theorem dX10_benches_97 : decode cX10_benches 97 = .ok (.ior, 1) := by decide +kernel
theorem dX10_benches_98 : decode cX10_benches 98 = .ok (.iload_n 3, 1) := by decide +kernel
theorem dX10_benches_99 : decode cX10_benches 99 = .ok (.iload_n 1, 1) := by decide +kernel
theorem dX10_benches_100 : decode cX10_benches 100 = .ok (.ifCond .ne 7, 3) := by decide +kernel
theorem dX10_benches_103 : decode cX10_benches 103 = .ok (.iconst 0, 1) := by decide +kernel
theorem dX10_benches_104 : decode cX10_benches 104 = .ok (.goto 31, 3) := by decide +kernel
theorem dX10_benches_107 : decode cX10_benches 107 = .ok (.aload_n 0, 1) := by decide +kernel
theorem dX10_benches_108 : decode cX10_benches 108 = .ok (.aload_n 0, 1) := by decide +kernel
theorem dX10_benches_109 : decode cX10_benches 109 = .ok (.getfield 31, 3) := by decide +kernel
theorem dX10_benches_112 : decode cX10_benches 112 = .ok (.aload_n 0, 1) := by decide +kernel
theorem dX10_benches_113 : decode cX10_benches 113 = .ok (.getfield 79, 3) := by decide +kernel
theorem dX10_benches_116 : decode cX10_benches 116 = .ok (.iload_n 1, 1) := by decide +kernel
theorem dX10_benches_117 : decode cX10_benches 117 = .ok (.iconst 1, 1) := by decide +kernel
theorem dX10_benches_118 : decode cX10_benches 118 = .ok (.isub, 1) := by decide +kernel
theorem dX10_benches_119 : decode cX10_benches 119 = .ok (.iaload, 1) := by decide +kernel
theorem dX10_benches_120 : decode cX10_benches 120 = .ok (.aaload, 1) := by decide +kernel
theorem dX10_benches_121 : decode cX10_benches 121 = .ok (.iconst 0, 1) := by decide +kernel
theorem dX10_benches_122 : decode cX10_benches 122 = .ok (.iaload, 1) := by decide +kernel
theorem dX10_benches_123 : decode cX10_benches 123 = .ok (.aload_n 0, 1) := by decide +kernel
theorem dX10_benches_124 : decode cX10_benches 124 = .ok (.getfield 31, 3) := by decide +kernel
theorem dX10_benches_127 : decode cX10_benches 127 = .ok (.iload 4, 2) := by decide +kernel
theorem dX10_benches_129 : decode cX10_benches 129 = .ok (.aaload, 1) := by decide +kernel
theorem dX10_benches_130 : decode cX10_benches 130 = .ok (.iconst 0, 1) := by decide +kernel
theorem dX10_benches_131 : decode cX10_benches 131 = .ok (.iaload, 1) := by decide +kernel
theorem dX10_benches_132 : decode cX10_benches 132 = .ok (.invokevirtual 342, 3) := by decide +kernel
theorem dX10_benches_135 : decode cX10_benches 135 = .ok (.iadd, 1) := by decide +kernel
theorem dX10_benches_136 : decode cX10_benches 136 = .ok (.invokevirtual 348, 3) := by decide +kernel
theorem dX10_benches_139 : decode cX10_benches 139 = .ok (.iinc 4 1, 3) := by decide +kernel
theorem dX10_benches_142 : decode cX10_benches 142 = .ok (.goto (-85), 3) := by decide +kernel
theorem dX10_benches_145 : decode cX10_benches 145 = .ok (.return_, 1) := by decide +kernel
theorem dX10_laysBench_0 : decode cX10_laysBench 0 = .ok (.aload_n 0, 1) := by decide +kernel
theorem dX10_laysBench_1 : decode cX10_laysBench 1 = .ok (.iconst (-1), 1) := by decide +kernel
theorem dX10_laysBench_2 : decode cX10_laysBench 2 = .ok (.putfield 345, 3) := by decide +kernel
theorem dX10_laysBench_5 : decode cX10_laysBench 5 = .ok (.aload_n 0, 1) := by decide +kernel
theorem dX10_laysBench_6 : decode cX10_laysBench 6 = .ok (.iconst 0, 1) := by decide +kernel
theorem dX10_laysBench_7 : decode cX10_laysBench 7 = .ok (.iconst 0, 1) := by decide +kernel
theorem dX10_laysBench_8 : decode cX10_laysBench 8 = .ok (.iconst 0, 1) := by decide +kernel
theorem dX10_laysBench_9 : decode cX10_laysBench 9 = .ok (.invokevirtual 348, 3) := by decide +kernel
theorem dX10_laysBench_12 : decode cX10_laysBench 12 = .ok (.return_, 1) := by decide +kernel
theorem dX10_bench_0 : decode cX10_bench 0 = .ok (.aload_n 0, 1) := by decide +kernel
theorem dX10_bench_1 : decode cX10_bench 1 = .ok (.iconst 0, 1) := by decide +kernel
theorem dX10_bench_2 : decode cX10_bench 2 = .ok (.putfield 95, 3) := by decide +kernel
theorem dX10_bench_5 : decode cX10_bench 5 = .ok (.aload_n 0, 1) := by decide +kernel
theorem dX10_bench_6 : decode cX10_bench 6 = .ok (.invokevirtual 352, 3) := by decide +kernel
theorem dX10_bench_9 : decode cX10_bench 9 = .ok (.aload_n 0, 1) := by decide +kernel
theorem dX10_bench_10 : decode cX10_bench 10 = .ok (.getfield 345, 3) := by decide +kernel
theorem dX10_bench_13 : decode cX10_bench 13 = .ok (.ireturn, 1) := by decide +kernel
theorem dX10_benched_0 : decode cX10_benched 0 = .ok (.aload_n 0, 1) := by decide +kernel
theorem dX10_benched_1 : decode cX10_benched 1 = .ok (.iconst 0, 1) := by decide +kernel
theorem dX10_benched_2 : decode cX10_benched 2 = .ok (.putfield 95, 3) := by decide +kernel
theorem dX10_benched_5 : decode cX10_benched 5 = .ok (.aload_n 0, 1) := by decide +kernel
theorem dX10_benched_6 : decode cX10_benched 6 = .ok (.iload_n 1, 1) := by decide +kernel
theorem dX10_benched_7 : decode cX10_benched 7 = .ok (.ifCond .ge 7, 3) := by decide +kernel
theorem dX10_benched_10 : decode cX10_benched 10 = .ok (.iconst 1, 1) := by decide +kernel
theorem dX10_benched_11 : decode cX10_benched 11 = .ok (.goto 4, 3) := by decide +kernel
theorem dX10_benched_14 : decode cX10_benched 14 = .ok (.iconst 0, 1) := by decide +kernel
theorem dX10_benched_15 : decode cX10_benched 15 = .ok (.iconst 1, 1) := by decide +kernel
theorem dX10_benched_16 : decode cX10_benched 16 = .ok (.iconst 1, 1) := by decide +kernel
theorem dX10_benched_17 : decode cX10_benched 17 = .ok (.invokevirtual 171, 3) := by decide +kernel
theorem dX10_benched_20 : decode cX10_benched 20 = .ok (.ifCond .eq 5, 3) := by decide +kernel
theorem dX10_benched_23 : decode cX10_benched 23 = .ok (.iconst 0, 1) := by decide +kernel
theorem dX10_benched_24 : decode cX10_benched 24 = .ok (.ireturn, 1) := by decide +kernel
theorem dX10_benched_25 : decode cX10_benched 25 = .ok (.aload_n 0, 1) := by decide +kernel
theorem dX10_benched_26 : decode cX10_benched 26 = .ok (.invokevirtual 352, 3) := by decide +kernel
theorem dX10_benched_29 : decode cX10_benched 29 = .ok (.iload_n 1, 1) := by decide +kernel
theorem dX10_benched_30 : decode cX10_benched 30 = .ok (.aload_n 0, 1) := by decide +kernel
theorem dX10_benched_31 : decode cX10_benched 31 = .ok (.getfield 23, 3) := by decide +kernel
theorem dX10_benched_34 : decode cX10_benched 34 = .ok (.iconst 0, 1) := by decide +kernel
theorem dX10_benched_35 : decode cX10_benched 35 = .ok (.iaload, 1) := by decide +kernel
theorem dX10_benched_36 : decode cX10_benched 36 = .ok (.if_icmp .ge 12, 3) := by decide +kernel
theorem dX10_benched_39 : decode cX10_benched 39 = .ok (.aload_n 0, 1) := by decide +kernel
theorem dX10_benched_40 : decode cX10_benched 40 = .ok (.getfield 82, 3) := by decide +kernel
theorem dX10_benched_43 : decode cX10_benched 43 = .ok (.iload_n 1, 1) := by decide +kernel
theorem dX10_benched_44 : decode cX10_benched 44 = .ok (.iaload, 1) := by decide +kernel
theorem dX10_benched_45 : decode cX10_benched 45 = .ok (.goto 4, 3) := by decide +kernel
theorem dX10_benched_48 : decode cX10_benched 48 = .ok (.iconst (-1), 1) := by decide +kernel
theorem dX10_benched_49 : decode cX10_benched 49 = .ok (.ireturn, 1) := by decide +kernel
theorem dX10_wording_0 : decode cX10_wording 0 = .ok (.aload_n 0, 1) := by decide +kernel
theorem dX10_wording_1 : decode cX10_wording 1 = .ok (.iconst 0, 1) := by decide +kernel
theorem dX10_wording_2 : decode cX10_wording 2 = .ok (.putfield 95, 3) := by decide +kernel
theorem dX10_wording_5 : decode cX10_wording 5 = .ok (.bipush 63, 2) := by decide +kernel
theorem dX10_wording_7 : decode cX10_wording 7 = .ok (.istore_n 1, 1) := by decide +kernel
theorem dX10_wording_8 : decode cX10_wording 8 = .ok (.iload_n 1, 1) := by decide +kernel
theorem dX10_wording_9 : decode cX10_wording 9 = .ok (.istore_n 2, 1) := by decide +kernel
theorem dX10_wording_10 : decode cX10_wording 10 = .ok (.iload_n 2, 1) := by decide +kernel
theorem dX10_wording_11 : decode cX10_wording 11 = .ok (.ifCond .lt 75, 3) := by decide +kernel
theorem dX10_wording_14 : decode cX10_wording 14 = .ok (.iload_n 2, 1) := by decide +kernel
theorem dX10_wording_15 : decode cX10_wording 15 = .ok (.invokestatic 333, 3) := by decide +kernel
theorem dX10_wording_18 : decode cX10_wording 18 = .ok (.iload_n 1, 1) := by decide +kernel
theorem dX10_wording_19 : decode cX10_wording 19 = .ok (.invokestatic 333, 3) := by decide +kernel
theorem dX10_wording_22 : decode cX10_wording 22 = .ok (.if_icmp .gt 7, 3) := by decide +kernel
theorem dX10_wording_25 : decode cX10_wording 25 = .ok (.iconst 1, 1) := by decide +kernel
theorem dX10_wording_26 : decode cX10_wording 26 = .ok (.goto 4, 3) := by decide +kernel
theorem dX10_wording_29 : decode cX10_wording 29 = .ok (.iconst 0, 1) := by decide +kernel
theorem dX10_wording_30 : decode cX10_wording 30 = .ok (.istore_n 3, 1) := by decide +kernel
theorem dX10_wording_31 : decode cX10_wording 31 = .ok (.iconst 0, 1) := by decide +kernel
theorem dX10_wording_32 : decode cX10_wording 32 = .ok (.istore 4, 2) := by decide +kernel
theorem dX10_wording_34 : decode cX10_wording 34 = .ok (.iload 4, 2) := by decide +kernel
theorem dX10_wording_36 : decode cX10_wording 36 = .ok (.aload_n 0, 1) := by decide +kernel
theorem dX10_wording_37 : decode cX10_wording 37 = .ok (.getfield 23, 3) := by decide +kernel
theorem dX10_wording_40 : decode cX10_wording 40 = .ok (.iconst 1, 1) := by decide +kernel
theorem dX10_wording_41 : decode cX10_wording 41 = .ok (.iaload, 1) := by decide +kernel
theorem dX10_wording_42 : decode cX10_wording 42 = .ok (.if_icmp .ge 28, 3) := by decide +kernel
theorem dX10_wording_45 : decode cX10_wording 45 = .ok (.iload_n 3, 1) := by decide +kernel
theorem dX10_wording_46 : decode cX10_wording 46 = .ok (.aload_n 0, 1) := by decide +kernel
theorem dX10_wording_47 : decode cX10_wording 47 = .ok (.iload 4, 2) := by decide +kernel
theorem dX10_wording_49 : decode cX10_wording 49 = .ok (.invokevirtual 291, 3) := by decide +kernel
theorem dX10_wording_52 : decode cX10_wording 52 = .ok (.iload_n 2, 1) := by decide +kernel
theorem dX10_wording_53 : decode cX10_wording 53 = .ok (.iand, 1) := by decide +kernel
theorem dX10_wording_54 : decode cX10_wording 54 = .ok (.ifCond .eq 7, 3) := by decide +kernel
theorem dX10_wording_57 : decode cX10_wording 57 = .ok (.iconst 1, 1) := by decide +kernel
theorem dX10_wording_58 : decode cX10_wording 58 = .ok (.goto 4, 3) := by decide +kernel
theorem dX10_wording_61 : decode cX10_wording 61 = .ok (.iconst 0, 1) := by decide +kernel
theorem dX10_wording_62 : decode cX10_wording 62 = .ok (.iand, 1) := by decide +kernel
theorem dX10_wording_63 : decode cX10_wording 63 = .ok (.istore_n 3, 1) := by decide +kernel
theorem dX10_wording_64 : decode cX10_wording 64 = .ok (.iinc 4 1, 3) := by decide +kernel
theorem dX10_wording_67 : decode cX10_wording 67 = .ok (.goto (-33), 3) := by decide +kernel
theorem dX10_wording_70 : decode cX10_wording 70 = .ok (.iload_n 3, 1) := by decide +kernel
theorem dX10_wording_71 : decode cX10_wording 71 = .ok (.ifCond .eq 7, 3) := by decide +kernel
theorem dX10_wording_74 : decode cX10_wording 74 = .ok (.iload_n 2, 1) := by decide +kernel
theorem dX10_wording_75 : decode cX10_wording 75 = .ok (.goto 4, 3) := by decide +kernel
theorem dX10_wording_78 : decode cX10_wording 78 = .ok (.iload_n 1, 1) := by decide +kernel
theorem dX10_wording_79 : decode cX10_wording 79 = .ok (.istore_n 1, 1) := by decide +kernel
theorem dX10_wording_80 : decode cX10_wording 80 = .ok (.iinc 2 (-1), 3) := by decide +kernel
theorem dX10_wording_83 : decode cX10_wording 83 = .ok (.goto (-73), 3) := by decide +kernel
theorem dX10_wording_86 : decode cX10_wording 86 = .ok (.iload_n 1, 1) := by decide +kernel
theorem dX10_wording_87 : decode cX10_wording 87 = .ok (.ireturn, 1) := by decide +kernel
theorem dX10_wordings_0 : decode cX10_wordings 0 = .ok (.aload_n 0, 1) := by decide +kernel
theorem dX10_wordings_1 : decode cX10_wordings 1 = .ok (.iconst 0, 1) := by decide +kernel
theorem dX10_wordings_2 : decode cX10_wordings 2 = .ok (.putfield 95, 3) := by decide +kernel
theorem dX10_wordings_5 : decode cX10_wordings 5 = .ok (.aload_n 0, 1) := by decide +kernel
theorem dX10_wordings_6 : decode cX10_wordings 6 = .ok (.iload_n 1, 1) := by decide +kernel
theorem dX10_wordings_7 : decode cX10_wordings 7 = .ok (.iconst 0, 1) := by decide +kernel
theorem dX10_wordings_8 : decode cX10_wordings 8 = .ok (.bipush 63, 2) := by decide +kernel
theorem dX10_wordings_10 : decode cX10_wordings 10 = .ok (.invokestatic 129, 3) := by decide +kernel
theorem dX10_wordings_13 : decode cX10_wordings 13 = .ok (.ifCond .ne 7, 3) := by decide +kernel
theorem dX10_wordings_16 : decode cX10_wordings 16 = .ok (.iconst 1, 1) := by decide +kernel
theorem dX10_wordings_17 : decode cX10_wordings 17 = .ok (.goto 4, 3) := by decide +kernel
theorem dX10_wordings_20 : decode cX10_wordings 20 = .ok (.iconst 0, 1) := by decide +kernel
theorem dX10_wordings_21 : decode cX10_wordings 21 = .ok (.iconst 1, 1) := by decide +kernel
theorem dX10_wordings_22 : decode cX10_wordings 22 = .ok (.iconst 1, 1) := by decide +kernel
theorem dX10_wordings_23 : decode cX10_wordings 23 = .ok (.invokevirtual 171, 3) := by decide +kernel
theorem dX10_wordings_26 : decode cX10_wordings 26 = .ok (.ifCond .eq 5, 3) := by decide +kernel
theorem dX10_wordings_29 : decode cX10_wordings 29 = .ok (.lconst 0, 1) := by decide +kernel
theorem dX10_wordings_30 : decode cX10_wordings 30 = .ok (.lreturn, 1) := by decide +kernel
theorem dX10_wordings_31 : decode cX10_wordings 31 = .ok (.lconst 1, 1) := by decide +kernel
theorem dX10_wordings_32 : decode cX10_wordings 32 = .ok (.lstore_n 2, 1) := by decide +kernel
theorem dX10_wordings_33 : decode cX10_wordings 33 = .ok (.iconst 0, 1) := by decide +kernel
theorem dX10_wordings_34 : decode cX10_wordings 34 = .ok (.istore 4, 2) := by decide +kernel
theorem dX10_wordings_36 : decode cX10_wordings 36 = .ok (.iload 4, 2) := by decide +kernel
theorem dX10_wordings_38 : decode cX10_wordings 38 = .ok (.aload_n 0, 1) := by decide +kernel
theorem dX10_wordings_39 : decode cX10_wordings 39 = .ok (.getfield 23, 3) := by decide +kernel
theorem dX10_wordings_42 : decode cX10_wordings 42 = .ok (.iconst 1, 1) := by decide +kernel
theorem dX10_wordings_43 : decode cX10_wordings 43 = .ok (.iaload, 1) := by decide +kernel
theorem dX10_wordings_44 : decode cX10_wordings 44 = .ok (.if_icmp .ge 24, 3) := by decide +kernel
theorem dX10_wordings_47 : decode cX10_wordings 47 = .ok (.lload_n 2, 1) := by decide +kernel
theorem dX10_wordings_48 : decode cX10_wordings 48 = .ok (.aload_n 0, 1) := by decide +kernel
theorem dX10_wordings_49 : decode cX10_wordings 49 = .ok (.iload 4, 2) := by decide +kernel
theorem dX10_wordings_51 : decode cX10_wordings 51 = .ok (.invokevirtual 291, 3) := by decide +kernel
theorem dX10_wordings_54 : decode cX10_wordings 54 = .ok (.iload_n 1, 1) := by decide +kernel
theorem dX10_wordings_55 : decode cX10_wordings 55 = .ok (.iand, 1) := by decide +kernel
theorem dX10_wordings_56 : decode cX10_wordings 56 = .ok (.invokestatic 333, 3) := by decide +kernel
theorem dX10_wordings_59 : decode cX10_wordings 59 = .ok (.i2l, 1) := by decide +kernel
theorem dX10_wordings_60 : decode cX10_wordings 60 = .ok (.lmul, 1) := by decide +kernel
theorem dX10_wordings_61 : decode cX10_wordings 61 = .ok (.lstore_n 2, 1) := by decide +kernel
theorem dX10_wordings_62 : decode cX10_wordings 62 = .ok (.iinc 4 1, 3) := by decide +kernel
theorem dX10_wordings_65 : decode cX10_wordings 65 = .ok (.goto (-29), 3) := by decide +kernel
theorem dX10_wordings_68 : decode cX10_wordings 68 = .ok (.lload_n 2, 1) := by decide +kernel
theorem dX10_wordings_69 : decode cX10_wordings 69 = .ok (.lreturn, 1) := by decide +kernel
theorem dX10_isHeard_0 : decode cX10_isHeard 0 = .ok (.aload_n 0, 1) := by decide +kernel
theorem dX10_isHeard_1 : decode cX10_isHeard 1 = .ok (.getfield 67, 3) := by decide +kernel
theorem dX10_isHeard_4 : decode cX10_isHeard 4 = .ok (.aload_n 0, 1) := by decide +kernel
theorem dX10_isHeard_5 : decode cX10_isHeard 5 = .ok (.getfield 70, 3) := by decide +kernel
theorem dX10_isHeard_8 : decode cX10_isHeard 8 = .ok (.invokestatic 310, 3) := by decide +kernel
theorem dX10_isHeard_11 : decode cX10_isHeard 11 = .ok (.aload_n 0, 1) := by decide +kernel
theorem dX10_isHeard_12 : decode cX10_isHeard 12 = .ok (.aload_n 0, 1) := by decide +kernel
theorem dX10_isHeard_13 : decode cX10_isHeard 13 = .ok (.invokevirtual 330, 3) := by decide +kernel
theorem dX10_isHeard_16 : decode cX10_isHeard 16 = .ok (.iload_n 1, 1) := by decide +kernel
theorem dX10_isHeard_17 : decode cX10_isHeard 17 = .ok (.iconst (-1), 1) := by decide +kernel
theorem dX10_isHeard_18 : decode cX10_isHeard 18 = .ok (.ixor, 1) := by decide +kernel
theorem dX10_isHeard_19 : decode cX10_isHeard 19 = .ok (.iand, 1) := by decide +kernel
theorem dX10_isHeard_20 : decode cX10_isHeard 20 = .ok (.invokevirtual 339, 3) := by decide +kernel
theorem dX10_isHeard_23 : decode cX10_isHeard 23 = .ok (.aload_n 0, 1) := by decide +kernel
theorem dX10_isHeard_24 : decode cX10_isHeard 24 = .ok (.aload_n 0, 1) := by decide +kernel
theorem dX10_isHeard_25 : decode cX10_isHeard 25 = .ok (.getfield 70, 3) := by decide +kernel
theorem dX10_isHeard_28 : decode cX10_isHeard 28 = .ok (.invokevirtual 280, 3) := by decide +kernel
theorem dX10_isHeard_31 : decode cX10_isHeard 31 = .ok (.iconst 0, 1) := by decide +kernel
theorem dX10_isHeard_32 : decode cX10_isHeard 32 = .ok (.istore_n 2, 1) := by decide +kernel
theorem dX10_isHeard_33 : decode cX10_isHeard 33 = .ok (.iload_n 2, 1) := by decide +kernel
theorem dX10_isHeard_34 : decode cX10_isHeard 34 = .ok (.aload_n 0, 1) := by decide +kernel
theorem dX10_isHeard_35 : decode cX10_isHeard 35 = .ok (.getfield 195, 3) := by decide +kernel
theorem dX10_isHeard_38 : decode cX10_isHeard 38 = .ok (.if_icmp .ge 37, 3) := by decide +kernel
theorem dX10_isHeard_41 : decode cX10_isHeard 41 = .ok (.aload_n 0, 1) := by decide +kernel
theorem dX10_isHeard_42 : decode cX10_isHeard 42 = .ok (.getfield 273, 3) := by decide +kernel
theorem dX10_isHeard_45 : decode cX10_isHeard 45 = .ok (.aload_n 0, 1) := by decide +kernel
theorem dX10_isHeard_46 : decode cX10_isHeard 46 = .ok (.getfield 52, 3) := by decide +kernel
theorem dX10_isHeard_49 : decode cX10_isHeard 49 = .ok (.iload_n 2, 1) := by decide +kernel
theorem dX10_isHeard_50 : decode cX10_isHeard 50 = .ok (.aaload, 1) := by decide +kernel
theorem dX10_isHeard_51 : decode cX10_isHeard 51 = .ok (.iconst 0, 1) := by decide +kernel
theorem dX10_isHeard_52 : decode cX10_isHeard 52 = .ok (.iaload, 1) := by decide +kernel
theorem dX10_isHeard_53 : decode cX10_isHeard 53 = .ok (.ishr, 1) := by decide +kernel
theorem dX10_isHeard_54 : decode cX10_isHeard 54 = .ok (.iconst 1, 1) := by decide +kernel
theorem dX10_isHeard_55 : decode cX10_isHeard 55 = .ok (.iand, 1) := by decide +kernel
theorem dX10_isHeard_56 : decode cX10_isHeard 56 = .ok (.aload_n 0, 1) := by decide +kernel
theorem dX10_isHeard_57 : decode cX10_isHeard 57 = .ok (.getfield 52, 3) := by decide +kernel
theorem dX10_isHeard_60 : decode cX10_isHeard 60 = .ok (.iload_n 2, 1) := by decide +kernel
theorem dX10_isHeard_61 : decode cX10_isHeard 61 = .ok (.aaload, 1) := by decide +kernel
theorem dX10_isHeard_62 : decode cX10_isHeard 62 = .ok (.iconst 1, 1) := by decide +kernel
theorem dX10_isHeard_63 : decode cX10_isHeard 63 = .ok (.iaload, 1) := by decide +kernel
theorem dX10_isHeard_64 : decode cX10_isHeard 64 = .ok (.if_icmp .eq 5, 3) := by decide +kernel
theorem dX10_isHeard_67 : decode cX10_isHeard 67 = .ok (.iconst 0, 1) := by decide +kernel
theorem dX10_isHeard_68 : decode cX10_isHeard 68 = .ok (.ireturn, 1) := by decide +kernel
theorem dX10_isHeard_69 : decode cX10_isHeard 69 = .ok (.iinc 2 1, 3) := by decide +kernel
theorem dX10_isHeard_72 : decode cX10_isHeard 72 = .ok (.goto (-39), 3) := by decide +kernel
theorem dX10_isHeard_75 : decode cX10_isHeard 75 = .ok (.iconst 1, 1) := by decide +kernel
theorem dX10_isHeard_76 : decode cX10_isHeard 76 = .ok (.ireturn, 1) := by decide +kernel
theorem dX10_who_0 : decode cX10_who 0 = .ok (.aload_n 0, 1) := by decide +kernel
theorem dX10_who_1 : decode cX10_who 1 = .ok (.iconst 0, 1) := by decide +kernel
theorem dX10_who_2 : decode cX10_who 2 = .ok (.putfield 95, 3) := by decide +kernel
theorem dX10_who_5 : decode cX10_who 5 = .ok (.aload_n 0, 1) := by decide +kernel
theorem dX10_who_6 : decode cX10_who 6 = .ok (.iload_n 1, 1) := by decide +kernel
theorem dX10_who_7 : decode cX10_who 7 = .ok (.iconst 0, 1) := by decide +kernel
theorem dX10_who_8 : decode cX10_who 8 = .ok (.iconst 1, 1) := by decide +kernel
theorem dX10_who_9 : decode cX10_who 9 = .ok (.invokestatic 129, 3) := by decide +kernel
theorem dX10_who_12 : decode cX10_who 12 = .ok (.ifCond .ne 7, 3) := by decide +kernel
theorem dX10_who_15 : decode cX10_who 15 = .ok (.iconst 1, 1) := by decide +kernel
theorem dX10_who_16 : decode cX10_who 16 = .ok (.goto 4, 3) := by decide +kernel
theorem dX10_who_19 : decode cX10_who 19 = .ok (.iconst 0, 1) := by decide +kernel
theorem dX10_who_20 : decode cX10_who 20 = .ok (.iconst 1, 1) := by decide +kernel
theorem dX10_who_21 : decode cX10_who 21 = .ok (.iconst 1, 1) := by decide +kernel
theorem dX10_who_22 : decode cX10_who 22 = .ok (.invokevirtual 171, 3) := by decide +kernel
theorem dX10_who_25 : decode cX10_who 25 = .ok (.ifCond .eq 5, 3) := by decide +kernel
theorem dX10_who_28 : decode cX10_who 28 = .ok (.iconst 0, 1) := by decide +kernel
theorem dX10_who_29 : decode cX10_who 29 = .ok (.ireturn, 1) := by decide +kernel
theorem dX10_who_30 : decode cX10_who 30 = .ok (.iconst 0, 1) := by decide +kernel
theorem dX10_who_31 : decode cX10_who 31 = .ok (.istore_n 2, 1) := by decide +kernel
theorem dX10_who_32 : decode cX10_who 32 = .ok (.iconst (-1), 1) := by decide +kernel
theorem dX10_who_33 : decode cX10_who 33 = .ok (.istore_n 3, 1) := by decide +kernel
theorem dX10_who_34 : decode cX10_who 34 = .ok (.iconst 0, 1) := by decide +kernel
theorem dX10_who_35 : decode cX10_who 35 = .ok (.istore 4, 2) := by decide +kernel
theorem dX10_who_37 : decode cX10_who 37 = .ok (.iload 4, 2) := by decide +kernel
theorem dX10_who_39 : decode cX10_who 39 = .ok (.aload_n 0, 1) := by decide +kernel
theorem dX10_who_40 : decode cX10_who 40 = .ok (.invokevirtual 330, 3) := by decide +kernel
theorem dX10_who_43 : decode cX10_who 43 = .ok (.if_icmp .gt 48, 3) := by decide +kernel
theorem dX10_who_46 : decode cX10_who 46 = .ok (.aload_n 0, 1) := by decide +kernel
theorem dX10_who_47 : decode cX10_who 47 = .ok (.iload 4, 2) := by decide +kernel
theorem dX10_who_49 : decode cX10_who 49 = .ok (.invokevirtual 355, 3) := by decide +kernel
theorem dX10_who_52 : decode cX10_who 52 = .ok (.ifCond .ne 6, 3) := by decide +kernel
theorem dX10_who_55 : decode cX10_who 55 = .ok (.goto 30, 3) := by decide +kernel
theorem dX10_who_58 : decode cX10_who 58 = .ok (.iinc 2 1, 3) := by decide +kernel
theorem dX10_who_61 : decode cX10_who 61 = .ok (.iload_n 3, 1) := by decide +kernel
theorem dX10_who_62 : decode cX10_who 62 = .ok (.iconst (-1), 1) := by decide +kernel
theorem dX10_who_63 : decode cX10_who 63 = .ok (.if_icmp .eq 15, 3) := by decide +kernel
theorem dX10_who_66 : decode cX10_who 66 = .ok (.iload 4, 2) := by decide +kernel
theorem dX10_who_68 : decode cX10_who 68 = .ok (.invokestatic 333, 3) := by decide +kernel
theorem dX10_who_71 : decode cX10_who 71 = .ok (.iload_n 3, 1) := by decide +kernel
theorem dX10_who_72 : decode cX10_who 72 = .ok (.invokestatic 333, 3) := by decide +kernel
theorem dX10_who_75 : decode cX10_who 75 = .ok (.if_icmp .ge 8, 3) := by decide +kernel
theorem dX10_who_78 : decode cX10_who 78 = .ok (.iload 4, 2) := by decide +kernel
theorem dX10_who_80 : decode cX10_who 80 = .ok (.goto 4, 3) := by decide +kernel
theorem dX10_who_83 : decode cX10_who 83 = .ok (.iload_n 3, 1) := by decide +kernel
theorem dX10_who_84 : decode cX10_who 84 = .ok (.istore_n 3, 1) := by decide +kernel
theorem dX10_who_85 : decode cX10_who 85 = .ok (.iinc 4 1, 3) := by decide +kernel
theorem dX10_who_88 : decode cX10_who 88 = .ok (.goto (-51), 3) := by decide +kernel
theorem dX10_who_91 : decode cX10_who 91 = .ok (.iload_n 1, 1) := by decide +kernel
theorem dX10_who_92 : decode cX10_who 92 = .ok (.ifCond .ne 7, 3) := by decide +kernel
theorem dX10_who_95 : decode cX10_who 95 = .ok (.iload_n 2, 1) := by decide +kernel
theorem dX10_who_96 : decode cX10_who 96 = .ok (.goto 4, 3) := by decide +kernel
theorem dX10_who_99 : decode cX10_who 99 = .ok (.iload_n 3, 1) := by decide +kernel
theorem dX10_who_100 : decode cX10_who 100 = .ok (.ireturn, 1) := by decide +kernel
theorem dX10_isTold_0 : decode cX10_isTold 0 = .ok (.iconst 0, 1) := by decide +kernel
theorem dX10_isTold_1 : decode cX10_isTold 1 = .ok (.istore_n 2, 1) := by decide +kernel
theorem dX10_isTold_2 : decode cX10_isTold 2 = .ok (.iload_n 2, 1) := by decide +kernel
theorem dX10_isTold_3 : decode cX10_isTold 3 = .ok (.aload_n 0, 1) := by decide +kernel
theorem dX10_isTold_4 : decode cX10_isTold 4 = .ok (.getfield 195, 3) := by decide +kernel
theorem dX10_isTold_7 : decode cX10_isTold 7 = .ok (.if_icmp .ge 23, 3) := by decide +kernel
theorem dX10_isTold_10 : decode cX10_isTold 10 = .ok (.aload_n 0, 1) := by decide +kernel
theorem dX10_isTold_11 : decode cX10_isTold 11 = .ok (.getfield 52, 3) := by decide +kernel
theorem dX10_isTold_14 : decode cX10_isTold 14 = .ok (.iload_n 2, 1) := by decide +kernel
theorem dX10_isTold_15 : decode cX10_isTold 15 = .ok (.aaload, 1) := by decide +kernel
theorem dX10_isTold_16 : decode cX10_isTold 16 = .ok (.iconst 0, 1) := by decide +kernel
theorem dX10_isTold_17 : decode cX10_isTold 17 = .ok (.iaload, 1) := by decide +kernel
theorem dX10_isTold_18 : decode cX10_isTold 18 = .ok (.iload_n 1, 1) := by decide +kernel
theorem dX10_isTold_19 : decode cX10_isTold 19 = .ok (.if_icmp .ne 5, 3) := by decide +kernel
theorem dX10_isTold_22 : decode cX10_isTold 22 = .ok (.iconst 1, 1) := by decide +kernel
theorem dX10_isTold_23 : decode cX10_isTold 23 = .ok (.ireturn, 1) := by decide +kernel
theorem dX10_isTold_24 : decode cX10_isTold 24 = .ok (.iinc 2 1, 3) := by decide +kernel
theorem dX10_isTold_27 : decode cX10_isTold 27 = .ok (.goto (-25), 3) := by decide +kernel
theorem dX10_isTold_30 : decode cX10_isTold 30 = .ok (.iconst 0, 1) := by decide +kernel
theorem dX10_isTold_31 : decode cX10_isTold 31 = .ok (.ireturn, 1) := by decide +kernel
theorem dX10_worstOf_0 : decode cX10_worstOf 0 = .ok (.iconst 0, 1) := by decide +kernel
theorem dX10_worstOf_1 : decode cX10_worstOf 1 = .ok (.istore_n 2, 1) := by decide +kernel
theorem dX10_worstOf_2 : decode cX10_worstOf 2 = .ok (.iconst 0, 1) := by decide +kernel
theorem dX10_worstOf_3 : decode cX10_worstOf 3 = .ok (.istore_n 3, 1) := by decide +kernel
theorem dX10_worstOf_4 : decode cX10_worstOf 4 = .ok (.iconst 0, 1) := by decide +kernel
theorem dX10_worstOf_5 : decode cX10_worstOf 5 = .ok (.istore 4, 2) := by decide +kernel
theorem dX10_worstOf_7 : decode cX10_worstOf 7 = .ok (.iload 4, 2) := by decide +kernel
theorem dX10_worstOf_9 : decode cX10_worstOf 9 = .ok (.aload_n 0, 1) := by decide +kernel
theorem dX10_worstOf_10 : decode cX10_worstOf 10 = .ok (.invokevirtual 330, 3) := by decide +kernel
theorem dX10_worstOf_13 : decode cX10_worstOf 13 = .ok (.if_icmp .gt 35, 3) := by decide +kernel
theorem dX10_worstOf_16 : decode cX10_worstOf 16 = .ok (.aload_n 0, 1) := by decide +kernel
theorem dX10_worstOf_17 : decode cX10_worstOf 17 = .ok (.iload 4, 2) := by decide +kernel
theorem dX10_worstOf_19 : decode cX10_worstOf 19 = .ok (.invokevirtual 355, 3) := by decide +kernel
theorem dX10_worstOf_22 : decode cX10_worstOf 22 = .ok (.ifCond .ne 6, 3) := by decide +kernel
theorem dX10_worstOf_25 : decode cX10_worstOf 25 = .ok (.goto 17, 3) := by decide +kernel
theorem dX10_worstOf_28 : decode cX10_worstOf 28 = .ok (.iinc 3 1, 3) := by decide +kernel
theorem dX10_worstOf_31 : decode cX10_worstOf 31 = .ok (.iload_n 2, 1) := by decide +kernel
theorem dX10_worstOf_32 : decode cX10_worstOf 32 = .ok (.aload_n 0, 1) := by decide +kernel
theorem dX10_worstOf_33 : decode cX10_worstOf 33 = .ok (.getfield 273, 3) := by decide +kernel
theorem dX10_worstOf_36 : decode cX10_worstOf 36 = .ok (.iload_n 1, 1) := by decide +kernel
theorem dX10_worstOf_37 : decode cX10_worstOf 37 = .ok (.ishr, 1) := by decide +kernel
theorem dX10_worstOf_38 : decode cX10_worstOf 38 = .ok (.iconst 1, 1) := by decide +kernel
theorem dX10_worstOf_39 : decode cX10_worstOf 39 = .ok (.iand, 1) := by decide +kernel
theorem dX10_worstOf_40 : decode cX10_worstOf 40 = .ok (.iadd, 1) := by decide +kernel
theorem dX10_worstOf_41 : decode cX10_worstOf 41 = .ok (.istore_n 2, 1) := by decide +kernel
theorem dX10_worstOf_42 : decode cX10_worstOf 42 = .ok (.iinc 4 1, 3) := by decide +kernel
theorem dX10_worstOf_45 : decode cX10_worstOf 45 = .ok (.goto (-38), 3) := by decide +kernel
theorem dX10_worstOf_48 : decode cX10_worstOf 48 = .ok (.iload_n 2, 1) := by decide +kernel
theorem dX10_worstOf_49 : decode cX10_worstOf 49 = .ok (.iload_n 3, 1) := by decide +kernel
theorem dX10_worstOf_50 : decode cX10_worstOf 50 = .ok (.iload_n 2, 1) := by decide +kernel
theorem dX10_worstOf_51 : decode cX10_worstOf 51 = .ok (.isub, 1) := by decide +kernel
theorem dX10_worstOf_52 : decode cX10_worstOf 52 = .ok (.invokestatic 238, 3) := by decide +kernel
theorem dX10_worstOf_55 : decode cX10_worstOf 55 = .ok (.ireturn, 1) := by decide +kernel
theorem dX10_listen_0 : decode cX10_listen 0 = .ok (.aload_n 0, 1) := by decide +kernel
theorem dX10_listen_1 : decode cX10_listen 1 = .ok (.iconst 0, 1) := by decide +kernel
theorem dX10_listen_2 : decode cX10_listen 2 = .ok (.putfield 95, 3) := by decide +kernel
theorem dX10_listen_5 : decode cX10_listen 5 = .ok (.aload_n 0, 1) := by decide +kernel
theorem dX10_listen_6 : decode cX10_listen 6 = .ok (.iload_n 1, 1) := by decide +kernel
theorem dX10_listen_7 : decode cX10_listen 7 = .ok (.iconst 0, 1) := by decide +kernel
theorem dX10_listen_8 : decode cX10_listen 8 = .ok (.iconst 1, 1) := by decide +kernel
theorem dX10_listen_9 : decode cX10_listen 9 = .ok (.invokestatic 129, 3) := by decide +kernel
theorem dX10_listen_12 : decode cX10_listen 12 = .ok (.ifCond .ne 7, 3) := by decide +kernel
theorem dX10_listen_15 : decode cX10_listen 15 = .ok (.iconst 1, 1) := by decide +kernel
theorem dX10_listen_16 : decode cX10_listen 16 = .ok (.goto 4, 3) := by decide +kernel
theorem dX10_listen_19 : decode cX10_listen 19 = .ok (.iconst 0, 1) := by decide +kernel
theorem dX10_listen_20 : decode cX10_listen 20 = .ok (.iconst 1, 1) := by decide +kernel
theorem dX10_listen_21 : decode cX10_listen 21 = .ok (.iconst 1, 1) := by decide +kernel
theorem dX10_listen_22 : decode cX10_listen 22 = .ok (.invokevirtual 171, 3) := by decide +kernel
theorem dX10_listen_25 : decode cX10_listen 25 = .ok (.ifCond .eq 5, 3) := by decide +kernel
theorem dX10_listen_28 : decode cX10_listen 28 = .ok (.iconst 0, 1) := by decide +kernel
theorem dX10_listen_29 : decode cX10_listen 29 = .ok (.ireturn, 1) := by decide +kernel
theorem dX10_listen_30 : decode cX10_listen 30 = .ok (.iconst (-1), 1) := by decide +kernel
theorem dX10_listen_31 : decode cX10_listen 31 = .ok (.istore_n 2, 1) := by decide +kernel
theorem dX10_listen_32 : decode cX10_listen 32 = .ok (.iconst (-1), 1) := by decide +kernel
theorem dX10_listen_33 : decode cX10_listen 33 = .ok (.istore_n 3, 1) := by decide +kernel
theorem dX10_listen_34 : decode cX10_listen 34 = .ok (.iconst 0, 1) := by decide +kernel
theorem dX10_listen_35 : decode cX10_listen 35 = .ok (.istore 4, 2) := by decide +kernel
theorem dX10_listen_37 : decode cX10_listen 37 = .ok (.iload 4, 2) := by decide +kernel
theorem dX10_listen_39 : decode cX10_listen 39 = .ok (.aload_n 0, 1) := by decide +kernel
theorem dX10_listen_40 : decode cX10_listen 40 = .ok (.getfield 23, 3) := by decide +kernel
theorem dX10_listen_43 : decode cX10_listen 43 = .ok (.iconst 1, 1) := by decide +kernel
theorem dX10_listen_44 : decode cX10_listen 44 = .ok (.iaload, 1) := by decide +kernel
theorem dX10_listen_45 : decode cX10_listen 45 = .ok (.if_icmp .ge 49, 3) := by decide +kernel
theorem dX10_listen_48 : decode cX10_listen 48 = .ok (.aload_n 0, 1) := by decide +kernel
theorem dX10_listen_49 : decode cX10_listen 49 = .ok (.iload 4, 2) := by decide +kernel
theorem dX10_listen_51 : decode cX10_listen 51 = .ok (.invokevirtual 358, 3) := by decide +kernel
theorem dX10_listen_54 : decode cX10_listen 54 = .ok (.ifCond .eq 6, 3) := by decide +kernel
theorem dX10_listen_57 : decode cX10_listen 57 = .ok (.goto 31, 3) := by decide +kernel
theorem dX10_listen_60 : decode cX10_listen 60 = .ok (.aload_n 0, 1) := by decide +kernel
theorem dX10_listen_61 : decode cX10_listen 61 = .ok (.iload 4, 2) := by decide +kernel
theorem dX10_listen_63 : decode cX10_listen 63 = .ok (.invokevirtual 361, 3) := by decide +kernel
theorem dX10_listen_66 : decode cX10_listen 66 = .ok (.istore 5, 2) := by decide +kernel
theorem dX10_listen_68 : decode cX10_listen 68 = .ok (.iload_n 2, 1) := by decide +kernel
theorem dX10_listen_69 : decode cX10_listen 69 = .ok (.iconst (-1), 1) := by decide +kernel
theorem dX10_listen_70 : decode cX10_listen 70 = .ok (.if_icmp .eq 12, 3) := by decide +kernel
theorem dX10_listen_73 : decode cX10_listen 73 = .ok (.iload 5, 2) := by decide +kernel
theorem dX10_listen_75 : decode cX10_listen 75 = .ok (.iload_n 3, 1) := by decide +kernel
theorem dX10_listen_76 : decode cX10_listen 76 = .ok (.if_icmp .lt 6, 3) := by decide +kernel
theorem dX10_listen_79 : decode cX10_listen 79 = .ok (.goto 9, 3) := by decide +kernel
theorem dX10_listen_82 : decode cX10_listen 82 = .ok (.iload 4, 2) := by decide +kernel
theorem dX10_listen_84 : decode cX10_listen 84 = .ok (.istore_n 2, 1) := by decide +kernel
theorem dX10_listen_85 : decode cX10_listen 85 = .ok (.iload 5, 2) := by decide +kernel
theorem dX10_listen_87 : decode cX10_listen 87 = .ok (.istore_n 3, 1) := by decide +kernel
theorem dX10_listen_88 : decode cX10_listen 88 = .ok (.iinc 4 1, 3) := by decide +kernel
theorem dX10_listen_91 : decode cX10_listen 91 = .ok (.goto (-54), 3) := by decide +kernel
theorem dX10_listen_94 : decode cX10_listen 94 = .ok (.iload_n 1, 1) := by decide +kernel
theorem dX10_listen_95 : decode cX10_listen 95 = .ok (.ifCond .ne 7, 3) := by decide +kernel
theorem dX10_listen_98 : decode cX10_listen 98 = .ok (.iload_n 2, 1) := by decide +kernel
theorem dX10_listen_99 : decode cX10_listen 99 = .ok (.goto 4, 3) := by decide +kernel
theorem dX10_listen_102 : decode cX10_listen 102 = .ok (.iload_n 3, 1) := by decide +kernel
theorem dX10_listen_103 : decode cX10_listen 103 = .ok (.ireturn, 1) := by decide +kernel
theorem dX10_duty_0 : decode cX10_duty 0 = .ok (.aload_n 0, 1) := by decide +kernel
theorem dX10_duty_1 : decode cX10_duty 1 = .ok (.iconst 0, 1) := by decide +kernel
theorem dX10_duty_2 : decode cX10_duty 2 = .ok (.putfield 95, 3) := by decide +kernel
theorem dX10_duty_5 : decode cX10_duty 5 = .ok (.aload_n 0, 1) := by decide +kernel
theorem dX10_duty_6 : decode cX10_duty 6 = .ok (.aload_n 0, 1) := by decide +kernel
theorem dX10_duty_7 : decode cX10_duty 7 = .ok (.iload_n 1, 1) := by decide +kernel
theorem dX10_duty_8 : decode cX10_duty 8 = .ok (.invokevirtual 321, 3) := by decide +kernel
theorem dX10_duty_11 : decode cX10_duty 11 = .ok (.ifCond .ne 7, 3) := by decide +kernel
theorem dX10_duty_14 : decode cX10_duty 14 = .ok (.iconst 1, 1) := by decide +kernel
theorem dX10_duty_15 : decode cX10_duty 15 = .ok (.goto 4, 3) := by decide +kernel
theorem dX10_duty_18 : decode cX10_duty 18 = .ok (.iconst 0, 1) := by decide +kernel
theorem dX10_duty_19 : decode cX10_duty 19 = .ok (.iconst 1, 1) := by decide +kernel
theorem dX10_duty_20 : decode cX10_duty 20 = .ok (.iconst 0, 1) := by decide +kernel
theorem dX10_duty_21 : decode cX10_duty 21 = .ok (.invokevirtual 171, 3) := by decide +kernel
theorem dX10_duty_24 : decode cX10_duty 24 = .ok (.ifCond .eq 5, 3) := by decide +kernel
theorem dX10_duty_27 : decode cX10_duty 27 = .ok (.iconst 0, 1) := by decide +kernel
theorem dX10_duty_28 : decode cX10_duty 28 = .ok (.ireturn, 1) := by decide +kernel
theorem dX10_duty_29 : decode cX10_duty 29 = .ok (.iconst 0, 1) := by decide +kernel
theorem dX10_duty_30 : decode cX10_duty 30 = .ok (.istore_n 2, 1) := by decide +kernel
theorem dX10_duty_31 : decode cX10_duty 31 = .ok (.aload_n 0, 1) := by decide +kernel
theorem dX10_duty_32 : decode cX10_duty 32 = .ok (.getfield 67, 3) := by decide +kernel
theorem dX10_duty_35 : decode cX10_duty 35 = .ok (.aload_n 0, 1) := by decide +kernel
theorem dX10_duty_36 : decode cX10_duty 36 = .ok (.getfield 70, 3) := by decide +kernel
theorem dX10_duty_39 : decode cX10_duty 39 = .ok (.invokestatic 310, 3) := by decide +kernel
theorem dX10_duty_42 : decode cX10_duty 42 = .ok (.iconst 0, 1) := by decide +kernel
theorem dX10_duty_43 : decode cX10_duty 43 = .ok (.istore_n 3, 1) := by decide +kernel
theorem dX10_duty_44 : decode cX10_duty 44 = .ok (.iload_n 3, 1) := by decide +kernel
theorem dX10_duty_45 : decode cX10_duty 45 = .ok (.aload_n 0, 1) := by decide +kernel
theorem dX10_duty_46 : decode cX10_duty 46 = .ok (.getfield 23, 3) := by decide +kernel
theorem dX10_duty_49 : decode cX10_duty 49 = .ok (.iconst 1, 1) := by decide +kernel
theorem dX10_duty_50 : decode cX10_duty 50 = .ok (.iaload, 1) := by decide +kernel
theorem dX10_duty_51 : decode cX10_duty 51 = .ok (.if_icmp .ge 42, 3) := by decide +kernel
theorem dX10_duty_54 : decode cX10_duty 54 = .ok (.iload_n 2, 1) := by decide +kernel
theorem dX10_duty_55 : decode cX10_duty 55 = .ok (.aload_n 0, 1) := by decide +kernel
theorem dX10_duty_56 : decode cX10_duty 56 = .ok (.aload_n 0, 1) := by decide +kernel
theorem dX10_duty_57 : decode cX10_duty 57 = .ok (.getfield 70, 3) := by decide +kernel
theorem dX10_duty_60 : decode cX10_duty 60 = .ok (.iload_n 3, 1) := by decide +kernel
theorem dX10_duty_61 : decode cX10_duty 61 = .ok (.invokevirtual 269, 3) := by decide +kernel
theorem dX10_duty_64 : decode cX10_duty 64 = .ok (.iload_n 1, 1) := by decide +kernel
theorem dX10_duty_65 : decode cX10_duty 65 = .ok (.if_icmp .ne 9, 3) := by decide +kernel
theorem dX10_duty_68 : decode cX10_duty 68 = .ok (.iconst 1, 1) := by decide +kernel
theorem dX10_duty_69 : decode cX10_duty 69 = .ok (.iload_n 3, 1) := by decide +kernel
theorem dX10_duty_70 : decode cX10_duty 70 = .ok (.ishl, 1) := by decide +kernel
theorem dX10_duty_71 : decode cX10_duty 71 = .ok (.goto 4, 3) := by decide +kernel
theorem dX10_duty_74 : decode cX10_duty 74 = .ok (.iconst 0, 1) := by decide +kernel
theorem dX10_duty_75 : decode cX10_duty 75 = .ok (.ior, 1) := by decide +kernel
theorem dX10_duty_76 : decode cX10_duty 76 = .ok (.istore_n 2, 1) := by decide +kernel
theorem dX10_duty_77 : decode cX10_duty 77 = .ok (.aload_n 0, 1) := by decide +kernel
theorem dX10_duty_78 : decode cX10_duty 78 = .ok (.aload_n 0, 1) := by decide +kernel
theorem dX10_duty_79 : decode cX10_duty 79 = .ok (.getfield 70, 3) := by decide +kernel
theorem dX10_duty_82 : decode cX10_duty 82 = .ok (.iload_n 3, 1) := by decide +kernel
theorem dX10_duty_83 : decode cX10_duty 83 = .ok (.invokevirtual 276, 3) := by decide +kernel
theorem dX10_duty_86 : decode cX10_duty 86 = .ok (.pop, 1) := by decide +kernel
theorem dX10_duty_87 : decode cX10_duty 87 = .ok (.iinc 3 1, 3) := by decide +kernel
theorem dX10_duty_90 : decode cX10_duty 90 = .ok (.goto (-46), 3) := by decide +kernel
theorem dX10_duty_93 : decode cX10_duty 93 = .ok (.iload_n 2, 1) := by decide +kernel
theorem dX10_duty_94 : decode cX10_duty 94 = .ok (.ireturn, 1) := by decide +kernel
theorem dX10_range_0 : decode cX10_range 0 = .ok (.aload_n 0, 1) := by decide +kernel
theorem dX10_range_1 : decode cX10_range 1 = .ok (.iconst 0, 1) := by decide +kernel
theorem dX10_range_2 : decode cX10_range 2 = .ok (.putfield 95, 3) := by decide +kernel
theorem dX10_range_5 : decode cX10_range 5 = .ok (.aload_n 0, 1) := by decide +kernel
theorem dX10_range_6 : decode cX10_range 6 = .ok (.aload_n 0, 1) := by decide +kernel
theorem dX10_range_7 : decode cX10_range 7 = .ok (.iload_n 1, 1) := by decide +kernel
theorem dX10_range_8 : decode cX10_range 8 = .ok (.invokevirtual 321, 3) := by decide +kernel
theorem dX10_range_11 : decode cX10_range 11 = .ok (.ifCond .ne 7, 3) := by decide +kernel
theorem dX10_range_14 : decode cX10_range 14 = .ok (.iconst 1, 1) := by decide +kernel
theorem dX10_range_15 : decode cX10_range 15 = .ok (.goto 4, 3) := by decide +kernel
theorem dX10_range_18 : decode cX10_range 18 = .ok (.iconst 0, 1) := by decide +kernel
theorem dX10_range_19 : decode cX10_range 19 = .ok (.iconst 1, 1) := by decide +kernel
theorem dX10_range_20 : decode cX10_range 20 = .ok (.iconst 0, 1) := by decide +kernel
theorem dX10_range_21 : decode cX10_range 21 = .ok (.invokevirtual 171, 3) := by decide +kernel
theorem dX10_range_24 : decode cX10_range 24 = .ok (.ifCond .eq 5, 3) := by decide +kernel
theorem dX10_range_27 : decode cX10_range 27 = .ok (.iconst 0, 1) := by decide +kernel
theorem dX10_range_28 : decode cX10_range 28 = .ok (.ireturn, 1) := by decide +kernel
theorem dX10_range_29 : decode cX10_range 29 = .ok (.iconst 0, 1) := by decide +kernel
theorem dX10_range_30 : decode cX10_range 30 = .ok (.istore_n 2, 1) := by decide +kernel
theorem dX10_range_31 : decode cX10_range 31 = .ok (.aload_n 0, 1) := by decide +kernel
theorem dX10_range_32 : decode cX10_range 32 = .ok (.getfield 67, 3) := by decide +kernel
theorem dX10_range_35 : decode cX10_range 35 = .ok (.aload_n 0, 1) := by decide +kernel
theorem dX10_range_36 : decode cX10_range 36 = .ok (.getfield 70, 3) := by decide +kernel
theorem dX10_range_39 : decode cX10_range 39 = .ok (.invokestatic 310, 3) := by decide +kernel
theorem dX10_range_42 : decode cX10_range 42 = .ok (.iconst 1, 1) := by decide +kernel
theorem dX10_range_43 : decode cX10_range 43 = .ok (.istore_n 3, 1) := by decide +kernel
theorem dX10_range_44 : decode cX10_range 44 = .ok (.iload_n 3, 1) := by decide +kernel
theorem dX10_range_45 : decode cX10_range 45 = .ok (.bipush 20, 2) := by decide +kernel
theorem dX10_range_47 : decode cX10_range 47 = .ok (.if_icmp .gt 48, 3) := by decide +kernel
theorem dX10_range_50 : decode cX10_range 50 = .ok (.aload_n 0, 1) := by decide +kernel
theorem dX10_range_51 : decode cX10_range 51 = .ok (.getfield 70, 3) := by decide +kernel
theorem dX10_range_54 : decode cX10_range 54 = .ok (.bipush 14, 2) := by decide +kernel
theorem dX10_range_56 : decode cX10_range 56 = .ok (.iload_n 1, 1) := by decide +kernel
theorem dX10_range_57 : decode cX10_range 57 = .ok (.iadd, 1) := by decide +kernel
theorem dX10_range_58 : decode cX10_range 58 = .ok (.iaload, 1) := by decide +kernel
theorem dX10_range_59 : decode cX10_range 59 = .ok (.istore 4, 2) := by decide +kernel
theorem dX10_range_61 : decode cX10_range 61 = .ok (.aload_n 0, 1) := by decide +kernel
theorem dX10_range_62 : decode cX10_range 62 = .ok (.aload_n 0, 1) := by decide +kernel
theorem dX10_range_63 : decode cX10_range 63 = .ok (.getfield 70, 3) := by decide +kernel
theorem dX10_range_66 : decode cX10_range 66 = .ok (.invokevirtual 280, 3) := by decide +kernel
theorem dX10_range_69 : decode cX10_range 69 = .ok (.aload_n 0, 1) := by decide +kernel
theorem dX10_range_70 : decode cX10_range 70 = .ok (.getfield 70, 3) := by decide +kernel
theorem dX10_range_73 : decode cX10_range 73 = .ok (.bipush 14, 2) := by decide +kernel
theorem dX10_range_75 : decode cX10_range 75 = .ok (.iload_n 1, 1) := by decide +kernel
theorem dX10_range_76 : decode cX10_range 76 = .ok (.iadd, 1) := by decide +kernel
theorem dX10_range_77 : decode cX10_range 77 = .ok (.iaload, 1) := by decide +kernel
theorem dX10_range_78 : decode cX10_range 78 = .ok (.iload 4, 2) := by decide +kernel
theorem dX10_range_80 : decode cX10_range 80 = .ok (.if_icmp .le 7, 3) := by decide +kernel
theorem dX10_range_83 : decode cX10_range 83 = .ok (.iload_n 3, 1) := by decide +kernel
theorem dX10_range_84 : decode cX10_range 84 = .ok (.goto 4, 3) := by decide +kernel
theorem dX10_range_87 : decode cX10_range 87 = .ok (.iload_n 2, 1) := by decide +kernel
theorem dX10_range_88 : decode cX10_range 88 = .ok (.istore_n 2, 1) := by decide +kernel
theorem dX10_range_89 : decode cX10_range 89 = .ok (.iinc 3 1, 3) := by decide +kernel
theorem dX10_range_92 : decode cX10_range 92 = .ok (.goto (-48), 3) := by decide +kernel
theorem dX10_range_95 : decode cX10_range 95 = .ok (.iload_n 2, 1) := by decide +kernel
theorem dX10_range_96 : decode cX10_range 96 = .ok (.ireturn, 1) := by decide +kernel
theorem dX10_hasBy_0 : decode cX10_hasBy 0 = .ok (.iload_n 0, 1) := by decide +kernel
theorem dX10_hasBy_1 : decode cX10_hasBy 1 = .ok (.ifCond .ne 15, 3) := by decide +kernel
theorem dX10_hasBy_4 : decode cX10_hasBy 4 = .ok (.iload_n 1, 1) := by decide +kernel
theorem dX10_hasBy_5 : decode cX10_hasBy 5 = .ok (.ifCond .ne 7, 3) := by decide +kernel
theorem dX10_hasBy_8 : decode cX10_hasBy 8 = .ok (.iload_n 2, 1) := by decide +kernel
theorem dX10_hasBy_9 : decode cX10_hasBy 9 = .ok (.goto 19, 3) := by decide +kernel
theorem dX10_hasBy_12 : decode cX10_hasBy 12 = .ok (.iconst 0, 1) := by decide +kernel
theorem dX10_hasBy_13 : decode cX10_hasBy 13 = .ok (.goto 15, 3) := by decide +kernel
theorem dX10_hasBy_16 : decode cX10_hasBy 16 = .ok (.iload_n 1, 1) := by decide +kernel
theorem dX10_hasBy_17 : decode cX10_hasBy 17 = .ok (.ifCond .ne 9, 3) := by decide +kernel
theorem dX10_hasBy_20 : decode cX10_hasBy 20 = .ok (.iload_n 2, 1) := by decide +kernel
theorem dX10_hasBy_21 : decode cX10_hasBy 21 = .ok (.iload_n 3, 1) := by decide +kernel
theorem dX10_hasBy_22 : decode cX10_hasBy 22 = .ok (.iadd, 1) := by decide +kernel
theorem dX10_hasBy_23 : decode cX10_hasBy 23 = .ok (.goto 5, 3) := by decide +kernel
theorem dX10_hasBy_26 : decode cX10_hasBy 26 = .ok (.iload_n 3, 1) := by decide +kernel
theorem dX10_hasBy_27 : decode cX10_hasBy 27 = .ok (.ineg, 1) := by decide +kernel
theorem dX10_hasBy_28 : decode cX10_hasBy 28 = .ok (.ireturn, 1) := by decide +kernel
theorem dX10_isBest_0 : decode cX10_isBest 0 = .ok (.iload_n 0, 1) := by decide +kernel
theorem dX10_isBest_1 : decode cX10_isBest 1 = .ok (.iload_n 1, 1) := by decide +kernel
theorem dX10_isBest_2 : decode cX10_isBest 2 = .ok (.iload_n 2, 1) := by decide +kernel
theorem dX10_isBest_3 : decode cX10_isBest 3 = .ok (.iload_n 3, 1) := by decide +kernel
theorem dX10_isBest_4 : decode cX10_isBest 4 = .ok (.invokestatic 364, 3) := by decide +kernel
theorem dX10_isBest_7 : decode cX10_isBest 7 = .ok (.iconst 1, 1) := by decide +kernel
theorem dX10_isBest_8 : decode cX10_isBest 8 = .ok (.iload_n 0, 1) := by decide +kernel
theorem dX10_isBest_9 : decode cX10_isBest 9 = .ok (.isub, 1) := by decide +kernel
theorem dX10_isBest_10 : decode cX10_isBest 10 = .ok (.iload_n 1, 1) := by decide +kernel
theorem dX10_isBest_11 : decode cX10_isBest 11 = .ok (.iload_n 2, 1) := by decide +kernel
theorem dX10_isBest_12 : decode cX10_isBest 12 = .ok (.iload_n 3, 1) := by decide +kernel
theorem dX10_isBest_13 : decode cX10_isBest 13 = .ok (.invokestatic 364, 3) := by decide +kernel
theorem dX10_isBest_16 : decode cX10_isBest 16 = .ok (.if_icmp .lt 7, 3) := by decide +kernel
theorem dX10_isBest_19 : decode cX10_isBest 19 = .ok (.iconst 1, 1) := by decide +kernel
theorem dX10_isBest_20 : decode cX10_isBest 20 = .ok (.goto 4, 3) := by decide +kernel
theorem dX10_isBest_23 : decode cX10_isBest 23 = .ok (.iconst 0, 1) := by decide +kernel
theorem dX10_isBest_24 : decode cX10_isBest 24 = .ok (.ireturn, 1) := by decide +kernel
theorem dX10_quarrel_0 : decode cX10_quarrel 0 = .ok (.aload_n 0, 1) := by decide +kernel
theorem dX10_quarrel_1 : decode cX10_quarrel 1 = .ok (.iconst 0, 1) := by decide +kernel
theorem dX10_quarrel_2 : decode cX10_quarrel 2 = .ok (.putfield 95, 3) := by decide +kernel
theorem dX10_quarrel_5 : decode cX10_quarrel 5 = .ok (.aload_n 0, 1) := by decide +kernel
theorem dX10_quarrel_6 : decode cX10_quarrel 6 = .ok (.iload_n 1, 1) := by decide +kernel
theorem dX10_quarrel_7 : decode cX10_quarrel 7 = .ok (.iconst 0, 1) := by decide +kernel
theorem dX10_quarrel_8 : decode cX10_quarrel 8 = .ok (.bipush 99, 2) := by decide +kernel
theorem dX10_quarrel_10 : decode cX10_quarrel 10 = .ok (.invokestatic 129, 3) := by decide +kernel
theorem dX10_quarrel_13 : decode cX10_quarrel 13 = .ok (.ifCond .eq 22, 3) := by decide +kernel
theorem dX10_quarrel_16 : decode cX10_quarrel 16 = .ok (.iload_n 2, 1) := by decide +kernel
theorem dX10_quarrel_17 : decode cX10_quarrel 17 = .ok (.iconst 0, 1) := by decide +kernel
theorem dX10_quarrel_18 : decode cX10_quarrel 18 = .ok (.bipush 99, 2) := by decide +kernel
theorem dX10_quarrel_20 : decode cX10_quarrel 20 = .ok (.invokestatic 129, 3) := by decide +kernel
theorem dX10_quarrel_23 : decode cX10_quarrel 23 = .ok (.ifCond .eq 12, 3) := by decide +kernel
theorem dX10_quarrel_26 : decode cX10_quarrel 26 = .ok (.iload_n 3, 1) := by decide +kernel
theorem dX10_quarrel_27 : decode cX10_quarrel 27 = .ok (.iconst 0, 1) := by decide +kernel
theorem dX10_quarrel_28 : decode cX10_quarrel 28 = .ok (.iconst 2, 1) := by decide +kernel
theorem dX10_quarrel_29 : decode cX10_quarrel 29 = .ok (.invokestatic 129, 3) := by decide +kernel
theorem dX10_quarrel_32 : decode cX10_quarrel 32 = .ok (.ifCond .ne 7, 3) := by decide +kernel
theorem dX10_quarrel_35 : decode cX10_quarrel 35 = .ok (.iconst 1, 1) := by decide +kernel
theorem dX10_quarrel_36 : decode cX10_quarrel 36 = .ok (.goto 4, 3) := by decide +kernel
theorem dX10_quarrel_39 : decode cX10_quarrel 39 = .ok (.iconst 0, 1) := by decide +kernel
theorem dX10_quarrel_40 : decode cX10_quarrel 40 = .ok (.iconst 1, 1) := by decide +kernel
theorem dX10_quarrel_41 : decode cX10_quarrel 41 = .ok (.iconst 1, 1) := by decide +kernel
theorem dX10_quarrel_42 : decode cX10_quarrel 42 = .ok (.invokevirtual 171, 3) := by decide +kernel
theorem dX10_quarrel_45 : decode cX10_quarrel 45 = .ok (.ifCond .eq 5, 3) := by decide +kernel
theorem dX10_quarrel_48 : decode cX10_quarrel 48 = .ok (.iconst 0, 1) := by decide +kernel
theorem dX10_quarrel_49 : decode cX10_quarrel 49 = .ok (.ireturn, 1) := by decide +kernel
theorem dX10_quarrel_50 : decode cX10_quarrel 50 = .ok (.iconst 0, 1) := by decide +kernel
theorem dX10_quarrel_51 : decode cX10_quarrel 51 = .ok (.istore 4, 2) := by decide +kernel
theorem dX10_quarrel_53 : decode cX10_quarrel 53 = .ok (.iconst (-1), 1) := by decide +kernel
theorem dX10_quarrel_54 : decode cX10_quarrel 54 = .ok (.istore 5, 2) := by decide +kernel
theorem dX10_quarrel_56 : decode cX10_quarrel 56 = .ok (.iconst 0, 1) := by decide +kernel
theorem dX10_quarrel_57 : decode cX10_quarrel 57 = .ok (.istore 6, 2) := by decide +kernel
theorem dX10_quarrel_59 : decode cX10_quarrel 59 = .ok (.iconst 0, 1) := by decide +kernel
theorem dX10_quarrel_60 : decode cX10_quarrel 60 = .ok (.istore 7, 2) := by decide +kernel
theorem dX10_quarrel_62 : decode cX10_quarrel 62 = .ok (.iload 7, 2) := by decide +kernel
theorem dX10_quarrel_64 : decode cX10_quarrel 64 = .ok (.iconst 2, 1) := by decide +kernel
theorem dX10_quarrel_65 : decode cX10_quarrel 65 = .ok (.if_icmp .ge 105, 3) := by decide +kernel
theorem dX10_quarrel_68 : decode cX10_quarrel 68 = .ok (.iconst 0, 1) := by decide +kernel
theorem dX10_quarrel_69 : decode cX10_quarrel 69 = .ok (.istore 8, 2) := by decide +kernel
theorem dX10_quarrel_71 : decode cX10_quarrel 71 = .ok (.iload 8, 2) := by decide +kernel
theorem dX10_quarrel_73 : decode cX10_quarrel 73 = .ok (.iconst 2, 1) := by decide +kernel
theorem dX10_quarrel_74 : decode cX10_quarrel 74 = .ok (.if_icmp .ge 90, 3) := by decide +kernel
theorem dX10_quarrel_77 : decode cX10_quarrel 77 = .ok (.iload 7, 2) := by decide +kernel
theorem dX10_quarrel_79 : decode cX10_quarrel 79 = .ok (.iload 8, 2) := by decide +kernel
theorem dX10_quarrel_81 : decode cX10_quarrel 81 = .ok (.iload_n 1, 1) := by decide +kernel
theorem dX10_quarrel_82 : decode cX10_quarrel 82 = .ok (.iload_n 2, 1) := by decide +kernel
theorem dX10_quarrel_83 : decode cX10_quarrel 83 = .ok (.invokestatic 368, 3) := by decide +kernel
theorem dX10_quarrel_86 : decode cX10_quarrel 86 = .ok (.ifCond .eq 72, 3) := by decide +kernel
theorem dX10_quarrel_89 : decode cX10_quarrel 89 = .ok (.iload 8, 2) := by decide +kernel
theorem dX10_quarrel_91 : decode cX10_quarrel 91 = .ok (.iload 7, 2) := by decide +kernel
theorem dX10_quarrel_93 : decode cX10_quarrel 93 = .ok (.iload_n 1, 1) := by decide +kernel
theorem dX10_quarrel_94 : decode cX10_quarrel 94 = .ok (.iload_n 2, 1) := by decide +kernel
theorem dX10_quarrel_95 : decode cX10_quarrel 95 = .ok (.invokestatic 368, 3) := by decide +kernel
theorem dX10_quarrel_98 : decode cX10_quarrel 98 = .ok (.ifCond .ne 6, 3) := by decide +kernel
theorem dX10_quarrel_101 : decode cX10_quarrel 101 = .ok (.goto 57, 3) := by decide +kernel
theorem dX10_quarrel_104 : decode cX10_quarrel 104 = .ok (.iload 4, 2) := by decide +kernel
theorem dX10_quarrel_106 : decode cX10_quarrel 106 = .ok (.ifCond .ne 25, 3) := by decide +kernel
theorem dX10_quarrel_109 : decode cX10_quarrel 109 = .ok (.iload 7, 2) := by decide +kernel
theorem dX10_quarrel_111 : decode cX10_quarrel 111 = .ok (.iload 8, 2) := by decide +kernel
theorem dX10_quarrel_113 : decode cX10_quarrel 113 = .ok (.iload_n 1, 1) := by decide +kernel
theorem dX10_quarrel_114 : decode cX10_quarrel 114 = .ok (.iload_n 2, 1) := by decide +kernel
theorem dX10_quarrel_115 : decode cX10_quarrel 115 = .ok (.invokestatic 364, 3) := by decide +kernel
theorem dX10_quarrel_118 : decode cX10_quarrel 118 = .ok (.iload 8, 2) := by decide +kernel
theorem dX10_quarrel_120 : decode cX10_quarrel 120 = .ok (.iload 7, 2) := by decide +kernel
theorem dX10_quarrel_122 : decode cX10_quarrel 122 = .ok (.iload_n 1, 1) := by decide +kernel
theorem dX10_quarrel_123 : decode cX10_quarrel 123 = .ok (.iload_n 2, 1) := by decide +kernel
theorem dX10_quarrel_124 : decode cX10_quarrel 124 = .ok (.invokestatic 364, 3) := by decide +kernel
theorem dX10_quarrel_127 : decode cX10_quarrel 127 = .ok (.iadd, 1) := by decide +kernel
theorem dX10_quarrel_128 : decode cX10_quarrel 128 = .ok (.goto 5, 3) := by decide +kernel
theorem dX10_quarrel_131 : decode cX10_quarrel 131 = .ok (.iload 6, 2) := by decide +kernel
theorem dX10_quarrel_133 : decode cX10_quarrel 133 = .ok (.istore 6, 2) := by decide +kernel
theorem dX10_quarrel_135 : decode cX10_quarrel 135 = .ok (.iload 4, 2) := by decide +kernel
theorem dX10_quarrel_137 : decode cX10_quarrel 137 = .ok (.ifCond .ne 14, 3) := by decide +kernel
theorem dX10_quarrel_140 : decode cX10_quarrel 140 = .ok (.bipush 10, 2) := by decide +kernel
theorem dX10_quarrel_142 : decode cX10_quarrel 142 = .ok (.iload 7, 2) := by decide +kernel
theorem dX10_quarrel_144 : decode cX10_quarrel 144 = .ok (.imul, 1) := by decide +kernel
theorem dX10_quarrel_145 : decode cX10_quarrel 145 = .ok (.iload 8, 2) := by decide +kernel
theorem dX10_quarrel_147 : decode cX10_quarrel 147 = .ok (.iadd, 1) := by decide +kernel
theorem dX10_quarrel_148 : decode cX10_quarrel 148 = .ok (.goto 5, 3) := by decide +kernel
theorem dX10_quarrel_151 : decode cX10_quarrel 151 = .ok (.iload 5, 2) := by decide +kernel
theorem dX10_quarrel_153 : decode cX10_quarrel 153 = .ok (.istore 5, 2) := by decide +kernel
theorem dX10_quarrel_155 : decode cX10_quarrel 155 = .ok (.iinc 4 1, 3) := by decide +kernel
theorem dX10_quarrel_158 : decode cX10_quarrel 158 = .ok (.iinc 8 1, 3) := by decide +kernel
theorem dX10_quarrel_161 : decode cX10_quarrel 161 = .ok (.goto (-90), 3) := by decide +kernel
theorem dX10_quarrel_164 : decode cX10_quarrel 164 = .ok (.iinc 7 1, 3) := by decide +kernel
theorem dX10_quarrel_167 : decode cX10_quarrel 167 = .ok (.goto (-105), 3) := by decide +kernel
theorem dX10_quarrel_170 : decode cX10_quarrel 170 = .ok (.iload_n 3, 1) := by decide +kernel
theorem dX10_quarrel_171 : decode cX10_quarrel 171 = .ok (.ifCond .ne 8, 3) := by decide +kernel
theorem dX10_quarrel_174 : decode cX10_quarrel 174 = .ok (.iload 4, 2) := by decide +kernel
theorem dX10_quarrel_176 : decode cX10_quarrel 176 = .ok (.goto 15, 3) := by decide +kernel
theorem dX10_quarrel_179 : decode cX10_quarrel 179 = .ok (.iload_n 3, 1) := by decide +kernel
theorem dX10_quarrel_180 : decode cX10_quarrel 180 = .ok (.iconst 1, 1) := by decide +kernel
theorem dX10_quarrel_181 : decode cX10_quarrel 181 = .ok (.if_icmp .ne 8, 3) := by decide +kernel
theorem dX10_quarrel_184 : decode cX10_quarrel 184 = .ok (.iload 5, 2) := by decide +kernel
theorem dX10_quarrel_186 : decode cX10_quarrel 186 = .ok (.goto 5, 3) := by decide +kernel
theorem dX10_quarrel_189 : decode cX10_quarrel 189 = .ok (.iload 6, 2) := by decide +kernel
theorem dX10_quarrel_191 : decode cX10_quarrel 191 = .ok (.ireturn, 1) := by decide +kernel
theorem dX10_enough_0 : decode cX10_enough 0 = .ok (.aload_n 0, 1) := by decide +kernel
theorem dX10_enough_1 : decode cX10_enough 1 = .ok (.iconst 0, 1) := by decide +kernel
theorem dX10_enough_2 : decode cX10_enough 2 = .ok (.putfield 95, 3) := by decide +kernel
theorem dX10_enough_5 : decode cX10_enough 5 = .ok (.aload_n 0, 1) := by decide +kernel
theorem dX10_enough_6 : decode cX10_enough 6 = .ok (.iload_n 1, 1) := by decide +kernel
theorem dX10_enough_7 : decode cX10_enough 7 = .ok (.iconst 0, 1) := by decide +kernel
theorem dX10_enough_8 : decode cX10_enough 8 = .ok (.bipush 12, 2) := by decide +kernel
theorem dX10_enough_10 : decode cX10_enough 10 = .ok (.invokestatic 129, 3) := by decide +kernel
theorem dX10_enough_13 : decode cX10_enough 13 = .ok (.ifCond .eq 33, 3) := by decide +kernel
theorem dX10_enough_16 : decode cX10_enough 16 = .ok (.iload_n 2, 1) := by decide +kernel
theorem dX10_enough_17 : decode cX10_enough 17 = .ok (.iconst 0, 1) := by decide +kernel
theorem dX10_enough_18 : decode cX10_enough 18 = .ok (.bipush 13, 2) := by decide +kernel
theorem dX10_enough_20 : decode cX10_enough 20 = .ok (.invokestatic 129, 3) := by decide +kernel
theorem dX10_enough_23 : decode cX10_enough 23 = .ok (.ifCond .eq 23, 3) := by decide +kernel
theorem dX10_enough_26 : decode cX10_enough 26 = .ok (.iload_n 3, 1) := by decide +kernel
theorem dX10_enough_27 : decode cX10_enough 27 = .ok (.iconst 0, 1) := by decide +kernel
theorem dX10_enough_28 : decode cX10_enough 28 = .ok (.bipush 16, 2) := by decide +kernel
theorem dX10_enough_30 : decode cX10_enough 30 = .ok (.invokestatic 129, 3) := by decide +kernel
theorem dX10_enough_33 : decode cX10_enough 33 = .ok (.ifCond .eq 13, 3) := by decide +kernel
theorem dX10_enough_36 : decode cX10_enough 36 = .ok (.iload 4, 2) := by decide +kernel
theorem dX10_enough_38 : decode cX10_enough 38 = .ok (.iconst 0, 1) := by decide +kernel
theorem dX10_enough_39 : decode cX10_enough 39 = .ok (.iconst 1, 1) := by decide +kernel
theorem dX10_enough_40 : decode cX10_enough 40 = .ok (.invokestatic 129, 3) := by decide +kernel
theorem dX10_enough_43 : decode cX10_enough 43 = .ok (.ifCond .ne 7, 3) := by decide +kernel
theorem dX10_enough_46 : decode cX10_enough 46 = .ok (.iconst 1, 1) := by decide +kernel
theorem dX10_enough_47 : decode cX10_enough 47 = .ok (.goto 4, 3) := by decide +kernel
theorem dX10_enough_50 : decode cX10_enough 50 = .ok (.iconst 0, 1) := by decide +kernel
theorem dX10_enough_51 : decode cX10_enough 51 = .ok (.iconst 1, 1) := by decide +kernel
theorem dX10_enough_52 : decode cX10_enough 52 = .ok (.iconst 1, 1) := by decide +kernel
theorem dX10_enough_53 : decode cX10_enough 53 = .ok (.invokevirtual 171, 3) := by decide +kernel
theorem dX10_enough_56 : decode cX10_enough 56 = .ok (.ifCond .eq 5, 3) := by decide +kernel
theorem dX10_enough_59 : decode cX10_enough 59 = .ok (.lconst 0, 1) := by decide +kernel
theorem dX10_enough_60 : decode cX10_enough 60 = .ok (.lreturn, 1) := by decide +kernel
theorem dX10_enough_61 : decode cX10_enough 61 = .ok (.iconst 0, 1) := by decide +kernel
theorem dX10_enough_62 : decode cX10_enough 62 = .ok (.istore 5, 2) := by decide +kernel
theorem dX10_enough_64 : decode cX10_enough 64 = .ok (.iload 5, 2) := by decide +kernel
theorem dX10_enough_66 : decode cX10_enough 66 = .ok (.bipush 14, 2) := by decide +kernel
theorem dX10_enough_68 : decode cX10_enough 68 = .ok (.if_icmp .ge 26, 3) := by decide +kernel
theorem dX10_enough_71 : decode cX10_enough 71 = .ok (.aload_n 0, 1) := by decide +kernel
theorem dX10_enough_72 : decode cX10_enough 72 = .ok (.getfield 85, 3) := by decide +kernel
theorem dX10_enough_75 : decode cX10_enough 75 = .ok (.iload 5, 2) := by decide +kernel
theorem dX10_enough_77 : decode cX10_enough 77 = .ok (.iload 5, 2) := by decide +kernel
theorem dX10_enough_79 : decode cX10_enough 79 = .ok (.ifCond .ne 7, 3) := by decide +kernel
theorem dX10_enough_82 : decode cX10_enough 82 = .ok (.lconst 1, 1) := by decide +kernel
theorem dX10_enough_83 : decode cX10_enough 83 = .ok (.goto 4, 3) := by decide +kernel
theorem dX10_enough_86 : decode cX10_enough 86 = .ok (.lconst 0, 1) := by decide +kernel
theorem dX10_enough_87 : decode cX10_enough 87 = .ok (.lastore, 1) := by decide +kernel
theorem dX10_enough_88 : decode cX10_enough 88 = .ok (.iinc 5 1, 3) := by decide +kernel
theorem dX10_enough_91 : decode cX10_enough 91 = .ok (.goto (-27), 3) := by decide +kernel
theorem dX10_enough_94 : decode cX10_enough 94 = .ok (.iconst 0, 1) := by decide +kernel
theorem dX10_enough_95 : decode cX10_enough 95 = .ok (.istore 5, 2) := by decide +kernel
theorem dX10_enough_97 : decode cX10_enough 97 = .ok (.iload 5, 2) := by decide +kernel
theorem dX10_enough_99 : decode cX10_enough 99 = .ok (.iload_n 1, 1) := by decide +kernel
theorem dX10_enough_100 : decode cX10_enough 100 = .ok (.if_icmp .ge 66, 3) := by decide +kernel
theorem dX10_enough_103 : decode cX10_enough 103 = .ok (.bipush 13, 2) := by decide +kernel
theorem dX10_enough_105 : decode cX10_enough 105 = .ok (.istore 6, 2) := by decide +kernel
theorem dX10_enough_107 : decode cX10_enough 107 = .ok (.iload 6, 2) := by decide +kernel
theorem dX10_enough_109 : decode cX10_enough 109 = .ok (.ifCond .lt 51, 3) := by decide +kernel
theorem dX10_enough_112 : decode cX10_enough 112 = .ok (.aload_n 0, 1) := by decide +kernel
theorem dX10_enough_113 : decode cX10_enough 113 = .ok (.getfield 85, 3) := by decide +kernel
theorem dX10_enough_116 : decode cX10_enough 116 = .ok (.iload 6, 2) := by decide +kernel
theorem dX10_enough_118 : decode cX10_enough 118 = .ok (.aload_n 0, 1) := by decide +kernel
theorem dX10_enough_119 : decode cX10_enough 119 = .ok (.getfield 85, 3) := by decide +kernel
theorem dX10_enough_122 : decode cX10_enough 122 = .ok (.iload 6, 2) := by decide +kernel
theorem dX10_enough_124 : decode cX10_enough 124 = .ok (.laload, 1) := by decide +kernel
theorem dX10_enough_125 : decode cX10_enough 125 = .ok (.iload_n 3, 1) := by decide +kernel
theorem dX10_enough_126 : decode cX10_enough 126 = .ok (.i2l, 1) := by decide +kernel
theorem dX10_enough_127 : decode cX10_enough 127 = .ok (.lmul, 1) := by decide +kernel
theorem dX10_enough_128 : decode cX10_enough 128 = .ok (.iload 6, 2) := by decide +kernel
theorem dX10_enough_130 : decode cX10_enough 130 = .ok (.ifCond .le 21, 3) := by decide +kernel
theorem dX10_enough_133 : decode cX10_enough 133 = .ok (.aload_n 0, 1) := by decide +kernel
theorem dX10_enough_134 : decode cX10_enough 134 = .ok (.getfield 85, 3) := by decide +kernel
theorem dX10_enough_137 : decode cX10_enough 137 = .ok (.iload 6, 2) := by decide +kernel
theorem dX10_enough_139 : decode cX10_enough 139 = .ok (.iconst 1, 1) := by decide +kernel
theorem dX10_enough_140 : decode cX10_enough 140 = .ok (.isub, 1) := by decide +kernel
theorem dX10_enough_141 : decode cX10_enough 141 = .ok (.laload, 1) := by decide +kernel
theorem dX10_enough_142 : decode cX10_enough 142 = .ok (.bipush 16, 2) := by decide +kernel
theorem dX10_enough_144 : decode cX10_enough 144 = .ok (.iload_n 3, 1) := by decide +kernel
theorem dX10_enough_145 : decode cX10_enough 145 = .ok (.isub, 1) := by decide +kernel
theorem dX10_enough_146 : decode cX10_enough 146 = .ok (.i2l, 1) := by decide +kernel
theorem dX10_enough_147 : decode cX10_enough 147 = .ok (.lmul, 1) := by decide +kernel
theorem dX10_enough_148 : decode cX10_enough 148 = .ok (.goto 4, 3) := by decide +kernel
theorem dX10_enough_151 : decode cX10_enough 151 = .ok (.lconst 0, 1) := by decide +kernel
theorem dX10_enough_152 : decode cX10_enough 152 = .ok (.ladd, 1) := by decide +kernel
theorem dX10_enough_153 : decode cX10_enough 153 = .ok (.lastore, 1) := by decide +kernel
theorem dX10_enough_154 : decode cX10_enough 154 = .ok (.iinc 6 (-1), 3) := by decide +kernel
theorem dX10_enough_157 : decode cX10_enough 157 = .ok (.goto (-50), 3) := by decide +kernel
theorem dX10_enough_160 : decode cX10_enough 160 = .ok (.iinc 5 1, 3) := by decide +kernel
theorem dX10_enough_163 : decode cX10_enough 163 = .ok (.goto (-66), 3) := by decide +kernel
theorem dX10_enough_166 : decode cX10_enough 166 = .ok (.lconst 0, 1) := by decide +kernel
theorem dX10_enough_167 : decode cX10_enough 167 = .ok (.lstore 5, 2) := by decide +kernel
theorem dX10_enough_169 : decode cX10_enough 169 = .ok (.lconst 1, 1) := by decide +kernel
theorem dX10_enough_170 : decode cX10_enough 170 = .ok (.iconst 4, 1) := by decide +kernel
theorem dX10_enough_171 : decode cX10_enough 171 = .ok (.iload_n 1, 1) := by decide +kernel
theorem dX10_enough_172 : decode cX10_enough 172 = .ok (.imul, 1) := by decide +kernel
theorem dX10_enough_173 : decode cX10_enough 173 = .ok (.lshl, 1) := by decide +kernel
theorem dX10_enough_174 : decode cX10_enough 174 = .ok (.lstore 7, 2) := by decide +kernel
theorem dX10_enough_176 : decode cX10_enough 176 = .ok (.iload_n 2, 1) := by decide +kernel
theorem dX10_enough_177 : decode cX10_enough 177 = .ok (.istore 9, 2) := by decide +kernel
theorem dX10_enough_179 : decode cX10_enough 179 = .ok (.iload 9, 2) := by decide +kernel
theorem dX10_enough_181 : decode cX10_enough 181 = .ok (.bipush 14, 2) := by decide +kernel
theorem dX10_enough_183 : decode cX10_enough 183 = .ok (.if_icmp .ge 21, 3) := by decide +kernel
theorem dX10_enough_186 : decode cX10_enough 186 = .ok (.lload 5, 2) := by decide +kernel
theorem dX10_enough_188 : decode cX10_enough 188 = .ok (.aload_n 0, 1) := by decide +kernel
theorem dX10_enough_189 : decode cX10_enough 189 = .ok (.getfield 85, 3) := by decide +kernel
theorem dX10_enough_192 : decode cX10_enough 192 = .ok (.iload 9, 2) := by decide +kernel
theorem dX10_enough_194 : decode cX10_enough 194 = .ok (.laload, 1) := by decide +kernel
theorem dX10_enough_195 : decode cX10_enough 195 = .ok (.ladd, 1) := by decide +kernel
theorem dX10_enough_196 : decode cX10_enough 196 = .ok (.lstore 5, 2) := by decide +kernel
theorem dX10_enough_198 : decode cX10_enough 198 = .ok (.iinc 9 1, 3) := by decide +kernel
theorem dX10_enough_201 : decode cX10_enough 201 = .ok (.goto (-22), 3) := by decide +kernel
theorem dX10_enough_204 : decode cX10_enough 204 = .ok (.lload 7, 2) := by decide +kernel
theorem dX10_enough_206 : decode cX10_enough 206 = .ok (.lstore 9, 2) := by decide +kernel
theorem dX10_enough_208 : decode cX10_enough 208 = .ok (.lload 5, 2) := by decide +kernel
theorem dX10_enough_210 : decode cX10_enough 210 = .ok (.lstore 11, 2) := by decide +kernel
theorem dX10_enough_212 : decode cX10_enough 212 = .ok (.lload 11, 2) := by decide +kernel
theorem dX10_enough_214 : decode cX10_enough 214 = .ok (.lconst 0, 1) := by decide +kernel
theorem dX10_enough_215 : decode cX10_enough 215 = .ok (.lcmp, 1) := by decide +kernel
theorem dX10_enough_216 : decode cX10_enough 216 = .ok (.ifCond .eq 21, 3) := by decide +kernel
theorem dX10_enough_219 : decode cX10_enough 219 = .ok (.lload 9, 2) := by decide +kernel
theorem dX10_enough_221 : decode cX10_enough 221 = .ok (.lload 11, 2) := by decide +kernel
theorem dX10_enough_223 : decode cX10_enough 223 = .ok (.lrem, 1) := by decide +kernel
theorem dX10_enough_224 : decode cX10_enough 224 = .ok (.lstore 13, 2) := by decide +kernel
theorem dX10_enough_226 : decode cX10_enough 226 = .ok (.lload 11, 2) := by decide +kernel
theorem dX10_enough_228 : decode cX10_enough 228 = .ok (.lstore 9, 2) := by decide +kernel
theorem dX10_enough_230 : decode cX10_enough 230 = .ok (.lload 13, 2) := by decide +kernel
theorem dX10_enough_232 : decode cX10_enough 232 = .ok (.lstore 11, 2) := by decide +kernel
theorem dX10_enough_234 : decode cX10_enough 234 = .ok (.goto (-22), 3) := by decide +kernel
theorem dX10_enough_237 : decode cX10_enough 237 = .ok (.iload 4, 2) := by decide +kernel
theorem dX10_enough_239 : decode cX10_enough 239 = .ok (.ifCond .ne 11, 3) := by decide +kernel
theorem dX10_enough_242 : decode cX10_enough 242 = .ok (.lload 5, 2) := by decide +kernel
theorem dX10_enough_244 : decode cX10_enough 244 = .ok (.lload 9, 2) := by decide +kernel
theorem dX10_enough_246 : decode cX10_enough 246 = .ok (.ldiv, 1) := by decide +kernel
theorem dX10_enough_247 : decode cX10_enough 247 = .ok (.goto 8, 3) := by decide +kernel
theorem dX10_enough_250 : decode cX10_enough 250 = .ok (.lload 7, 2) := by decide +kernel
theorem dX10_enough_252 : decode cX10_enough 252 = .ok (.lload 9, 2) := by decide +kernel
theorem dX10_enough_254 : decode cX10_enough 254 = .ok (.ldiv, 1) := by decide +kernel
theorem dX10_enough_255 : decode cX10_enough 255 = .ok (.lreturn, 1) := by decide +kernel
theorem dX10_givenBy_0 : decode cX10_givenBy 0 = .ok (.iconst 0, 1) := by decide +kernel
theorem dX10_givenBy_1 : decode cX10_givenBy 1 = .ok (.istore_n 3, 1) := by decide +kernel
theorem dX10_givenBy_2 : decode cX10_givenBy 2 = .ok (.iconst 0, 1) := by decide +kernel
theorem dX10_givenBy_3 : decode cX10_givenBy 3 = .ok (.istore 4, 2) := by decide +kernel
theorem dX10_givenBy_5 : decode cX10_givenBy 5 = .ok (.iload 4, 2) := by decide +kernel
theorem dX10_givenBy_7 : decode cX10_givenBy 7 = .ok (.aload_n 0, 1) := by decide +kernel
theorem dX10_givenBy_8 : decode cX10_givenBy 8 = .ok (.getfield 23, 3) := by decide +kernel
theorem dX10_givenBy_11 : decode cX10_givenBy 11 = .ok (.iconst 0, 1) := by decide +kernel
theorem dX10_givenBy_12 : decode cX10_givenBy 12 = .ok (.iaload, 1) := by decide +kernel
theorem dX10_givenBy_13 : decode cX10_givenBy 13 = .ok (.if_icmp .ge 38, 3) := by decide +kernel
theorem dX10_givenBy_16 : decode cX10_givenBy 16 = .ok (.iload_n 3, 1) := by decide +kernel
theorem dX10_givenBy_17 : decode cX10_givenBy 17 = .ok (.iload_n 1, 1) := by decide +kernel
theorem dX10_givenBy_18 : decode cX10_givenBy 18 = .ok (.iload 4, 2) := by decide +kernel
theorem dX10_givenBy_20 : decode cX10_givenBy 20 = .ok (.invokestatic 254, 3) := by decide +kernel
theorem dX10_givenBy_23 : decode cX10_givenBy 23 = .ok (.ifCond .eq 19, 3) := by decide +kernel
theorem dX10_givenBy_26 : decode cX10_givenBy 26 = .ok (.iload_n 2, 1) := by decide +kernel
theorem dX10_givenBy_27 : decode cX10_givenBy 27 = .ok (.aload_n 0, 1) := by decide +kernel
theorem dX10_givenBy_28 : decode cX10_givenBy 28 = .ok (.getfield 31, 3) := by decide +kernel
theorem dX10_givenBy_31 : decode cX10_givenBy 31 = .ok (.iload 4, 2) := by decide +kernel
theorem dX10_givenBy_33 : decode cX10_givenBy 33 = .ok (.aaload, 1) := by decide +kernel
theorem dX10_givenBy_34 : decode cX10_givenBy 34 = .ok (.iconst 1, 1) := by decide +kernel
theorem dX10_givenBy_35 : decode cX10_givenBy 35 = .ok (.iaload, 1) := by decide +kernel
theorem dX10_givenBy_36 : decode cX10_givenBy 36 = .ok (.invokestatic 235, 3) := by decide +kernel
theorem dX10_givenBy_39 : decode cX10_givenBy 39 = .ok (.goto 4, 3) := by decide +kernel
theorem dX10_givenBy_42 : decode cX10_givenBy 42 = .ok (.iconst 0, 1) := by decide +kernel
theorem dX10_givenBy_43 : decode cX10_givenBy 43 = .ok (.iadd, 1) := by decide +kernel
theorem dX10_givenBy_44 : decode cX10_givenBy 44 = .ok (.istore_n 3, 1) := by decide +kernel
theorem dX10_givenBy_45 : decode cX10_givenBy 45 = .ok (.iinc 4 1, 3) := by decide +kernel
theorem dX10_givenBy_48 : decode cX10_givenBy 48 = .ok (.goto (-43), 3) := by decide +kernel
theorem dX10_givenBy_51 : decode cX10_givenBy 51 = .ok (.iload_n 3, 1) := by decide +kernel
theorem dX10_givenBy_52 : decode cX10_givenBy 52 = .ok (.ireturn, 1) := by decide +kernel
theorem dX10_rent_0 : decode cX10_rent 0 = .ok (.aload_n 0, 1) := by decide +kernel
theorem dX10_rent_1 : decode cX10_rent 1 = .ok (.iconst 0, 1) := by decide +kernel
theorem dX10_rent_2 : decode cX10_rent 2 = .ok (.putfield 95, 3) := by decide +kernel
theorem dX10_rent_5 : decode cX10_rent 5 = .ok (.aload_n 0, 1) := by decide +kernel
theorem dX10_rent_6 : decode cX10_rent 6 = .ok (.aload_n 0, 1) := by decide +kernel
theorem dX10_rent_7 : decode cX10_rent 7 = .ok (.iload_n 1, 1) := by decide +kernel
theorem dX10_rent_8 : decode cX10_rent 8 = .ok (.invokevirtual 321, 3) := by decide +kernel
theorem dX10_rent_11 : decode cX10_rent 11 = .ok (.ifCond .ne 7, 3) := by decide +kernel
theorem dX10_rent_14 : decode cX10_rent 14 = .ok (.iconst 1, 1) := by decide +kernel
theorem dX10_rent_15 : decode cX10_rent 15 = .ok (.goto 4, 3) := by decide +kernel
theorem dX10_rent_18 : decode cX10_rent 18 = .ok (.iconst 0, 1) := by decide +kernel
theorem dX10_rent_19 : decode cX10_rent 19 = .ok (.iconst 1, 1) := by decide +kernel
theorem dX10_rent_20 : decode cX10_rent 20 = .ok (.iconst 0, 1) := by decide +kernel
theorem dX10_rent_21 : decode cX10_rent 21 = .ok (.invokevirtual 171, 3) := by decide +kernel
theorem dX10_rent_24 : decode cX10_rent 24 = .ok (.ifCond .ne 40, 3) := by decide +kernel
theorem dX10_rent_27 : decode cX10_rent 27 = .ok (.aload_n 0, 1) := by decide +kernel
theorem dX10_rent_28 : decode cX10_rent 28 = .ok (.iload_n 2, 1) := by decide +kernel
theorem dX10_rent_29 : decode cX10_rent 29 = .ok (.iconst 0, 1) := by decide +kernel
theorem dX10_rent_30 : decode cX10_rent 30 = .ok (.aload_n 0, 1) := by decide +kernel
theorem dX10_rent_31 : decode cX10_rent 31 = .ok (.invokevirtual 330, 3) := by decide +kernel
theorem dX10_rent_34 : decode cX10_rent 34 = .ok (.invokestatic 129, 3) := by decide +kernel
theorem dX10_rent_37 : decode cX10_rent 37 = .ok (.ifCond .eq 14, 3) := by decide +kernel
theorem dX10_rent_40 : decode cX10_rent 40 = .ok (.iload_n 3, 1) := by decide +kernel
theorem dX10_rent_41 : decode cX10_rent 41 = .ok (.iconst 0, 1) := by decide +kernel
theorem dX10_rent_42 : decode cX10_rent 42 = .ok (.sipush 999, 3) := by decide +kernel
theorem dX10_rent_45 : decode cX10_rent 45 = .ok (.invokestatic 129, 3) := by decide +kernel
theorem dX10_rent_48 : decode cX10_rent 48 = .ok (.ifCond .ne 7, 3) := by decide +kernel
theorem dX10_rent_51 : decode cX10_rent 51 = .ok (.iconst 1, 1) := by decide +kernel
theorem dX10_rent_52 : decode cX10_rent 52 = .ok (.goto 4, 3) := by decide +kernel
theorem dX10_rent_55 : decode cX10_rent 55 = .ok (.iconst 0, 1) := by decide +kernel
theorem dX10_rent_56 : decode cX10_rent 56 = .ok (.iconst 2, 1) := by decide +kernel
theorem dX10_rent_57 : decode cX10_rent 57 = .ok (.iconst 1, 1) := by decide +kernel
theorem dX10_rent_58 : decode cX10_rent 58 = .ok (.invokevirtual 171, 3) := by decide +kernel
theorem dX10_rent_61 : decode cX10_rent 61 = .ok (.ifCond .eq 5, 3) := by decide +kernel
theorem dX10_rent_64 : decode cX10_rent 64 = .ok (.iconst 0, 1) := by decide +kernel
theorem dX10_rent_65 : decode cX10_rent 65 = .ok (.ireturn, 1) := by decide +kernel
theorem dX10_rent_66 : decode cX10_rent 66 = .ok (.iconst 0, 1) := by decide +kernel
theorem dX10_rent_67 : decode cX10_rent 67 = .ok (.istore 4, 2) := by decide +kernel
theorem dX10_rent_69 : decode cX10_rent 69 = .ok (.iload 4, 2) := by decide +kernel
theorem dX10_rent_71 : decode cX10_rent 71 = .ok (.bipush 60, 2) := by decide +kernel
theorem dX10_rent_73 : decode cX10_rent 73 = .ok (.if_icmp .ge 22, 3) := by decide +kernel
theorem dX10_rent_76 : decode cX10_rent 76 = .ok (.aload_n 0, 1) := by decide +kernel
theorem dX10_rent_77 : decode cX10_rent 77 = .ok (.iload_n 2, 1) := by decide +kernel
theorem dX10_rent_78 : decode cX10_rent 78 = .ok (.iload 4, 2) := by decide +kernel
theorem dX10_rent_80 : decode cX10_rent 80 = .ok (.iconst 1, 1) := by decide +kernel
theorem dX10_rent_81 : decode cX10_rent 81 = .ok (.iadd, 1) := by decide +kernel
theorem dX10_rent_82 : decode cX10_rent 82 = .ok (.invokevirtual 372, 3) := by decide +kernel
theorem dX10_rent_85 : decode cX10_rent 85 = .ok (.iload_n 3, 1) := by decide +kernel
theorem dX10_rent_86 : decode cX10_rent 86 = .ok (.if_icmp .gt 9, 3) := by decide +kernel
theorem dX10_rent_89 : decode cX10_rent 89 = .ok (.iinc 4 1, 3) := by decide +kernel
theorem dX10_rent_92 : decode cX10_rent 92 = .ok (.goto (-23), 3) := by decide +kernel
theorem dX10_rent_95 : decode cX10_rent 95 = .ok (.iload_n 2, 1) := by decide +kernel
theorem dX10_rent_96 : decode cX10_rent 96 = .ok (.iload_n 1, 1) := by decide +kernel
theorem dX10_rent_97 : decode cX10_rent 97 = .ok (.invokestatic 254, 3) := by decide +kernel
theorem dX10_rent_100 : decode cX10_rent 100 = .ok (.ifCond .eq 19, 3) := by decide +kernel
theorem dX10_rent_103 : decode cX10_rent 103 = .ok (.iload 4, 2) := by decide +kernel
theorem dX10_rent_105 : decode cX10_rent 105 = .ok (.aload_n 0, 1) := by decide +kernel
theorem dX10_rent_106 : decode cX10_rent 106 = .ok (.getfield 31, 3) := by decide +kernel
theorem dX10_rent_109 : decode cX10_rent 109 = .ok (.iload_n 1, 1) := by decide +kernel
theorem dX10_rent_110 : decode cX10_rent 110 = .ok (.aaload, 1) := by decide +kernel
theorem dX10_rent_111 : decode cX10_rent 111 = .ok (.iconst 1, 1) := by decide +kernel
theorem dX10_rent_112 : decode cX10_rent 112 = .ok (.iaload, 1) := by decide +kernel
theorem dX10_rent_113 : decode cX10_rent 113 = .ok (.invokestatic 235, 3) := by decide +kernel
theorem dX10_rent_116 : decode cX10_rent 116 = .ok (.goto 4, 3) := by decide +kernel
theorem dX10_rent_119 : decode cX10_rent 119 = .ok (.iconst 0, 1) := by decide +kernel
theorem dX10_rent_120 : decode cX10_rent 120 = .ok (.ireturn, 1) := by decide +kernel
theorem dX10_dearest_0 : decode cX10_dearest 0 = .ok (.aload_n 0, 1) := by decide +kernel
theorem dX10_dearest_1 : decode cX10_dearest 1 = .ok (.iconst 0, 1) := by decide +kernel
theorem dX10_dearest_2 : decode cX10_dearest 2 = .ok (.putfield 95, 3) := by decide +kernel
theorem dX10_dearest_5 : decode cX10_dearest 5 = .ok (.aload_n 0, 1) := by decide +kernel
theorem dX10_dearest_6 : decode cX10_dearest 6 = .ok (.iload_n 1, 1) := by decide +kernel
theorem dX10_dearest_7 : decode cX10_dearest 7 = .ok (.iconst 0, 1) := by decide +kernel
theorem dX10_dearest_8 : decode cX10_dearest 8 = .ok (.iconst 1, 1) := by decide +kernel
theorem dX10_dearest_9 : decode cX10_dearest 9 = .ok (.invokestatic 129, 3) := by decide +kernel
theorem dX10_dearest_12 : decode cX10_dearest 12 = .ok (.ifCond .ne 7, 3) := by decide +kernel
theorem dX10_dearest_15 : decode cX10_dearest 15 = .ok (.iconst 1, 1) := by decide +kernel
theorem dX10_dearest_16 : decode cX10_dearest 16 = .ok (.goto 4, 3) := by decide +kernel
theorem dX10_dearest_19 : decode cX10_dearest 19 = .ok (.iconst 0, 1) := by decide +kernel
theorem dX10_dearest_20 : decode cX10_dearest 20 = .ok (.iconst 1, 1) := by decide +kernel
theorem dX10_dearest_21 : decode cX10_dearest 21 = .ok (.iconst 1, 1) := by decide +kernel
theorem dX10_dearest_22 : decode cX10_dearest 22 = .ok (.invokevirtual 171, 3) := by decide +kernel
theorem dX10_dearest_25 : decode cX10_dearest 25 = .ok (.ifCond .eq 5, 3) := by decide +kernel
theorem dX10_dearest_28 : decode cX10_dearest 28 = .ok (.iconst 0, 1) := by decide +kernel
theorem dX10_dearest_29 : decode cX10_dearest 29 = .ok (.ireturn, 1) := by decide +kernel
theorem dX10_dearest_30 : decode cX10_dearest 30 = .ok (.iconst (-1), 1) := by decide +kernel
theorem dX10_dearest_31 : decode cX10_dearest 31 = .ok (.istore_n 2, 1) := by decide +kernel
theorem dX10_dearest_32 : decode cX10_dearest 32 = .ok (.iconst 0, 1) := by decide +kernel
theorem dX10_dearest_33 : decode cX10_dearest 33 = .ok (.istore_n 3, 1) := by decide +kernel
theorem dX10_dearest_34 : decode cX10_dearest 34 = .ok (.iload_n 3, 1) := by decide +kernel
theorem dX10_dearest_35 : decode cX10_dearest 35 = .ok (.aload_n 0, 1) := by decide +kernel
theorem dX10_dearest_36 : decode cX10_dearest 36 = .ok (.getfield 23, 3) := by decide +kernel
theorem dX10_dearest_39 : decode cX10_dearest 39 = .ok (.iconst 0, 1) := by decide +kernel
theorem dX10_dearest_40 : decode cX10_dearest 40 = .ok (.iaload, 1) := by decide +kernel
theorem dX10_dearest_41 : decode cX10_dearest 41 = .ok (.if_icmp .ge 39, 3) := by decide +kernel
theorem dX10_dearest_44 : decode cX10_dearest 44 = .ok (.iload_n 2, 1) := by decide +kernel
theorem dX10_dearest_45 : decode cX10_dearest 45 = .ok (.iconst (-1), 1) := by decide +kernel
theorem dX10_dearest_46 : decode cX10_dearest 46 = .ok (.if_icmp .eq 22, 3) := by decide +kernel
theorem dX10_dearest_49 : decode cX10_dearest 49 = .ok (.aload_n 0, 1) := by decide +kernel
theorem dX10_dearest_50 : decode cX10_dearest 50 = .ok (.getfield 31, 3) := by decide +kernel
theorem dX10_dearest_53 : decode cX10_dearest 53 = .ok (.iload_n 3, 1) := by decide +kernel
theorem dX10_dearest_54 : decode cX10_dearest 54 = .ok (.aaload, 1) := by decide +kernel
theorem dX10_dearest_55 : decode cX10_dearest 55 = .ok (.iconst 1, 1) := by decide +kernel
theorem dX10_dearest_56 : decode cX10_dearest 56 = .ok (.iaload, 1) := by decide +kernel
theorem dX10_dearest_57 : decode cX10_dearest 57 = .ok (.aload_n 0, 1) := by decide +kernel
theorem dX10_dearest_58 : decode cX10_dearest 58 = .ok (.getfield 31, 3) := by decide +kernel
theorem dX10_dearest_61 : decode cX10_dearest 61 = .ok (.iload_n 2, 1) := by decide +kernel
theorem dX10_dearest_62 : decode cX10_dearest 62 = .ok (.aaload, 1) := by decide +kernel
theorem dX10_dearest_63 : decode cX10_dearest 63 = .ok (.iconst 1, 1) := by decide +kernel
theorem dX10_dearest_64 : decode cX10_dearest 64 = .ok (.iaload, 1) := by decide +kernel
theorem dX10_dearest_65 : decode cX10_dearest 65 = .ok (.if_icmp .le 7, 3) := by decide +kernel
theorem dX10_dearest_68 : decode cX10_dearest 68 = .ok (.iload_n 3, 1) := by decide +kernel
theorem dX10_dearest_69 : decode cX10_dearest 69 = .ok (.goto 4, 3) := by decide +kernel
theorem dX10_dearest_72 : decode cX10_dearest 72 = .ok (.iload_n 2, 1) := by decide +kernel
theorem dX10_dearest_73 : decode cX10_dearest 73 = .ok (.istore_n 2, 1) := by decide +kernel
theorem dX10_dearest_74 : decode cX10_dearest 74 = .ok (.iinc 3 1, 3) := by decide +kernel
theorem dX10_dearest_77 : decode cX10_dearest 77 = .ok (.goto (-43), 3) := by decide +kernel
theorem dX10_dearest_80 : decode cX10_dearest 80 = .ok (.iload_n 1, 1) := by decide +kernel
theorem dX10_dearest_81 : decode cX10_dearest 81 = .ok (.ifCond .eq 8, 3) := by decide +kernel
theorem dX10_dearest_84 : decode cX10_dearest 84 = .ok (.iload_n 2, 1) := by decide +kernel
theorem dX10_dearest_85 : decode cX10_dearest 85 = .ok (.iconst (-1), 1) := by decide +kernel
theorem dX10_dearest_86 : decode cX10_dearest 86 = .ok (.if_icmp .ne 7, 3) := by decide +kernel
theorem dX10_dearest_89 : decode cX10_dearest 89 = .ok (.iload_n 2, 1) := by decide +kernel
theorem dX10_dearest_90 : decode cX10_dearest 90 = .ok (.goto 11, 3) := by decide +kernel
theorem dX10_dearest_93 : decode cX10_dearest 93 = .ok (.aload_n 0, 1) := by decide +kernel
theorem dX10_dearest_94 : decode cX10_dearest 94 = .ok (.getfield 31, 3) := by decide +kernel
theorem dX10_dearest_97 : decode cX10_dearest 97 = .ok (.iload_n 2, 1) := by decide +kernel
theorem dX10_dearest_98 : decode cX10_dearest 98 = .ok (.aaload, 1) := by decide +kernel
theorem dX10_dearest_99 : decode cX10_dearest 99 = .ok (.iconst 1, 1) := by decide +kernel
theorem dX10_dearest_100 : decode cX10_dearest 100 = .ok (.iaload, 1) := by decide +kernel
theorem dX10_dearest_101 : decode cX10_dearest 101 = .ok (.ireturn, 1) := by decide +kernel
theorem dX10_voices_0 : decode cX10_voices 0 = .ok (.aload_n 0, 1) := by decide +kernel
theorem dX10_voices_1 : decode cX10_voices 1 = .ok (.iconst 0, 1) := by decide +kernel
theorem dX10_voices_2 : decode cX10_voices 2 = .ok (.putfield 95, 3) := by decide +kernel
theorem dX10_voices_5 : decode cX10_voices 5 = .ok (.aload_n 0, 1) := by decide +kernel
theorem dX10_voices_6 : decode cX10_voices 6 = .ok (.iload_n 1, 1) := by decide +kernel
theorem dX10_voices_7 : decode cX10_voices 7 = .ok (.invokestatic 327, 3) := by decide +kernel
theorem dX10_voices_10 : decode cX10_voices 10 = .ok (.ifCond .ne 7, 3) := by decide +kernel
theorem dX10_voices_13 : decode cX10_voices 13 = .ok (.iconst 1, 1) := by decide +kernel
theorem dX10_voices_14 : decode cX10_voices 14 = .ok (.goto 4, 3) := by decide +kernel
theorem dX10_voices_17 : decode cX10_voices 17 = .ok (.iconst 0, 1) := by decide +kernel
theorem dX10_voices_18 : decode cX10_voices 18 = .ok (.iconst 1, 1) := by decide +kernel
theorem dX10_voices_19 : decode cX10_voices 19 = .ok (.iconst 1, 1) := by decide +kernel
theorem dX10_voices_20 : decode cX10_voices 20 = .ok (.invokevirtual 171, 3) := by decide +kernel
theorem dX10_voices_23 : decode cX10_voices 23 = .ok (.ifCond .eq 5, 3) := by decide +kernel
theorem dX10_voices_26 : decode cX10_voices 26 = .ok (.iconst 0, 1) := by decide +kernel
theorem dX10_voices_27 : decode cX10_voices 27 = .ok (.ireturn, 1) := by decide +kernel
theorem dX10_voices_28 : decode cX10_voices 28 = .ok (.iconst 0, 1) := by decide +kernel
theorem dX10_voices_29 : decode cX10_voices 29 = .ok (.istore_n 2, 1) := by decide +kernel
theorem dX10_voices_30 : decode cX10_voices 30 = .ok (.iconst 0, 1) := by decide +kernel
theorem dX10_voices_31 : decode cX10_voices 31 = .ok (.istore_n 3, 1) := by decide +kernel
theorem dX10_voices_32 : decode cX10_voices 32 = .ok (.iload_n 3, 1) := by decide +kernel
theorem dX10_voices_33 : decode cX10_voices 33 = .ok (.aload_n 0, 1) := by decide +kernel
theorem dX10_voices_34 : decode cX10_voices 34 = .ok (.getfield 23, 3) := by decide +kernel
theorem dX10_voices_37 : decode cX10_voices 37 = .ok (.iconst 0, 1) := by decide +kernel
theorem dX10_voices_38 : decode cX10_voices 38 = .ok (.iaload, 1) := by decide +kernel
theorem dX10_voices_39 : decode cX10_voices 39 = .ok (.if_icmp .ge 31, 3) := by decide +kernel
theorem dX10_voices_42 : decode cX10_voices 42 = .ok (.iload_n 2, 1) := by decide +kernel
theorem dX10_voices_43 : decode cX10_voices 43 = .ok (.aload_n 0, 1) := by decide +kernel
theorem dX10_voices_44 : decode cX10_voices 44 = .ok (.getfield 31, 3) := by decide +kernel
theorem dX10_voices_47 : decode cX10_voices 47 = .ok (.iload_n 3, 1) := by decide +kernel
theorem dX10_voices_48 : decode cX10_voices 48 = .ok (.aaload, 1) := by decide +kernel
theorem dX10_voices_49 : decode cX10_voices 49 = .ok (.iconst 0, 1) := by decide +kernel
theorem dX10_voices_50 : decode cX10_voices 50 = .ok (.iaload, 1) := by decide +kernel
theorem dX10_voices_51 : decode cX10_voices 51 = .ok (.iload_n 1, 1) := by decide +kernel
theorem dX10_voices_52 : decode cX10_voices 52 = .ok (.if_icmp .ne 9, 3) := by decide +kernel
theorem dX10_voices_55 : decode cX10_voices 55 = .ok (.iconst 1, 1) := by decide +kernel
theorem dX10_voices_56 : decode cX10_voices 56 = .ok (.iload_n 3, 1) := by decide +kernel
theorem dX10_voices_57 : decode cX10_voices 57 = .ok (.ishl, 1) := by decide +kernel
theorem dX10_voices_58 : decode cX10_voices 58 = .ok (.goto 4, 3) := by decide +kernel
theorem dX10_voices_61 : decode cX10_voices 61 = .ok (.iconst 0, 1) := by decide +kernel
theorem dX10_voices_62 : decode cX10_voices 62 = .ok (.ior, 1) := by decide +kernel
theorem dX10_voices_63 : decode cX10_voices 63 = .ok (.istore_n 2, 1) := by decide +kernel
theorem dX10_voices_64 : decode cX10_voices 64 = .ok (.iinc 3 1, 3) := by decide +kernel
theorem dX10_voices_67 : decode cX10_voices 67 = .ok (.goto (-35), 3) := by decide +kernel
theorem dX10_voices_70 : decode cX10_voices 70 = .ok (.iload_n 2, 1) := by decide +kernel
theorem dX10_voices_71 : decode cX10_voices 71 = .ok (.ireturn, 1) := by decide +kernel
theorem dX10_sounds_0 : decode cX10_sounds 0 = .ok (.aload_n 0, 1) := by decide +kernel
theorem dX10_sounds_1 : decode cX10_sounds 1 = .ok (.iconst 0, 1) := by decide +kernel
theorem dX10_sounds_2 : decode cX10_sounds 2 = .ok (.putfield 95, 3) := by decide +kernel
theorem dX10_sounds_5 : decode cX10_sounds 5 = .ok (.aload_n 0, 1) := by decide +kernel
theorem dX10_sounds_6 : decode cX10_sounds 6 = .ok (.iload_n 1, 1) := by decide +kernel
theorem dX10_sounds_7 : decode cX10_sounds 7 = .ok (.invokestatic 327, 3) := by decide +kernel
theorem dX10_sounds_10 : decode cX10_sounds 10 = .ok (.ifCond .ne 7, 3) := by decide +kernel
theorem dX10_sounds_13 : decode cX10_sounds 13 = .ok (.iconst 1, 1) := by decide +kernel
theorem dX10_sounds_14 : decode cX10_sounds 14 = .ok (.goto 4, 3) := by decide +kernel
theorem dX10_sounds_17 : decode cX10_sounds 17 = .ok (.iconst 0, 1) := by decide +kernel
theorem dX10_sounds_18 : decode cX10_sounds 18 = .ok (.iconst 1, 1) := by decide +kernel
theorem dX10_sounds_19 : decode cX10_sounds 19 = .ok (.iconst 1, 1) := by decide +kernel
theorem dX10_sounds_20 : decode cX10_sounds 20 = .ok (.invokevirtual 171, 3) := by decide +kernel
theorem dX10_sounds_23 : decode cX10_sounds 23 = .ok (.ifCond .eq 5, 3) := by decide +kernel
theorem dX10_sounds_26 : decode cX10_sounds 26 = .ok (.iconst 0, 1) := by decide +kernel
theorem dX10_sounds_27 : decode cX10_sounds 27 = .ok (.ireturn, 1) := by decide +kernel
theorem dX10_sounds_28 : decode cX10_sounds 28 = .ok (.iconst 0, 1) := by decide +kernel
theorem dX10_sounds_29 : decode cX10_sounds 29 = .ok (.istore_n 2, 1) := by decide +kernel
theorem dX10_sounds_30 : decode cX10_sounds 30 = .ok (.iconst 0, 1) := by decide +kernel
theorem dX10_sounds_31 : decode cX10_sounds 31 = .ok (.istore_n 3, 1) := by decide +kernel
theorem dX10_sounds_32 : decode cX10_sounds 32 = .ok (.iload_n 3, 1) := by decide +kernel
theorem dX10_sounds_33 : decode cX10_sounds 33 = .ok (.aload_n 0, 1) := by decide +kernel
theorem dX10_sounds_34 : decode cX10_sounds 34 = .ok (.getfield 23, 3) := by decide +kernel
theorem dX10_sounds_37 : decode cX10_sounds 37 = .ok (.iconst 1, 1) := by decide +kernel
theorem dX10_sounds_38 : decode cX10_sounds 38 = .ok (.iaload, 1) := by decide +kernel
theorem dX10_sounds_39 : decode cX10_sounds 39 = .ok (.if_icmp .ge 32, 3) := by decide +kernel
theorem dX10_sounds_42 : decode cX10_sounds 42 = .ok (.iload_n 2, 1) := by decide +kernel
theorem dX10_sounds_43 : decode cX10_sounds 43 = .ok (.aload_n 0, 1) := by decide +kernel
theorem dX10_sounds_44 : decode cX10_sounds 44 = .ok (.getfield 67, 3) := by decide +kernel
theorem dX10_sounds_47 : decode cX10_sounds 47 = .ok (.bipush 35, 2) := by decide +kernel
theorem dX10_sounds_49 : decode cX10_sounds 49 = .ok (.iload_n 3, 1) := by decide +kernel
theorem dX10_sounds_50 : decode cX10_sounds 50 = .ok (.iadd, 1) := by decide +kernel
theorem dX10_sounds_51 : decode cX10_sounds 51 = .ok (.iaload, 1) := by decide +kernel
theorem dX10_sounds_52 : decode cX10_sounds 52 = .ok (.iload_n 1, 1) := by decide +kernel
theorem dX10_sounds_53 : decode cX10_sounds 53 = .ok (.if_icmp .ne 9, 3) := by decide +kernel
theorem dX10_sounds_56 : decode cX10_sounds 56 = .ok (.iconst 1, 1) := by decide +kernel
theorem dX10_sounds_57 : decode cX10_sounds 57 = .ok (.iload_n 3, 1) := by decide +kernel
theorem dX10_sounds_58 : decode cX10_sounds 58 = .ok (.ishl, 1) := by decide +kernel
theorem dX10_sounds_59 : decode cX10_sounds 59 = .ok (.goto 4, 3) := by decide +kernel
theorem dX10_sounds_62 : decode cX10_sounds 62 = .ok (.iconst 0, 1) := by decide +kernel
theorem dX10_sounds_63 : decode cX10_sounds 63 = .ok (.ior, 1) := by decide +kernel
theorem dX10_sounds_64 : decode cX10_sounds 64 = .ok (.istore_n 2, 1) := by decide +kernel
theorem dX10_sounds_65 : decode cX10_sounds 65 = .ok (.iinc 3 1, 3) := by decide +kernel
theorem dX10_sounds_68 : decode cX10_sounds 68 = .ok (.goto (-36), 3) := by decide +kernel
theorem dX10_sounds_71 : decode cX10_sounds 71 = .ok (.iload_n 2, 1) := by decide +kernel
theorem dX10_sounds_72 : decode cX10_sounds 72 = .ok (.ireturn, 1) := by decide +kernel
theorem dX10_beats_0 : decode cX10_beats 0 = .ok (.aload_n 0, 1) := by decide +kernel
theorem dX10_beats_1 : decode cX10_beats 1 = .ok (.iconst 0, 1) := by decide +kernel
theorem dX10_beats_2 : decode cX10_beats 2 = .ok (.putfield 95, 3) := by decide +kernel
theorem dX10_beats_5 : decode cX10_beats 5 = .ok (.aload_n 0, 1) := by decide +kernel
theorem dX10_beats_6 : decode cX10_beats 6 = .ok (.iload_n 1, 1) := by decide +kernel
theorem dX10_beats_7 : decode cX10_beats 7 = .ok (.invokestatic 327, 3) := by decide +kernel
theorem dX10_beats_10 : decode cX10_beats 10 = .ok (.ifCond .ne 7, 3) := by decide +kernel
theorem dX10_beats_13 : decode cX10_beats 13 = .ok (.iconst 1, 1) := by decide +kernel
theorem dX10_beats_14 : decode cX10_beats 14 = .ok (.goto 4, 3) := by decide +kernel
theorem dX10_beats_17 : decode cX10_beats 17 = .ok (.iconst 0, 1) := by decide +kernel
theorem dX10_beats_18 : decode cX10_beats 18 = .ok (.iconst 1, 1) := by decide +kernel
theorem dX10_beats_19 : decode cX10_beats 19 = .ok (.iconst 1, 1) := by decide +kernel
theorem dX10_beats_20 : decode cX10_beats 20 = .ok (.invokevirtual 171, 3) := by decide +kernel
theorem dX10_beats_23 : decode cX10_beats 23 = .ok (.ifCond .eq 5, 3) := by decide +kernel
theorem dX10_beats_26 : decode cX10_beats 26 = .ok (.iconst 0, 1) := by decide +kernel
theorem dX10_beats_27 : decode cX10_beats 27 = .ok (.ireturn, 1) := by decide +kernel
theorem dX10_beats_28 : decode cX10_beats 28 = .ok (.iconst 0, 1) := by decide +kernel
theorem dX10_beats_29 : decode cX10_beats 29 = .ok (.istore_n 2, 1) := by decide +kernel
theorem dX10_beats_30 : decode cX10_beats 30 = .ok (.iconst 0, 1) := by decide +kernel
theorem dX10_beats_31 : decode cX10_beats 31 = .ok (.istore_n 3, 1) := by decide +kernel
theorem dX10_beats_32 : decode cX10_beats 32 = .ok (.iload_n 3, 1) := by decide +kernel
theorem dX10_beats_33 : decode cX10_beats 33 = .ok (.aload_n 0, 1) := by decide +kernel
theorem dX10_beats_34 : decode cX10_beats 34 = .ok (.getfield 23, 3) := by decide +kernel
theorem dX10_beats_37 : decode cX10_beats 37 = .ok (.iconst 1, 1) := by decide +kernel
theorem dX10_beats_38 : decode cX10_beats 38 = .ok (.iaload, 1) := by decide +kernel
theorem dX10_beats_39 : decode cX10_beats 39 = .ok (.if_icmp .ge 37, 3) := by decide +kernel
theorem dX10_beats_42 : decode cX10_beats 42 = .ok (.iload_n 2, 1) := by decide +kernel
theorem dX10_beats_43 : decode cX10_beats 43 = .ok (.aload_n 0, 1) := by decide +kernel
theorem dX10_beats_44 : decode cX10_beats 44 = .ok (.getfield 67, 3) := by decide +kernel
theorem dX10_beats_47 : decode cX10_beats 47 = .ok (.bipush 35, 2) := by decide +kernel
theorem dX10_beats_49 : decode cX10_beats 49 = .ok (.iload_n 3, 1) := by decide +kernel
theorem dX10_beats_50 : decode cX10_beats 50 = .ok (.iadd, 1) := by decide +kernel
theorem dX10_beats_51 : decode cX10_beats 51 = .ok (.iaload, 1) := by decide +kernel
theorem dX10_beats_52 : decode cX10_beats 52 = .ok (.iload_n 1, 1) := by decide +kernel
theorem dX10_beats_53 : decode cX10_beats 53 = .ok (.if_icmp .ne 14, 3) := by decide +kernel
theorem dX10_beats_56 : decode cX10_beats 56 = .ok (.aload_n 0, 1) := by decide +kernel
theorem dX10_beats_57 : decode cX10_beats 57 = .ok (.getfield 37, 3) := by decide +kernel
theorem dX10_beats_60 : decode cX10_beats 60 = .ok (.iload_n 3, 1) := by decide +kernel
theorem dX10_beats_61 : decode cX10_beats 61 = .ok (.aaload, 1) := by decide +kernel
theorem dX10_beats_62 : decode cX10_beats 62 = .ok (.iconst 1, 1) := by decide +kernel
theorem dX10_beats_63 : decode cX10_beats 63 = .ok (.iaload, 1) := by decide +kernel
theorem dX10_beats_64 : decode cX10_beats 64 = .ok (.goto 4, 3) := by decide +kernel
theorem dX10_beats_67 : decode cX10_beats 67 = .ok (.iconst 0, 1) := by decide +kernel
theorem dX10_beats_68 : decode cX10_beats 68 = .ok (.iadd, 1) := by decide +kernel
theorem dX10_beats_69 : decode cX10_beats 69 = .ok (.istore_n 2, 1) := by decide +kernel
theorem dX10_beats_70 : decode cX10_beats 70 = .ok (.iinc 3 1, 3) := by decide +kernel
theorem dX10_beats_73 : decode cX10_beats 73 = .ok (.goto (-41), 3) := by decide +kernel
theorem dX10_beats_76 : decode cX10_beats 76 = .ok (.iload_n 2, 1) := by decide +kernel
theorem dX10_beats_77 : decode cX10_beats 77 = .ok (.ireturn, 1) := by decide +kernel
theorem dX10_words_0 : decode cX10_words 0 = .ok (.aload_n 0, 1) := by decide +kernel
theorem dX10_words_1 : decode cX10_words 1 = .ok (.iconst 0, 1) := by decide +kernel
theorem dX10_words_2 : decode cX10_words 2 = .ok (.putfield 95, 3) := by decide +kernel
theorem dX10_words_5 : decode cX10_words 5 = .ok (.aload_n 0, 1) := by decide +kernel
theorem dX10_words_6 : decode cX10_words 6 = .ok (.aload_n 0, 1) := by decide +kernel
theorem dX10_words_7 : decode cX10_words 7 = .ok (.iload_n 1, 1) := by decide +kernel
theorem dX10_words_8 : decode cX10_words 8 = .ok (.invokevirtual 324, 3) := by decide +kernel
theorem dX10_words_11 : decode cX10_words 11 = .ok (.ifCond .ne 7, 3) := by decide +kernel
theorem dX10_words_14 : decode cX10_words 14 = .ok (.iconst 1, 1) := by decide +kernel
theorem dX10_words_15 : decode cX10_words 15 = .ok (.goto 4, 3) := by decide +kernel
theorem dX10_words_18 : decode cX10_words 18 = .ok (.iconst 0, 1) := by decide +kernel
theorem dX10_words_19 : decode cX10_words 19 = .ok (.iconst 1, 1) := by decide +kernel
theorem dX10_words_20 : decode cX10_words 20 = .ok (.iconst 0, 1) := by decide +kernel
theorem dX10_words_21 : decode cX10_words 21 = .ok (.invokevirtual 171, 3) := by decide +kernel
theorem dX10_words_24 : decode cX10_words 24 = .ok (.ifCond .eq 5, 3) := by decide +kernel
theorem dX10_words_27 : decode cX10_words 27 = .ok (.iconst 0, 1) := by decide +kernel
theorem dX10_words_28 : decode cX10_words 28 = .ok (.ireturn, 1) := by decide +kernel
theorem dX10_words_29 : decode cX10_words 29 = .ok (.aload_n 0, 1) := by decide +kernel
theorem dX10_words_30 : decode cX10_words 30 = .ok (.iload_n 1, 1) := by decide +kernel
theorem dX10_words_31 : decode cX10_words 31 = .ok (.invokevirtual 291, 3) := by decide +kernel
theorem dX10_words_34 : decode cX10_words 34 = .ok (.ireturn, 1) := by decide +kernel
theorem dX10_mute_0 : decode cX10_mute 0 = .ok (.aload_n 0, 1) := by decide +kernel
theorem dX10_mute_1 : decode cX10_mute 1 = .ok (.iconst 0, 1) := by decide +kernel
theorem dX10_mute_2 : decode cX10_mute 2 = .ok (.putfield 95, 3) := by decide +kernel
theorem dX10_mute_5 : decode cX10_mute 5 = .ok (.iconst 0, 1) := by decide +kernel
theorem dX10_mute_6 : decode cX10_mute 6 = .ok (.istore_n 1, 1) := by decide +kernel
theorem dX10_mute_7 : decode cX10_mute 7 = .ok (.iconst 0, 1) := by decide +kernel
theorem dX10_mute_8 : decode cX10_mute 8 = .ok (.istore_n 2, 1) := by decide +kernel
theorem dX10_mute_9 : decode cX10_mute 9 = .ok (.iload_n 2, 1) := by decide +kernel
theorem dX10_mute_10 : decode cX10_mute 10 = .ok (.aload_n 0, 1) := by decide +kernel
theorem dX10_mute_11 : decode cX10_mute 11 = .ok (.getfield 23, 3) := by decide +kernel
theorem dX10_mute_14 : decode cX10_mute 14 = .ok (.iconst 1, 1) := by decide +kernel
theorem dX10_mute_15 : decode cX10_mute 15 = .ok (.iaload, 1) := by decide +kernel
theorem dX10_mute_16 : decode cX10_mute 16 = .ok (.if_icmp .ge 32, 3) := by decide +kernel
theorem dX10_mute_19 : decode cX10_mute 19 = .ok (.iload_n 1, 1) := by decide +kernel
theorem dX10_mute_20 : decode cX10_mute 20 = .ok (.aload_n 0, 1) := by decide +kernel
theorem dX10_mute_21 : decode cX10_mute 21 = .ok (.aload_n 0, 1) := by decide +kernel
theorem dX10_mute_22 : decode cX10_mute 22 = .ok (.getfield 67, 3) := by decide +kernel
theorem dX10_mute_25 : decode cX10_mute 25 = .ok (.iload_n 2, 1) := by decide +kernel
theorem dX10_mute_26 : decode cX10_mute 26 = .ok (.invokevirtual 269, 3) := by decide +kernel
theorem dX10_mute_29 : decode cX10_mute 29 = .ok (.iconst (-1), 1) := by decide +kernel
theorem dX10_mute_30 : decode cX10_mute 30 = .ok (.if_icmp .ne 9, 3) := by decide +kernel
theorem dX10_mute_33 : decode cX10_mute 33 = .ok (.iconst 1, 1) := by decide +kernel
theorem dX10_mute_34 : decode cX10_mute 34 = .ok (.iload_n 2, 1) := by decide +kernel
theorem dX10_mute_35 : decode cX10_mute 35 = .ok (.ishl, 1) := by decide +kernel
theorem dX10_mute_36 : decode cX10_mute 36 = .ok (.goto 4, 3) := by decide +kernel
theorem dX10_mute_39 : decode cX10_mute 39 = .ok (.iconst 0, 1) := by decide +kernel
theorem dX10_mute_40 : decode cX10_mute 40 = .ok (.ior, 1) := by decide +kernel
theorem dX10_mute_41 : decode cX10_mute 41 = .ok (.istore_n 1, 1) := by decide +kernel
theorem dX10_mute_42 : decode cX10_mute 42 = .ok (.iinc 2 1, 3) := by decide +kernel
theorem dX10_mute_45 : decode cX10_mute 45 = .ok (.goto (-36), 3) := by decide +kernel
theorem dX10_mute_48 : decode cX10_mute 48 = .ok (.iload_n 1, 1) := by decide +kernel
theorem dX10_mute_49 : decode cX10_mute 49 = .ok (.ireturn, 1) := by decide +kernel
theorem dX10_idle_0 : decode cX10_idle 0 = .ok (.aload_n 0, 1) := by decide +kernel
theorem dX10_idle_1 : decode cX10_idle 1 = .ok (.iconst 0, 1) := by decide +kernel
theorem dX10_idle_2 : decode cX10_idle 2 = .ok (.putfield 95, 3) := by decide +kernel
theorem dX10_idle_5 : decode cX10_idle 5 = .ok (.iconst 0, 1) := by decide +kernel
theorem dX10_idle_6 : decode cX10_idle 6 = .ok (.istore_n 1, 1) := by decide +kernel
theorem dX10_idle_7 : decode cX10_idle 7 = .ok (.aload_n 0, 1) := by decide +kernel
theorem dX10_idle_8 : decode cX10_idle 8 = .ok (.getfield 67, 3) := by decide +kernel
theorem dX10_idle_11 : decode cX10_idle 11 = .ok (.aload_n 0, 1) := by decide +kernel
theorem dX10_idle_12 : decode cX10_idle 12 = .ok (.getfield 70, 3) := by decide +kernel
theorem dX10_idle_15 : decode cX10_idle 15 = .ok (.invokestatic 310, 3) := by decide +kernel
theorem dX10_idle_18 : decode cX10_idle 18 = .ok (.aload_n 0, 1) := by decide +kernel
theorem dX10_idle_19 : decode cX10_idle 19 = .ok (.aload_n 0, 1) := by decide +kernel
theorem dX10_idle_20 : decode cX10_idle 20 = .ok (.getfield 70, 3) := by decide +kernel
theorem dX10_idle_23 : decode cX10_idle 23 = .ok (.invokevirtual 280, 3) := by decide +kernel
theorem dX10_idle_26 : decode cX10_idle 26 = .ok (.iconst 0, 1) := by decide +kernel
theorem dX10_idle_27 : decode cX10_idle 27 = .ok (.istore_n 2, 1) := by decide +kernel
theorem dX10_idle_28 : decode cX10_idle 28 = .ok (.iload_n 2, 1) := by decide +kernel
theorem dX10_idle_29 : decode cX10_idle 29 = .ok (.aload_n 0, 1) := by decide +kernel
theorem dX10_idle_30 : decode cX10_idle 30 = .ok (.getfield 23, 3) := by decide +kernel
theorem dX10_idle_33 : decode cX10_idle 33 = .ok (.iconst 0, 1) := by decide +kernel
theorem dX10_idle_34 : decode cX10_idle 34 = .ok (.iaload, 1) := by decide +kernel
theorem dX10_idle_35 : decode cX10_idle 35 = .ok (.if_icmp .ge 40, 3) := by decide +kernel
theorem dX10_idle_38 : decode cX10_idle 38 = .ok (.iload_n 1, 1) := by decide +kernel
theorem dX10_idle_39 : decode cX10_idle 39 = .ok (.aload_n 0, 1) := by decide +kernel
theorem dX10_idle_40 : decode cX10_idle 40 = .ok (.getfield 70, 3) := by decide +kernel
theorem dX10_idle_43 : decode cX10_idle 43 = .ok (.bipush 14, 2) := by decide +kernel
theorem dX10_idle_45 : decode cX10_idle 45 = .ok (.iload_n 2, 1) := by decide +kernel
theorem dX10_idle_46 : decode cX10_idle 46 = .ok (.iadd, 1) := by decide +kernel
theorem dX10_idle_47 : decode cX10_idle 47 = .ok (.iaload, 1) := by decide +kernel
theorem dX10_idle_48 : decode cX10_idle 48 = .ok (.aload_n 0, 1) := by decide +kernel
theorem dX10_idle_49 : decode cX10_idle 49 = .ok (.getfield 67, 3) := by decide +kernel
theorem dX10_idle_52 : decode cX10_idle 52 = .ok (.bipush 14, 2) := by decide +kernel
theorem dX10_idle_54 : decode cX10_idle 54 = .ok (.iload_n 2, 1) := by decide +kernel
theorem dX10_idle_55 : decode cX10_idle 55 = .ok (.iadd, 1) := by decide +kernel
theorem dX10_idle_56 : decode cX10_idle 56 = .ok (.iaload, 1) := by decide +kernel
theorem dX10_idle_57 : decode cX10_idle 57 = .ok (.if_icmp .ne 9, 3) := by decide +kernel
theorem dX10_idle_60 : decode cX10_idle 60 = .ok (.iconst 1, 1) := by decide +kernel
theorem dX10_idle_61 : decode cX10_idle 61 = .ok (.iload_n 2, 1) := by decide +kernel
theorem dX10_idle_62 : decode cX10_idle 62 = .ok (.ishl, 1) := by decide +kernel
theorem dX10_idle_63 : decode cX10_idle 63 = .ok (.goto 4, 3) := by decide +kernel
theorem dX10_idle_66 : decode cX10_idle 66 = .ok (.iconst 0, 1) := by decide +kernel
theorem dX10_idle_67 : decode cX10_idle 67 = .ok (.ior, 1) := by decide +kernel
theorem dX10_idle_68 : decode cX10_idle 68 = .ok (.istore_n 1, 1) := by decide +kernel
theorem dX10_idle_69 : decode cX10_idle 69 = .ok (.iinc 2 1, 3) := by decide +kernel
theorem dX10_idle_72 : decode cX10_idle 72 = .ok (.goto (-44), 3) := by decide +kernel
theorem dX10_idle_75 : decode cX10_idle 75 = .ok (.iload_n 1, 1) := by decide +kernel
theorem dX10_idle_76 : decode cX10_idle 76 = .ok (.ireturn, 1) := by decide +kernel
theorem dX10_alone_0 : decode cX10_alone 0 = .ok (.aload_n 0, 1) := by decide +kernel
theorem dX10_alone_1 : decode cX10_alone 1 = .ok (.iconst 0, 1) := by decide +kernel
theorem dX10_alone_2 : decode cX10_alone 2 = .ok (.putfield 95, 3) := by decide +kernel
theorem dX10_alone_5 : decode cX10_alone 5 = .ok (.aload_n 0, 1) := by decide +kernel
theorem dX10_alone_6 : decode cX10_alone 6 = .ok (.iload_n 1, 1) := by decide +kernel
theorem dX10_alone_7 : decode cX10_alone 7 = .ok (.invokestatic 327, 3) := by decide +kernel
theorem dX10_alone_10 : decode cX10_alone 10 = .ok (.ifCond .ne 7, 3) := by decide +kernel
theorem dX10_alone_13 : decode cX10_alone 13 = .ok (.iconst 1, 1) := by decide +kernel
theorem dX10_alone_14 : decode cX10_alone 14 = .ok (.goto 4, 3) := by decide +kernel
theorem dX10_alone_17 : decode cX10_alone 17 = .ok (.iconst 0, 1) := by decide +kernel
theorem dX10_alone_18 : decode cX10_alone 18 = .ok (.iconst 1, 1) := by decide +kernel
theorem dX10_alone_19 : decode cX10_alone 19 = .ok (.iconst 1, 1) := by decide +kernel
theorem dX10_alone_20 : decode cX10_alone 20 = .ok (.invokevirtual 171, 3) := by decide +kernel
theorem dX10_alone_23 : decode cX10_alone 23 = .ok (.ifCond .eq 5, 3) := by decide +kernel
theorem dX10_alone_26 : decode cX10_alone 26 = .ok (.iconst 0, 1) := by decide +kernel
theorem dX10_alone_27 : decode cX10_alone 27 = .ok (.ireturn, 1) := by decide +kernel
theorem dX10_alone_28 : decode cX10_alone 28 = .ok (.iconst (-1), 1) := by decide +kernel
theorem dX10_alone_29 : decode cX10_alone 29 = .ok (.istore_n 2, 1) := by decide +kernel
theorem dX10_alone_30 : decode cX10_alone 30 = .ok (.iconst 0, 1) := by decide +kernel
theorem dX10_alone_31 : decode cX10_alone 31 = .ok (.istore_n 3, 1) := by decide +kernel
theorem dX10_alone_32 : decode cX10_alone 32 = .ok (.iconst 0, 1) := by decide +kernel
theorem dX10_alone_33 : decode cX10_alone 33 = .ok (.istore 4, 2) := by decide +kernel
theorem dX10_alone_35 : decode cX10_alone 35 = .ok (.iload 4, 2) := by decide +kernel
theorem dX10_alone_37 : decode cX10_alone 37 = .ok (.aload_n 0, 1) := by decide +kernel
theorem dX10_alone_38 : decode cX10_alone 38 = .ok (.getfield 23, 3) := by decide +kernel
theorem dX10_alone_41 : decode cX10_alone 41 = .ok (.iconst 0, 1) := by decide +kernel
theorem dX10_alone_42 : decode cX10_alone 42 = .ok (.iaload, 1) := by decide +kernel
theorem dX10_alone_43 : decode cX10_alone 43 = .ok (.if_icmp .ge 50, 3) := by decide +kernel
theorem dX10_alone_46 : decode cX10_alone 46 = .ok (.aload_n 0, 1) := by decide +kernel
theorem dX10_alone_47 : decode cX10_alone 47 = .ok (.getfield 31, 3) := by decide +kernel
theorem dX10_alone_50 : decode cX10_alone 50 = .ok (.iload 4, 2) := by decide +kernel
theorem dX10_alone_52 : decode cX10_alone 52 = .ok (.aaload, 1) := by decide +kernel
theorem dX10_alone_53 : decode cX10_alone 53 = .ok (.iconst 0, 1) := by decide +kernel
theorem dX10_alone_54 : decode cX10_alone 54 = .ok (.iaload, 1) := by decide +kernel
theorem dX10_alone_55 : decode cX10_alone 55 = .ok (.iload_n 1, 1) := by decide +kernel
theorem dX10_alone_56 : decode cX10_alone 56 = .ok (.if_icmp .ne 8, 3) := by decide +kernel
theorem dX10_alone_59 : decode cX10_alone 59 = .ok (.iload 4, 2) := by decide +kernel
theorem dX10_alone_61 : decode cX10_alone 61 = .ok (.goto 4, 3) := by decide +kernel
theorem dX10_alone_64 : decode cX10_alone 64 = .ok (.iload_n 2, 1) := by decide +kernel
theorem dX10_alone_65 : decode cX10_alone 65 = .ok (.istore_n 2, 1) := by decide +kernel
theorem dX10_alone_66 : decode cX10_alone 66 = .ok (.iload_n 3, 1) := by decide +kernel
theorem dX10_alone_67 : decode cX10_alone 67 = .ok (.aload_n 0, 1) := by decide +kernel
theorem dX10_alone_68 : decode cX10_alone 68 = .ok (.getfield 31, 3) := by decide +kernel
theorem dX10_alone_71 : decode cX10_alone 71 = .ok (.iload 4, 2) := by decide +kernel
theorem dX10_alone_73 : decode cX10_alone 73 = .ok (.aaload, 1) := by decide +kernel
theorem dX10_alone_74 : decode cX10_alone 74 = .ok (.iconst 0, 1) := by decide +kernel
theorem dX10_alone_75 : decode cX10_alone 75 = .ok (.iaload, 1) := by decide +kernel
theorem dX10_alone_76 : decode cX10_alone 76 = .ok (.iload_n 1, 1) := by decide +kernel
theorem dX10_alone_77 : decode cX10_alone 77 = .ok (.if_icmp .ne 7, 3) := by decide +kernel
theorem dX10_alone_80 : decode cX10_alone 80 = .ok (.iconst 1, 1) := by decide +kernel
theorem dX10_alone_81 : decode cX10_alone 81 = .ok (.goto 4, 3) := by decide +kernel
theorem dX10_alone_84 : decode cX10_alone 84 = .ok (.iconst 0, 1) := by decide +kernel
theorem dX10_alone_85 : decode cX10_alone 85 = .ok (.iadd, 1) := by decide +kernel
theorem dX10_alone_86 : decode cX10_alone 86 = .ok (.istore_n 3, 1) := by decide +kernel
theorem dX10_alone_87 : decode cX10_alone 87 = .ok (.iinc 4 1, 3) := by decide +kernel
theorem dX10_alone_90 : decode cX10_alone 90 = .ok (.goto (-55), 3) := by decide +kernel
theorem dX10_alone_93 : decode cX10_alone 93 = .ok (.iload_n 3, 1) := by decide +kernel
theorem dX10_alone_94 : decode cX10_alone 94 = .ok (.iconst 1, 1) := by decide +kernel
theorem dX10_alone_95 : decode cX10_alone 95 = .ok (.if_icmp .ne 7, 3) := by decide +kernel
theorem dX10_alone_98 : decode cX10_alone 98 = .ok (.iload_n 2, 1) := by decide +kernel
theorem dX10_alone_99 : decode cX10_alone 99 = .ok (.goto 4, 3) := by decide +kernel
theorem dX10_alone_102 : decode cX10_alone 102 = .ok (.iconst (-1), 1) := by decide +kernel
theorem dX10_alone_103 : decode cX10_alone 103 = .ok (.ireturn, 1) := by decide +kernel
theorem dX10_longest_0 : decode cX10_longest 0 = .ok (.aload_n 0, 1) := by decide +kernel
theorem dX10_longest_1 : decode cX10_longest 1 = .ok (.iconst 0, 1) := by decide +kernel
theorem dX10_longest_2 : decode cX10_longest 2 = .ok (.putfield 95, 3) := by decide +kernel
theorem dX10_longest_5 : decode cX10_longest 5 = .ok (.aload_n 0, 1) := by decide +kernel
theorem dX10_longest_6 : decode cX10_longest 6 = .ok (.iload_n 1, 1) := by decide +kernel
theorem dX10_longest_7 : decode cX10_longest 7 = .ok (.iconst 0, 1) := by decide +kernel
theorem dX10_longest_8 : decode cX10_longest 8 = .ok (.iconst 1, 1) := by decide +kernel
theorem dX10_longest_9 : decode cX10_longest 9 = .ok (.invokestatic 129, 3) := by decide +kernel
theorem dX10_longest_12 : decode cX10_longest 12 = .ok (.ifCond .ne 7, 3) := by decide +kernel
theorem dX10_longest_15 : decode cX10_longest 15 = .ok (.iconst 1, 1) := by decide +kernel
theorem dX10_longest_16 : decode cX10_longest 16 = .ok (.goto 4, 3) := by decide +kernel
theorem dX10_longest_19 : decode cX10_longest 19 = .ok (.iconst 0, 1) := by decide +kernel
theorem dX10_longest_20 : decode cX10_longest 20 = .ok (.iconst 1, 1) := by decide +kernel
theorem dX10_longest_21 : decode cX10_longest 21 = .ok (.iconst 1, 1) := by decide +kernel
theorem dX10_longest_22 : decode cX10_longest 22 = .ok (.invokevirtual 171, 3) := by decide +kernel
theorem dX10_longest_25 : decode cX10_longest 25 = .ok (.ifCond .eq 5, 3) := by decide +kernel
theorem dX10_longest_28 : decode cX10_longest 28 = .ok (.iconst 0, 1) := by decide +kernel
theorem dX10_longest_29 : decode cX10_longest 29 = .ok (.ireturn, 1) := by decide +kernel
theorem dX10_longest_30 : decode cX10_longest 30 = .ok (.iconst (-1), 1) := by decide +kernel
theorem dX10_longest_31 : decode cX10_longest 31 = .ok (.istore_n 2, 1) := by decide +kernel
theorem dX10_longest_32 : decode cX10_longest 32 = .ok (.iconst 0, 1) := by decide +kernel
theorem dX10_longest_33 : decode cX10_longest 33 = .ok (.istore_n 3, 1) := by decide +kernel
theorem dX10_longest_34 : decode cX10_longest 34 = .ok (.iload_n 3, 1) := by decide +kernel
theorem dX10_longest_35 : decode cX10_longest 35 = .ok (.aload_n 0, 1) := by decide +kernel
theorem dX10_longest_36 : decode cX10_longest 36 = .ok (.getfield 23, 3) := by decide +kernel
theorem dX10_longest_39 : decode cX10_longest 39 = .ok (.iconst 1, 1) := by decide +kernel
theorem dX10_longest_40 : decode cX10_longest 40 = .ok (.iaload, 1) := by decide +kernel
theorem dX10_longest_41 : decode cX10_longest 41 = .ok (.if_icmp .ge 39, 3) := by decide +kernel
theorem dX10_longest_44 : decode cX10_longest 44 = .ok (.iload_n 2, 1) := by decide +kernel
theorem dX10_longest_45 : decode cX10_longest 45 = .ok (.iconst (-1), 1) := by decide +kernel
theorem dX10_longest_46 : decode cX10_longest 46 = .ok (.if_icmp .eq 22, 3) := by decide +kernel
theorem dX10_longest_49 : decode cX10_longest 49 = .ok (.aload_n 0, 1) := by decide +kernel
theorem dX10_longest_50 : decode cX10_longest 50 = .ok (.getfield 37, 3) := by decide +kernel
theorem dX10_longest_53 : decode cX10_longest 53 = .ok (.iload_n 3, 1) := by decide +kernel
theorem dX10_longest_54 : decode cX10_longest 54 = .ok (.aaload, 1) := by decide +kernel
theorem dX10_longest_55 : decode cX10_longest 55 = .ok (.iconst 1, 1) := by decide +kernel
theorem dX10_longest_56 : decode cX10_longest 56 = .ok (.iaload, 1) := by decide +kernel
theorem dX10_longest_57 : decode cX10_longest 57 = .ok (.aload_n 0, 1) := by decide +kernel
theorem dX10_longest_58 : decode cX10_longest 58 = .ok (.getfield 37, 3) := by decide +kernel
theorem dX10_longest_61 : decode cX10_longest 61 = .ok (.iload_n 2, 1) := by decide +kernel
theorem dX10_longest_62 : decode cX10_longest 62 = .ok (.aaload, 1) := by decide +kernel
theorem dX10_longest_63 : decode cX10_longest 63 = .ok (.iconst 1, 1) := by decide +kernel
theorem dX10_longest_64 : decode cX10_longest 64 = .ok (.iaload, 1) := by decide +kernel
theorem dX10_longest_65 : decode cX10_longest 65 = .ok (.if_icmp .le 7, 3) := by decide +kernel
theorem dX10_longest_68 : decode cX10_longest 68 = .ok (.iload_n 3, 1) := by decide +kernel
theorem dX10_longest_69 : decode cX10_longest 69 = .ok (.goto 4, 3) := by decide +kernel
theorem dX10_longest_72 : decode cX10_longest 72 = .ok (.iload_n 2, 1) := by decide +kernel
theorem dX10_longest_73 : decode cX10_longest 73 = .ok (.istore_n 2, 1) := by decide +kernel
theorem dX10_longest_74 : decode cX10_longest 74 = .ok (.iinc 3 1, 3) := by decide +kernel
theorem dX10_longest_77 : decode cX10_longest 77 = .ok (.goto (-43), 3) := by decide +kernel
theorem dX10_longest_80 : decode cX10_longest 80 = .ok (.iload_n 1, 1) := by decide +kernel
theorem dX10_longest_81 : decode cX10_longest 81 = .ok (.ifCond .eq 8, 3) := by decide +kernel
theorem dX10_longest_84 : decode cX10_longest 84 = .ok (.iload_n 2, 1) := by decide +kernel
theorem dX10_longest_85 : decode cX10_longest 85 = .ok (.iconst (-1), 1) := by decide +kernel
theorem dX10_longest_86 : decode cX10_longest 86 = .ok (.if_icmp .ne 7, 3) := by decide +kernel
theorem dX10_longest_89 : decode cX10_longest 89 = .ok (.iload_n 2, 1) := by decide +kernel
theorem dX10_longest_90 : decode cX10_longest 90 = .ok (.goto 11, 3) := by decide +kernel
theorem dX10_longest_93 : decode cX10_longest 93 = .ok (.aload_n 0, 1) := by decide +kernel
theorem dX10_longest_94 : decode cX10_longest 94 = .ok (.getfield 37, 3) := by decide +kernel
theorem dX10_longest_97 : decode cX10_longest 97 = .ok (.iload_n 2, 1) := by decide +kernel
theorem dX10_longest_98 : decode cX10_longest 98 = .ok (.aaload, 1) := by decide +kernel
theorem dX10_longest_99 : decode cX10_longest 99 = .ok (.iconst 1, 1) := by decide +kernel
theorem dX10_longest_100 : decode cX10_longest 100 = .ok (.iaload, 1) := by decide +kernel
theorem dX10_longest_101 : decode cX10_longest 101 = .ok (.ireturn, 1) := by decide +kernel
theorem dX10_chorus_0 : decode cX10_chorus 0 = .ok (.aload_n 0, 1) := by decide +kernel
theorem dX10_chorus_1 : decode cX10_chorus 1 = .ok (.iconst 0, 1) := by decide +kernel
theorem dX10_chorus_2 : decode cX10_chorus 2 = .ok (.putfield 95, 3) := by decide +kernel
theorem dX10_chorus_5 : decode cX10_chorus 5 = .ok (.aload_n 0, 1) := by decide +kernel
theorem dX10_chorus_6 : decode cX10_chorus 6 = .ok (.iload_n 1, 1) := by decide +kernel
theorem dX10_chorus_7 : decode cX10_chorus 7 = .ok (.iconst 0, 1) := by decide +kernel
theorem dX10_chorus_8 : decode cX10_chorus 8 = .ok (.aload_n 0, 1) := by decide +kernel
theorem dX10_chorus_9 : decode cX10_chorus 9 = .ok (.invokevirtual 330, 3) := by decide +kernel
theorem dX10_chorus_12 : decode cX10_chorus 12 = .ok (.invokestatic 129, 3) := by decide +kernel
theorem dX10_chorus_15 : decode cX10_chorus 15 = .ok (.ifCond .ne 7, 3) := by decide +kernel
theorem dX10_chorus_18 : decode cX10_chorus 18 = .ok (.iconst 1, 1) := by decide +kernel
theorem dX10_chorus_19 : decode cX10_chorus 19 = .ok (.goto 4, 3) := by decide +kernel
theorem dX10_chorus_22 : decode cX10_chorus 22 = .ok (.iconst 0, 1) := by decide +kernel
theorem dX10_chorus_23 : decode cX10_chorus 23 = .ok (.iconst 1, 1) := by decide +kernel
theorem dX10_chorus_24 : decode cX10_chorus 24 = .ok (.iconst 1, 1) := by decide +kernel
theorem dX10_chorus_25 : decode cX10_chorus 25 = .ok (.invokevirtual 171, 3) := by decide +kernel
theorem dX10_chorus_28 : decode cX10_chorus 28 = .ok (.ifCond .eq 5, 3) := by decide +kernel
theorem dX10_chorus_31 : decode cX10_chorus 31 = .ok (.iconst 0, 1) := by decide +kernel
theorem dX10_chorus_32 : decode cX10_chorus 32 = .ok (.ireturn, 1) := by decide +kernel
theorem dX10_chorus_33 : decode cX10_chorus 33 = .ok (.aload_n 0, 1) := by decide +kernel
theorem dX10_chorus_34 : decode cX10_chorus 34 = .ok (.getfield 67, 3) := by decide +kernel
theorem dX10_chorus_37 : decode cX10_chorus 37 = .ok (.aload_n 0, 1) := by decide +kernel
theorem dX10_chorus_38 : decode cX10_chorus 38 = .ok (.getfield 70, 3) := by decide +kernel
theorem dX10_chorus_41 : decode cX10_chorus 41 = .ok (.invokestatic 310, 3) := by decide +kernel
theorem dX10_chorus_44 : decode cX10_chorus 44 = .ok (.aload_n 0, 1) := by decide +kernel
theorem dX10_chorus_45 : decode cX10_chorus 45 = .ok (.iload_n 1, 1) := by decide +kernel
theorem dX10_chorus_46 : decode cX10_chorus 46 = .ok (.invokevirtual 339, 3) := by decide +kernel
theorem dX10_chorus_49 : decode cX10_chorus 49 = .ok (.aload_n 0, 1) := by decide +kernel
theorem dX10_chorus_50 : decode cX10_chorus 50 = .ok (.aload_n 0, 1) := by decide +kernel
theorem dX10_chorus_51 : decode cX10_chorus 51 = .ok (.getfield 70, 3) := by decide +kernel
theorem dX10_chorus_54 : decode cX10_chorus 54 = .ok (.invokevirtual 280, 3) := by decide +kernel
theorem dX10_chorus_57 : decode cX10_chorus 57 = .ok (.aload_n 0, 1) := by decide +kernel
theorem dX10_chorus_58 : decode cX10_chorus 58 = .ok (.aload_n 0, 1) := by decide +kernel
theorem dX10_chorus_59 : decode cX10_chorus 59 = .ok (.getfield 70, 3) := by decide +kernel
theorem dX10_chorus_62 : decode cX10_chorus 62 = .ok (.bipush 14, 2) := by decide +kernel
theorem dX10_chorus_64 : decode cX10_chorus 64 = .ok (.invokevirtual 318, 3) := by decide +kernel
theorem dX10_chorus_67 : decode cX10_chorus 67 = .ok (.aload_n 0, 1) := by decide +kernel
theorem dX10_chorus_68 : decode cX10_chorus 68 = .ok (.aload_n 0, 1) := by decide +kernel
theorem dX10_chorus_69 : decode cX10_chorus 69 = .ok (.getfield 67, 3) := by decide +kernel
theorem dX10_chorus_72 : decode cX10_chorus 72 = .ok (.bipush 14, 2) := by decide +kernel
theorem dX10_chorus_74 : decode cX10_chorus 74 = .ok (.invokevirtual 318, 3) := by decide +kernel
theorem dX10_chorus_77 : decode cX10_chorus 77 = .ok (.isub, 1) := by decide +kernel
theorem dX10_chorus_78 : decode cX10_chorus 78 = .ok (.ireturn, 1) := by decide +kernel
theorem dX10_spare_0 : decode cX10_spare 0 = .ok (.aload_n 0, 1) := by decide +kernel
theorem dX10_spare_1 : decode cX10_spare 1 = .ok (.iconst 0, 1) := by decide +kernel
theorem dX10_spare_2 : decode cX10_spare 2 = .ok (.putfield 95, 3) := by decide +kernel
theorem dX10_spare_5 : decode cX10_spare 5 = .ok (.aload_n 0, 1) := by decide +kernel
theorem dX10_spare_6 : decode cX10_spare 6 = .ok (.iload_n 1, 1) := by decide +kernel
theorem dX10_spare_7 : decode cX10_spare 7 = .ok (.iconst 0, 1) := by decide +kernel
theorem dX10_spare_8 : decode cX10_spare 8 = .ok (.iconst 1, 1) := by decide +kernel
theorem dX10_spare_9 : decode cX10_spare 9 = .ok (.invokestatic 129, 3) := by decide +kernel
theorem dX10_spare_12 : decode cX10_spare 12 = .ok (.ifCond .ne 7, 3) := by decide +kernel
theorem dX10_spare_15 : decode cX10_spare 15 = .ok (.iconst 1, 1) := by decide +kernel
theorem dX10_spare_16 : decode cX10_spare 16 = .ok (.goto 4, 3) := by decide +kernel
theorem dX10_spare_19 : decode cX10_spare 19 = .ok (.iconst 0, 1) := by decide +kernel
theorem dX10_spare_20 : decode cX10_spare 20 = .ok (.iconst 1, 1) := by decide +kernel
theorem dX10_spare_21 : decode cX10_spare 21 = .ok (.iconst 1, 1) := by decide +kernel
theorem dX10_spare_22 : decode cX10_spare 22 = .ok (.invokevirtual 171, 3) := by decide +kernel
theorem dX10_spare_25 : decode cX10_spare 25 = .ok (.ifCond .eq 5, 3) := by decide +kernel
theorem dX10_spare_28 : decode cX10_spare 28 = .ok (.iconst 0, 1) := by decide +kernel
theorem dX10_spare_29 : decode cX10_spare 29 = .ok (.ireturn, 1) := by decide +kernel
theorem dX10_spare_30 : decode cX10_spare 30 = .ok (.iconst (-1), 1) := by decide +kernel
theorem dX10_spare_31 : decode cX10_spare 31 = .ok (.istore_n 2, 1) := by decide +kernel
theorem dX10_spare_32 : decode cX10_spare 32 = .ok (.iconst 0, 1) := by decide +kernel
theorem dX10_spare_33 : decode cX10_spare 33 = .ok (.istore_n 3, 1) := by decide +kernel
theorem dX10_spare_34 : decode cX10_spare 34 = .ok (.iload_n 3, 1) := by decide +kernel
theorem dX10_spare_35 : decode cX10_spare 35 = .ok (.aload_n 0, 1) := by decide +kernel
theorem dX10_spare_36 : decode cX10_spare 36 = .ok (.getfield 23, 3) := by decide +kernel
theorem dX10_spare_39 : decode cX10_spare 39 = .ok (.iconst 0, 1) := by decide +kernel
theorem dX10_spare_40 : decode cX10_spare 40 = .ok (.iaload, 1) := by decide +kernel
theorem dX10_spare_41 : decode cX10_spare 41 = .ok (.if_icmp .ge 39, 3) := by decide +kernel
theorem dX10_spare_44 : decode cX10_spare 44 = .ok (.iload_n 2, 1) := by decide +kernel
theorem dX10_spare_45 : decode cX10_spare 45 = .ok (.iconst (-1), 1) := by decide +kernel
theorem dX10_spare_46 : decode cX10_spare 46 = .ok (.if_icmp .eq 22, 3) := by decide +kernel
theorem dX10_spare_49 : decode cX10_spare 49 = .ok (.aload_n 0, 1) := by decide +kernel
theorem dX10_spare_50 : decode cX10_spare 50 = .ok (.getfield 67, 3) := by decide +kernel
theorem dX10_spare_53 : decode cX10_spare 53 = .ok (.iconst 0, 1) := by decide +kernel
theorem dX10_spare_54 : decode cX10_spare 54 = .ok (.iload_n 3, 1) := by decide +kernel
theorem dX10_spare_55 : decode cX10_spare 55 = .ok (.iadd, 1) := by decide +kernel
theorem dX10_spare_56 : decode cX10_spare 56 = .ok (.iaload, 1) := by decide +kernel
theorem dX10_spare_57 : decode cX10_spare 57 = .ok (.aload_n 0, 1) := by decide +kernel
theorem dX10_spare_58 : decode cX10_spare 58 = .ok (.getfield 67, 3) := by decide +kernel
theorem dX10_spare_61 : decode cX10_spare 61 = .ok (.iconst 0, 1) := by decide +kernel
theorem dX10_spare_62 : decode cX10_spare 62 = .ok (.iload_n 2, 1) := by decide +kernel
theorem dX10_spare_63 : decode cX10_spare 63 = .ok (.iadd, 1) := by decide +kernel
theorem dX10_spare_64 : decode cX10_spare 64 = .ok (.iaload, 1) := by decide +kernel
theorem dX10_spare_65 : decode cX10_spare 65 = .ok (.if_icmp .ge 7, 3) := by decide +kernel
theorem dX10_spare_68 : decode cX10_spare 68 = .ok (.iload_n 3, 1) := by decide +kernel
theorem dX10_spare_69 : decode cX10_spare 69 = .ok (.goto 4, 3) := by decide +kernel
theorem dX10_spare_72 : decode cX10_spare 72 = .ok (.iload_n 2, 1) := by decide +kernel
theorem dX10_spare_73 : decode cX10_spare 73 = .ok (.istore_n 2, 1) := by decide +kernel
theorem dX10_spare_74 : decode cX10_spare 74 = .ok (.iinc 3 1, 3) := by decide +kernel
theorem dX10_spare_77 : decode cX10_spare 77 = .ok (.goto (-43), 3) := by decide +kernel
theorem dX10_spare_80 : decode cX10_spare 80 = .ok (.iload_n 1, 1) := by decide +kernel
theorem dX10_spare_81 : decode cX10_spare 81 = .ok (.ifCond .eq 8, 3) := by decide +kernel
theorem dX10_spare_84 : decode cX10_spare 84 = .ok (.iload_n 2, 1) := by decide +kernel
theorem dX10_spare_85 : decode cX10_spare 85 = .ok (.iconst (-1), 1) := by decide +kernel
theorem dX10_spare_86 : decode cX10_spare 86 = .ok (.if_icmp .ne 7, 3) := by decide +kernel
theorem dX10_spare_89 : decode cX10_spare 89 = .ok (.iload_n 2, 1) := by decide +kernel
theorem dX10_spare_90 : decode cX10_spare 90 = .ok (.goto 11, 3) := by decide +kernel
theorem dX10_spare_93 : decode cX10_spare 93 = .ok (.aload_n 0, 1) := by decide +kernel
theorem dX10_spare_94 : decode cX10_spare 94 = .ok (.getfield 67, 3) := by decide +kernel
theorem dX10_spare_97 : decode cX10_spare 97 = .ok (.iconst 0, 1) := by decide +kernel
theorem dX10_spare_98 : decode cX10_spare 98 = .ok (.iload_n 2, 1) := by decide +kernel
theorem dX10_spare_99 : decode cX10_spare 99 = .ok (.iadd, 1) := by decide +kernel
theorem dX10_spare_100 : decode cX10_spare 100 = .ok (.iaload, 1) := by decide +kernel
theorem dX10_spare_101 : decode cX10_spare 101 = .ok (.ireturn, 1) := by decide +kernel
theorem dX10_draw_0 : decode cX10_draw 0 = .ok (.aload_n 0, 1) := by decide +kernel
theorem dX10_draw_1 : decode cX10_draw 1 = .ok (.aload_n 0, 1) := by decide +kernel
theorem dX10_draw_2 : decode cX10_draw 2 = .ok (.getfield 375, 3) := by decide +kernel
theorem dX10_draw_5 : decode cX10_draw 5 = .ok (.ldc_w 378, 3) := by decide +kernel
theorem dX10_draw_8 : decode cX10_draw 8 = .ok (.imul, 1) := by decide +kernel
theorem dX10_draw_9 : decode cX10_draw 9 = .ok (.sipush 12345, 3) := by decide +kernel
theorem dX10_draw_12 : decode cX10_draw 12 = .ok (.iadd, 1) := by decide +kernel
theorem dX10_draw_13 : decode cX10_draw 13 = .ok (.putfield 375, 3) := by decide +kernel
theorem dX10_draw_16 : decode cX10_draw 16 = .ok (.aload_n 0, 1) := by decide +kernel
theorem dX10_draw_17 : decode cX10_draw 17 = .ok (.getfield 375, 3) := by decide +kernel
theorem dX10_draw_20 : decode cX10_draw 20 = .ok (.bipush 16, 2) := by decide +kernel
theorem dX10_draw_22 : decode cX10_draw 22 = .ok (.ishr, 1) := by decide +kernel
theorem dX10_draw_23 : decode cX10_draw 23 = .ok (.sipush 32767, 3) := by decide +kernel
theorem dX10_draw_26 : decode cX10_draw 26 = .ok (.iand, 1) := by decide +kernel
theorem dX10_draw_27 : decode cX10_draw 27 = .ok (.iload_n 1, 1) := by decide +kernel
theorem dX10_draw_28 : decode cX10_draw 28 = .ok (.irem, 1) := by decide +kernel
theorem dX10_draw_29 : decode cX10_draw 29 = .ok (.ireturn, 1) := by decide +kernel
theorem dX10_sundayBy_0 : decode cX10_sundayBy 0 = .ok (.aload_n 0, 1) := by decide +kernel
theorem dX10_sundayBy_1 : decode cX10_sundayBy 1 = .ok (.getfield 67, 3) := by decide +kernel
theorem dX10_sundayBy_4 : decode cX10_sundayBy 4 = .ok (.aload_n 0, 1) := by decide +kernel
theorem dX10_sundayBy_5 : decode cX10_sundayBy 5 = .ok (.getfield 70, 3) := by decide +kernel
theorem dX10_sundayBy_8 : decode cX10_sundayBy 8 = .ok (.invokestatic 310, 3) := by decide +kernel
theorem dX10_sundayBy_11 : decode cX10_sundayBy 11 = .ok (.aload_n 0, 1) := by decide +kernel
theorem dX10_sundayBy_12 : decode cX10_sundayBy 12 = .ok (.iload_n 1, 1) := by decide +kernel
theorem dX10_sundayBy_13 : decode cX10_sundayBy 13 = .ok (.putfield 375, 3) := by decide +kernel
theorem dX10_sundayBy_16 : decode cX10_sundayBy 16 = .ok (.iconst 0, 1) := by decide +kernel
theorem dX10_sundayBy_17 : decode cX10_sundayBy 17 = .ok (.istore 4, 2) := by decide +kernel
theorem dX10_sundayBy_19 : decode cX10_sundayBy 19 = .ok (.iload 4, 2) := by decide +kernel
theorem dX10_sundayBy_21 : decode cX10_sundayBy 21 = .ok (.iload_n 2, 1) := by decide +kernel
theorem dX10_sundayBy_22 : decode cX10_sundayBy 22 = .ok (.if_icmp .ge 121, 3) := by decide +kernel
theorem dX10_sundayBy_25 : decode cX10_sundayBy 25 = .ok (.aload_n 0, 1) := by decide +kernel
theorem dX10_sundayBy_26 : decode cX10_sundayBy 26 = .ok (.getfield 23, 3) := by decide +kernel
theorem dX10_sundayBy_29 : decode cX10_sundayBy 29 = .ok (.iconst 0, 1) := by decide +kernel
theorem dX10_sundayBy_30 : decode cX10_sundayBy 30 = .ok (.iaload, 1) := by decide +kernel
theorem dX10_sundayBy_31 : decode cX10_sundayBy 31 = .ok (.ifCond .le 16, 3) := by decide +kernel
theorem dX10_sundayBy_34 : decode cX10_sundayBy 34 = .ok (.aload_n 0, 1) := by decide +kernel
theorem dX10_sundayBy_35 : decode cX10_sundayBy 35 = .ok (.aload_n 0, 1) := by decide +kernel
theorem dX10_sundayBy_36 : decode cX10_sundayBy 36 = .ok (.getfield 23, 3) := by decide +kernel
theorem dX10_sundayBy_39 : decode cX10_sundayBy 39 = .ok (.iconst 0, 1) := by decide +kernel
theorem dX10_sundayBy_40 : decode cX10_sundayBy 40 = .ok (.iaload, 1) := by decide +kernel
theorem dX10_sundayBy_41 : decode cX10_sundayBy 41 = .ok (.invokevirtual 379, 3) := by decide +kernel
theorem dX10_sundayBy_44 : decode cX10_sundayBy 44 = .ok (.goto 4, 3) := by decide +kernel
theorem dX10_sundayBy_47 : decode cX10_sundayBy 47 = .ok (.iconst 0, 1) := by decide +kernel
theorem dX10_sundayBy_48 : decode cX10_sundayBy 48 = .ok (.istore 5, 2) := by decide +kernel
theorem dX10_sundayBy_50 : decode cX10_sundayBy 50 = .ok (.aload_n 0, 1) := by decide +kernel
theorem dX10_sundayBy_51 : decode cX10_sundayBy 51 = .ok (.getfield 70, 3) := by decide +kernel
theorem dX10_sundayBy_54 : decode cX10_sundayBy 54 = .ok (.bipush 7, 2) := by decide +kernel
theorem dX10_sundayBy_56 : decode cX10_sundayBy 56 = .ok (.iload 5, 2) := by decide +kernel
theorem dX10_sundayBy_58 : decode cX10_sundayBy 58 = .ok (.iadd, 1) := by decide +kernel
theorem dX10_sundayBy_59 : decode cX10_sundayBy 59 = .ok (.aload_n 0, 1) := by decide +kernel
theorem dX10_sundayBy_60 : decode cX10_sundayBy 60 = .ok (.getfield 23, 3) := by decide +kernel
theorem dX10_sundayBy_63 : decode cX10_sundayBy 63 = .ok (.iconst 0, 1) := by decide +kernel
theorem dX10_sundayBy_64 : decode cX10_sundayBy 64 = .ok (.iaload, 1) := by decide +kernel
theorem dX10_sundayBy_65 : decode cX10_sundayBy 65 = .ok (.ifCond .le 18, 3) := by decide +kernel
theorem dX10_sundayBy_68 : decode cX10_sundayBy 68 = .ok (.iconst 1, 1) := by decide +kernel
theorem dX10_sundayBy_69 : decode cX10_sundayBy 69 = .ok (.aload_n 0, 1) := by decide +kernel
theorem dX10_sundayBy_70 : decode cX10_sundayBy 70 = .ok (.getfield 70, 3) := by decide +kernel
theorem dX10_sundayBy_73 : decode cX10_sundayBy 73 = .ok (.bipush 7, 2) := by decide +kernel
theorem dX10_sundayBy_75 : decode cX10_sundayBy 75 = .ok (.iload 5, 2) := by decide +kernel
theorem dX10_sundayBy_77 : decode cX10_sundayBy 77 = .ok (.iadd, 1) := by decide +kernel
theorem dX10_sundayBy_78 : decode cX10_sundayBy 78 = .ok (.iaload, 1) := by decide +kernel
theorem dX10_sundayBy_79 : decode cX10_sundayBy 79 = .ok (.isub, 1) := by decide +kernel
theorem dX10_sundayBy_80 : decode cX10_sundayBy 80 = .ok (.goto 4, 3) := by decide +kernel
theorem dX10_sundayBy_83 : decode cX10_sundayBy 83 = .ok (.iconst 0, 1) := by decide +kernel
theorem dX10_sundayBy_84 : decode cX10_sundayBy 84 = .ok (.iastore, 1) := by decide +kernel
theorem dX10_sundayBy_85 : decode cX10_sundayBy 85 = .ok (.aload_n 0, 1) := by decide +kernel
theorem dX10_sundayBy_86 : decode cX10_sundayBy 86 = .ok (.aload_n 0, 1) := by decide +kernel
theorem dX10_sundayBy_87 : decode cX10_sundayBy 87 = .ok (.getfield 70, 3) := by decide +kernel
theorem dX10_sundayBy_90 : decode cX10_sundayBy 90 = .ok (.invokevirtual 280, 3) := by decide +kernel
theorem dX10_sundayBy_93 : decode cX10_sundayBy 93 = .ok (.aload_n 0, 1) := by decide +kernel
theorem dX10_sundayBy_94 : decode cX10_sundayBy 94 = .ok (.getfield 23, 3) := by decide +kernel
theorem dX10_sundayBy_97 : decode cX10_sundayBy 97 = .ok (.iconst 0, 1) := by decide +kernel
theorem dX10_sundayBy_98 : decode cX10_sundayBy 98 = .ok (.iaload, 1) := by decide +kernel
theorem dX10_sundayBy_99 : decode cX10_sundayBy 99 = .ok (.ifCond .le 30, 3) := by decide +kernel
theorem dX10_sundayBy_102 : decode cX10_sundayBy 102 = .ok (.aload_n 0, 1) := by decide +kernel
theorem dX10_sundayBy_103 : decode cX10_sundayBy 103 = .ok (.bipush 16, 2) := by decide +kernel
theorem dX10_sundayBy_105 : decode cX10_sundayBy 105 = .ok (.invokevirtual 379, 3) := by decide +kernel
theorem dX10_sundayBy_108 : decode cX10_sundayBy 108 = .ok (.iload_n 3, 1) := by decide +kernel
theorem dX10_sundayBy_109 : decode cX10_sundayBy 109 = .ok (.if_icmp .ge 20, 3) := by decide +kernel
theorem dX10_sundayBy_112 : decode cX10_sundayBy 112 = .ok (.aload_n 0, 1) := by decide +kernel
theorem dX10_sundayBy_113 : decode cX10_sundayBy 113 = .ok (.aload_n 0, 1) := by decide +kernel
theorem dX10_sundayBy_114 : decode cX10_sundayBy 114 = .ok (.getfield 70, 3) := by decide +kernel
theorem dX10_sundayBy_117 : decode cX10_sundayBy 117 = .ok (.invokevirtual 283, 3) := by decide +kernel
theorem dX10_sundayBy_120 : decode cX10_sundayBy 120 = .ok (.pop, 1) := by decide +kernel
theorem dX10_sundayBy_121 : decode cX10_sundayBy 121 = .ok (.aload_n 0, 1) := by decide +kernel
theorem dX10_sundayBy_122 : decode cX10_sundayBy 122 = .ok (.aload_n 0, 1) := by decide +kernel
theorem dX10_sundayBy_123 : decode cX10_sundayBy 123 = .ok (.getfield 70, 3) := by decide +kernel
theorem dX10_sundayBy_126 : decode cX10_sundayBy 126 = .ok (.invokevirtual 280, 3) := by decide +kernel
theorem dX10_sundayBy_129 : decode cX10_sundayBy 129 = .ok (.aload_n 0, 1) := by decide +kernel
theorem dX10_sundayBy_130 : decode cX10_sundayBy 130 = .ok (.aload_n 0, 1) := by decide +kernel
theorem dX10_sundayBy_131 : decode cX10_sundayBy 131 = .ok (.getfield 70, 3) := by decide +kernel
theorem dX10_sundayBy_134 : decode cX10_sundayBy 134 = .ok (.invokevirtual 294, 3) := by decide +kernel
theorem dX10_sundayBy_137 : decode cX10_sundayBy 137 = .ok (.iinc 4 1, 3) := by decide +kernel
theorem dX10_sundayBy_140 : decode cX10_sundayBy 140 = .ok (.goto (-121), 3) := by decide +kernel
theorem dX10_sundayBy_143 : decode cX10_sundayBy 143 = .ok (.return_, 1) := by decide +kernel
theorem dX10_isSunday_0 : decode cX10_isSunday 0 = .ok (.iload_n 0, 1) := by decide +kernel
theorem dX10_isSunday_1 : decode cX10_isSunday 1 = .ok (.iconst 1, 1) := by decide +kernel
theorem dX10_isSunday_2 : decode cX10_isSunday 2 = .ok (.bipush 48, 2) := by decide +kernel
theorem dX10_isSunday_4 : decode cX10_isSunday 4 = .ok (.invokestatic 129, 3) := by decide +kernel
theorem dX10_isSunday_7 : decode cX10_isSunday 7 = .ok (.ifCond .eq 17, 3) := by decide +kernel
theorem dX10_isSunday_10 : decode cX10_isSunday 10 = .ok (.iload_n 1, 1) := by decide +kernel
theorem dX10_isSunday_11 : decode cX10_isSunday 11 = .ok (.iconst 0, 1) := by decide +kernel
theorem dX10_isSunday_12 : decode cX10_isSunday 12 = .ok (.bipush 16, 2) := by decide +kernel
theorem dX10_isSunday_14 : decode cX10_isSunday 14 = .ok (.invokestatic 129, 3) := by decide +kernel
theorem dX10_isSunday_17 : decode cX10_isSunday 17 = .ok (.ifCond .eq 7, 3) := by decide +kernel
theorem dX10_isSunday_20 : decode cX10_isSunday 20 = .ok (.iconst 1, 1) := by decide +kernel
theorem dX10_isSunday_21 : decode cX10_isSunday 21 = .ok (.goto 4, 3) := by decide +kernel
theorem dX10_isSunday_24 : decode cX10_isSunday 24 = .ok (.iconst 0, 1) := by decide +kernel
theorem dX10_isSunday_25 : decode cX10_isSunday 25 = .ok (.ireturn, 1) := by decide +kernel
theorem dX10_sunday_0 : decode cX10_sunday 0 = .ok (.aload_n 0, 1) := by decide +kernel
theorem dX10_sunday_1 : decode cX10_sunday 1 = .ok (.iconst 0, 1) := by decide +kernel
theorem dX10_sunday_2 : decode cX10_sunday 2 = .ok (.putfield 95, 3) := by decide +kernel
theorem dX10_sunday_5 : decode cX10_sunday 5 = .ok (.aload_n 0, 1) := by decide +kernel
theorem dX10_sunday_6 : decode cX10_sunday 6 = .ok (.iload_n 2, 1) := by decide +kernel
theorem dX10_sunday_7 : decode cX10_sunday 7 = .ok (.iload_n 3, 1) := by decide +kernel
theorem dX10_sunday_8 : decode cX10_sunday 8 = .ok (.invokestatic 382, 3) := by decide +kernel
theorem dX10_sunday_11 : decode cX10_sunday 11 = .ok (.ifCond .eq 13, 3) := by decide +kernel
theorem dX10_sunday_14 : decode cX10_sunday 14 = .ok (.iload 4, 2) := by decide +kernel
theorem dX10_sunday_16 : decode cX10_sunday 16 = .ok (.iconst 0, 1) := by decide +kernel
theorem dX10_sunday_17 : decode cX10_sunday 17 = .ok (.iconst 3, 1) := by decide +kernel
theorem dX10_sunday_18 : decode cX10_sunday 18 = .ok (.invokestatic 129, 3) := by decide +kernel
theorem dX10_sunday_21 : decode cX10_sunday 21 = .ok (.ifCond .ne 7, 3) := by decide +kernel
theorem dX10_sunday_24 : decode cX10_sunday 24 = .ok (.iconst 1, 1) := by decide +kernel
theorem dX10_sunday_25 : decode cX10_sunday 25 = .ok (.goto 4, 3) := by decide +kernel
theorem dX10_sunday_28 : decode cX10_sunday 28 = .ok (.iconst 0, 1) := by decide +kernel
theorem dX10_sunday_29 : decode cX10_sunday 29 = .ok (.iconst 1, 1) := by decide +kernel
theorem dX10_sunday_30 : decode cX10_sunday 30 = .ok (.iconst 1, 1) := by decide +kernel
theorem dX10_sunday_31 : decode cX10_sunday 31 = .ok (.invokevirtual 171, 3) := by decide +kernel
theorem dX10_sunday_34 : decode cX10_sunday 34 = .ok (.ifCond .eq 5, 3) := by decide +kernel
theorem dX10_sunday_37 : decode cX10_sunday 37 = .ok (.iconst 0, 1) := by decide +kernel
theorem dX10_sunday_38 : decode cX10_sunday 38 = .ok (.ireturn, 1) := by decide +kernel
theorem dX10_sunday_39 : decode cX10_sunday 39 = .ok (.aload_n 0, 1) := by decide +kernel
theorem dX10_sunday_40 : decode cX10_sunday 40 = .ok (.iload_n 1, 1) := by decide +kernel
theorem dX10_sunday_41 : decode cX10_sunday 41 = .ok (.iload_n 2, 1) := by decide +kernel
theorem dX10_sunday_42 : decode cX10_sunday 42 = .ok (.iload_n 3, 1) := by decide +kernel
theorem dX10_sunday_43 : decode cX10_sunday 43 = .ok (.invokevirtual 385, 3) := by decide +kernel
theorem dX10_sunday_46 : decode cX10_sunday 46 = .ok (.iload 4, 2) := by decide +kernel
theorem dX10_sunday_48 : decode cX10_sunday 48 = .ok (.ifCond .ne 21, 3) := by decide +kernel
theorem dX10_sunday_51 : decode cX10_sunday 51 = .ok (.aload_n 0, 1) := by decide +kernel
theorem dX10_sunday_52 : decode cX10_sunday 52 = .ok (.getfield 70, 3) := by decide +kernel
theorem dX10_sunday_55 : decode cX10_sunday 55 = .ok (.bipush 55, 2) := by decide +kernel
theorem dX10_sunday_57 : decode cX10_sunday 57 = .ok (.iaload, 1) := by decide +kernel
theorem dX10_sunday_58 : decode cX10_sunday 58 = .ok (.aload_n 0, 1) := by decide +kernel
theorem dX10_sunday_59 : decode cX10_sunday 59 = .ok (.getfield 67, 3) := by decide +kernel
theorem dX10_sunday_62 : decode cX10_sunday 62 = .ok (.bipush 55, 2) := by decide +kernel
theorem dX10_sunday_64 : decode cX10_sunday 64 = .ok (.iaload, 1) := by decide +kernel
theorem dX10_sunday_65 : decode cX10_sunday 65 = .ok (.isub, 1) := by decide +kernel
theorem dX10_sunday_66 : decode cX10_sunday 66 = .ok (.goto 60, 3) := by decide +kernel
theorem dX10_sunday_69 : decode cX10_sunday 69 = .ok (.iload 4, 2) := by decide +kernel
theorem dX10_sunday_71 : decode cX10_sunday 71 = .ok (.iconst 1, 1) := by decide +kernel
theorem dX10_sunday_72 : decode cX10_sunday 72 = .ok (.if_icmp .ne 14, 3) := by decide +kernel
theorem dX10_sunday_75 : decode cX10_sunday 75 = .ok (.aload_n 0, 1) := by decide +kernel
theorem dX10_sunday_76 : decode cX10_sunday 76 = .ok (.aload_n 0, 1) := by decide +kernel
theorem dX10_sunday_77 : decode cX10_sunday 77 = .ok (.getfield 70, 3) := by decide +kernel
theorem dX10_sunday_80 : decode cX10_sunday 80 = .ok (.invokevirtual 314, 3) := by decide +kernel
theorem dX10_sunday_83 : decode cX10_sunday 83 = .ok (.goto 43, 3) := by decide +kernel
theorem dX10_sunday_86 : decode cX10_sunday 86 = .ok (.iload 4, 2) := by decide +kernel
theorem dX10_sunday_88 : decode cX10_sunday 88 = .ok (.iconst 2, 1) := by decide +kernel
theorem dX10_sunday_89 : decode cX10_sunday 89 = .ok (.if_icmp .ne 16, 3) := by decide +kernel
theorem dX10_sunday_92 : decode cX10_sunday 92 = .ok (.aload_n 0, 1) := by decide +kernel
theorem dX10_sunday_93 : decode cX10_sunday 93 = .ok (.aload_n 0, 1) := by decide +kernel
theorem dX10_sunday_94 : decode cX10_sunday 94 = .ok (.getfield 70, 3) := by decide +kernel
theorem dX10_sunday_97 : decode cX10_sunday 97 = .ok (.bipush 21, 2) := by decide +kernel
theorem dX10_sunday_99 : decode cX10_sunday 99 = .ok (.invokevirtual 318, 3) := by decide +kernel
theorem dX10_sunday_102 : decode cX10_sunday 102 = .ok (.goto 24, 3) := by decide +kernel
theorem dX10_sunday_105 : decode cX10_sunday 105 = .ok (.aload_n 0, 1) := by decide +kernel
theorem dX10_sunday_106 : decode cX10_sunday 106 = .ok (.aload_n 0, 1) := by decide +kernel
theorem dX10_sunday_107 : decode cX10_sunday 107 = .ok (.getfield 70, 3) := by decide +kernel
theorem dX10_sunday_110 : decode cX10_sunday 110 = .ok (.bipush 14, 2) := by decide +kernel
theorem dX10_sunday_112 : decode cX10_sunday 112 = .ok (.invokevirtual 318, 3) := by decide +kernel
theorem dX10_sunday_115 : decode cX10_sunday 115 = .ok (.aload_n 0, 1) := by decide +kernel
theorem dX10_sunday_116 : decode cX10_sunday 116 = .ok (.aload_n 0, 1) := by decide +kernel
theorem dX10_sunday_117 : decode cX10_sunday 117 = .ok (.getfield 67, 3) := by decide +kernel
theorem dX10_sunday_120 : decode cX10_sunday 120 = .ok (.bipush 14, 2) := by decide +kernel
theorem dX10_sunday_122 : decode cX10_sunday 122 = .ok (.invokevirtual 318, 3) := by decide +kernel
theorem dX10_sunday_125 : decode cX10_sunday 125 = .ok (.isub, 1) := by decide +kernel
theorem dX10_sunday_126 : decode cX10_sunday 126 = .ok (.ireturn, 1) := by decide +kernel
theorem dX10_span_0 : decode cX10_span 0 = .ok (.aload_n 0, 1) := by decide +kernel
theorem dX10_span_1 : decode cX10_span 1 = .ok (.iconst 0, 1) := by decide +kernel
theorem dX10_span_2 : decode cX10_span 2 = .ok (.putfield 95, 3) := by decide +kernel
theorem dX10_span_5 : decode cX10_span 5 = .ok (.aload_n 0, 1) := by decide +kernel
theorem dX10_span_6 : decode cX10_span 6 = .ok (.iload_n 2, 1) := by decide +kernel
theorem dX10_span_7 : decode cX10_span 7 = .ok (.iconst 1, 1) := by decide +kernel
theorem dX10_span_8 : decode cX10_span 8 = .ok (.bipush 10, 2) := by decide +kernel
theorem dX10_span_10 : decode cX10_span 10 = .ok (.invokestatic 129, 3) := by decide +kernel
theorem dX10_span_13 : decode cX10_span 13 = .ok (.ifCond .eq 31, 3) := by decide +kernel
theorem dX10_span_16 : decode cX10_span 16 = .ok (.iload_n 3, 1) := by decide +kernel
theorem dX10_span_17 : decode cX10_span 17 = .ok (.iload 4, 2) := by decide +kernel
theorem dX10_span_19 : decode cX10_span 19 = .ok (.invokestatic 382, 3) := by decide +kernel
theorem dX10_span_22 : decode cX10_span 22 = .ok (.ifCond .eq 22, 3) := by decide +kernel
theorem dX10_span_25 : decode cX10_span 25 = .ok (.iload 5, 2) := by decide +kernel
theorem dX10_span_27 : decode cX10_span 27 = .ok (.iconst 0, 1) := by decide +kernel
theorem dX10_span_28 : decode cX10_span 28 = .ok (.iconst 2, 1) := by decide +kernel
theorem dX10_span_29 : decode cX10_span 29 = .ok (.invokestatic 129, 3) := by decide +kernel
theorem dX10_span_32 : decode cX10_span 32 = .ok (.ifCond .eq 12, 3) := by decide +kernel
theorem dX10_span_35 : decode cX10_span 35 = .ok (.aload_n 0, 1) := by decide +kernel
theorem dX10_span_36 : decode cX10_span 36 = .ok (.iload 6, 2) := by decide +kernel
theorem dX10_span_38 : decode cX10_span 38 = .ok (.invokevirtual 321, 3) := by decide +kernel
theorem dX10_span_41 : decode cX10_span 41 = .ok (.ifCond .ne 7, 3) := by decide +kernel
theorem dX10_span_44 : decode cX10_span 44 = .ok (.iconst 1, 1) := by decide +kernel
theorem dX10_span_45 : decode cX10_span 45 = .ok (.goto 4, 3) := by decide +kernel
theorem dX10_span_48 : decode cX10_span 48 = .ok (.iconst 0, 1) := by decide +kernel
theorem dX10_span_49 : decode cX10_span 49 = .ok (.iconst 1, 1) := by decide +kernel
theorem dX10_span_50 : decode cX10_span 50 = .ok (.iconst 1, 1) := by decide +kernel
theorem dX10_span_51 : decode cX10_span 51 = .ok (.invokevirtual 171, 3) := by decide +kernel
theorem dX10_span_54 : decode cX10_span 54 = .ok (.ifCond .eq 5, 3) := by decide +kernel
theorem dX10_span_57 : decode cX10_span 57 = .ok (.iconst 0, 1) := by decide +kernel
theorem dX10_span_58 : decode cX10_span 58 = .ok (.ireturn, 1) := by decide +kernel
theorem dX10_span_59 : decode cX10_span 59 = .ok (.iconst (-1), 1) := by decide +kernel
theorem dX10_span_60 : decode cX10_span 60 = .ok (.istore 7, 2) := by decide +kernel
theorem dX10_span_62 : decode cX10_span 62 = .ok (.iconst 0, 1) := by decide +kernel
theorem dX10_span_63 : decode cX10_span 63 = .ok (.istore 8, 2) := by decide +kernel
theorem dX10_span_65 : decode cX10_span 65 = .ok (.iconst 0, 1) := by decide +kernel
theorem dX10_span_66 : decode cX10_span 66 = .ok (.istore 9, 2) := by decide +kernel
theorem dX10_span_68 : decode cX10_span 68 = .ok (.iconst 0, 1) := by decide +kernel
theorem dX10_span_69 : decode cX10_span 69 = .ok (.istore 10, 2) := by decide +kernel
theorem dX10_span_71 : decode cX10_span 71 = .ok (.iload 10, 2) := by decide +kernel
theorem dX10_span_73 : decode cX10_span 73 = .ok (.iload_n 2, 1) := by decide +kernel
theorem dX10_span_74 : decode cX10_span 74 = .ok (.if_icmp .ge 81, 3) := by decide +kernel
theorem dX10_span_77 : decode cX10_span 77 = .ok (.aload_n 0, 1) := by decide +kernel
theorem dX10_span_78 : decode cX10_span 78 = .ok (.iload_n 1, 1) := by decide +kernel
theorem dX10_span_79 : decode cX10_span 79 = .ok (.iload 10, 2) := by decide +kernel
theorem dX10_span_81 : decode cX10_span 81 = .ok (.iadd, 1) := by decide +kernel
theorem dX10_span_82 : decode cX10_span 82 = .ok (.iload_n 3, 1) := by decide +kernel
theorem dX10_span_83 : decode cX10_span 83 = .ok (.iload 4, 2) := by decide +kernel
theorem dX10_span_85 : decode cX10_span 85 = .ok (.invokevirtual 385, 3) := by decide +kernel
theorem dX10_span_88 : decode cX10_span 88 = .ok (.aload_n 0, 1) := by decide +kernel
theorem dX10_span_89 : decode cX10_span 89 = .ok (.getfield 70, 3) := by decide +kernel
theorem dX10_span_92 : decode cX10_span 92 = .ok (.bipush 55, 2) := by decide +kernel
theorem dX10_span_94 : decode cX10_span 94 = .ok (.iaload, 1) := by decide +kernel
theorem dX10_span_95 : decode cX10_span 95 = .ok (.aload_n 0, 1) := by decide +kernel
theorem dX10_span_96 : decode cX10_span 96 = .ok (.getfield 67, 3) := by decide +kernel
theorem dX10_span_99 : decode cX10_span 99 = .ok (.bipush 55, 2) := by decide +kernel
theorem dX10_span_101 : decode cX10_span 101 = .ok (.iaload, 1) := by decide +kernel
theorem dX10_span_102 : decode cX10_span 102 = .ok (.isub, 1) := by decide +kernel
theorem dX10_span_103 : decode cX10_span 103 = .ok (.istore 11, 2) := by decide +kernel
theorem dX10_span_105 : decode cX10_span 105 = .ok (.iload 7, 2) := by decide +kernel
theorem dX10_span_107 : decode cX10_span 107 = .ok (.iconst (-1), 1) := by decide +kernel
theorem dX10_span_108 : decode cX10_span 108 = .ok (.if_icmp .ne 8, 3) := by decide +kernel
theorem dX10_span_111 : decode cX10_span 111 = .ok (.iload 11, 2) := by decide +kernel
theorem dX10_span_113 : decode cX10_span 113 = .ok (.goto 10, 3) := by decide +kernel
theorem dX10_span_116 : decode cX10_span 116 = .ok (.iload 7, 2) := by decide +kernel
theorem dX10_span_118 : decode cX10_span 118 = .ok (.iload 11, 2) := by decide +kernel
theorem dX10_span_120 : decode cX10_span 120 = .ok (.invokestatic 235, 3) := by decide +kernel
theorem dX10_span_123 : decode cX10_span 123 = .ok (.istore 7, 2) := by decide +kernel
theorem dX10_span_125 : decode cX10_span 125 = .ok (.iload 8, 2) := by decide +kernel
theorem dX10_span_127 : decode cX10_span 127 = .ok (.iload 11, 2) := by decide +kernel
theorem dX10_span_129 : decode cX10_span 129 = .ok (.invokestatic 238, 3) := by decide +kernel
theorem dX10_span_132 : decode cX10_span 132 = .ok (.istore 8, 2) := by decide +kernel
theorem dX10_span_134 : decode cX10_span 134 = .ok (.iload 9, 2) := by decide +kernel
theorem dX10_span_136 : decode cX10_span 136 = .ok (.aload_n 0, 1) := by decide +kernel
theorem dX10_span_137 : decode cX10_span 137 = .ok (.getfield 70, 3) := by decide +kernel
theorem dX10_span_140 : decode cX10_span 140 = .ok (.bipush 7, 2) := by decide +kernel
theorem dX10_span_142 : decode cX10_span 142 = .ok (.iload 6, 2) := by decide +kernel
theorem dX10_span_144 : decode cX10_span 144 = .ok (.iadd, 1) := by decide +kernel
theorem dX10_span_145 : decode cX10_span 145 = .ok (.iaload, 1) := by decide +kernel
theorem dX10_span_146 : decode cX10_span 146 = .ok (.iadd, 1) := by decide +kernel
theorem dX10_span_147 : decode cX10_span 147 = .ok (.istore 9, 2) := by decide +kernel
theorem dX10_span_149 : decode cX10_span 149 = .ok (.iinc 10 1, 3) := by decide +kernel
theorem dX10_span_152 : decode cX10_span 152 = .ok (.goto (-81), 3) := by decide +kernel
theorem dX10_span_155 : decode cX10_span 155 = .ok (.iload 5, 2) := by decide +kernel
theorem dX10_span_157 : decode cX10_span 157 = .ok (.ifCond .ne 8, 3) := by decide +kernel
theorem dX10_span_160 : decode cX10_span 160 = .ok (.iload 7, 2) := by decide +kernel
theorem dX10_span_162 : decode cX10_span 162 = .ok (.goto 16, 3) := by decide +kernel
theorem dX10_span_165 : decode cX10_span 165 = .ok (.iload 5, 2) := by decide +kernel
theorem dX10_span_167 : decode cX10_span 167 = .ok (.iconst 1, 1) := by decide +kernel
theorem dX10_span_168 : decode cX10_span 168 = .ok (.if_icmp .ne 8, 3) := by decide +kernel
theorem dX10_span_171 : decode cX10_span 171 = .ok (.iload 8, 2) := by decide +kernel
theorem dX10_span_173 : decode cX10_span 173 = .ok (.goto 5, 3) := by decide +kernel
theorem dX10_span_176 : decode cX10_span 176 = .ok (.iload 9, 2) := by decide +kernel
theorem dX10_span_178 : decode cX10_span 178 = .ok (.ireturn, 1) := by decide +kernel
theorem dX10_puts_0 : decode cX10_puts 0 = .ok (.iload_n 3, 1) := by decide +kernel
theorem dX10_puts_1 : decode cX10_puts 1 = .ok (.ifCond .ne 10, 3) := by decide +kernel
theorem dX10_puts_4 : decode cX10_puts 4 = .ok (.aload_n 1, 1) := by decide +kernel
theorem dX10_puts_5 : decode cX10_puts 5 = .ok (.aload_n 0, 1) := by decide +kernel
theorem dX10_puts_6 : decode cX10_puts 6 = .ok (.getfield 388, 3) := by decide +kernel
theorem dX10_puts_9 : decode cX10_puts 9 = .ok (.iload_n 2, 1) := by decide +kernel
theorem dX10_puts_10 : decode cX10_puts 10 = .ok (.iastore, 1) := by decide +kernel
theorem dX10_puts_11 : decode cX10_puts 11 = .ok (.aload_n 0, 1) := by decide +kernel
theorem dX10_puts_12 : decode cX10_puts 12 = .ok (.dup, 1) := by decide +kernel
theorem dX10_puts_13 : decode cX10_puts 13 = .ok (.getfield 388, 3) := by decide +kernel
theorem dX10_puts_16 : decode cX10_puts 16 = .ok (.iconst 1, 1) := by decide +kernel
theorem dX10_puts_17 : decode cX10_puts 17 = .ok (.iadd, 1) := by decide +kernel
theorem dX10_puts_18 : decode cX10_puts 18 = .ok (.putfield 388, 3) := by decide +kernel
theorem dX10_puts_21 : decode cX10_puts 21 = .ok (.aload_n 1, 1) := by decide +kernel
theorem dX10_puts_22 : decode cX10_puts 22 = .ok (.aload_n 0, 1) := by decide +kernel
theorem dX10_puts_23 : decode cX10_puts 23 = .ok (.getfield 388, 3) := by decide +kernel
theorem dX10_puts_26 : decode cX10_puts 26 = .ok (.iconst 1, 1) := by decide +kernel
theorem dX10_puts_27 : decode cX10_puts 27 = .ok (.isub, 1) := by decide +kernel
theorem dX10_puts_28 : decode cX10_puts 28 = .ok (.iaload, 1) := by decide +kernel
theorem dX10_puts_29 : decode cX10_puts 29 = .ok (.ireturn, 1) := by decide +kernel
theorem dX10_putsAll_0 : decode cX10_putsAll 0 = .ok (.aload_n 0, 1) := by decide +kernel
theorem dX10_putsAll_1 : decode cX10_putsAll 1 = .ok (.iconst 0, 1) := by decide +kernel
theorem dX10_putsAll_2 : decode cX10_putsAll 2 = .ok (.putfield 388, 3) := by decide +kernel
theorem dX10_putsAll_5 : decode cX10_putsAll 5 = .ok (.aload_n 0, 1) := by decide +kernel
theorem dX10_putsAll_6 : decode cX10_putsAll 6 = .ok (.aload_n 0, 1) := by decide +kernel
theorem dX10_putsAll_7 : decode cX10_putsAll 7 = .ok (.aload_n 1, 1) := by decide +kernel
theorem dX10_putsAll_8 : decode cX10_putsAll 8 = .ok (.aload_n 0, 1) := by decide +kernel
theorem dX10_putsAll_9 : decode cX10_putsAll 9 = .ok (.getfield 198, 3) := by decide +kernel
theorem dX10_putsAll_12 : decode cX10_putsAll 12 = .ok (.iload_n 2, 1) := by decide +kernel
theorem dX10_putsAll_13 : decode cX10_putsAll 13 = .ok (.invokevirtual 391, 3) := by decide +kernel
theorem dX10_putsAll_16 : decode cX10_putsAll 16 = .ok (.putfield 198, 3) := by decide +kernel
theorem dX10_putsAll_19 : decode cX10_putsAll 19 = .ok (.iconst 0, 1) := by decide +kernel
theorem dX10_putsAll_20 : decode cX10_putsAll 20 = .ok (.istore_n 3, 1) := by decide +kernel
theorem dX10_putsAll_21 : decode cX10_putsAll 21 = .ok (.iload_n 3, 1) := by decide +kernel
theorem dX10_putsAll_22 : decode cX10_putsAll 22 = .ok (.bipush 57, 2) := by decide +kernel
theorem dX10_putsAll_24 : decode cX10_putsAll 24 = .ok (.if_icmp .ge 27, 3) := by decide +kernel
theorem dX10_putsAll_27 : decode cX10_putsAll 27 = .ok (.aload_n 0, 1) := by decide +kernel
theorem dX10_putsAll_28 : decode cX10_putsAll 28 = .ok (.getfield 67, 3) := by decide +kernel
theorem dX10_putsAll_31 : decode cX10_putsAll 31 = .ok (.iload_n 3, 1) := by decide +kernel
theorem dX10_putsAll_32 : decode cX10_putsAll 32 = .ok (.aload_n 0, 1) := by decide +kernel
theorem dX10_putsAll_33 : decode cX10_putsAll 33 = .ok (.aload_n 1, 1) := by decide +kernel
theorem dX10_putsAll_34 : decode cX10_putsAll 34 = .ok (.aload_n 0, 1) := by decide +kernel
theorem dX10_putsAll_35 : decode cX10_putsAll 35 = .ok (.getfield 67, 3) := by decide +kernel
theorem dX10_putsAll_38 : decode cX10_putsAll 38 = .ok (.iload_n 3, 1) := by decide +kernel
theorem dX10_putsAll_39 : decode cX10_putsAll 39 = .ok (.iaload, 1) := by decide +kernel
theorem dX10_putsAll_40 : decode cX10_putsAll 40 = .ok (.iload_n 2, 1) := by decide +kernel
theorem dX10_putsAll_41 : decode cX10_putsAll 41 = .ok (.invokevirtual 391, 3) := by decide +kernel
theorem dX10_putsAll_44 : decode cX10_putsAll 44 = .ok (.iastore, 1) := by decide +kernel
theorem dX10_putsAll_45 : decode cX10_putsAll 45 = .ok (.iinc 3 1, 3) := by decide +kernel
theorem dX10_putsAll_48 : decode cX10_putsAll 48 = .ok (.goto (-27), 3) := by decide +kernel
theorem dX10_putsAll_51 : decode cX10_putsAll 51 = .ok (.iconst 0, 1) := by decide +kernel
theorem dX10_putsAll_52 : decode cX10_putsAll 52 = .ok (.istore_n 3, 1) := by decide +kernel
theorem dX10_putsAll_53 : decode cX10_putsAll 53 = .ok (.iload_n 3, 1) := by decide +kernel
theorem dX10_putsAll_54 : decode cX10_putsAll 54 = .ok (.bipush 16, 2) := by decide +kernel
theorem dX10_putsAll_56 : decode cX10_putsAll 56 = .ok (.if_icmp .ge 49, 3) := by decide +kernel
theorem dX10_putsAll_59 : decode cX10_putsAll 59 = .ok (.iconst 0, 1) := by decide +kernel
theorem dX10_putsAll_60 : decode cX10_putsAll 60 = .ok (.istore 4, 2) := by decide +kernel
theorem dX10_putsAll_62 : decode cX10_putsAll 62 = .ok (.iload 4, 2) := by decide +kernel
theorem dX10_putsAll_64 : decode cX10_putsAll 64 = .ok (.bipush 57, 2) := by decide +kernel
theorem dX10_putsAll_66 : decode cX10_putsAll 66 = .ok (.if_icmp .ge 33, 3) := by decide +kernel
theorem dX10_putsAll_69 : decode cX10_putsAll 69 = .ok (.aload_n 0, 1) := by decide +kernel
theorem dX10_putsAll_70 : decode cX10_putsAll 70 = .ok (.getfield 73, 3) := by decide +kernel
theorem dX10_putsAll_73 : decode cX10_putsAll 73 = .ok (.iload_n 3, 1) := by decide +kernel
theorem dX10_putsAll_74 : decode cX10_putsAll 74 = .ok (.aaload, 1) := by decide +kernel
theorem dX10_putsAll_75 : decode cX10_putsAll 75 = .ok (.iload 4, 2) := by decide +kernel
theorem dX10_putsAll_77 : decode cX10_putsAll 77 = .ok (.aload_n 0, 1) := by decide +kernel
theorem dX10_putsAll_78 : decode cX10_putsAll 78 = .ok (.aload_n 1, 1) := by decide +kernel
theorem dX10_putsAll_79 : decode cX10_putsAll 79 = .ok (.aload_n 0, 1) := by decide +kernel
theorem dX10_putsAll_80 : decode cX10_putsAll 80 = .ok (.getfield 73, 3) := by decide +kernel
theorem dX10_putsAll_83 : decode cX10_putsAll 83 = .ok (.iload_n 3, 1) := by decide +kernel
theorem dX10_putsAll_84 : decode cX10_putsAll 84 = .ok (.aaload, 1) := by decide +kernel
theorem dX10_putsAll_85 : decode cX10_putsAll 85 = .ok (.iload 4, 2) := by decide +kernel
theorem dX10_putsAll_87 : decode cX10_putsAll 87 = .ok (.iaload, 1) := by decide +kernel
theorem dX10_putsAll_88 : decode cX10_putsAll 88 = .ok (.iload_n 2, 1) := by decide +kernel
theorem dX10_putsAll_89 : decode cX10_putsAll 89 = .ok (.invokevirtual 391, 3) := by decide +kernel
theorem dX10_putsAll_92 : decode cX10_putsAll 92 = .ok (.iastore, 1) := by decide +kernel
theorem dX10_putsAll_93 : decode cX10_putsAll 93 = .ok (.iinc 4 1, 3) := by decide +kernel
theorem dX10_putsAll_96 : decode cX10_putsAll 96 = .ok (.goto (-34), 3) := by decide +kernel
theorem dX10_putsAll_99 : decode cX10_putsAll 99 = .ok (.iinc 3 1, 3) := by decide +kernel
theorem dX10_putsAll_102 : decode cX10_putsAll 102 = .ok (.goto (-49), 3) := by decide +kernel
theorem dX10_putsAll_105 : decode cX10_putsAll 105 = .ok (.return_, 1) := by decide +kernel
theorem dX10_image_0 : decode cX10_image 0 = .ok (.aload_n 0, 1) := by decide +kernel
theorem dX10_image_1 : decode cX10_image 1 = .ok (.iconst 0, 1) := by decide +kernel
theorem dX10_image_2 : decode cX10_image 2 = .ok (.putfield 95, 3) := by decide +kernel
theorem dX10_image_5 : decode cX10_image 5 = .ok (.aload_n 0, 1) := by decide +kernel
theorem dX10_image_6 : decode cX10_image 6 = .ok (.getfield 204, 3) := by decide +kernel
theorem dX10_image_9 : decode cX10_image 9 = .ok (.iconst 3, 1) := by decide +kernel
theorem dX10_image_10 : decode cX10_image 10 = .ok (.if_icmp .ne 5, 3) := by decide +kernel
theorem dX10_image_13 : decode cX10_image 13 = .ok (.iconst (-1), 1) := by decide +kernel
theorem dX10_image_14 : decode cX10_image 14 = .ok (.ireturn, 1) := by decide +kernel
theorem dX10_image_15 : decode cX10_image 15 = .ok (.aload_n 0, 1) := by decide +kernel
theorem dX10_image_16 : decode cX10_image 16 = .ok (.aload_n 0, 1) := by decide +kernel
theorem dX10_image_17 : decode cX10_image 17 = .ok (.getfield 76, 3) := by decide +kernel
theorem dX10_image_20 : decode cX10_image 20 = .ok (.aload_n 0, 1) := by decide +kernel
theorem dX10_image_21 : decode cX10_image 21 = .ok (.getfield 204, 3) := by decide +kernel
theorem dX10_image_24 : decode cX10_image 24 = .ok (.aaload, 1) := by decide +kernel
theorem dX10_image_25 : decode cX10_image 25 = .ok (.iconst 0, 1) := by decide +kernel
theorem dX10_image_26 : decode cX10_image 26 = .ok (.invokevirtual 395, 3) := by decide +kernel
theorem dX10_image_29 : decode cX10_image 29 = .ok (.aload_n 0, 1) := by decide +kernel
theorem dX10_image_30 : decode cX10_image 30 = .ok (.dup, 1) := by decide +kernel
theorem dX10_image_31 : decode cX10_image 31 = .ok (.getfield 204, 3) := by decide +kernel
theorem dX10_image_34 : decode cX10_image 34 = .ok (.iconst 1, 1) := by decide +kernel
theorem dX10_image_35 : decode cX10_image 35 = .ok (.iadd, 1) := by decide +kernel
theorem dX10_image_36 : decode cX10_image 36 = .ok (.putfield 204, 3) := by decide +kernel
theorem dX10_image_39 : decode cX10_image 39 = .ok (.aload_n 0, 1) := by decide +kernel
theorem dX10_image_40 : decode cX10_image 40 = .ok (.getfield 204, 3) := by decide +kernel
theorem dX10_image_43 : decode cX10_image 43 = .ok (.ireturn, 1) := by decide +kernel
theorem dX10_restore_0 : decode cX10_restore 0 = .ok (.aload_n 0, 1) := by decide +kernel
theorem dX10_restore_1 : decode cX10_restore 1 = .ok (.iconst 0, 1) := by decide +kernel
theorem dX10_restore_2 : decode cX10_restore 2 = .ok (.putfield 95, 3) := by decide +kernel
theorem dX10_restore_5 : decode cX10_restore 5 = .ok (.aload_n 0, 1) := by decide +kernel
theorem dX10_restore_6 : decode cX10_restore 6 = .ok (.getfield 204, 3) := by decide +kernel
theorem dX10_restore_9 : decode cX10_restore 9 = .ok (.ifCond .ne 5, 3) := by decide +kernel
theorem dX10_restore_12 : decode cX10_restore 12 = .ok (.iconst (-1), 1) := by decide +kernel
theorem dX10_restore_13 : decode cX10_restore 13 = .ok (.ireturn, 1) := by decide +kernel
theorem dX10_restore_14 : decode cX10_restore 14 = .ok (.aload_n 0, 1) := by decide +kernel
theorem dX10_restore_15 : decode cX10_restore 15 = .ok (.dup, 1) := by decide +kernel
theorem dX10_restore_16 : decode cX10_restore 16 = .ok (.getfield 204, 3) := by decide +kernel
theorem dX10_restore_19 : decode cX10_restore 19 = .ok (.iconst 1, 1) := by decide +kernel
theorem dX10_restore_20 : decode cX10_restore 20 = .ok (.isub, 1) := by decide +kernel
theorem dX10_restore_21 : decode cX10_restore 21 = .ok (.putfield 204, 3) := by decide +kernel
theorem dX10_restore_24 : decode cX10_restore 24 = .ok (.aload_n 0, 1) := by decide +kernel
theorem dX10_restore_25 : decode cX10_restore 25 = .ok (.aload_n 0, 1) := by decide +kernel
theorem dX10_restore_26 : decode cX10_restore 26 = .ok (.getfield 76, 3) := by decide +kernel
theorem dX10_restore_29 : decode cX10_restore 29 = .ok (.aload_n 0, 1) := by decide +kernel
theorem dX10_restore_30 : decode cX10_restore 30 = .ok (.getfield 204, 3) := by decide +kernel
theorem dX10_restore_33 : decode cX10_restore 33 = .ok (.aaload, 1) := by decide +kernel
theorem dX10_restore_34 : decode cX10_restore 34 = .ok (.iconst 1, 1) := by decide +kernel
theorem dX10_restore_35 : decode cX10_restore 35 = .ok (.invokevirtual 395, 3) := by decide +kernel
theorem dX10_restore_38 : decode cX10_restore 38 = .ok (.aload_n 0, 1) := by decide +kernel
theorem dX10_restore_39 : decode cX10_restore 39 = .ok (.iconst 0, 1) := by decide +kernel
theorem dX10_restore_40 : decode cX10_restore 40 = .ok (.putfield 201, 3) := by decide +kernel
theorem dX10_restore_43 : decode cX10_restore 43 = .ok (.aload_n 0, 1) := by decide +kernel
theorem dX10_restore_44 : decode cX10_restore 44 = .ok (.getfield 204, 3) := by decide +kernel
theorem dX10_restore_47 : decode cX10_restore 47 = .ok (.ireturn, 1) := by decide +kernel
theorem dX10_status_0 : decode cX10_status 0 = .ok (.aload_n 0, 1) := by decide +kernel
theorem dX10_status_1 : decode cX10_status 1 = .ok (.iconst 0, 1) := by decide +kernel
theorem dX10_status_2 : decode cX10_status 2 = .ok (.putfield 95, 3) := by decide +kernel
theorem dX10_status_5 : decode cX10_status 5 = .ok (.iload_n 1, 1) := by decide +kernel
theorem dX10_status_6 : decode cX10_status 6 = .ok (.iconst 0, 1) := by decide +kernel
theorem dX10_status_7 : decode cX10_status 7 = .ok (.iconst 1, 1) := by decide +kernel
theorem dX10_status_8 : decode cX10_status 8 = .ok (.invokestatic 129, 3) := by decide +kernel
theorem dX10_status_11 : decode cX10_status 11 = .ok (.ifCond .eq 12, 3) := by decide +kernel
theorem dX10_status_14 : decode cX10_status 14 = .ok (.aload_n 0, 1) := by decide +kernel
theorem dX10_status_15 : decode cX10_status 15 = .ok (.getfield 17, 3) := by decide +kernel
theorem dX10_status_18 : decode cX10_status 18 = .ok (.iload_n 1, 1) := by decide +kernel
theorem dX10_status_19 : decode cX10_status 19 = .ok (.iaload, 1) := by decide +kernel
theorem dX10_status_20 : decode cX10_status 20 = .ok (.goto 4, 3) := by decide +kernel
theorem dX10_status_23 : decode cX10_status 23 = .ok (.iconst (-1), 1) := by decide +kernel
theorem dX10_status_24 : decode cX10_status 24 = .ok (.ireturn, 1) := by decide +kernel
theorem dX10_count_0 : decode cX10_count 0 = .ok (.aload_n 0, 1) := by decide +kernel
theorem dX10_count_1 : decode cX10_count 1 = .ok (.iconst 0, 1) := by decide +kernel
theorem dX10_count_2 : decode cX10_count 2 = .ok (.putfield 95, 3) := by decide +kernel
theorem dX10_count_5 : decode cX10_count 5 = .ok (.iload_n 1, 1) := by decide +kernel
theorem dX10_count_6 : decode cX10_count 6 = .ok (.ifCond .ne 10, 3) := by decide +kernel
theorem dX10_count_9 : decode cX10_count 9 = .ok (.aload_n 0, 1) := by decide +kernel
theorem dX10_count_10 : decode cX10_count 10 = .ok (.getfield 204, 3) := by decide +kernel
theorem dX10_count_13 : decode cX10_count 13 = .ok (.goto 28, 3) := by decide +kernel
theorem dX10_count_16 : decode cX10_count 16 = .ok (.iload_n 1, 1) := by decide +kernel
theorem dX10_count_17 : decode cX10_count 17 = .ok (.iconst 1, 1) := by decide +kernel
theorem dX10_count_18 : decode cX10_count 18 = .ok (.if_icmp .ne 10, 3) := by decide +kernel
theorem dX10_count_21 : decode cX10_count 21 = .ok (.aload_n 0, 1) := by decide +kernel
theorem dX10_count_22 : decode cX10_count 22 = .ok (.getfield 98, 3) := by decide +kernel
theorem dX10_count_25 : decode cX10_count 25 = .ok (.goto 16, 3) := by decide +kernel
theorem dX10_count_28 : decode cX10_count 28 = .ok (.iload_n 1, 1) := by decide +kernel
theorem dX10_count_29 : decode cX10_count 29 = .ok (.iconst 2, 1) := by decide +kernel
theorem dX10_count_30 : decode cX10_count 30 = .ok (.if_icmp .ne 10, 3) := by decide +kernel
theorem dX10_count_33 : decode cX10_count 33 = .ok (.aload_n 0, 1) := by decide +kernel
theorem dX10_count_34 : decode cX10_count 34 = .ok (.getfield 198, 3) := by decide +kernel
theorem dX10_count_37 : decode cX10_count 37 = .ok (.goto 4, 3) := by decide +kernel
theorem dX10_count_40 : decode cX10_count 40 = .ok (.iconst (-1), 1) := by decide +kernel
theorem dX10_count_41 : decode cX10_count 41 = .ok (.ireturn, 1) := by decide +kernel
theorem dJ6_bitCount_0f7a4_0 : decode cJ6_bitCount_0f7a4 0 = .ok (.iload_n 0, 1) := by decide +kernel
theorem dJ6_bitCount_0f7a4_1 : decode cJ6_bitCount_0f7a4 1 = .ok (.iload_n 0, 1) := by decide +kernel
theorem dJ6_bitCount_0f7a4_2 : decode cJ6_bitCount_0f7a4 2 = .ok (.iconst 1, 1) := by decide +kernel
theorem dJ6_bitCount_0f7a4_3 : decode cJ6_bitCount_0f7a4 3 = .ok (.iushr, 1) := by decide +kernel
theorem dJ6_bitCount_0f7a4_4 : decode cJ6_bitCount_0f7a4 4 = .ok (.ldc_w 265, 3) := by decide +kernel
theorem dJ6_bitCount_0f7a4_7 : decode cJ6_bitCount_0f7a4 7 = .ok (.iand, 1) := by decide +kernel
theorem dJ6_bitCount_0f7a4_8 : decode cJ6_bitCount_0f7a4 8 = .ok (.isub, 1) := by decide +kernel
theorem dJ6_bitCount_0f7a4_9 : decode cJ6_bitCount_0f7a4 9 = .ok (.istore_n 0, 1) := by decide +kernel
theorem dJ6_bitCount_0f7a4_10 : decode cJ6_bitCount_0f7a4 10 = .ok (.iload_n 0, 1) := by decide +kernel
theorem dJ6_bitCount_0f7a4_11 : decode cJ6_bitCount_0f7a4 11 = .ok (.ldc_w 266, 3) := by decide +kernel
theorem dJ6_bitCount_0f7a4_14 : decode cJ6_bitCount_0f7a4 14 = .ok (.iand, 1) := by decide +kernel
theorem dJ6_bitCount_0f7a4_15 : decode cJ6_bitCount_0f7a4 15 = .ok (.iload_n 0, 1) := by decide +kernel
theorem dJ6_bitCount_0f7a4_16 : decode cJ6_bitCount_0f7a4 16 = .ok (.iconst 2, 1) := by decide +kernel
theorem dJ6_bitCount_0f7a4_17 : decode cJ6_bitCount_0f7a4 17 = .ok (.iushr, 1) := by decide +kernel
theorem dJ6_bitCount_0f7a4_18 : decode cJ6_bitCount_0f7a4 18 = .ok (.ldc_w 266, 3) := by decide +kernel
theorem dJ6_bitCount_0f7a4_21 : decode cJ6_bitCount_0f7a4 21 = .ok (.iand, 1) := by decide +kernel
theorem dJ6_bitCount_0f7a4_22 : decode cJ6_bitCount_0f7a4 22 = .ok (.iadd, 1) := by decide +kernel
theorem dJ6_bitCount_0f7a4_23 : decode cJ6_bitCount_0f7a4 23 = .ok (.istore_n 0, 1) := by decide +kernel
theorem dJ6_bitCount_0f7a4_24 : decode cJ6_bitCount_0f7a4 24 = .ok (.iload_n 0, 1) := by decide +kernel
theorem dJ6_bitCount_0f7a4_25 : decode cJ6_bitCount_0f7a4 25 = .ok (.iload_n 0, 1) := by decide +kernel
theorem dJ6_bitCount_0f7a4_26 : decode cJ6_bitCount_0f7a4 26 = .ok (.iconst 4, 1) := by decide +kernel
theorem dJ6_bitCount_0f7a4_27 : decode cJ6_bitCount_0f7a4 27 = .ok (.iushr, 1) := by decide +kernel
theorem dJ6_bitCount_0f7a4_28 : decode cJ6_bitCount_0f7a4 28 = .ok (.iadd, 1) := by decide +kernel
theorem dJ6_bitCount_0f7a4_29 : decode cJ6_bitCount_0f7a4 29 = .ok (.ldc_w 267, 3) := by decide +kernel
theorem dJ6_bitCount_0f7a4_32 : decode cJ6_bitCount_0f7a4 32 = .ok (.iand, 1) := by decide +kernel
theorem dJ6_bitCount_0f7a4_33 : decode cJ6_bitCount_0f7a4 33 = .ok (.istore_n 0, 1) := by decide +kernel
theorem dJ6_bitCount_0f7a4_34 : decode cJ6_bitCount_0f7a4 34 = .ok (.iload_n 0, 1) := by decide +kernel
theorem dJ6_bitCount_0f7a4_35 : decode cJ6_bitCount_0f7a4 35 = .ok (.iload_n 0, 1) := by decide +kernel
theorem dJ6_bitCount_0f7a4_36 : decode cJ6_bitCount_0f7a4 36 = .ok (.bipush 8, 2) := by decide +kernel
theorem dJ6_bitCount_0f7a4_38 : decode cJ6_bitCount_0f7a4 38 = .ok (.iushr, 1) := by decide +kernel
theorem dJ6_bitCount_0f7a4_39 : decode cJ6_bitCount_0f7a4 39 = .ok (.iadd, 1) := by decide +kernel
theorem dJ6_bitCount_0f7a4_40 : decode cJ6_bitCount_0f7a4 40 = .ok (.istore_n 0, 1) := by decide +kernel
theorem dJ6_bitCount_0f7a4_41 : decode cJ6_bitCount_0f7a4 41 = .ok (.iload_n 0, 1) := by decide +kernel
theorem dJ6_bitCount_0f7a4_42 : decode cJ6_bitCount_0f7a4 42 = .ok (.iload_n 0, 1) := by decide +kernel
theorem dJ6_bitCount_0f7a4_43 : decode cJ6_bitCount_0f7a4 43 = .ok (.bipush 16, 2) := by decide +kernel
theorem dJ6_bitCount_0f7a4_45 : decode cJ6_bitCount_0f7a4 45 = .ok (.iushr, 1) := by decide +kernel
theorem dJ6_bitCount_0f7a4_46 : decode cJ6_bitCount_0f7a4 46 = .ok (.iadd, 1) := by decide +kernel
theorem dJ6_bitCount_0f7a4_47 : decode cJ6_bitCount_0f7a4 47 = .ok (.istore_n 0, 1) := by decide +kernel
theorem dJ6_bitCount_0f7a4_48 : decode cJ6_bitCount_0f7a4 48 = .ok (.iload_n 0, 1) := by decide +kernel
theorem dJ6_bitCount_0f7a4_49 : decode cJ6_bitCount_0f7a4 49 = .ok (.bipush 63, 2) := by decide +kernel
theorem dJ6_bitCount_0f7a4_51 : decode cJ6_bitCount_0f7a4 51 = .ok (.iand, 1) := by decide +kernel
theorem dJ6_bitCount_0f7a4_52 : decode cJ6_bitCount_0f7a4 52 = .ok (.ireturn, 1) := by decide +kernel
theorem dJ9_max_7cf53_0 : decode cJ9_max_7cf53 0 = .ok (.iload_n 0, 1) := by decide +kernel
theorem dJ9_max_7cf53_1 : decode cJ9_max_7cf53 1 = .ok (.iload_n 1, 1) := by decide +kernel
theorem dJ9_max_7cf53_2 : decode cJ9_max_7cf53 2 = .ok (.if_icmp .lt 7, 3) := by decide +kernel
theorem dJ9_max_7cf53_5 : decode cJ9_max_7cf53 5 = .ok (.iload_n 0, 1) := by decide +kernel
theorem dJ9_max_7cf53_6 : decode cJ9_max_7cf53 6 = .ok (.goto 4, 3) := by decide +kernel
theorem dJ9_max_7cf53_9 : decode cJ9_max_7cf53 9 = .ok (.iload_n 1, 1) := by decide +kernel
theorem dJ9_max_7cf53_10 : decode cJ9_max_7cf53 10 = .ok (.ireturn, 1) := by decide +kernel
theorem dJ9_min_7cf53_0 : decode cJ9_min_7cf53 0 = .ok (.iload_n 0, 1) := by decide +kernel
theorem dJ9_min_7cf53_1 : decode cJ9_min_7cf53 1 = .ok (.iload_n 1, 1) := by decide +kernel
theorem dJ9_min_7cf53_2 : decode cJ9_min_7cf53 2 = .ok (.if_icmp .gt 7, 3) := by decide +kernel
theorem dJ9_min_7cf53_5 : decode cJ9_min_7cf53 5 = .ok (.iload_n 0, 1) := by decide +kernel
theorem dJ9_min_7cf53_6 : decode cJ9_min_7cf53 6 = .ok (.goto 4, 3) := by decide +kernel
theorem dJ9_min_7cf53_9 : decode cJ9_min_7cf53 9 = .ok (.iload_n 1, 1) := by decide +kernel
theorem dJ9_min_7cf53_10 : decode cJ9_min_7cf53 10 = .ok (.ireturn, 1) := by decide +kernel
theorem dJ0_length_8abf5_0 : decode cJ0_length_8abf5 0 = .ok (.aload_n 0, 1) := by decide +kernel
theorem dJ0_length_8abf5_1 : decode cJ0_length_8abf5 1 = .ok (.getfield 9, 3) := by decide +kernel
theorem dJ0_length_8abf5_4 : decode cJ0_length_8abf5 4 = .ok (.arraylength, 1) := by decide +kernel
theorem dJ0_length_8abf5_5 : decode cJ0_length_8abf5 5 = .ok (.aload_n 0, 1) := by decide +kernel
theorem dJ0_length_8abf5_6 : decode cJ0_length_8abf5 6 = .ok (.invokevirtual 335, 3) := by decide +kernel
theorem dJ0_length_8abf5_9 : decode cJ0_length_8abf5 9 = .ok (.ishr, 1) := by decide +kernel
theorem dJ0_length_8abf5_10 : decode cJ0_length_8abf5 10 = .ok (.ireturn, 1) := by decide +kernel
theorem dJ0_charAt_5068e_0 : decode cJ0_charAt_5068e 0 = .ok (.aload_n 0, 1) := by decide +kernel
theorem dJ0_charAt_5068e_1 : decode cJ0_charAt_5068e 1 = .ok (.invokevirtual 492, 3) := by decide +kernel
theorem dJ0_charAt_5068e_4 : decode cJ0_charAt_5068e 4 = .ok (.ifCond .eq 12, 3) := by decide +kernel
theorem dJ0_charAt_5068e_7 : decode cJ0_charAt_5068e 7 = .ok (.aload_n 0, 1) := by decide +kernel
theorem dJ0_charAt_5068e_8 : decode cJ0_charAt_5068e 8 = .ok (.getfield 9, 3) := by decide +kernel
theorem dJ0_charAt_5068e_11 : decode cJ0_charAt_5068e 11 = .ok (.iload_n 1, 1) := by decide +kernel
theorem dJ0_charAt_5068e_12 : decode cJ0_charAt_5068e 12 = .ok (.invokestatic 495, 3) := by decide +kernel
theorem dJ0_charAt_5068e_15 : decode cJ0_charAt_5068e 15 = .ok (.ireturn, 1) := by decide +kernel
theorem dJ0_charAt_5068e_16 : decode cJ0_charAt_5068e 16 = .ok (.aload_n 0, 1) := by decide +kernel
theorem dJ0_charAt_5068e_17 : decode cJ0_charAt_5068e 17 = .ok (.getfield 9, 3) := by decide +kernel
theorem dJ0_charAt_5068e_20 : decode cJ0_charAt_5068e 20 = .ok (.iload_n 1, 1) := by decide +kernel
theorem dJ0_charAt_5068e_21 : decode cJ0_charAt_5068e 21 = .ok (.invokestatic 498, 3) := by decide +kernel
theorem dJ0_charAt_5068e_24 : decode cJ0_charAt_5068e 24 = .ok (.ireturn, 1) := by decide +kernel
theorem dJ0_coder_7d493_0 : decode cJ0_coder_7d493 0 = .ok (.getstatic 38, 3) := by decide +kernel
theorem dJ0_coder_7d493_3 : decode cJ0_coder_7d493 3 = .ok (.ifCond .eq 10, 3) := by decide +kernel
theorem dJ0_coder_7d493_6 : decode cJ0_coder_7d493 6 = .ok (.aload_n 0, 1) := by decide +kernel
theorem dJ0_coder_7d493_7 : decode cJ0_coder_7d493 7 = .ok (.getfield 15, 3) := by decide +kernel
theorem dJ0_coder_7d493_10 : decode cJ0_coder_7d493 10 = .ok (.goto 4, 3) := by decide +kernel
theorem dJ0_coder_7d493_13 : decode cJ0_coder_7d493 13 = .ok (.iconst 1, 1) := by decide +kernel
theorem dJ0_coder_7d493_14 : decode cJ0_coder_7d493 14 = .ok (.ireturn, 1) := by decide +kernel
theorem dJ0_isLatin1_aae02_0 : decode cJ0_isLatin1_aae02 0 = .ok (.getstatic 38, 3) := by decide +kernel
theorem dJ0_isLatin1_aae02_3 : decode cJ0_isLatin1_aae02 3 = .ok (.ifCond .eq 14, 3) := by decide +kernel
theorem dJ0_isLatin1_aae02_6 : decode cJ0_isLatin1_aae02 6 = .ok (.aload_n 0, 1) := by decide +kernel
theorem dJ0_isLatin1_aae02_7 : decode cJ0_isLatin1_aae02 7 = .ok (.getfield 15, 3) := by decide +kernel
theorem dJ0_isLatin1_aae02_10 : decode cJ0_isLatin1_aae02 10 = .ok (.ifCond .ne 7, 3) := by decide +kernel
theorem dJ0_isLatin1_aae02_13 : decode cJ0_isLatin1_aae02 13 = .ok (.iconst 1, 1) := by decide +kernel
theorem dJ0_isLatin1_aae02_14 : decode cJ0_isLatin1_aae02 14 = .ok (.goto 4, 3) := by decide +kernel
theorem dJ0_isLatin1_aae02_17 : decode cJ0_isLatin1_aae02 17 = .ok (.iconst 0, 1) := by decide +kernel
theorem dJ0_isLatin1_aae02_18 : decode cJ0_isLatin1_aae02 18 = .ok (.ireturn, 1) := by decide +kernel
theorem dJ0_checkIndex_df160_0 : decode cJ0_checkIndex_df160 0 = .ok (.iload_n 0, 1) := by decide +kernel
theorem dJ0_checkIndex_df160_1 : decode cJ0_checkIndex_df160 1 = .ok (.iload_n 1, 1) := by decide +kernel
theorem dJ0_checkIndex_df160_2 : decode cJ0_checkIndex_df160 2 = .ok (.getstatic 1053, 3) := by decide +kernel
theorem dJ0_checkIndex_df160_5 : decode cJ0_checkIndex_df160 5 = .ok (.invokestatic 1059, 3) := by decide +kernel
theorem dJ0_checkIndex_df160_8 : decode cJ0_checkIndex_df160 8 = .ok (.pop, 1) := by decide +kernel
theorem dJ0_checkIndex_df160_9 : decode cJ0_checkIndex_df160 9 = .ok (.return_, 1) := by decide +kernel
theorem dJ1_charAt_3b067_0 : decode cJ1_charAt_3b067 0 = .ok (.iload_n 1, 1) := by decide +kernel
theorem dJ1_charAt_3b067_1 : decode cJ1_charAt_3b067 1 = .ok (.aload_n 0, 1) := by decide +kernel
theorem dJ1_charAt_3b067_2 : decode cJ1_charAt_3b067 2 = .ok (.arraylength, 1) := by decide +kernel
theorem dJ1_charAt_3b067_3 : decode cJ1_charAt_3b067 3 = .ok (.invokestatic 9, 3) := by decide +kernel
theorem dJ1_charAt_3b067_6 : decode cJ1_charAt_3b067 6 = .ok (.aload_n 0, 1) := by decide +kernel
theorem dJ1_charAt_3b067_7 : decode cJ1_charAt_3b067 7 = .ok (.iload_n 1, 1) := by decide +kernel
theorem dJ1_charAt_3b067_8 : decode cJ1_charAt_3b067 8 = .ok (.baload, 1) := by decide +kernel
theorem dJ1_charAt_3b067_9 : decode cJ1_charAt_3b067 9 = .ok (.sipush 255, 3) := by decide +kernel
theorem dJ1_charAt_3b067_12 : decode cJ1_charAt_3b067 12 = .ok (.iand, 1) := by decide +kernel
theorem dJ1_charAt_3b067_13 : decode cJ1_charAt_3b067 13 = .ok (.i2c, 1) := by decide +kernel
theorem dJ1_charAt_3b067_14 : decode cJ1_charAt_3b067 14 = .ok (.ireturn, 1) := by decide +kernel
